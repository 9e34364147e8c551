section
-- ===== PART A: goes FIRST, ahead of the names: the tables' words, and 'selects' of the private methods out of them =====
/-- a private method of a class that the tables say can be made, by its rows of tables_1 -/
def lw_okq (q : MethodName × Nat) : Prop := (q.1.cls ≠ "java/lang/invoke/MethodHandle" ∧ q.1.cls ≠ "java/lang/invoke/VarHandle") ∧ Cond.instantiable q.1.cls q.2 ∈ tables_1 ∧ Cond.privateMethod q.1 ∈ tables_1 ∧ Cond.instanceMethod q.1 ∈ tables_1
theorem lw_p0 : lw_okq (⟨"SwingWeights", "beginAct", "()V"⟩, 7) := ⟨⟨by decide +kernel, by decide +kernel⟩, List.mem_of_getElem? (i := 13) (by decide +kernel), List.mem_of_getElem? (i := 197) (by decide +kernel), List.mem_of_getElem? (i := 198) (by decide +kernel)⟩
theorem lw_p1 : lw_okq (⟨"SwingWeights$History", "dropOldest", "()V"⟩, 2) := ⟨⟨by decide +kernel, by decide +kernel⟩, List.mem_of_getElem? (i := 88) (by decide +kernel), List.mem_of_getElem? (i := 205) (by decide +kernel), List.mem_of_getElem? (i := 206) (by decide +kernel)⟩
theorem lw_p2 : lw_okq (⟨"SwingWeights$State", "tellSwings", "(IZ)V"⟩, 7) := ⟨⟨by decide +kernel, by decide +kernel⟩, List.mem_of_getElem? (i := 21) (by decide +kernel), List.mem_of_getElem? (i := 328) (by decide +kernel), List.mem_of_getElem? (i := 329) (by decide +kernel)⟩
theorem lw_p3 : lw_okq (⟨"SwingWeights", "currentPower", "()LSwingWeights$Power;"⟩, 7) := ⟨⟨by decide +kernel, by decide +kernel⟩, List.mem_of_getElem? (i := 13) (by decide +kernel), List.mem_of_getElem? (i := 367) (by decide +kernel), List.mem_of_getElem? (i := 368) (by decide +kernel)⟩
theorem lw_p4 : lw_okq (⟨"SwingWeights$Power", "listCoalitions", "()V"⟩, 13) := ⟨⟨by decide +kernel, by decide +kernel⟩, List.mem_of_getElem? (i := 120) (by decide +kernel), List.mem_of_getElem? (i := 382) (by decide +kernel), List.mem_of_getElem? (i := 383) (by decide +kernel)⟩
theorem lw_p5 : lw_okq (⟨"SwingWeights$Power", "repeatCoalitionsWith", "(I)V"⟩, 13) := ⟨⟨by decide +kernel, by decide +kernel⟩, List.mem_of_getElem? (i := 120) (by decide +kernel), List.mem_of_getElem? (i := 387) (by decide +kernel), List.mem_of_getElem? (i := 388) (by decide +kernel)⟩
theorem lw_p6 : lw_okq (⟨"SwingWeights$Power", "countWinning", "()V"⟩, 13) := ⟨⟨by decide +kernel, by decide +kernel⟩, List.mem_of_getElem? (i := 120) (by decide +kernel), List.mem_of_getElem? (i := 391) (by decide +kernel), List.mem_of_getElem? (i := 392) (by decide +kernel)⟩
theorem lw_p7 : lw_okq (⟨"SwingWeights$Power", "hasAllVetoes", "(I)Z"⟩, 13) := ⟨⟨by decide +kernel, by decide +kernel⟩, List.mem_of_getElem? (i := 120) (by decide +kernel), List.mem_of_getElem? (i := 398) (by decide +kernel), List.mem_of_getElem? (i := 399) (by decide +kernel)⟩
theorem lw_p8 : lw_okq (⟨"SwingWeights$Power", "countAtWeight", "(II)V"⟩, 13) := ⟨⟨by decide +kernel, by decide +kernel⟩, List.mem_of_getElem? (i := 120) (by decide +kernel), List.mem_of_getElem? (i := 402) (by decide +kernel), List.mem_of_getElem? (i := 403) (by decide +kernel)⟩
theorem lw_p9 : lw_okq (⟨"SwingWeights$Power", "hasSwing", "(II)Z"⟩, 13) := ⟨⟨by decide +kernel, by decide +kernel⟩, List.mem_of_getElem? (i := 120) (by decide +kernel), List.mem_of_getElem? (i := 414) (by decide +kernel), List.mem_of_getElem? (i := 415) (by decide +kernel)⟩
theorem lw_p10 : lw_okq (⟨"SwingWeights$Power", "isWinning", "(II)Z"⟩, 13) := ⟨⟨by decide +kernel, by decide +kernel⟩, List.mem_of_getElem? (i := 120) (by decide +kernel), List.mem_of_getElem? (i := 418) (by decide +kernel), List.mem_of_getElem? (i := 419) (by decide +kernel)⟩
theorem lw_p11 : lw_okq (⟨"SwingWeights", "rankOf", "(ILSwingWeights$Power;)I"⟩, 7) := ⟨⟨by decide +kernel, by decide +kernel⟩, List.mem_of_getElem? (i := 13) (by decide +kernel), List.mem_of_getElem? (i := 441) (by decide +kernel), List.mem_of_getElem? (i := 442) (by decide +kernel)⟩
theorem lw_p12 : lw_okq (⟨"SwingWeights", "isAhead", "(IILSwingWeights$Power;)Z"⟩, 7) := ⟨⟨by decide +kernel, by decide +kernel⟩, List.mem_of_getElem? (i := 13) (by decide +kernel), List.mem_of_getElem? (i := 445) (by decide +kernel), List.mem_of_getElem? (i := 446) (by decide +kernel)⟩
theorem lw_p13 : lw_okq (⟨"SwingWeights$Power", "listLeast", "()V"⟩, 13) := ⟨⟨by decide +kernel, by decide +kernel⟩, List.mem_of_getElem? (i := 120) (by decide +kernel), List.mem_of_getElem? (i := 497) (by decide +kernel), List.mem_of_getElem? (i := 498) (by decide +kernel)⟩
theorem lw_p14 : lw_okq (⟨"SwingWeights$Power", "isLeast", "(II)Z"⟩, 13) := ⟨⟨by decide +kernel, by decide +kernel⟩, List.mem_of_getElem? (i := 120) (by decide +kernel), List.mem_of_getElem? (i := 501) (by decide +kernel), List.mem_of_getElem? (i := 502) (by decide +kernel)⟩
theorem lw_p15 : lw_okq (⟨"SwingWeights$Power", "insertLeast", "(I)V"⟩, 13) := ⟨⟨by decide +kernel, by decide +kernel⟩, List.mem_of_getElem? (i := 120) (by decide +kernel), List.mem_of_getElem? (i := 508) (by decide +kernel), List.mem_of_getElem? (i := 509) (by decide +kernel)⟩
def lw_privs_1 : List (MethodName × Nat) := [(⟨"SwingWeights", "beginAct", "()V"⟩, 7), (⟨"SwingWeights$History", "dropOldest", "()V"⟩, 2), (⟨"SwingWeights$State", "tellSwings", "(IZ)V"⟩, 7), (⟨"SwingWeights", "currentPower", "()LSwingWeights$Power;"⟩, 7), (⟨"SwingWeights$Power", "listCoalitions", "()V"⟩, 13), (⟨"SwingWeights$Power", "repeatCoalitionsWith", "(I)V"⟩, 13), (⟨"SwingWeights$Power", "countWinning", "()V"⟩, 13), (⟨"SwingWeights$Power", "hasAllVetoes", "(I)Z"⟩, 13), (⟨"SwingWeights$Power", "countAtWeight", "(II)V"⟩, 13), (⟨"SwingWeights$Power", "hasSwing", "(II)Z"⟩, 13), (⟨"SwingWeights$Power", "isWinning", "(II)Z"⟩, 13), (⟨"SwingWeights", "rankOf", "(ILSwingWeights$Power;)I"⟩, 7), (⟨"SwingWeights", "isAhead", "(IILSwingWeights$Power;)Z"⟩, 7), (⟨"SwingWeights$Power", "listLeast", "()V"⟩, 13), (⟨"SwingWeights$Power", "isLeast", "(II)Z"⟩, 13), (⟨"SwingWeights$Power", "insertLeast", "(I)V"⟩, 13)]
theorem lw_r1 : ∀ q ∈ lw_privs_1, lw_okq q := List.forall_mem_cons.mpr ⟨lw_p0, List.forall_mem_cons.mpr ⟨lw_p1, List.forall_mem_cons.mpr ⟨lw_p2, List.forall_mem_cons.mpr ⟨lw_p3, List.forall_mem_cons.mpr ⟨lw_p4, List.forall_mem_cons.mpr ⟨lw_p5, List.forall_mem_cons.mpr ⟨lw_p6, List.forall_mem_cons.mpr ⟨lw_p7, List.forall_mem_cons.mpr ⟨lw_p8, List.forall_mem_cons.mpr ⟨lw_p9, List.forall_mem_cons.mpr ⟨lw_p10, List.forall_mem_cons.mpr ⟨lw_p11, List.forall_mem_cons.mpr ⟨lw_p12, List.forall_mem_cons.mpr ⟨lw_p13, List.forall_mem_cons.mpr ⟨lw_p14, List.forall_mem_cons.mpr ⟨lw_p15, fun _ h => absurd h List.not_mem_nil⟩⟩⟩⟩⟩⟩⟩⟩⟩⟩⟩⟩⟩⟩⟩⟩
theorem lw_p16 : lw_okq (⟨"SwingWeightsModel", "record", "()V"⟩, 18) := ⟨⟨by decide +kernel, by decide +kernel⟩, List.mem_of_getElem? (i := 557) (by decide +kernel), List.mem_of_getElem? (i := 631) (by decide +kernel), List.mem_of_getElem? (i := 632) (by decide +kernel)⟩
theorem lw_p17 : lw_okq (⟨"SwingWeightsModel", "noMember", "(I)Z"⟩, 18) := ⟨⟨by decide +kernel, by decide +kernel⟩, List.mem_of_getElem? (i := 557) (by decide +kernel), List.mem_of_getElem? (i := 646) (by decide +kernel), List.mem_of_getElem? (i := 647) (by decide +kernel)⟩
theorem lw_p18 : lw_okq (⟨"SwingWeightsModel", "part", "(I)V"⟩, 18) := ⟨⟨by decide +kernel, by decide +kernel⟩, List.mem_of_getElem? (i := 557) (by decide +kernel), List.mem_of_getElem? (i := 650) (by decide +kernel), List.mem_of_getElem? (i := 651) (by decide +kernel)⟩
theorem lw_p19 : lw_okq (⟨"SwingWeightsModel", "set", "(II)I"⟩, 18) := ⟨⟨by decide +kernel, by decide +kernel⟩, List.mem_of_getElem? (i := 557) (by decide +kernel), List.mem_of_getElem? (i := 658) (by decide +kernel), List.mem_of_getElem? (i := 659) (by decide +kernel)⟩
theorem lw_p20 : lw_okq (⟨"SwingWeightsModel", "withVeto", "()I"⟩, 18) := ⟨⟨by decide +kernel, by decide +kernel⟩, List.mem_of_getElem? (i := 557) (by decide +kernel), List.mem_of_getElem? (i := 666) (by decide +kernel), List.mem_of_getElem? (i := 667) (by decide +kernel)⟩
theorem lw_p21 : lw_okq (⟨"SwingWeightsModel", "size", "(I)I"⟩, 18) := ⟨⟨by decide +kernel, by decide +kernel⟩, List.mem_of_getElem? (i := 557) (by decide +kernel), List.mem_of_getElem? (i := 678) (by decide +kernel), List.mem_of_getElem? (i := 679) (by decide +kernel)⟩
theorem lw_p22 : lw_okq (⟨"SwingWeightsModel", "ballots", "(Z)I"⟩, 18) := ⟨⟨by decide +kernel, by decide +kernel⟩, List.mem_of_getElem? (i := 557) (by decide +kernel), List.mem_of_getElem? (i := 698) (by decide +kernel), List.mem_of_getElem? (i := 699) (by decide +kernel)⟩
theorem lw_p23 : lw_okq (⟨"SwingWeightsModel", "holdBallot", "(I)Z"⟩, 18) := ⟨⟨by decide +kernel, by decide +kernel⟩, List.mem_of_getElem? (i := 557) (by decide +kernel), List.mem_of_getElem? (i := 702) (by decide +kernel), List.mem_of_getElem? (i := 703) (by decide +kernel)⟩
theorem lw_p24 : lw_okq (⟨"SwingWeightsModel", "layBlocs", "()V"⟩, 18) := ⟨⟨by decide +kernel, by decide +kernel⟩, List.mem_of_getElem? (i := 557) (by decide +kernel), List.mem_of_getElem? (i := 706) (by decide +kernel), List.mem_of_getElem? (i := 707) (by decide +kernel)⟩
theorem lw_p25 : lw_okq (⟨"SwingWeightsModel", "blocOf", "(I)I"⟩, 18) := ⟨⟨by decide +kernel, by decide +kernel⟩, List.mem_of_getElem? (i := 557) (by decide +kernel), List.mem_of_getElem? (i := 710) (by decide +kernel), List.mem_of_getElem? (i := 711) (by decide +kernel)⟩
theorem lw_p26 : lw_okq (⟨"SwingWeightsModel", "leader", "(I)I"⟩, 18) := ⟨⟨by decide +kernel, by decide +kernel⟩, List.mem_of_getElem? (i := 557) (by decide +kernel), List.mem_of_getElem? (i := 714) (by decide +kernel), List.mem_of_getElem? (i := 715) (by decide +kernel)⟩
theorem lw_p27 : lw_okq (⟨"SwingWeightsModel", "winsWith", "(II)Z"⟩, 18) := ⟨⟨by decide +kernel, by decide +kernel⟩, List.mem_of_getElem? (i := 557) (by decide +kernel), List.mem_of_getElem? (i := 718) (by decide +kernel), List.mem_of_getElem? (i := 719) (by decide +kernel)⟩
theorem lw_p28 : lw_okq (⟨"SwingWeightsModel", "weightOf", "(I)I"⟩, 18) := ⟨⟨by decide +kernel, by decide +kernel⟩, List.mem_of_getElem? (i := 557) (by decide +kernel), List.mem_of_getElem? (i := 722) (by decide +kernel), List.mem_of_getElem? (i := 723) (by decide +kernel)⟩
theorem lw_p29 : lw_okq (⟨"SwingWeightsModel", "findNow", "()V"⟩, 18) := ⟨⟨by decide +kernel, by decide +kernel⟩, List.mem_of_getElem? (i := 557) (by decide +kernel), List.mem_of_getElem? (i := 733) (by decide +kernel), List.mem_of_getElem? (i := 734) (by decide +kernel)⟩
theorem lw_p30 : lw_okq (⟨"SwingWeightsModel", "find", "(I)V"⟩, 18) := ⟨⟨by decide +kernel, by decide +kernel⟩, List.mem_of_getElem? (i := 557) (by decide +kernel), List.mem_of_getElem? (i := 737) (by decide +kernel), List.mem_of_getElem? (i := 738) (by decide +kernel)⟩
theorem lw_p31 : lw_okq (⟨"SwingWeightsModel", "orders", "(I)I"⟩, 18) := ⟨⟨by decide +kernel, by decide +kernel⟩, List.mem_of_getElem? (i := 557) (by decide +kernel), List.mem_of_getElem? (i := 741) (by decide +kernel), List.mem_of_getElem? (i := 742) (by decide +kernel)⟩
def lw_privs_2 : List (MethodName × Nat) := [(⟨"SwingWeightsModel", "record", "()V"⟩, 18), (⟨"SwingWeightsModel", "noMember", "(I)Z"⟩, 18), (⟨"SwingWeightsModel", "part", "(I)V"⟩, 18), (⟨"SwingWeightsModel", "set", "(II)I"⟩, 18), (⟨"SwingWeightsModel", "withVeto", "()I"⟩, 18), (⟨"SwingWeightsModel", "size", "(I)I"⟩, 18), (⟨"SwingWeightsModel", "ballots", "(Z)I"⟩, 18), (⟨"SwingWeightsModel", "holdBallot", "(I)Z"⟩, 18), (⟨"SwingWeightsModel", "layBlocs", "()V"⟩, 18), (⟨"SwingWeightsModel", "blocOf", "(I)I"⟩, 18), (⟨"SwingWeightsModel", "leader", "(I)I"⟩, 18), (⟨"SwingWeightsModel", "winsWith", "(II)Z"⟩, 18), (⟨"SwingWeightsModel", "weightOf", "(I)I"⟩, 18), (⟨"SwingWeightsModel", "findNow", "()V"⟩, 18), (⟨"SwingWeightsModel", "find", "(I)V"⟩, 18), (⟨"SwingWeightsModel", "orders", "(I)I"⟩, 18)]
theorem lw_r2 : ∀ q ∈ lw_privs_2, lw_okq q := List.forall_mem_cons.mpr ⟨lw_p16, List.forall_mem_cons.mpr ⟨lw_p17, List.forall_mem_cons.mpr ⟨lw_p18, List.forall_mem_cons.mpr ⟨lw_p19, List.forall_mem_cons.mpr ⟨lw_p20, List.forall_mem_cons.mpr ⟨lw_p21, List.forall_mem_cons.mpr ⟨lw_p22, List.forall_mem_cons.mpr ⟨lw_p23, List.forall_mem_cons.mpr ⟨lw_p24, List.forall_mem_cons.mpr ⟨lw_p25, List.forall_mem_cons.mpr ⟨lw_p26, List.forall_mem_cons.mpr ⟨lw_p27, List.forall_mem_cons.mpr ⟨lw_p28, List.forall_mem_cons.mpr ⟨lw_p29, List.forall_mem_cons.mpr ⟨lw_p30, List.forall_mem_cons.mpr ⟨lw_p31, fun _ h => absurd h List.not_mem_nil⟩⟩⟩⟩⟩⟩⟩⟩⟩⟩⟩⟩⟩⟩⟩⟩
theorem lw_p32 : lw_okq (⟨"SwingWeightsModel", "isBlocker", "(I)Z"⟩, 18) := ⟨⟨by decide +kernel, by decide +kernel⟩, List.mem_of_getElem? (i := 557) (by decide +kernel), List.mem_of_getElem? (i := 751) (by decide +kernel), List.mem_of_getElem? (i := 752) (by decide +kernel)⟩
theorem lw_p33 : lw_okq (⟨"SwingWeightsModel", "isDictator", "(I)Z"⟩, 18) := ⟨⟨by decide +kernel, by decide +kernel⟩, List.mem_of_getElem? (i := 557) (by decide +kernel), List.mem_of_getElem? (i := 755) (by decide +kernel), List.mem_of_getElem? (i := 756) (by decide +kernel)⟩
theorem lw_p34 : lw_okq (⟨"SwingWeightsModel", "rank", "(I)I"⟩, 18) := ⟨⟨by decide +kernel, by decide +kernel⟩, List.mem_of_getElem? (i := 557) (by decide +kernel), List.mem_of_getElem? (i := 759) (by decide +kernel), List.mem_of_getElem? (i := 760) (by decide +kernel)⟩
theorem lw_p35 : lw_okq (⟨"SwingWeightsModel", "winning", "()I"⟩, 18) := ⟨⟨by decide +kernel, by decide +kernel⟩, List.mem_of_getElem? (i := 557) (by decide +kernel), List.mem_of_getElem? (i := 767) (by decide +kernel), List.mem_of_getElem? (i := 768) (by decide +kernel)⟩
theorem lw_p36 : lw_okq (⟨"SwingWeightsModel", "findLeast", "()V"⟩, 18) := ⟨⟨by decide +kernel, by decide +kernel⟩, List.mem_of_getElem? (i := 557) (by decide +kernel), List.mem_of_getElem? (i := 782) (by decide +kernel), List.mem_of_getElem? (i := 783) (by decide +kernel)⟩
theorem lw_p37 : lw_okq (⟨"SwingWeightsModel", "isLeast", "(I)Z"⟩, 18) := ⟨⟨by decide +kernel, by decide +kernel⟩, List.mem_of_getElem? (i := 557) (by decide +kernel), List.mem_of_getElem? (i := 786) (by decide +kernel), List.mem_of_getElem? (i := 787) (by decide +kernel)⟩
theorem lw_p38 : lw_okq (⟨"SwingWeightsModel", "isAhead", "(II)Z"⟩, 18) := ⟨⟨by decide +kernel, by decide +kernel⟩, List.mem_of_getElem? (i := 557) (by decide +kernel), List.mem_of_getElem? (i := 790) (by decide +kernel), List.mem_of_getElem? (i := 791) (by decide +kernel)⟩
theorem lw_p39 : lw_okq (⟨"SwingWeightsModel", "membersOf", "(I)I"⟩, 18) := ⟨⟨by decide +kernel, by decide +kernel⟩, List.mem_of_getElem? (i := 557) (by decide +kernel), List.mem_of_getElem? (i := 794) (by decide +kernel), List.mem_of_getElem? (i := 795) (by decide +kernel)⟩
theorem lw_p40 : lw_okq (⟨"SwingWeightsModel", "dummies", "()I"⟩, 18) := ⟨⟨by decide +kernel, by decide +kernel⟩, List.mem_of_getElem? (i := 557) (by decide +kernel), List.mem_of_getElem? (i := 806) (by decide +kernel), List.mem_of_getElem? (i := 807) (by decide +kernel)⟩
theorem lw_p41 : lw_okq (⟨"SwingWeightsModel", "blockers", "()I"⟩, 18) := ⟨⟨by decide +kernel, by decide +kernel⟩, List.mem_of_getElem? (i := 557) (by decide +kernel), List.mem_of_getElem? (i := 810) (by decide +kernel), List.mem_of_getElem? (i := 811) (by decide +kernel)⟩
theorem lw_p42 : lw_okq (⟨"SwingWeightsModel", "allWeights", "()I"⟩, 18) := ⟨⟨by decide +kernel, by decide +kernel⟩, List.mem_of_getElem? (i := 557) (by decide +kernel), List.mem_of_getElem? (i := 818) (by decide +kernel), List.mem_of_getElem? (i := 819) (by decide +kernel)⟩
theorem lw_p43 : lw_okq (⟨"SwingWeightsModel", "apart", "(I)J"⟩, 18) := ⟨⟨by decide +kernel, by decide +kernel⟩, List.mem_of_getElem? (i := 557) (by decide +kernel), List.mem_of_getElem? (i := 826) (by decide +kernel), List.mem_of_getElem? (i := 827) (by decide +kernel)⟩
def lw_privs_3 : List (MethodName × Nat) := [(⟨"SwingWeightsModel", "isBlocker", "(I)Z"⟩, 18), (⟨"SwingWeightsModel", "isDictator", "(I)Z"⟩, 18), (⟨"SwingWeightsModel", "rank", "(I)I"⟩, 18), (⟨"SwingWeightsModel", "winning", "()I"⟩, 18), (⟨"SwingWeightsModel", "findLeast", "()V"⟩, 18), (⟨"SwingWeightsModel", "isLeast", "(I)Z"⟩, 18), (⟨"SwingWeightsModel", "isAhead", "(II)Z"⟩, 18), (⟨"SwingWeightsModel", "membersOf", "(I)I"⟩, 18), (⟨"SwingWeightsModel", "dummies", "()I"⟩, 18), (⟨"SwingWeightsModel", "blockers", "()I"⟩, 18), (⟨"SwingWeightsModel", "allWeights", "()I"⟩, 18), (⟨"SwingWeightsModel", "apart", "(I)J"⟩, 18)]
theorem lw_r3 : ∀ q ∈ lw_privs_3, lw_okq q := List.forall_mem_cons.mpr ⟨lw_p32, List.forall_mem_cons.mpr ⟨lw_p33, List.forall_mem_cons.mpr ⟨lw_p34, List.forall_mem_cons.mpr ⟨lw_p35, List.forall_mem_cons.mpr ⟨lw_p36, List.forall_mem_cons.mpr ⟨lw_p37, List.forall_mem_cons.mpr ⟨lw_p38, List.forall_mem_cons.mpr ⟨lw_p39, List.forall_mem_cons.mpr ⟨lw_p40, List.forall_mem_cons.mpr ⟨lw_p41, List.forall_mem_cons.mpr ⟨lw_p42, List.forall_mem_cons.mpr ⟨lw_p43, fun _ h => absurd h List.not_mem_nil⟩⟩⟩⟩⟩⟩⟩⟩⟩⟩⟩⟩
def lw_privs : List (MethodName × Nat) := lw_privs_1 ++ (lw_privs_2 ++ (lw_privs_3))
def lw_tbl : List Cond := k2_sels lw_privs ++ tables_1
theorem lw_privs_ok : ∀ q ∈ lw_privs, lw_okq q := by
  show ∀ q ∈ lw_privs_1 ++ (lw_privs_2 ++ (lw_privs_3)), lw_okq q
  exact List.forall_mem_append.mpr ⟨lw_r1, List.forall_mem_append.mpr ⟨lw_r2, lw_r3⟩⟩

/-! ===== BEGIN new T[n][m]: the outer array a place, the inner ones among the pooled ===== -/
/-- f, but v at every address of l -/
def vr_up {α : Type} (f : Nat → α) (l : List Nat) (v : α) : Nat → α := fun a => if a ∈ l then v else f a
theorem vr_up_in {α : Type} {f : Nat → α} {l : List Nat} {v : α} {a : Nat} (h : a ∈ l) : vr_up f l v a = v := if_pos h
theorem vr_up_ne {α : Type} {f : Nat → α} {l : List Nat} {v : α} {a : Nat} (h : a ∉ l) : vr_up f l v a = f a := if_neg h
theorem vr_rows {L l : List Nat} {f : Nat → va_E} {e : va_E} (h : ∀ a, a ∈ l → a ∉ L) : va_pl L f ++ l.map (fun a => (a, e)) = va_pl (L ++ l) (vr_up f l e) := by
  unfold va_pl
  rw [List.map_append]
  congr 1
  · apply List.map_congr_left
    intro a ha
    rw [vr_up_ne (fun q => h a q ha)]
  · apply List.map_congr_left
    intro a ha
    rw [vr_up_in ha]
theorem vr_lay {X rows : va_W} {x : Nat × va_E} {pl : va_W} {D : va_G} {cl : List vw_C} {H : Heap} (hP : va_P D cl (((X ++ pl) ++ [x]) ++ rows) H) : va_P D cl ((X ++ [x]) ++ (pl ++ rows)) H := by
  rw [List.append_assoc (X ++ pl)] at hP
  have h := va_P.swap hP
  rw [← List.append_assoc X] at h
  have h2 := va_P.swap h
  rw [List.append_assoc (X ++ [x])] at h2
  exact h2
theorem vr_layD {X rows : va_W} {x : Nat × va_E} {pl : va_W} {A : Nat → Prop} (hD : va_D A (((X ++ pl) ++ [x]) ++ rows)) : va_D A ((X ++ [x]) ++ (pl ++ rows)) := by
  rw [List.append_assoc (X ++ pl)] at hD
  have h := va_D.swap hD
  rw [← List.append_assoc X] at h
  have h2 := va_D.swap h
  rw [List.append_assoc (X ++ [x])] at h2
  exact h2
theorem vr_outer (c : ClassId) (N h0 : Nat) : ∀ i : Nat, Jvm.Free.Multi.outerC c N h0 i = arrV c N (fun j => va_rf (if j < i then some (h0 + 1 + j) else none))
  | 0 => by
    show ({ cls := c, slots := Array.replicate N .null, vm := .none } : Cell) = _
    rw [arrV_new]
    refine congrArg (arrV c N) (funext fun j => ?_)
    simp [va_rf]
  | i + 1 => by
    show (Jvm.Free.Multi.outerC c N h0 i).setSlot i (.ref (h0 + 1 + i)) = _
    rw [vr_outer c N h0 i, arrV_store]
    refine congrArg (arrV c N) (funext fun j => ?_)
    by_cases e : j = i
    · subst e
      simp [updV, va_rf]
    · by_cases h : j < i
      · simp [updV, e, h, Nat.lt_succ_of_lt h]
      · simp [updV, e, h, show ¬ j < i + 1 by omega]
def va_AOA (ty : FieldType) (U : State) : Prop := (Cond.arrayOver (.array ty)).before #[] U = true
theorem va_AOA.use {ty : FieldType} {A : Array Value} {U : State} (h : va_AOA ty U) : (Cond.arrayOver (.array ty)).before A U = true := h
section VGM
variable {p : Program} {l : Launch} {e : Env} {R : Room} {s : State} {m : MethodId} {args : Array Value} {below : List Frame} {meth : Method} {c : Code} {H : Heap} {locs : List Loc} {cells slots : Nat} {Q : State → Prop}
variable {cc : ByteArray} {pc : Nat} {ls : Array Slot} {rest : List Value} {D : va_G} {cl : List vw_C} {A : Nat → Prop} {a : Nat} {tys : List (ClassId × FieldType)} {ws : va_W} {H0 : Heap}
theorem va_mna {X : va_W} {L : List Nat} {f : Nat → va_E} {cc : ByteArray} (hexec : p.tables.exec = Jvm.exec) (hb : c.code = cc) {own : String} {index : Nat} {ty : FieldType} {cy : ClassId} (hown : s.vm.findClass own = some m.cls) (hclink : (Cond.classLink own index ("[" ++ (FieldType.array ty).toString)).before args s = true) (hover : va_AOA ty s) (harr : (Cond.arrayClass ty).before args s = true) (hcy : s.vm.findClass (FieldType.array ty).toString = some cy)
    (hK : va_K D cl tys s) (hP : va_P D cl (X ++ va_pl L f) H) (hD : va_D A (X ++ va_pl L f)) (hS : va_S A H0 H locs) (hA : ∀ q, H0.size ≤ q → A q) {n k : Int32} {N' K' : Nat} {z : vp_A} (hn : ¬ n < 0) (hk : ¬ k < 0) (hN : n.toNatClampNeg = N') (hM : k.toNatClampNeg = K')
    (hb1 : N' * 4 ≤ 536870912) (hb2 : K' * componentBytes ty ≤ 536870912) (hb3 : K' ≤ 536870912) (hdf : fits ty (defaultValue ty) = true) (hdd : (defaultValue ty).isDefault = true) (hcells : cells + (1 + N') ≤ R.cells) (hslots : slots + (N' + N' * K') ≤ R.slots) (hz : ∀ c : ClassId, Jvm.Free.Multi.innerC c K' (defaultValue ty) = vp_cell c z) (hdg : decode cc pc = .ok (.multianewarray index 2, 4))
    (kk : ∀ (q : Nat) (r : Nat → Nat) (cA : ClassId) (H1 : Heap), (∀ i j : Nat, i < N' → j < N' → r i = r j → i = j) → (∀ i : Nat, i < N' → r i ∉ L) → va_K D cl (tys ++ [(cA, .array ty)]) s →
      va_P D cl ((X ++ [(q, .inl (cA, N', .inr (.inr (.inr (.inr (fun i => if i < N' then some (r i) else none))))))]) ++ va_pl (L ++ (List.range N').map r) (vr_up f ((List.range N').map r) (.inl (cy, z)))) H1 → va_D A ((X ++ [(q, .inl (cA, N', .inr (.inr (.inr (.inr (fun i => if i < N' then some (r i) else none))))))]) ++ va_pl (L ++ (List.range N').map r) (vr_up f ((List.range N').map r) (.inl (cy, z)))) → va_S A H0 H1 locs →
      W p l e R s m args below meth c H1 locs (cells + 1 + N') (slots + N' + N' * K') Q (F0 m (pc + 4) ls (.ref q :: rest))) : W p l e R s m args below meth c H locs cells slots Q (F0 m pc ls (.int k :: .int n :: rest)) := by
  subst hN
  subst hM
  intro T hT Xs
  obtain ⟨vm₁, cA, comp, -, fA, fC, hO, -, X', step⟩ := Xs.multianewarray2F hexec hown hclink (va_AOA.use hover) harr (g := F0 m pc ls (.int k :: .int n :: rest)) rfl (by rw [hb]; exact hdg) rfl hn hk hb1 hb2 hb3 hdf hdd hcells hslots
  have ec : some cy = some comp := hcy.symm.trans fC
  cases ec
  generalize hF : Jvm.Free.Multi.fill (T.setVm vm₁) cA cy n.toNatClampNeg k.toNatClampNeg (defaultValue ty) n.toNatClampNeg = F at X' step
  have hTh : (T.setVm vm₁).heap = H := hT
  obtain ⟨f1, f2, -, -⟩ := Jvm.Free.Multi.fill_facts (T.setVm vm₁) cA cy n.toNatClampNeg k.toNatClampNeg (defaultValue ty) n.toNatClampNeg
  rw [hF, hTh] at f1 f2
  have hold : ∀ x : Nat, x < H.size → F.heap[x]? = H[x]? := fun x hx => by
    have := Jvm.Free.Multi.fill_old (T.setVm vm₁) cA cy n.toNatClampNeg k.toNatClampNeg (defaultValue ty) (a := x) (by rw [hTh]; exact hx) n.toNatClampNeg
    rw [hF, hTh] at this
    exact this
  have hrow : ∀ j : Nat, j < n.toNatClampNeg → F.heap[H.size + 1 + j]? = some (vp_cell cy z) := fun j hj => by
    have := Jvm.Free.Multi.fill_inner (T.setVm vm₁) cA cy n.toNatClampNeg k.toNatClampNeg (defaultValue ty) n.toNatClampNeg j hj
    rw [hF, hTh, hz] at this
    exact this
  have hout : Jvm.Free.Multi.outerC cA n.toNatClampNeg H.size n.toNatClampNeg = vp_cell cA (n.toNatClampNeg, .inr (.inr (.inr (.inr (fun i => if i < n.toNatClampNeg then some (H.size + 1 + i) else none))))) := by
    rw [vp_cell_q]
    exact vr_outer cA n.toNatClampNeg H.size n.toNatClampNeg
  rw [hout] at f2
  have hlt : ∀ a, a ∈ L → a < H.size := fun a ha => by
    obtain ⟨k9, hk9⟩ := va_pl_get (X := X) (f := f) ha
    exact (hP k9 _ hk9).lt
  have hnl : ∀ i : Nat, i < n.toNatClampNeg → H.size + 1 + i ∉ L := fun i _ h => by
    have := hlt _ h
    omega
  have hnm : ∀ a, a ∈ (List.range n.toNatClampNeg).map (fun i => H.size + 1 + i) → a ∉ L := fun a ha h => by
    obtain ⟨i, -, rfl⟩ := List.mem_map.mp ha
    have := hlt _ h
    omega
  have hP0 : va_P D cl (X ++ va_pl L f) F.heap := hP.kept (fun k9 x hx => hold x.1 ((hP k9 x hx).lt))
  have hP1 : va_P D cl ((X ++ va_pl L f) ++ [(H.size, .inl (cA, n.toNatClampNeg, .inr (.inr (.inr (.inr (fun i => if i < n.toNatClampNeg then some (H.size + 1 + i) else none))))))]) F.heap := hP0.app (fun k9 x hx => by
    have h0 : k9 < 1 := (List.getElem?_eq_some_iff.mp hx).1
    rw [show k9 = 0 by omega] at hx
    cases hx
    exact f2)
  have hP2 : va_P D cl (((X ++ va_pl L f) ++ [(H.size, .inl (cA, n.toNatClampNeg, .inr (.inr (.inr (.inr (fun i => if i < n.toNatClampNeg then some (H.size + 1 + i) else none))))))]) ++ ((List.range n.toNatClampNeg).map (fun i => H.size + 1 + i)).map (fun a => (a, .inl (cy, z)))) F.heap := hP1.app (fun k9 x hx => by
    obtain ⟨a, ha, rfl⟩ := List.mem_map.mp (List.mem_of_getElem? hx)
    obtain ⟨i, hi, rfl⟩ := List.mem_map.mp ha
    exact hrow i (List.mem_range.mp hi))
  have hD2 : va_D A (((X ++ va_pl L f) ++ [(H.size, .inl (cA, n.toNatClampNeg, .inr (.inr (.inr (.inr (fun i => if i < n.toNatClampNeg then some (H.size + 1 + i) else none))))))]) ++ ((List.range n.toNatClampNeg).map (fun i => H.size + 1 + i)).map (fun a => (a, .inl (cy, z)))) := by
    have hD1 := hD.push (e := .inl (cA, n.toNatClampNeg, .inr (.inr (.inr (.inr (fun i => if i < n.toNatClampNeg then some (H.size + 1 + i) else none)))))) hP rfl (hA _ hS.1)
    generalize hW1 : (X ++ va_pl L f) ++ [(H.size, .inl (cA, n.toNatClampNeg, .inr (.inr (.inr (.inr (fun i => if i < n.toNatClampNeg then some (H.size + 1 + i) else none))))))] = W1 at hD1 hP1 ⊢
    have hle : ∀ (k9 : Nat) (x : Nat × va_E), W1[k9]? = some x → x.1 ≤ H.size := fun k9 x hx => by
      rw [← hW1] at hx
      by_cases hl : k9 < (X ++ va_pl L f).length
      · rw [List.getElem?_append_left hl] at hx
        exact Nat.le_of_lt ((hP k9 x hx).lt)
      · rw [List.getElem?_append_right (by omega)] at hx
        have h0 : k9 - (X ++ va_pl L f).length < 1 := (List.getElem?_eq_some_iff.mp hx).1
        rw [show k9 - (X ++ va_pl L f).length = 0 by omega] at hx
        cases hx
        exact Nat.le_refl _
    have hr : ∀ (k9 : Nat) (x : Nat × va_E), (((List.range n.toNatClampNeg).map (fun i => H.size + 1 + i)).map (fun a => ((a, .inl (cy, z)) : Nat × va_E)))[k9]? = some x → x.1 = H.size + 1 + k9 := fun k9 x hx => by
      rw [List.getElem?_map, List.getElem?_map] at hx
      by_cases h9 : k9 < n.toNatClampNeg
      · rw [List.getElem?_range h9] at hx
        cases hx
        rfl
      · have hn0 : (List.range n.toNatClampNeg)[k9]? = none := List.getElem?_eq_none (by rw [List.length_range]; omega)
        rw [hn0] at hx
        cases hx
    refine ⟨fun i j x y hi hj hxy => ?_, fun k9 x hx => ?_⟩
    · by_cases h1 : i < W1.length <;> by_cases h2 : j < W1.length
      · rw [List.getElem?_append_left h1] at hi
        rw [List.getElem?_append_left h2] at hj
        exact hD1.1 i j x y hi hj hxy
      · rw [List.getElem?_append_left h1] at hi
        rw [List.getElem?_append_right (by omega)] at hj
        have := hle _ _ hi
        have := hr _ _ hj
        omega
      · rw [List.getElem?_append_right (by omega)] at hi
        rw [List.getElem?_append_left h2] at hj
        have := hle _ _ hj
        have := hr _ _ hi
        omega
      · rw [List.getElem?_append_right (by omega)] at hi hj
        have := hr _ _ hi
        have := hr _ _ hj
        omega
    · by_cases h1 : k9 < W1.length
      · rw [List.getElem?_append_left h1] at hx
        exact hD1.2 k9 x hx
      · rw [List.getElem?_append_right (by omega)] at hx
        have := hr _ _ hx
        exact hA _ (by have := hS.1; omega)
  have hAr : ArrOfT s cA (.array ty) := fun N9 z9 => by
    obtain ⟨-, k9, hk9, cm9, hkk9⟩ := (hO 0 0 0).1
    exact ⟨(fun q hq => by cases hq), k9, hk9, cm9, hkk9⟩
  have hK2 : va_K D cl (tys ++ [(cA, .array ty)]) s := ⟨hK.1, fun k9 x hx => by
    by_cases hl : k9 < tys.length
    · rw [List.getElem?_append_left hl] at hx
      exact hK.2 k9 x hx
    · rw [List.getElem?_append_right (by omega)] at hx
      have h0 : k9 - tys.length < 1 := (List.getElem?_eq_some_iff.mp hx).1
      rw [show k9 - tys.length = 0 by omega] at hx
      cases hx
      exact ⟨hAr, fA⟩⟩
  obtain ⟨t, a1, b1⟩ := kk H.size (fun i => H.size + 1 + i) cA F.heap (fun i j _ _ h => by have h9 : H.size + 1 + i = H.size + 1 + j := h; omega) hnl hK2 (by rw [← vr_rows hnm]; exact vr_lay hP2) (by rw [← vr_rows hnm]; exact vr_layD hD2) ⟨by rw [f1]; have := hS.1; omega, fun x h1 h2 => (hold x (Nat.lt_of_lt_of_le h1 hS.1)).trans (hS.2.1 x h1 h2), hS.2.2⟩ F rfl X'
  refine ⟨t, step t ?_, b1⟩
  have e : T.heap.size = H.size := by rw [hT]
  rw [e]
  exact a1
end VGM
def RX0 : String := "SwingWeights$Ballots"
def TX0 : u_T := fun k => match k with
  | 0 => ("SwingWeights$Ballots", "held", "I", false)
  | 1 => ("SwingWeights$Ballots", "passed", "I", false)
  | 2 => ("SwingWeights$Ballots", "outcomes", "[I", true)
  | 3 => ("SwingWeights$Ballots", "plusWeights", "[I", true)
  | _ => ("SwingWeights$Ballots", "dissenters", "[I", true)
def tyX0 : Nat → FieldType := fun k => match k with
  | 0 => .int
  | 1 => .int
  | 2 => .array .int
  | 3 => .array .int
  | _ => .array .int
abbrev wsX00 : List Cond := u_ws RX0 TX0 5
theorem nmX0 : ∀ a, a < 5 → ∀ b, b < 5 → a ≠ b → (TX0 a).2.1 ≠ (TX0 b).2.1 := by decide +kernel
theorem tyX0_ok : ∀ k, k < 5 → parseFieldDescriptor (TX0 k).2.2.1 = some (tyX0 k) := by decide +kernel
abbrev cX0_init : ByteArray := prog_2_method_1_code
def yX0_init : MethodName := ⟨RX0, "<init>", "()V"⟩
abbrev cX0_copyFrom : ByteArray := prog_2_method_2_code
def yX0_copyFrom : MethodName := ⟨RX0, "copyFrom", "(LSwingWeights$Ballots;)V"⟩
abbrev cX0_add : ByteArray := prog_2_method_3_code
def yX0_add : MethodName := ⟨RX0, "add", "(ZII)V"⟩
abbrev cX0_putFirst : ByteArray := prog_2_method_4_code
def yX0_putFirst : MethodName := ⟨RX0, "putFirst", "([II)V"⟩
def RX1 : String := "SwingWeights$History"
def TX1 : u_T := fun k => match k with
  | 0 => ("SwingWeights$History", "states", "[LSwingWeights$State;", true)
  | _ => ("SwingWeights$History", "size", "I", false)
def tyX1 : Nat → FieldType := fun k => match k with
  | 0 => .array (.object "SwingWeights$State")
  | _ => .int
abbrev wsX10 : List Cond := u_ws RX1 TX1 2
theorem nmX1 : ∀ a, a < 2 → ∀ b, b < 2 → a ≠ b → (TX1 a).2.1 ≠ (TX1 b).2.1 := by decide +kernel
theorem tyX1_ok : ∀ k, k < 2 → parseFieldDescriptor (TX1 k).2.2.1 = some (tyX1 k) := by decide +kernel
abbrev cX1_init : ByteArray := prog_3_method_1_code
def yX1_init : MethodName := ⟨RX1, "<init>", "()V"⟩
abbrev cX1_add : ByteArray := prog_3_method_2_code
def yX1_add : MethodName := ⟨RX1, "add", "(LSwingWeights$State;)V"⟩
abbrev cX1_dropOldest : ByteArray := prog_3_method_3_code
def yX1_dropOldest : MethodName := ⟨RX1, "dropOldest", "()V"⟩
abbrev cX1_takeLatest : ByteArray := prog_3_method_4_code
def yX1_takeLatest : MethodName := ⟨RX1, "takeLatest", "(LSwingWeights$State;)V"⟩
def RX2 : String := "SwingWeights$Power"
def TX2 : u_T := fun k => match k with
  | 0 => ("SwingWeights$Power", "members", "I", false)
  | 1 => ("SwingWeights$Power", "quota", "I", false)
  | 2 => ("SwingWeights$Power", "vetoes", "I", false)
  | 3 => ("SwingWeights$Power", "blocCount", "I", false)
  | 4 => ("SwingWeights$Power", "lowest", "I", false)
  | 5 => ("SwingWeights$Power", "blocs", "[I", true)
  | 6 => ("SwingWeights$Power", "blocWeights", "[I", true)
  | 7 => ("SwingWeights$Power", "coalitions", "[I", true)
  | 8 => ("SwingWeights$Power", "weights", "[I", true)
  | 9 => ("SwingWeights$Power", "coalitionCount", "I", false)
  | 10 => ("SwingWeights$Power", "winning", "[[I", true)
  | 11 => ("SwingWeights$Power", "least", "[I", true)
  | _ => ("SwingWeights$Power", "leastCount", "I", false)
def tyX2 : Nat → FieldType := fun k => match k with
  | 0 => .int
  | 1 => .int
  | 2 => .int
  | 3 => .int
  | 4 => .int
  | 5 => .array .int
  | 6 => .array .int
  | 7 => .array .int
  | 8 => .array .int
  | 9 => .int
  | 10 => .array (.array .int)
  | 11 => .array .int
  | _ => .int
abbrev wsX20 : List Cond := u_ws RX2 TX2 13
theorem nmX2 : ∀ a, a < 13 → ∀ b, b < 13 → a ≠ b → (TX2 a).2.1 ≠ (TX2 b).2.1 := by decide +kernel
theorem tyX2_ok : ∀ k, k < 13 → parseFieldDescriptor (TX2 k).2.2.1 = some (tyX2 k) := by decide +kernel
abbrev cX2_init : ByteArray := prog_4_method_1_code
def yX2_init : MethodName := ⟨RX2, "<init>", "()V"⟩
abbrev cX2_workOut : ByteArray := prog_4_method_2_code
def yX2_workOut : MethodName := ⟨RX2, "workOut", "(LSwingWeights$State;)V"⟩
abbrev cX2_listCoalitions : ByteArray := prog_4_method_3_code
def yX2_listCoalitions : MethodName := ⟨RX2, "listCoalitions", "()V"⟩
abbrev cX2_repeatCoalitionsWith : ByteArray := prog_4_method_4_code
def yX2_repeatCoalitionsWith : MethodName := ⟨RX2, "repeatCoalitionsWith", "(I)V"⟩
abbrev cX2_countWinning : ByteArray := prog_4_method_5_code
def yX2_countWinning : MethodName := ⟨RX2, "countWinning", "()V"⟩
abbrev cX2_countAtWeight : ByteArray := prog_4_method_6_code
def yX2_countAtWeight : MethodName := ⟨RX2, "countAtWeight", "(II)V"⟩
abbrev cX2_hasAllVetoes : ByteArray := prog_4_method_7_code
def yX2_hasAllVetoes : MethodName := ⟨RX2, "hasAllVetoes", "(I)Z"⟩
abbrev cX2_isWinning : ByteArray := prog_4_method_8_code
def yX2_isWinning : MethodName := ⟨RX2, "isWinning", "(II)Z"⟩
abbrev cX2_winningCoalitions : ByteArray := prog_4_method_9_code
def yX2_winningCoalitions : MethodName := ⟨RX2, "winningCoalitions", "(I)I"⟩
abbrev cX2_swings : ByteArray := prog_4_method_10_code
def yX2_swings : MethodName := ⟨RX2, "swings", "(II)I"⟩
abbrev cX2_swingsOfAll : ByteArray := prog_4_method_11_code
def yX2_swingsOfAll : MethodName := ⟨RX2, "swingsOfAll", "(I)I"⟩
abbrev cX2_isDummy : ByteArray := prog_4_method_12_code
def yX2_isDummy : MethodName := ⟨RX2, "isDummy", "(II)Z"⟩
abbrev cX2_isBlocker : ByteArray := prog_4_method_13_code
def yX2_isBlocker : MethodName := ⟨RX2, "isBlocker", "(II)Z"⟩
abbrev cX2_isDictator : ByteArray := prog_4_method_14_code
def yX2_isDictator : MethodName := ⟨RX2, "isDictator", "(I)Z"⟩
abbrev cX2_dummies : ByteArray := prog_4_method_15_code
def yX2_dummies : MethodName := ⟨RX2, "dummies", "(I)I"⟩
abbrev cX2_blockers : ByteArray := prog_4_method_16_code
def yX2_blockers : MethodName := ⟨RX2, "blockers", "(I)I"⟩
abbrev cX2_orders : ByteArray := prog_4_method_17_code
def yX2_orders : MethodName := ⟨RX2, "orders", "(I)I"⟩
abbrev cX2_hasSwing : ByteArray := prog_4_method_18_code
def yX2_hasSwing : MethodName := ⟨RX2, "hasSwing", "(II)Z"⟩
abbrev cX2_distance : ByteArray := prog_4_method_19_code
def yX2_distance : MethodName := ⟨RX2, "distance", "(I)J"⟩
abbrev cX2_leastCoalitions : ByteArray := prog_4_method_20_code
def yX2_leastCoalitions : MethodName := ⟨RX2, "leastCoalitions", "()I"⟩
abbrev cX2_listLeast : ByteArray := prog_4_method_21_code
def yX2_listLeast : MethodName := ⟨RX2, "listLeast", "()V"⟩
abbrev cX2_isLeast : ByteArray := prog_4_method_22_code
def yX2_isLeast : MethodName := ⟨RX2, "isLeast", "(II)Z"⟩
abbrev cX2_sortingKey : ByteArray := prog_4_method_23_code
def yX2_sortingKey : MethodName := ⟨RX2, "sortingKey", "(III)I"⟩
abbrev cX2_insertLeast : ByteArray := prog_4_method_24_code
def yX2_insertLeast : MethodName := ⟨RX2, "insertLeast", "(I)V"⟩
abbrev cX2_ofLeast : ByteArray := prog_4_method_25_code
def yX2_ofLeast : MethodName := ⟨RX2, "ofLeast", "(II)I"⟩
def RX3 : String := "SwingWeights$State"
def TX3 : u_T := fun k => match k with
  | 0 => ("SwingWeights$State", "members", "I", false)
  | 1 => ("SwingWeights$State", "quota", "I", false)
  | 2 => ("SwingWeights$State", "vetoes", "I", false)
  | 3 => ("SwingWeights$State", "weights", "[I", true)
  | 4 => ("SwingWeights$State", "blocs", "[I", true)
  | 5 => ("SwingWeights$State", "swingBallots", "[I", true)
  | _ => ("SwingWeights$State", "ballots", "LSwingWeights$Ballots;", true)
def tyX3 : Nat → FieldType := fun k => match k with
  | 0 => .int
  | 1 => .int
  | 2 => .int
  | 3 => .array .int
  | 4 => .array .int
  | 5 => .array .int
  | _ => .object "SwingWeights$Ballots"
abbrev wsX30 : List Cond := u_ws RX3 TX3 7
theorem nmX3 : ∀ a, a < 7 → ∀ b, b < 7 → a ≠ b → (TX3 a).2.1 ≠ (TX3 b).2.1 := by decide +kernel
theorem tyX3_ok : ∀ k, k < 7 → parseFieldDescriptor (TX3 k).2.2.1 = some (tyX3 k) := by decide +kernel
abbrev cX3_init : ByteArray := prog_5_method_1_code
def yX3_init : MethodName := ⟨RX3, "<init>", "()V"⟩
abbrev cX3_copyFrom : ByteArray := prog_5_method_2_code
def yX3_copyFrom : MethodName := ⟨RX3, "copyFrom", "(LSwingWeights$State;)V"⟩
abbrev cX3_has : ByteArray := prog_5_method_3_code
def yX3_has : MethodName := ⟨RX3, "has", "(I)Z"⟩
abbrev cX3_everyone : ByteArray := prog_5_method_4_code
def yX3_everyone : MethodName := ⟨RX3, "everyone", "()I"⟩
abbrev cX3_append : ByteArray := prog_5_method_5_code
def yX3_append : MethodName := ⟨RX3, "append", "(I)I"⟩
abbrev cX3_drop : ByteArray := prog_5_method_6_code
def yX3_drop : MethodName := ⟨RX3, "drop", "(I)V"⟩
abbrev cX3_closeUp : ByteArray := prog_5_method_7_code
def yX3_closeUp : MethodName := ⟨RX3, "closeUp", "(II)I"⟩
abbrev cX3_makeBloc : ByteArray := prog_5_method_8_code
def yX3_makeBloc : MethodName := ⟨RX3, "makeBloc", "(I)V"⟩
abbrev cX3_isLowest : ByteArray := prog_5_method_9_code
def yX3_isLowest : MethodName := ⟨RX3, "isLowest", "(I)Z"⟩
abbrev cX3_lowestBeside : ByteArray := prog_5_method_10_code
def yX3_lowestBeside : MethodName := ⟨RX3, "lowestBeside", "(I)I"⟩
abbrev cX3_blocCount : ByteArray := prog_5_method_11_code
def yX3_blocCount : MethodName := ⟨RX3, "blocCount", "()I"⟩
abbrev cX3_leaderOf : ByteArray := prog_5_method_12_code
def yX3_leaderOf : MethodName := ⟨RX3, "leaderOf", "(I)I"⟩
abbrev cX3_weightOf : ByteArray := prog_5_method_13_code
def yX3_weightOf : MethodName := ⟨RX3, "weightOf", "(I)I"⟩
abbrev cX3_wholeBlocsIn : ByteArray := prog_5_method_14_code
def yX3_wholeBlocsIn : MethodName := ⟨RX3, "wholeBlocsIn", "(I)I"⟩
abbrev cX3_isWinning : ByteArray := prog_5_method_15_code
def yX3_isWinning : MethodName := ⟨RX3, "isWinning", "(I)Z"⟩
abbrev cX3_hold : ByteArray := prog_5_method_16_code
def yX3_hold : MethodName := ⟨RX3, "hold", "(LSwingWeights$Text;I)V"⟩
abbrev cX3_tellSwings : ByteArray := prog_5_method_17_code
def yX3_tellSwings : MethodName := ⟨RX3, "tellSwings", "(IZ)V"⟩
def RX4 : String := "SwingWeights$Text"
def TX4 : u_T := fun k => match k with
  | 0 => ("SwingWeights$Text", "characters", "[C", true)
  | _ => ("SwingWeights$Text", "length", "I", false)
def tyX4 : Nat → FieldType := fun k => match k with
  | 0 => .array .char
  | _ => .int
abbrev wsX40 : List Cond := u_ws RX4 TX4 2
theorem nmX4 : ∀ a, a < 2 → ∀ b, b < 2 → a ≠ b → (TX4 a).2.1 ≠ (TX4 b).2.1 := by decide +kernel
theorem tyX4_ok : ∀ k, k < 2 → parseFieldDescriptor (TX4 k).2.2.1 = some (tyX4 k) := by decide +kernel
abbrev cX4_init : ByteArray := prog_6_method_1_code
def yX4_init : MethodName := ⟨RX4, "<init>", "()V"⟩
abbrev cX4_append : ByteArray := prog_6_method_2_code
def yX4_append : MethodName := ⟨RX4, "append", "(C)V"⟩
abbrev cX4_at : ByteArray := prog_6_method_3_code
def yX4_at : MethodName := ⟨RX4, "at", "(I)C"⟩
abbrev cX4_fault : ByteArray := prog_6_method_4_code
def yX4_fault : MethodName := ⟨RX4, "fault", "(I)I"⟩
abbrev cX4_isSign : ByteArray := prog_6_method_5_code
def yX4_isSign : MethodName := ⟨RX4, "isSign", "(C)Z"⟩
def RX5 : String := "SwingWeights"
def TX5 : u_T := fun k => match k with
  | 0 => ("SwingWeights", "state", "LSwingWeights$State;", true)
  | 1 => ("SwingWeights", "snapshot", "LSwingWeights$State;", true)
  | 2 => ("SwingWeights", "hasSnapshot", "Z", false)
  | 3 => ("SwingWeights", "history", "LSwingWeights$History;", true)
  | 4 => ("SwingWeights", "text", "LSwingWeights$Text;", true)
  | 5 => ("SwingWeights", "power", "LSwingWeights$Power;", true)
  | _ => ("SwingWeights", "powerIsOfState", "Z", false)
def tyX5 : Nat → FieldType := fun k => match k with
  | 0 => .object "SwingWeights$State"
  | 1 => .object "SwingWeights$State"
  | 2 => .boolean
  | 3 => .object "SwingWeights$History"
  | 4 => .object "SwingWeights$Text"
  | 5 => .object "SwingWeights$Power"
  | _ => .boolean
abbrev wsX50 : List Cond := u_ws RX5 TX5 7
theorem nmX5 : ∀ a, a < 7 → ∀ b, b < 7 → a ≠ b → (TX5 a).2.1 ≠ (TX5 b).2.1 := by decide +kernel
theorem tyX5_ok : ∀ k, k < 7 → parseFieldDescriptor (TX5 k).2.2.1 = some (tyX5 k) := by decide +kernel
abbrev cX5_init : ByteArray := prog_1_method_1_code
def yX5_init : MethodName := ⟨RX5, "<init>", "()V"⟩
abbrev cX5_addMember : ByteArray := prog_1_method_2_code
def yX5_addMember : MethodName := ⟨RX5, "addMember", "(I)I"⟩
abbrev cX5_removeMember : ByteArray := prog_1_method_3_code
def yX5_removeMember : MethodName := ⟨RX5, "removeMember", "(I)I"⟩
abbrev cX5_setWeight : ByteArray := prog_1_method_4_code
def yX5_setWeight : MethodName := ⟨RX5, "setWeight", "(II)I"⟩
abbrev cX5_setVeto : ByteArray := prog_1_method_5_code
def yX5_setVeto : MethodName := ⟨RX5, "setVeto", "(IZ)I"⟩
abbrev cX5_setQuota : ByteArray := prog_1_method_6_code
def yX5_setQuota : MethodName := ⟨RX5, "setQuota", "(I)I"⟩
abbrev cX5_join : ByteArray := prog_1_method_7_code
def yX5_join : MethodName := ⟨RX5, "join", "(II)I"⟩
abbrev cX5_leave : ByteArray := prog_1_method_8_code
def yX5_leave : MethodName := ⟨RX5, "leave", "(I)I"⟩
abbrev cX5_type : ByteArray := prog_1_method_9_code
def yX5_type : MethodName := ⟨RX5, "type", "(C)I"⟩
abbrev cX5_clearText : ByteArray := prog_1_method_10_code
def yX5_clearText : MethodName := ⟨RX5, "clearText", "()I"⟩
abbrev cX5_vote : ByteArray := prog_1_method_11_code
def yX5_vote : MethodName := ⟨RX5, "vote", "()I"⟩
abbrev cX5_undo : ByteArray := prog_1_method_12_code
def yX5_undo : MethodName := ⟨RX5, "undo", "()I"⟩
abbrev cX5_keep : ByteArray := prog_1_method_13_code
def yX5_keep : MethodName := ⟨RX5, "keep", "()I"⟩
abbrev cX5_restore : ByteArray := prog_1_method_14_code
def yX5_restore : MethodName := ⟨RX5, "restore", "()I"⟩
abbrev cX5_member : ByteArray := prog_1_method_15_code
def yX5_member : MethodName := ⟨RX5, "member", "(II)I"⟩
abbrev cX5_share : ByteArray := prog_1_method_16_code
def yX5_share : MethodName := ⟨RX5, "share", "(II)I"⟩
abbrev cX5_wins : ByteArray := prog_1_method_17_code
def yX5_wins : MethodName := ⟨RX5, "wins", "(I)I"⟩
abbrev cX5_leastCoalition : ByteArray := prog_1_method_18_code
def yX5_leastCoalition : MethodName := ⟨RX5, "leastCoalition", "(II)I"⟩
abbrev cX5_ranked : ByteArray := prog_1_method_19_code
def yX5_ranked : MethodName := ⟨RX5, "ranked", "(I)I"⟩
abbrev cX5_withQuota : ByteArray := prog_1_method_20_code
def yX5_withQuota : MethodName := ⟨RX5, "withQuota", "(II)I"⟩
abbrev cX5_leavesOut : ByteArray := prog_1_method_21_code
def yX5_leavesOut : MethodName := ⟨RX5, "leavesOut", "(II)I"⟩
abbrev cX5_fairest : ByteArray := prog_1_method_22_code
def yX5_fairest : MethodName := ⟨RX5, "fairest", "()I"⟩
abbrev cX5_ballot : ByteArray := prog_1_method_23_code
def yX5_ballot : MethodName := ⟨RX5, "ballot", "(II)I"⟩
abbrev cX5_count : ByteArray := prog_1_method_24_code
def yX5_count : MethodName := ⟨RX5, "count", "(I)I"⟩
abbrev cX5_beginAct : ByteArray := prog_1_method_25_code
def yX5_beginAct : MethodName := ⟨RX5, "beginAct", "()V"⟩
abbrev cX5_currentPower : ByteArray := prog_1_method_26_code
def yX5_currentPower : MethodName := ⟨RX5, "currentPower", "()LSwingWeights$Power;"⟩
abbrev cX5_rankOf : ByteArray := prog_1_method_27_code
def yX5_rankOf : MethodName := ⟨RX5, "rankOf", "(ILSwingWeights$Power;)I"⟩
abbrev cX5_isAhead : ByteArray := prog_1_method_28_code
def yX5_isAhead : MethodName := ⟨RX5, "isAhead", "(IILSwingWeights$Power;)Z"⟩
abbrev cX5_isWeight : ByteArray := prog_1_method_29_code
def yX5_isWeight : MethodName := ⟨RX5, "isWeight", "(I)Z"⟩
abbrev cX5_isQuota : ByteArray := prog_1_method_30_code
def yX5_isQuota : MethodName := ⟨RX5, "isQuota", "(I)Z"⟩
abbrev cX5_oneIf : ByteArray := prog_1_method_31_code
def yX5_oneIf : MethodName := ⟨RX5, "oneIf", "(Z)I"⟩
abbrev cX5_bit : ByteArray := prog_1_method_32_code
def yX5_bit : MethodName := ⟨RX5, "bit", "(I)I"⟩
abbrev cX5_holds : ByteArray := prog_1_method_33_code
def yX5_holds : MethodName := ⟨RX5, "holds", "(II)Z"⟩
abbrev cX5_factorial : ByteArray := prog_1_method_34_code
def yX5_factorial : MethodName := ⟨RX5, "factorial", "(I)I"⟩
abbrev cX5_greatestDivisor : ByteArray := prog_1_method_35_code
def yX5_greatestDivisor : MethodName := ⟨RX5, "greatestDivisor", "(II)I"⟩
def RX6 : String := "SwingWeightsModel"
def TX6 : u_T := fun k => match k with
  | 0 => ("SwingWeightsModel", "row", "[I", true)
  | 1 => ("SwingWeightsModel", "past", "[I", true)
  | 2 => ("SwingWeightsModel", "aside", "[I", true)
  | 3 => ("SwingWeightsModel", "states", "I", false)
  | 4 => ("SwingWeightsModel", "isAside", "Z", false)
  | 5 => ("SwingWeightsModel", "text", "[C", true)
  | 6 => ("SwingWeightsModel", "length", "I", false)
  | 7 => ("SwingWeightsModel", "at", "I", false)
  | 8 => ("SwingWeightsModel", "blocs", "I", false)
  | 9 => ("SwingWeightsModel", "lowest", "[I", true)
  | 10 => ("SwingWeightsModel", "weight", "[I", true)
  | 11 => ("SwingWeightsModel", "members", "[I", true)
  | 12 => ("SwingWeightsModel", "vetoes", "I", false)
  | 13 => ("SwingWeightsModel", "wins", "[Z", true)
  | 14 => ("SwingWeightsModel", "swings", "[I", true)
  | 15 => ("SwingWeightsModel", "allSwings", "I", false)
  | 16 => ("SwingWeightsModel", "least", "[I", true)
  | _ => ("SwingWeightsModel", "leastOnes", "I", false)
def tyX6 : Nat → FieldType := fun k => match k with
  | 0 => .array .int
  | 1 => .array .int
  | 2 => .array .int
  | 3 => .int
  | 4 => .boolean
  | 5 => .array .char
  | 6 => .int
  | 7 => .int
  | 8 => .int
  | 9 => .array .int
  | 10 => .array .int
  | 11 => .array .int
  | 12 => .int
  | 13 => .array .boolean
  | 14 => .array .int
  | 15 => .int
  | 16 => .array .int
  | _ => .int
abbrev wsX60 : List Cond := u_ws RX6 TX6 18
theorem nmX6 : ∀ a, a < 18 → ∀ b, b < 18 → a ≠ b → (TX6 a).2.1 ≠ (TX6 b).2.1 := by decide +kernel
theorem tyX6_ok : ∀ k, k < 18 → parseFieldDescriptor (TX6 k).2.2.1 = some (tyX6 k) := by decide +kernel
abbrev cX6_init : ByteArray := prog_8_method_1_code
def yX6_init : MethodName := ⟨RX6, "<init>", "()V"⟩
abbrev cX6_in : ByteArray := prog_8_method_2_code
def yX6_in : MethodName := ⟨RX6, "in", "(III)Z"⟩
abbrev cX6_isIn : ByteArray := prog_8_method_3_code
def yX6_isIn : MethodName := ⟨RX6, "isIn", "(II)Z"⟩
abbrev cX6_many : ByteArray := prog_8_method_4_code
def yX6_many : MethodName := ⟨RX6, "many", "(I)I"⟩
abbrev cX6_record : ByteArray := prog_8_method_5_code
def yX6_record : MethodName := ⟨RX6, "record", "()V"⟩
abbrev cX6_undo : ByteArray := prog_8_method_6_code
def yX6_undo : MethodName := ⟨RX6, "undo", "()I"⟩
abbrev cX6_keep : ByteArray := prog_8_method_7_code
def yX6_keep : MethodName := ⟨RX6, "keep", "()I"⟩
abbrev cX6_restore : ByteArray := prog_8_method_8_code
def yX6_restore : MethodName := ⟨RX6, "restore", "()I"⟩
abbrev cX6_noMember : ByteArray := prog_8_method_9_code
def yX6_noMember : MethodName := ⟨RX6, "noMember", "(I)Z"⟩
abbrev cX6_addMember : ByteArray := prog_8_method_10_code
def yX6_addMember : MethodName := ⟨RX6, "addMember", "(I)I"⟩
abbrev cX6_part : ByteArray := prog_8_method_11_code
def yX6_part : MethodName := ⟨RX6, "part", "(I)V"⟩
abbrev cX6_removeMember : ByteArray := prog_8_method_12_code
def yX6_removeMember : MethodName := ⟨RX6, "removeMember", "(I)I"⟩
abbrev cX6_set : ByteArray := prog_8_method_13_code
def yX6_set : MethodName := ⟨RX6, "set", "(II)I"⟩
abbrev cX6_setWeight : ByteArray := prog_8_method_14_code
def yX6_setWeight : MethodName := ⟨RX6, "setWeight", "(II)I"⟩
abbrev cX6_withVeto : ByteArray := prog_8_method_15_code
def yX6_withVeto : MethodName := ⟨RX6, "withVeto", "()I"⟩
abbrev cX6_setVeto : ByteArray := prog_8_method_16_code
def yX6_setVeto : MethodName := ⟨RX6, "setVeto", "(IZ)I"⟩
abbrev cX6_setQuota : ByteArray := prog_8_method_17_code
def yX6_setQuota : MethodName := ⟨RX6, "setQuota", "(I)I"⟩
abbrev cX6_size : ByteArray := prog_8_method_18_code
def yX6_size : MethodName := ⟨RX6, "size", "(I)I"⟩
abbrev cX6_join : ByteArray := prog_8_method_19_code
def yX6_join : MethodName := ⟨RX6, "join", "(II)I"⟩
abbrev cX6_leave : ByteArray := prog_8_method_20_code
def yX6_leave : MethodName := ⟨RX6, "leave", "(I)I"⟩
abbrev cX6_layBlocs : ByteArray := prog_8_method_21_code
def yX6_layBlocs : MethodName := ⟨RX6, "layBlocs", "()V"⟩
abbrev cX6_blocOf : ByteArray := prog_8_method_22_code
def yX6_blocOf : MethodName := ⟨RX6, "blocOf", "(I)I"⟩
abbrev cX6_weightOf : ByteArray := prog_8_method_23_code
def yX6_weightOf : MethodName := ⟨RX6, "weightOf", "(I)I"⟩
abbrev cX6_winsWith : ByteArray := prog_8_method_24_code
def yX6_winsWith : MethodName := ⟨RX6, "winsWith", "(II)Z"⟩
abbrev cX6_find : ByteArray := prog_8_method_25_code
def yX6_find : MethodName := ⟨RX6, "find", "(I)V"⟩
abbrev cX6_findNow : ByteArray := prog_8_method_26_code
def yX6_findNow : MethodName := ⟨RX6, "findNow", "()V"⟩
abbrev cX6_winning : ByteArray := prog_8_method_27_code
def yX6_winning : MethodName := ⟨RX6, "winning", "()I"⟩
abbrev cX6_factorial : ByteArray := prog_8_method_28_code
def yX6_factorial : MethodName := ⟨RX6, "factorial", "(I)I"⟩
abbrev cX6_orders : ByteArray := prog_8_method_29_code
def yX6_orders : MethodName := ⟨RX6, "orders", "(I)I"⟩
abbrev cX6_isBlocker : ByteArray := prog_8_method_30_code
def yX6_isBlocker : MethodName := ⟨RX6, "isBlocker", "(I)Z"⟩
abbrev cX6_isDictator : ByteArray := prog_8_method_31_code
def yX6_isDictator : MethodName := ⟨RX6, "isDictator", "(I)Z"⟩
abbrev cX6_membersOf : ByteArray := prog_8_method_32_code
def yX6_membersOf : MethodName := ⟨RX6, "membersOf", "(I)I"⟩
abbrev cX6_isLeast : ByteArray := prog_8_method_33_code
def yX6_isLeast : MethodName := ⟨RX6, "isLeast", "(I)Z"⟩
abbrev cX6_isAhead : ByteArray := prog_8_method_34_code
def yX6_isAhead : MethodName := ⟨RX6, "isAhead", "(II)Z"⟩
abbrev cX6_findLeast : ByteArray := prog_8_method_35_code
def yX6_findLeast : MethodName := ⟨RX6, "findLeast", "()V"⟩
abbrev cX6_type : ByteArray := prog_8_method_36_code
def yX6_type : MethodName := ⟨RX6, "type", "(C)I"⟩
abbrev cX6_clearText : ByteArray := prog_8_method_37_code
def yX6_clearText : MethodName := ⟨RX6, "clearText", "()I"⟩
abbrev cX6_ballots : ByteArray := prog_8_method_38_code
def yX6_ballots : MethodName := ⟨RX6, "ballots", "(Z)I"⟩
abbrev cX6_leader : ByteArray := prog_8_method_39_code
def yX6_leader : MethodName := ⟨RX6, "leader", "(I)I"⟩
abbrev cX6_holdBallot : ByteArray := prog_8_method_40_code
def yX6_holdBallot : MethodName := ⟨RX6, "holdBallot", "(I)Z"⟩
abbrev cX6_vote : ByteArray := prog_8_method_41_code
def yX6_vote : MethodName := ⟨RX6, "vote", "()I"⟩
abbrev cX6_rank : ByteArray := prog_8_method_42_code
def yX6_rank : MethodName := ⟨RX6, "rank", "(I)I"⟩
abbrev cX6_member : ByteArray := prog_8_method_43_code
def yX6_member : MethodName := ⟨RX6, "member", "(II)I"⟩
abbrev cX6_common : ByteArray := prog_8_method_44_code
def yX6_common : MethodName := ⟨RX6, "common", "(II)I"⟩
abbrev cX6_share : ByteArray := prog_8_method_45_code
def yX6_share : MethodName := ⟨RX6, "share", "(II)I"⟩
abbrev cX6_wins : ByteArray := prog_8_method_46_code
def yX6_wins : MethodName := ⟨RX6, "wins", "(I)I"⟩
abbrev cX6_leastCoalition : ByteArray := prog_8_method_47_code
def yX6_leastCoalition : MethodName := ⟨RX6, "leastCoalition", "(II)I"⟩
abbrev cX6_ranked : ByteArray := prog_8_method_48_code
def yX6_ranked : MethodName := ⟨RX6, "ranked", "(I)I"⟩
abbrev cX6_dummies : ByteArray := prog_8_method_49_code
def yX6_dummies : MethodName := ⟨RX6, "dummies", "()I"⟩
abbrev cX6_blockers : ByteArray := prog_8_method_50_code
def yX6_blockers : MethodName := ⟨RX6, "blockers", "()I"⟩
abbrev cX6_withQuota : ByteArray := prog_8_method_51_code
def yX6_withQuota : MethodName := ⟨RX6, "withQuota", "(II)I"⟩
abbrev cX6_allWeights : ByteArray := prog_8_method_52_code
def yX6_allWeights : MethodName := ⟨RX6, "allWeights", "()I"⟩
abbrev cX6_leavesOut : ByteArray := prog_8_method_53_code
def yX6_leavesOut : MethodName := ⟨RX6, "leavesOut", "(II)I"⟩
abbrev cX6_apart : ByteArray := prog_8_method_54_code
def yX6_apart : MethodName := ⟨RX6, "apart", "(I)J"⟩
abbrev cX6_fairest : ByteArray := prog_8_method_55_code
def yX6_fairest : MethodName := ⟨RX6, "fairest", "()I"⟩
abbrev cX6_ballot : ByteArray := prog_8_method_56_code
def yX6_ballot : MethodName := ⟨RX6, "ballot", "(II)I"⟩
abbrev cX6_count : ByteArray := prog_8_method_57_code
def yX6_count : MethodName := ⟨RX6, "count", "(I)I"⟩
def RJ6 : String := "java/lang/Integer"
def TJ6 : u_T := fun k => match k with
  | _ => ("", "", "", false)
def tyJ6 : Nat → FieldType := fun k => match k with
  | _ => .int
abbrev wsJ60 : List Cond := u_ws RJ6 TJ6 0
theorem nmJ6 : ∀ a, a < 0 → ∀ b, b < 0 → a ≠ b → (TJ6 a).2.1 ≠ (TJ6 b).2.1 := by decide +kernel
theorem tyJ6_ok : ∀ k, k < 0 → parseFieldDescriptor (TJ6 k).2.2.1 = some (tyJ6 k) := by decide +kernel
abbrev cJ6_compare_7cf53 : ByteArray := prog_9_method_40_code
def yJ6_compare_7cf53 : MethodName := ⟨RJ6, "compare", "(II)I"⟩
abbrev cJ6_bitCount_0f7a4 : ByteArray := prog_9_method_49_code
def yJ6_bitCount_0f7a4 : MethodName := ⟨RJ6, "bitCount", "(I)I"⟩
def RJ9 : String := "java/lang/Math"
def TJ9 : u_T := fun k => match k with
  | _ => ("", "", "", false)
def tyJ9 : Nat → FieldType := fun k => match k with
  | _ => .int
abbrev wsJ90 : List Cond := u_ws RJ9 TJ9 0
theorem nmJ9 : ∀ a, a < 0 → ∀ b, b < 0 → a ≠ b → (TJ9 a).2.1 ≠ (TJ9 b).2.1 := by decide +kernel
theorem tyJ9_ok : ∀ k, k < 0 → parseFieldDescriptor (TJ9 k).2.2.1 = some (tyJ9 k) := by decide +kernel
abbrev cJ9_abs_0f7a4 : ByteArray := prog_10_method_59_code
def yJ9_abs_0f7a4 : MethodName := ⟨RJ9, "abs", "(I)I"⟩
abbrev cJ9_max_7cf53 : ByteArray := prog_10_method_65_code
def yJ9_max_7cf53 : MethodName := ⟨RJ9, "max", "(II)I"⟩
def RJ10 : String := "java/lang/System"
def TJ10 : u_T := fun k => match k with
  | _ => ("", "", "", false)
def tyJ10 : Nat → FieldType := fun k => match k with
  | _ => .int
abbrev wsJ100 : List Cond := u_ws RJ10 TJ10 0
theorem nmJ10 : ∀ a, a < 0 → ∀ b, b < 0 → a ≠ b → (TJ10 a).2.1 ≠ (TJ10 b).2.1 := by decide +kernel
theorem tyJ10_ok : ∀ k, k < 0 → parseFieldDescriptor (TJ10 k).2.2.1 = some (tyJ10 k) := by decide +kernel
def RJ7 : String := "java/util/Arrays"
def TJ7 : u_T := fun k => match k with
  | _ => ("", "", "", false)
def tyJ7 : Nat → FieldType := fun k => match k with
  | _ => .int
abbrev wsJ70 : List Cond := u_ws RJ7 TJ7 0
theorem nmJ7 : ∀ a, a < 0 → ∀ b, b < 0 → a ≠ b → (TJ7 a).2.1 ≠ (TJ7 b).2.1 := by decide +kernel
theorem tyJ7_ok : ∀ k, k < 0 → parseFieldDescriptor (TJ7 k).2.2.1 = some (tyJ7 k) := by decide +kernel
abbrev cJ7_fill_53178 : ByteArray := prog_12_method_103_code
def yJ7_fill_53178 : MethodName := ⟨RJ7, "fill", "([II)V"⟩
def RL : String := "SwingWeightsLaw"
abbrev cL_law : ByteArray := code
def yL_law : MethodName := ⟨RL, "law", "([I)Z"⟩
abbrev vwCl : List vw_C := [(RX0, TX0, 5), (RX1, TX1, 2), (RX2, TX2, 13), (RX3, TX3, 7), (RX4, TX4, 2), (RX5, TX5, 7), (RX6, TX6, 18)]
end
section
theorem dX0_init_0 : decode cX0_init 0 = .ok (.aload_n 0, 1) := by decide +kernel
theorem dX0_init_1 : decode cX0_init 1 = .ok (.invokespecial 3, 3) := by decide +kernel
theorem dX0_init_4 : decode cX0_init 4 = .ok (.aload_n 0, 1) := by decide +kernel
theorem dX0_init_5 : decode cX0_init 5 = .ok (.bipush 8, 2) := by decide +kernel
theorem dX0_init_7 : decode cX0_init 7 = .ok (.newarray .int, 2) := by decide +kernel
theorem dX0_init_9 : decode cX0_init 9 = .ok (.putfield 9, 3) := by decide +kernel
theorem dX0_init_12 : decode cX0_init 12 = .ok (.aload_n 0, 1) := by decide +kernel
theorem dX0_init_13 : decode cX0_init 13 = .ok (.bipush 8, 2) := by decide +kernel
theorem dX0_init_15 : decode cX0_init 15 = .ok (.newarray .int, 2) := by decide +kernel
theorem dX0_init_17 : decode cX0_init 17 = .ok (.putfield 15, 3) := by decide +kernel
theorem dX0_init_20 : decode cX0_init 20 = .ok (.aload_n 0, 1) := by decide +kernel
theorem dX0_init_21 : decode cX0_init 21 = .ok (.bipush 8, 2) := by decide +kernel
theorem dX0_init_23 : decode cX0_init 23 = .ok (.newarray .int, 2) := by decide +kernel
theorem dX0_init_25 : decode cX0_init 25 = .ok (.putfield 18, 3) := by decide +kernel
theorem dX0_init_28 : decode cX0_init 28 = .ok (.return_, 1) := by decide +kernel
theorem dX0_copyFrom_0 : decode cX0_copyFrom 0 = .ok (.aload_n 0, 1) := by decide +kernel
theorem dX0_copyFrom_1 : decode cX0_copyFrom 1 = .ok (.aload_n 1, 1) := by decide +kernel
theorem dX0_copyFrom_2 : decode cX0_copyFrom 2 = .ok (.getfield 21, 3) := by decide +kernel
theorem dX0_copyFrom_5 : decode cX0_copyFrom 5 = .ok (.putfield 21, 3) := by decide +kernel
theorem dX0_copyFrom_8 : decode cX0_copyFrom 8 = .ok (.aload_n 0, 1) := by decide +kernel
theorem dX0_copyFrom_9 : decode cX0_copyFrom 9 = .ok (.aload_n 1, 1) := by decide +kernel
theorem dX0_copyFrom_10 : decode cX0_copyFrom 10 = .ok (.getfield 25, 3) := by decide +kernel
theorem dX0_copyFrom_13 : decode cX0_copyFrom 13 = .ok (.putfield 25, 3) := by decide +kernel
theorem dX0_copyFrom_16 : decode cX0_copyFrom 16 = .ok (.aload_n 1, 1) := by decide +kernel
theorem dX0_copyFrom_17 : decode cX0_copyFrom 17 = .ok (.getfield 9, 3) := by decide +kernel
theorem dX0_copyFrom_20 : decode cX0_copyFrom 20 = .ok (.iconst 0, 1) := by decide +kernel
theorem dX0_copyFrom_21 : decode cX0_copyFrom 21 = .ok (.aload_n 0, 1) := by decide +kernel
theorem dX0_copyFrom_22 : decode cX0_copyFrom 22 = .ok (.getfield 9, 3) := by decide +kernel
theorem dX0_copyFrom_25 : decode cX0_copyFrom 25 = .ok (.iconst 0, 1) := by decide +kernel
theorem dX0_copyFrom_26 : decode cX0_copyFrom 26 = .ok (.bipush 8, 2) := by decide +kernel
theorem dX0_copyFrom_28 : decode cX0_copyFrom 28 = .ok (.invokestatic 28, 3) := by decide +kernel
theorem dX0_copyFrom_31 : decode cX0_copyFrom 31 = .ok (.aload_n 1, 1) := by decide +kernel
theorem dX0_copyFrom_32 : decode cX0_copyFrom 32 = .ok (.getfield 15, 3) := by decide +kernel
theorem dX0_copyFrom_35 : decode cX0_copyFrom 35 = .ok (.iconst 0, 1) := by decide +kernel
theorem dX0_copyFrom_36 : decode cX0_copyFrom 36 = .ok (.aload_n 0, 1) := by decide +kernel
theorem dX0_copyFrom_37 : decode cX0_copyFrom 37 = .ok (.getfield 15, 3) := by decide +kernel
theorem dX0_copyFrom_40 : decode cX0_copyFrom 40 = .ok (.iconst 0, 1) := by decide +kernel
theorem dX0_copyFrom_41 : decode cX0_copyFrom 41 = .ok (.bipush 8, 2) := by decide +kernel
theorem dX0_copyFrom_43 : decode cX0_copyFrom 43 = .ok (.invokestatic 28, 3) := by decide +kernel
theorem dX0_copyFrom_46 : decode cX0_copyFrom 46 = .ok (.aload_n 1, 1) := by decide +kernel
theorem dX0_copyFrom_47 : decode cX0_copyFrom 47 = .ok (.getfield 18, 3) := by decide +kernel
theorem dX0_copyFrom_50 : decode cX0_copyFrom 50 = .ok (.iconst 0, 1) := by decide +kernel
theorem dX0_copyFrom_51 : decode cX0_copyFrom 51 = .ok (.aload_n 0, 1) := by decide +kernel
theorem dX0_copyFrom_52 : decode cX0_copyFrom 52 = .ok (.getfield 18, 3) := by decide +kernel
theorem dX0_copyFrom_55 : decode cX0_copyFrom 55 = .ok (.iconst 0, 1) := by decide +kernel
theorem dX0_copyFrom_56 : decode cX0_copyFrom 56 = .ok (.bipush 8, 2) := by decide +kernel
theorem dX0_copyFrom_58 : decode cX0_copyFrom 58 = .ok (.invokestatic 28, 3) := by decide +kernel
theorem dX0_copyFrom_61 : decode cX0_copyFrom 61 = .ok (.return_, 1) := by decide +kernel
theorem dX0_add_0 : decode cX0_add 0 = .ok (.aload_n 0, 1) := by decide +kernel
theorem dX0_add_1 : decode cX0_add 1 = .ok (.dup, 1) := by decide +kernel
theorem dX0_add_2 : decode cX0_add 2 = .ok (.getfield 21, 3) := by decide +kernel
theorem dX0_add_5 : decode cX0_add 5 = .ok (.iconst 1, 1) := by decide +kernel
theorem dX0_add_6 : decode cX0_add 6 = .ok (.iadd, 1) := by decide +kernel
theorem dX0_add_7 : decode cX0_add 7 = .ok (.putfield 21, 3) := by decide +kernel
theorem dX0_add_10 : decode cX0_add 10 = .ok (.aload_n 0, 1) := by decide +kernel
theorem dX0_add_11 : decode cX0_add 11 = .ok (.dup, 1) := by decide +kernel
theorem dX0_add_12 : decode cX0_add 12 = .ok (.getfield 25, 3) := by decide +kernel
theorem dX0_add_15 : decode cX0_add 15 = .ok (.iload_n 1, 1) := by decide +kernel
theorem dX0_add_16 : decode cX0_add 16 = .ok (.invokestatic 34, 3) := by decide +kernel
theorem dX0_add_19 : decode cX0_add 19 = .ok (.iadd, 1) := by decide +kernel
theorem dX0_add_20 : decode cX0_add 20 = .ok (.putfield 25, 3) := by decide +kernel
theorem dX0_add_23 : decode cX0_add 23 = .ok (.aload_n 0, 1) := by decide +kernel
theorem dX0_add_24 : decode cX0_add 24 = .ok (.getfield 9, 3) := by decide +kernel
theorem dX0_add_27 : decode cX0_add 27 = .ok (.iload_n 1, 1) := by decide +kernel
theorem dX0_add_28 : decode cX0_add 28 = .ok (.invokestatic 34, 3) := by decide +kernel
theorem dX0_add_31 : decode cX0_add 31 = .ok (.invokestatic 38, 3) := by decide +kernel
theorem dX0_add_34 : decode cX0_add 34 = .ok (.aload_n 0, 1) := by decide +kernel
theorem dX0_add_35 : decode cX0_add 35 = .ok (.getfield 15, 3) := by decide +kernel
theorem dX0_add_38 : decode cX0_add 38 = .ok (.iload_n 2, 1) := by decide +kernel
theorem dX0_add_39 : decode cX0_add 39 = .ok (.invokestatic 38, 3) := by decide +kernel
theorem dX0_add_42 : decode cX0_add 42 = .ok (.aload_n 0, 1) := by decide +kernel
theorem dX0_add_43 : decode cX0_add 43 = .ok (.getfield 18, 3) := by decide +kernel
theorem dX0_add_46 : decode cX0_add 46 = .ok (.iload_n 3, 1) := by decide +kernel
theorem dX0_add_47 : decode cX0_add 47 = .ok (.invokestatic 38, 3) := by decide +kernel
theorem dX0_add_50 : decode cX0_add 50 = .ok (.return_, 1) := by decide +kernel
theorem dX0_putFirst_0 : decode cX0_putFirst 0 = .ok (.aload_n 0, 1) := by decide +kernel
theorem dX0_putFirst_1 : decode cX0_putFirst 1 = .ok (.arraylength, 1) := by decide +kernel
theorem dX0_putFirst_2 : decode cX0_putFirst 2 = .ok (.iconst 1, 1) := by decide +kernel
theorem dX0_putFirst_3 : decode cX0_putFirst 3 = .ok (.isub, 1) := by decide +kernel
theorem dX0_putFirst_4 : decode cX0_putFirst 4 = .ok (.istore_n 2, 1) := by decide +kernel
theorem dX0_putFirst_5 : decode cX0_putFirst 5 = .ok (.iload_n 2, 1) := by decide +kernel
theorem dX0_putFirst_6 : decode cX0_putFirst 6 = .ok (.ifCond .le 17, 3) := by decide +kernel
theorem dX0_putFirst_9 : decode cX0_putFirst 9 = .ok (.aload_n 0, 1) := by decide +kernel
theorem dX0_putFirst_10 : decode cX0_putFirst 10 = .ok (.iload_n 2, 1) := by decide +kernel
theorem dX0_putFirst_11 : decode cX0_putFirst 11 = .ok (.aload_n 0, 1) := by decide +kernel
theorem dX0_putFirst_12 : decode cX0_putFirst 12 = .ok (.iload_n 2, 1) := by decide +kernel
theorem dX0_putFirst_13 : decode cX0_putFirst 13 = .ok (.iconst 1, 1) := by decide +kernel
theorem dX0_putFirst_14 : decode cX0_putFirst 14 = .ok (.isub, 1) := by decide +kernel
theorem dX0_putFirst_15 : decode cX0_putFirst 15 = .ok (.iaload, 1) := by decide +kernel
theorem dX0_putFirst_16 : decode cX0_putFirst 16 = .ok (.iastore, 1) := by decide +kernel
theorem dX0_putFirst_17 : decode cX0_putFirst 17 = .ok (.iinc 2 (-1), 3) := by decide +kernel
theorem dX0_putFirst_20 : decode cX0_putFirst 20 = .ok (.goto (-15), 3) := by decide +kernel
theorem dX0_putFirst_23 : decode cX0_putFirst 23 = .ok (.aload_n 0, 1) := by decide +kernel
theorem dX0_putFirst_24 : decode cX0_putFirst 24 = .ok (.arraylength, 1) := by decide +kernel
theorem dX0_putFirst_25 : decode cX0_putFirst 25 = .ok (.ifCond .le 7, 3) := by decide +kernel
theorem dX0_putFirst_28 : decode cX0_putFirst 28 = .ok (.aload_n 0, 1) := by decide +kernel
theorem dX0_putFirst_29 : decode cX0_putFirst 29 = .ok (.iconst 0, 1) := by decide +kernel
theorem dX0_putFirst_30 : decode cX0_putFirst 30 = .ok (.iload_n 1, 1) := by decide +kernel
theorem dX0_putFirst_31 : decode cX0_putFirst 31 = .ok (.iastore, 1) := by decide +kernel
theorem dX0_putFirst_32 : decode cX0_putFirst 32 = .ok (.return_, 1) := by decide +kernel
theorem dX1_init_0 : decode cX1_init 0 = .ok (.aload_n 0, 1) := by decide +kernel
theorem dX1_init_1 : decode cX1_init 1 = .ok (.invokespecial 3, 3) := by decide +kernel
theorem dX1_init_4 : decode cX1_init 4 = .ok (.aload_n 0, 1) := by decide +kernel
theorem dX1_init_5 : decode cX1_init 5 = .ok (.iconst 4, 1) := by decide +kernel
theorem dX1_init_6 : decode cX1_init 6 = .ok (.anewarray 9, 3) := by decide +kernel
theorem dX1_init_9 : decode cX1_init 9 = .ok (.putfield 11, 3) := by decide +kernel
theorem dX1_init_12 : decode cX1_init 12 = .ok (.iconst 0, 1) := by decide +kernel
theorem dX1_init_13 : decode cX1_init 13 = .ok (.istore_n 1, 1) := by decide +kernel
theorem dX1_init_14 : decode cX1_init 14 = .ok (.iload_n 1, 1) := by decide +kernel
theorem dX1_init_15 : decode cX1_init 15 = .ok (.iconst 4, 1) := by decide +kernel
theorem dX1_init_16 : decode cX1_init 16 = .ok (.if_icmp .ge 22, 3) := by decide +kernel
theorem dX1_init_19 : decode cX1_init 19 = .ok (.aload_n 0, 1) := by decide +kernel
theorem dX1_init_20 : decode cX1_init 20 = .ok (.getfield 11, 3) := by decide +kernel
theorem dX1_init_23 : decode cX1_init 23 = .ok (.iload_n 1, 1) := by decide +kernel
theorem dX1_init_24 : decode cX1_init 24 = .ok (.new 9, 3) := by decide +kernel
theorem dX1_init_27 : decode cX1_init 27 = .ok (.dup, 1) := by decide +kernel
theorem dX1_init_28 : decode cX1_init 28 = .ok (.invokespecial 17, 3) := by decide +kernel
theorem dX1_init_31 : decode cX1_init 31 = .ok (.aastore, 1) := by decide +kernel
theorem dX1_init_32 : decode cX1_init 32 = .ok (.iinc 1 1, 3) := by decide +kernel
theorem dX1_init_35 : decode cX1_init 35 = .ok (.goto (-21), 3) := by decide +kernel
theorem dX1_init_38 : decode cX1_init 38 = .ok (.return_, 1) := by decide +kernel
theorem dX1_add_0 : decode cX1_add 0 = .ok (.aload_n 0, 1) := by decide +kernel
theorem dX1_add_1 : decode cX1_add 1 = .ok (.getfield 18, 3) := by decide +kernel
theorem dX1_add_4 : decode cX1_add 4 = .ok (.iconst 4, 1) := by decide +kernel
theorem dX1_add_5 : decode cX1_add 5 = .ok (.if_icmp .ne 7, 3) := by decide +kernel
theorem dX1_add_8 : decode cX1_add 8 = .ok (.aload_n 0, 1) := by decide +kernel
theorem dX1_add_9 : decode cX1_add 9 = .ok (.invokevirtual 22, 3) := by decide +kernel
theorem dX1_add_12 : decode cX1_add 12 = .ok (.aload_n 0, 1) := by decide +kernel
theorem dX1_add_13 : decode cX1_add 13 = .ok (.getfield 11, 3) := by decide +kernel
theorem dX1_add_16 : decode cX1_add 16 = .ok (.aload_n 0, 1) := by decide +kernel
theorem dX1_add_17 : decode cX1_add 17 = .ok (.getfield 18, 3) := by decide +kernel
theorem dX1_add_20 : decode cX1_add 20 = .ok (.aaload, 1) := by decide +kernel
theorem dX1_add_21 : decode cX1_add 21 = .ok (.aload_n 1, 1) := by decide +kernel
theorem dX1_add_22 : decode cX1_add 22 = .ok (.invokevirtual 25, 3) := by decide +kernel
theorem dX1_add_25 : decode cX1_add 25 = .ok (.aload_n 0, 1) := by decide +kernel
theorem dX1_add_26 : decode cX1_add 26 = .ok (.dup, 1) := by decide +kernel
theorem dX1_add_27 : decode cX1_add 27 = .ok (.getfield 18, 3) := by decide +kernel
theorem dX1_add_30 : decode cX1_add 30 = .ok (.iconst 1, 1) := by decide +kernel
theorem dX1_add_31 : decode cX1_add 31 = .ok (.iadd, 1) := by decide +kernel
theorem dX1_add_32 : decode cX1_add 32 = .ok (.putfield 18, 3) := by decide +kernel
theorem dX1_add_35 : decode cX1_add 35 = .ok (.return_, 1) := by decide +kernel
theorem dX1_dropOldest_0 : decode cX1_dropOldest 0 = .ok (.aload_n 0, 1) := by decide +kernel
theorem dX1_dropOldest_1 : decode cX1_dropOldest 1 = .ok (.getfield 11, 3) := by decide +kernel
theorem dX1_dropOldest_4 : decode cX1_dropOldest 4 = .ok (.iconst 0, 1) := by decide +kernel
theorem dX1_dropOldest_5 : decode cX1_dropOldest 5 = .ok (.aaload, 1) := by decide +kernel
theorem dX1_dropOldest_6 : decode cX1_dropOldest 6 = .ok (.astore_n 1, 1) := by decide +kernel
theorem dX1_dropOldest_7 : decode cX1_dropOldest 7 = .ok (.iconst 1, 1) := by decide +kernel
theorem dX1_dropOldest_8 : decode cX1_dropOldest 8 = .ok (.istore_n 2, 1) := by decide +kernel
theorem dX1_dropOldest_9 : decode cX1_dropOldest 9 = .ok (.iload_n 2, 1) := by decide +kernel
theorem dX1_dropOldest_10 : decode cX1_dropOldest 10 = .ok (.iconst 4, 1) := by decide +kernel
theorem dX1_dropOldest_11 : decode cX1_dropOldest 11 = .ok (.if_icmp .ge 23, 3) := by decide +kernel
theorem dX1_dropOldest_14 : decode cX1_dropOldest 14 = .ok (.aload_n 0, 1) := by decide +kernel
theorem dX1_dropOldest_15 : decode cX1_dropOldest 15 = .ok (.getfield 11, 3) := by decide +kernel
theorem dX1_dropOldest_18 : decode cX1_dropOldest 18 = .ok (.iload_n 2, 1) := by decide +kernel
theorem dX1_dropOldest_19 : decode cX1_dropOldest 19 = .ok (.iconst 1, 1) := by decide +kernel
theorem dX1_dropOldest_20 : decode cX1_dropOldest 20 = .ok (.isub, 1) := by decide +kernel
theorem dX1_dropOldest_21 : decode cX1_dropOldest 21 = .ok (.aload_n 0, 1) := by decide +kernel
theorem dX1_dropOldest_22 : decode cX1_dropOldest 22 = .ok (.getfield 11, 3) := by decide +kernel
theorem dX1_dropOldest_25 : decode cX1_dropOldest 25 = .ok (.iload_n 2, 1) := by decide +kernel
theorem dX1_dropOldest_26 : decode cX1_dropOldest 26 = .ok (.aaload, 1) := by decide +kernel
theorem dX1_dropOldest_27 : decode cX1_dropOldest 27 = .ok (.aastore, 1) := by decide +kernel
theorem dX1_dropOldest_28 : decode cX1_dropOldest 28 = .ok (.iinc 2 1, 3) := by decide +kernel
theorem dX1_dropOldest_31 : decode cX1_dropOldest 31 = .ok (.goto (-22), 3) := by decide +kernel
theorem dX1_dropOldest_34 : decode cX1_dropOldest 34 = .ok (.aload_n 0, 1) := by decide +kernel
theorem dX1_dropOldest_35 : decode cX1_dropOldest 35 = .ok (.getfield 11, 3) := by decide +kernel
theorem dX1_dropOldest_38 : decode cX1_dropOldest 38 = .ok (.iconst 3, 1) := by decide +kernel
theorem dX1_dropOldest_39 : decode cX1_dropOldest 39 = .ok (.aload_n 1, 1) := by decide +kernel
theorem dX1_dropOldest_40 : decode cX1_dropOldest 40 = .ok (.aastore, 1) := by decide +kernel
theorem dX1_dropOldest_41 : decode cX1_dropOldest 41 = .ok (.aload_n 0, 1) := by decide +kernel
theorem dX1_dropOldest_42 : decode cX1_dropOldest 42 = .ok (.dup, 1) := by decide +kernel
theorem dX1_dropOldest_43 : decode cX1_dropOldest 43 = .ok (.getfield 18, 3) := by decide +kernel
theorem dX1_dropOldest_46 : decode cX1_dropOldest 46 = .ok (.iconst 1, 1) := by decide +kernel
theorem dX1_dropOldest_47 : decode cX1_dropOldest 47 = .ok (.isub, 1) := by decide +kernel
theorem dX1_dropOldest_48 : decode cX1_dropOldest 48 = .ok (.putfield 18, 3) := by decide +kernel
theorem dX1_dropOldest_51 : decode cX1_dropOldest 51 = .ok (.return_, 1) := by decide +kernel
theorem dX1_takeLatest_0 : decode cX1_takeLatest 0 = .ok (.aload_n 0, 1) := by decide +kernel
theorem dX1_takeLatest_1 : decode cX1_takeLatest 1 = .ok (.getfield 18, 3) := by decide +kernel
theorem dX1_takeLatest_4 : decode cX1_takeLatest 4 = .ok (.ifCond .le 26, 3) := by decide +kernel
theorem dX1_takeLatest_7 : decode cX1_takeLatest 7 = .ok (.aload_n 0, 1) := by decide +kernel
theorem dX1_takeLatest_8 : decode cX1_takeLatest 8 = .ok (.dup, 1) := by decide +kernel
theorem dX1_takeLatest_9 : decode cX1_takeLatest 9 = .ok (.getfield 18, 3) := by decide +kernel
theorem dX1_takeLatest_12 : decode cX1_takeLatest 12 = .ok (.iconst 1, 1) := by decide +kernel
theorem dX1_takeLatest_13 : decode cX1_takeLatest 13 = .ok (.isub, 1) := by decide +kernel
theorem dX1_takeLatest_14 : decode cX1_takeLatest 14 = .ok (.putfield 18, 3) := by decide +kernel
theorem dX1_takeLatest_17 : decode cX1_takeLatest 17 = .ok (.aload_n 1, 1) := by decide +kernel
theorem dX1_takeLatest_18 : decode cX1_takeLatest 18 = .ok (.aload_n 0, 1) := by decide +kernel
theorem dX1_takeLatest_19 : decode cX1_takeLatest 19 = .ok (.getfield 11, 3) := by decide +kernel
theorem dX1_takeLatest_22 : decode cX1_takeLatest 22 = .ok (.aload_n 0, 1) := by decide +kernel
theorem dX1_takeLatest_23 : decode cX1_takeLatest 23 = .ok (.getfield 18, 3) := by decide +kernel
theorem dX1_takeLatest_26 : decode cX1_takeLatest 26 = .ok (.aaload, 1) := by decide +kernel
theorem dX1_takeLatest_27 : decode cX1_takeLatest 27 = .ok (.invokevirtual 25, 3) := by decide +kernel
theorem dX1_takeLatest_30 : decode cX1_takeLatest 30 = .ok (.return_, 1) := by decide +kernel
theorem dX2_init_0 : decode cX2_init 0 = .ok (.aload_n 0, 1) := by decide +kernel
theorem dX2_init_1 : decode cX2_init 1 = .ok (.invokespecial 3, 3) := by decide +kernel
theorem dX2_init_4 : decode cX2_init 4 = .ok (.aload_n 0, 1) := by decide +kernel
theorem dX2_init_5 : decode cX2_init 5 = .ok (.bipush 10, 2) := by decide +kernel
theorem dX2_init_7 : decode cX2_init 7 = .ok (.newarray .int, 2) := by decide +kernel
theorem dX2_init_9 : decode cX2_init 9 = .ok (.putfield 9, 3) := by decide +kernel
theorem dX2_init_12 : decode cX2_init 12 = .ok (.aload_n 0, 1) := by decide +kernel
theorem dX2_init_13 : decode cX2_init 13 = .ok (.bipush 10, 2) := by decide +kernel
theorem dX2_init_15 : decode cX2_init 15 = .ok (.newarray .int, 2) := by decide +kernel
theorem dX2_init_17 : decode cX2_init 17 = .ok (.putfield 15, 3) := by decide +kernel
theorem dX2_init_20 : decode cX2_init 20 = .ok (.aload_n 0, 1) := by decide +kernel
theorem dX2_init_21 : decode cX2_init 21 = .ok (.sipush 1024, 3) := by decide +kernel
theorem dX2_init_24 : decode cX2_init 24 = .ok (.newarray .int, 2) := by decide +kernel
theorem dX2_init_26 : decode cX2_init 26 = .ok (.putfield 18, 3) := by decide +kernel
theorem dX2_init_29 : decode cX2_init 29 = .ok (.aload_n 0, 1) := by decide +kernel
theorem dX2_init_30 : decode cX2_init 30 = .ok (.sipush 1024, 3) := by decide +kernel
theorem dX2_init_33 : decode cX2_init 33 = .ok (.newarray .int, 2) := by decide +kernel
theorem dX2_init_35 : decode cX2_init 35 = .ok (.putfield 21, 3) := by decide +kernel
theorem dX2_init_38 : decode cX2_init 38 = .ok (.aload_n 0, 1) := by decide +kernel
theorem dX2_init_39 : decode cX2_init 39 = .ok (.bipush 11, 2) := by decide +kernel
theorem dX2_init_41 : decode cX2_init 41 = .ok (.sipush 501, 3) := by decide +kernel
theorem dX2_init_44 : decode cX2_init 44 = .ok (.multianewarray 24 2, 4) := by decide +kernel
theorem dX2_init_48 : decode cX2_init 48 = .ok (.putfield 26, 3) := by decide +kernel
theorem dX2_init_51 : decode cX2_init 51 = .ok (.aload_n 0, 1) := by decide +kernel
theorem dX2_init_52 : decode cX2_init 52 = .ok (.sipush 252, 3) := by decide +kernel
theorem dX2_init_55 : decode cX2_init 55 = .ok (.newarray .int, 2) := by decide +kernel
theorem dX2_init_57 : decode cX2_init 57 = .ok (.putfield 29, 3) := by decide +kernel
theorem dX2_init_60 : decode cX2_init 60 = .ok (.return_, 1) := by decide +kernel
theorem dX2_workOut_0 : decode cX2_workOut 0 = .ok (.aload_n 0, 1) := by decide +kernel
theorem dX2_workOut_1 : decode cX2_workOut 1 = .ok (.aload_n 1, 1) := by decide +kernel
theorem dX2_workOut_2 : decode cX2_workOut 2 = .ok (.getfield 32, 3) := by decide +kernel
theorem dX2_workOut_5 : decode cX2_workOut 5 = .ok (.putfield 38, 3) := by decide +kernel
theorem dX2_workOut_8 : decode cX2_workOut 8 = .ok (.aload_n 0, 1) := by decide +kernel
theorem dX2_workOut_9 : decode cX2_workOut 9 = .ok (.aload_n 1, 1) := by decide +kernel
theorem dX2_workOut_10 : decode cX2_workOut 10 = .ok (.getfield 39, 3) := by decide +kernel
theorem dX2_workOut_13 : decode cX2_workOut 13 = .ok (.putfield 42, 3) := by decide +kernel
theorem dX2_workOut_16 : decode cX2_workOut 16 = .ok (.aload_n 0, 1) := by decide +kernel
theorem dX2_workOut_17 : decode cX2_workOut 17 = .ok (.aload_n 1, 1) := by decide +kernel
theorem dX2_workOut_18 : decode cX2_workOut 18 = .ok (.getfield 43, 3) := by decide +kernel
theorem dX2_workOut_21 : decode cX2_workOut 21 = .ok (.putfield 46, 3) := by decide +kernel
theorem dX2_workOut_24 : decode cX2_workOut 24 = .ok (.aload_n 0, 1) := by decide +kernel
theorem dX2_workOut_25 : decode cX2_workOut 25 = .ok (.iconst 0, 1) := by decide +kernel
theorem dX2_workOut_26 : decode cX2_workOut 26 = .ok (.putfield 47, 3) := by decide +kernel
theorem dX2_workOut_29 : decode cX2_workOut 29 = .ok (.iconst 0, 1) := by decide +kernel
theorem dX2_workOut_30 : decode cX2_workOut 30 = .ok (.istore_n 2, 1) := by decide +kernel
theorem dX2_workOut_31 : decode cX2_workOut 31 = .ok (.iload_n 2, 1) := by decide +kernel
theorem dX2_workOut_32 : decode cX2_workOut 32 = .ok (.aload_n 0, 1) := by decide +kernel
theorem dX2_workOut_33 : decode cX2_workOut 33 = .ok (.getfield 38, 3) := by decide +kernel
theorem dX2_workOut_36 : decode cX2_workOut 36 = .ok (.if_icmp .ge 58, 3) := by decide +kernel
theorem dX2_workOut_39 : decode cX2_workOut 39 = .ok (.aload_n 0, 1) := by decide +kernel
theorem dX2_workOut_40 : decode cX2_workOut 40 = .ok (.getfield 9, 3) := by decide +kernel
theorem dX2_workOut_43 : decode cX2_workOut 43 = .ok (.iload_n 2, 1) := by decide +kernel
theorem dX2_workOut_44 : decode cX2_workOut 44 = .ok (.aload_n 1, 1) := by decide +kernel
theorem dX2_workOut_45 : decode cX2_workOut 45 = .ok (.getfield 50, 3) := by decide +kernel
theorem dX2_workOut_48 : decode cX2_workOut 48 = .ok (.iload_n 2, 1) := by decide +kernel
theorem dX2_workOut_49 : decode cX2_workOut 49 = .ok (.iaload, 1) := by decide +kernel
theorem dX2_workOut_50 : decode cX2_workOut 50 = .ok (.iastore, 1) := by decide +kernel
theorem dX2_workOut_51 : decode cX2_workOut 51 = .ok (.aload_n 0, 1) := by decide +kernel
theorem dX2_workOut_52 : decode cX2_workOut 52 = .ok (.getfield 15, 3) := by decide +kernel
theorem dX2_workOut_55 : decode cX2_workOut 55 = .ok (.iload_n 2, 1) := by decide +kernel
theorem dX2_workOut_56 : decode cX2_workOut 56 = .ok (.aload_n 1, 1) := by decide +kernel
theorem dX2_workOut_57 : decode cX2_workOut 57 = .ok (.aload_n 1, 1) := by decide +kernel
theorem dX2_workOut_58 : decode cX2_workOut 58 = .ok (.getfield 50, 3) := by decide +kernel
theorem dX2_workOut_61 : decode cX2_workOut 61 = .ok (.iload_n 2, 1) := by decide +kernel
theorem dX2_workOut_62 : decode cX2_workOut 62 = .ok (.iaload, 1) := by decide +kernel
theorem dX2_workOut_63 : decode cX2_workOut 63 = .ok (.invokevirtual 51, 3) := by decide +kernel
theorem dX2_workOut_66 : decode cX2_workOut 66 = .ok (.iastore, 1) := by decide +kernel
theorem dX2_workOut_67 : decode cX2_workOut 67 = .ok (.aload_n 1, 1) := by decide +kernel
theorem dX2_workOut_68 : decode cX2_workOut 68 = .ok (.iload_n 2, 1) := by decide +kernel
theorem dX2_workOut_69 : decode cX2_workOut 69 = .ok (.invokevirtual 55, 3) := by decide +kernel
theorem dX2_workOut_72 : decode cX2_workOut 72 = .ok (.ifCond .eq 16, 3) := by decide +kernel
theorem dX2_workOut_75 : decode cX2_workOut 75 = .ok (.aload_n 0, 1) := by decide +kernel
theorem dX2_workOut_76 : decode cX2_workOut 76 = .ok (.dup, 1) := by decide +kernel
theorem dX2_workOut_77 : decode cX2_workOut 77 = .ok (.getfield 47, 3) := by decide +kernel
theorem dX2_workOut_80 : decode cX2_workOut 80 = .ok (.iload_n 2, 1) := by decide +kernel
theorem dX2_workOut_81 : decode cX2_workOut 81 = .ok (.invokestatic 59, 3) := by decide +kernel
theorem dX2_workOut_84 : decode cX2_workOut 84 = .ok (.ior, 1) := by decide +kernel
theorem dX2_workOut_85 : decode cX2_workOut 85 = .ok (.putfield 47, 3) := by decide +kernel
theorem dX2_workOut_88 : decode cX2_workOut 88 = .ok (.iinc 2 1, 3) := by decide +kernel
theorem dX2_workOut_91 : decode cX2_workOut 91 = .ok (.goto (-60), 3) := by decide +kernel
theorem dX2_workOut_94 : decode cX2_workOut 94 = .ok (.aload_n 0, 1) := by decide +kernel
theorem dX2_workOut_95 : decode cX2_workOut 95 = .ok (.aload_n 0, 1) := by decide +kernel
theorem dX2_workOut_96 : decode cX2_workOut 96 = .ok (.getfield 47, 3) := by decide +kernel
theorem dX2_workOut_99 : decode cX2_workOut 99 = .ok (.invokestatic 62, 3) := by decide +kernel
theorem dX2_workOut_102 : decode cX2_workOut 102 = .ok (.putfield 67, 3) := by decide +kernel
theorem dX2_workOut_105 : decode cX2_workOut 105 = .ok (.aload_n 0, 1) := by decide +kernel
theorem dX2_workOut_106 : decode cX2_workOut 106 = .ok (.invokevirtual 70, 3) := by decide +kernel
theorem dX2_workOut_109 : decode cX2_workOut 109 = .ok (.aload_n 0, 1) := by decide +kernel
theorem dX2_workOut_110 : decode cX2_workOut 110 = .ok (.invokevirtual 73, 3) := by decide +kernel
theorem dX2_workOut_113 : decode cX2_workOut 113 = .ok (.aload_n 0, 1) := by decide +kernel
theorem dX2_workOut_114 : decode cX2_workOut 114 = .ok (.iconst (-1), 1) := by decide +kernel
theorem dX2_workOut_115 : decode cX2_workOut 115 = .ok (.putfield 76, 3) := by decide +kernel
theorem dX2_workOut_118 : decode cX2_workOut 118 = .ok (.return_, 1) := by decide +kernel
theorem dX2_listCoalitions_0 : decode cX2_listCoalitions 0 = .ok (.aload_n 0, 1) := by decide +kernel
theorem dX2_listCoalitions_1 : decode cX2_listCoalitions 1 = .ok (.getfield 18, 3) := by decide +kernel
theorem dX2_listCoalitions_4 : decode cX2_listCoalitions 4 = .ok (.iconst 0, 1) := by decide +kernel
theorem dX2_listCoalitions_5 : decode cX2_listCoalitions 5 = .ok (.iconst 0, 1) := by decide +kernel
theorem dX2_listCoalitions_6 : decode cX2_listCoalitions 6 = .ok (.iastore, 1) := by decide +kernel
theorem dX2_listCoalitions_7 : decode cX2_listCoalitions 7 = .ok (.aload_n 0, 1) := by decide +kernel
theorem dX2_listCoalitions_8 : decode cX2_listCoalitions 8 = .ok (.getfield 21, 3) := by decide +kernel
theorem dX2_listCoalitions_11 : decode cX2_listCoalitions 11 = .ok (.iconst 0, 1) := by decide +kernel
theorem dX2_listCoalitions_12 : decode cX2_listCoalitions 12 = .ok (.iconst 0, 1) := by decide +kernel
theorem dX2_listCoalitions_13 : decode cX2_listCoalitions 13 = .ok (.iastore, 1) := by decide +kernel
theorem dX2_listCoalitions_14 : decode cX2_listCoalitions 14 = .ok (.aload_n 0, 1) := by decide +kernel
theorem dX2_listCoalitions_15 : decode cX2_listCoalitions 15 = .ok (.iconst 1, 1) := by decide +kernel
theorem dX2_listCoalitions_16 : decode cX2_listCoalitions 16 = .ok (.putfield 79, 3) := by decide +kernel
theorem dX2_listCoalitions_19 : decode cX2_listCoalitions 19 = .ok (.iconst 0, 1) := by decide +kernel
theorem dX2_listCoalitions_20 : decode cX2_listCoalitions 20 = .ok (.istore_n 1, 1) := by decide +kernel
theorem dX2_listCoalitions_21 : decode cX2_listCoalitions 21 = .ok (.iload_n 1, 1) := by decide +kernel
theorem dX2_listCoalitions_22 : decode cX2_listCoalitions 22 = .ok (.aload_n 0, 1) := by decide +kernel
theorem dX2_listCoalitions_23 : decode cX2_listCoalitions 23 = .ok (.getfield 38, 3) := by decide +kernel
theorem dX2_listCoalitions_26 : decode cX2_listCoalitions 26 = .ok (.if_icmp .ge 25, 3) := by decide +kernel
theorem dX2_listCoalitions_29 : decode cX2_listCoalitions 29 = .ok (.aload_n 0, 1) := by decide +kernel
theorem dX2_listCoalitions_30 : decode cX2_listCoalitions 30 = .ok (.getfield 47, 3) := by decide +kernel
theorem dX2_listCoalitions_33 : decode cX2_listCoalitions 33 = .ok (.iload_n 1, 1) := by decide +kernel
theorem dX2_listCoalitions_34 : decode cX2_listCoalitions 34 = .ok (.invokestatic 82, 3) := by decide +kernel
theorem dX2_listCoalitions_37 : decode cX2_listCoalitions 37 = .ok (.ifCond .eq 8, 3) := by decide +kernel
theorem dX2_listCoalitions_40 : decode cX2_listCoalitions 40 = .ok (.aload_n 0, 1) := by decide +kernel
theorem dX2_listCoalitions_41 : decode cX2_listCoalitions 41 = .ok (.iload_n 1, 1) := by decide +kernel
theorem dX2_listCoalitions_42 : decode cX2_listCoalitions 42 = .ok (.invokevirtual 86, 3) := by decide +kernel
theorem dX2_listCoalitions_45 : decode cX2_listCoalitions 45 = .ok (.iinc 1 1, 3) := by decide +kernel
theorem dX2_listCoalitions_48 : decode cX2_listCoalitions 48 = .ok (.goto (-27), 3) := by decide +kernel
theorem dX2_listCoalitions_51 : decode cX2_listCoalitions 51 = .ok (.return_, 1) := by decide +kernel
theorem dX2_repeatCoalitionsWith_0 : decode cX2_repeatCoalitionsWith 0 = .ok (.aload_n 0, 1) := by decide +kernel
theorem dX2_repeatCoalitionsWith_1 : decode cX2_repeatCoalitionsWith 1 = .ok (.getfield 79, 3) := by decide +kernel
theorem dX2_repeatCoalitionsWith_4 : decode cX2_repeatCoalitionsWith 4 = .ok (.istore_n 2, 1) := by decide +kernel
theorem dX2_repeatCoalitionsWith_5 : decode cX2_repeatCoalitionsWith 5 = .ok (.iconst 0, 1) := by decide +kernel
theorem dX2_repeatCoalitionsWith_6 : decode cX2_repeatCoalitionsWith 6 = .ok (.istore_n 3, 1) := by decide +kernel
theorem dX2_repeatCoalitionsWith_7 : decode cX2_repeatCoalitionsWith 7 = .ok (.iload_n 3, 1) := by decide +kernel
theorem dX2_repeatCoalitionsWith_8 : decode cX2_repeatCoalitionsWith 8 = .ok (.iload_n 2, 1) := by decide +kernel
theorem dX2_repeatCoalitionsWith_9 : decode cX2_repeatCoalitionsWith 9 = .ok (.if_icmp .ge 72, 3) := by decide +kernel
theorem dX2_repeatCoalitionsWith_12 : decode cX2_repeatCoalitionsWith 12 = .ok (.iload_n 2, 1) := by decide +kernel
theorem dX2_repeatCoalitionsWith_13 : decode cX2_repeatCoalitionsWith 13 = .ok (.iload_n 3, 1) := by decide +kernel
theorem dX2_repeatCoalitionsWith_14 : decode cX2_repeatCoalitionsWith 14 = .ok (.iadd, 1) := by decide +kernel
theorem dX2_repeatCoalitionsWith_15 : decode cX2_repeatCoalitionsWith 15 = .ok (.aload_n 0, 1) := by decide +kernel
theorem dX2_repeatCoalitionsWith_16 : decode cX2_repeatCoalitionsWith 16 = .ok (.getfield 18, 3) := by decide +kernel
theorem dX2_repeatCoalitionsWith_19 : decode cX2_repeatCoalitionsWith 19 = .ok (.arraylength, 1) := by decide +kernel
theorem dX2_repeatCoalitionsWith_20 : decode cX2_repeatCoalitionsWith 20 = .ok (.if_icmp .ge 61, 3) := by decide +kernel
theorem dX2_repeatCoalitionsWith_23 : decode cX2_repeatCoalitionsWith 23 = .ok (.aload_n 0, 1) := by decide +kernel
theorem dX2_repeatCoalitionsWith_24 : decode cX2_repeatCoalitionsWith 24 = .ok (.getfield 18, 3) := by decide +kernel
theorem dX2_repeatCoalitionsWith_27 : decode cX2_repeatCoalitionsWith 27 = .ok (.iload_n 2, 1) := by decide +kernel
theorem dX2_repeatCoalitionsWith_28 : decode cX2_repeatCoalitionsWith 28 = .ok (.iload_n 3, 1) := by decide +kernel
theorem dX2_repeatCoalitionsWith_29 : decode cX2_repeatCoalitionsWith 29 = .ok (.iadd, 1) := by decide +kernel
theorem dX2_repeatCoalitionsWith_30 : decode cX2_repeatCoalitionsWith 30 = .ok (.aload_n 0, 1) := by decide +kernel
theorem dX2_repeatCoalitionsWith_31 : decode cX2_repeatCoalitionsWith 31 = .ok (.getfield 18, 3) := by decide +kernel
theorem dX2_repeatCoalitionsWith_34 : decode cX2_repeatCoalitionsWith 34 = .ok (.iload_n 3, 1) := by decide +kernel
theorem dX2_repeatCoalitionsWith_35 : decode cX2_repeatCoalitionsWith 35 = .ok (.iaload, 1) := by decide +kernel
theorem dX2_repeatCoalitionsWith_36 : decode cX2_repeatCoalitionsWith 36 = .ok (.aload_n 0, 1) := by decide +kernel
theorem dX2_repeatCoalitionsWith_37 : decode cX2_repeatCoalitionsWith 37 = .ok (.getfield 9, 3) := by decide +kernel
theorem dX2_repeatCoalitionsWith_40 : decode cX2_repeatCoalitionsWith 40 = .ok (.iload_n 1, 1) := by decide +kernel
theorem dX2_repeatCoalitionsWith_41 : decode cX2_repeatCoalitionsWith 41 = .ok (.iaload, 1) := by decide +kernel
theorem dX2_repeatCoalitionsWith_42 : decode cX2_repeatCoalitionsWith 42 = .ok (.ior, 1) := by decide +kernel
theorem dX2_repeatCoalitionsWith_43 : decode cX2_repeatCoalitionsWith 43 = .ok (.iastore, 1) := by decide +kernel
theorem dX2_repeatCoalitionsWith_44 : decode cX2_repeatCoalitionsWith 44 = .ok (.aload_n 0, 1) := by decide +kernel
theorem dX2_repeatCoalitionsWith_45 : decode cX2_repeatCoalitionsWith 45 = .ok (.getfield 21, 3) := by decide +kernel
theorem dX2_repeatCoalitionsWith_48 : decode cX2_repeatCoalitionsWith 48 = .ok (.iload_n 2, 1) := by decide +kernel
theorem dX2_repeatCoalitionsWith_49 : decode cX2_repeatCoalitionsWith 49 = .ok (.iload_n 3, 1) := by decide +kernel
theorem dX2_repeatCoalitionsWith_50 : decode cX2_repeatCoalitionsWith 50 = .ok (.iadd, 1) := by decide +kernel
theorem dX2_repeatCoalitionsWith_51 : decode cX2_repeatCoalitionsWith 51 = .ok (.aload_n 0, 1) := by decide +kernel
theorem dX2_repeatCoalitionsWith_52 : decode cX2_repeatCoalitionsWith 52 = .ok (.getfield 21, 3) := by decide +kernel
theorem dX2_repeatCoalitionsWith_55 : decode cX2_repeatCoalitionsWith 55 = .ok (.iload_n 3, 1) := by decide +kernel
theorem dX2_repeatCoalitionsWith_56 : decode cX2_repeatCoalitionsWith 56 = .ok (.iaload, 1) := by decide +kernel
theorem dX2_repeatCoalitionsWith_57 : decode cX2_repeatCoalitionsWith 57 = .ok (.aload_n 0, 1) := by decide +kernel
theorem dX2_repeatCoalitionsWith_58 : decode cX2_repeatCoalitionsWith 58 = .ok (.getfield 15, 3) := by decide +kernel
theorem dX2_repeatCoalitionsWith_61 : decode cX2_repeatCoalitionsWith 61 = .ok (.iload_n 1, 1) := by decide +kernel
theorem dX2_repeatCoalitionsWith_62 : decode cX2_repeatCoalitionsWith 62 = .ok (.iaload, 1) := by decide +kernel
theorem dX2_repeatCoalitionsWith_63 : decode cX2_repeatCoalitionsWith 63 = .ok (.iadd, 1) := by decide +kernel
theorem dX2_repeatCoalitionsWith_64 : decode cX2_repeatCoalitionsWith 64 = .ok (.iastore, 1) := by decide +kernel
theorem dX2_repeatCoalitionsWith_65 : decode cX2_repeatCoalitionsWith 65 = .ok (.aload_n 0, 1) := by decide +kernel
theorem dX2_repeatCoalitionsWith_66 : decode cX2_repeatCoalitionsWith 66 = .ok (.dup, 1) := by decide +kernel
theorem dX2_repeatCoalitionsWith_67 : decode cX2_repeatCoalitionsWith 67 = .ok (.getfield 79, 3) := by decide +kernel
theorem dX2_repeatCoalitionsWith_70 : decode cX2_repeatCoalitionsWith 70 = .ok (.iconst 1, 1) := by decide +kernel
theorem dX2_repeatCoalitionsWith_71 : decode cX2_repeatCoalitionsWith 71 = .ok (.iadd, 1) := by decide +kernel
theorem dX2_repeatCoalitionsWith_72 : decode cX2_repeatCoalitionsWith 72 = .ok (.putfield 79, 3) := by decide +kernel
theorem dX2_repeatCoalitionsWith_75 : decode cX2_repeatCoalitionsWith 75 = .ok (.iinc 3 1, 3) := by decide +kernel
theorem dX2_repeatCoalitionsWith_78 : decode cX2_repeatCoalitionsWith 78 = .ok (.goto (-71), 3) := by decide +kernel
theorem dX2_repeatCoalitionsWith_81 : decode cX2_repeatCoalitionsWith 81 = .ok (.return_, 1) := by decide +kernel
theorem dX2_countWinning_0 : decode cX2_countWinning 0 = .ok (.iconst 0, 1) := by decide +kernel
theorem dX2_countWinning_1 : decode cX2_countWinning 1 = .ok (.istore_n 1, 1) := by decide +kernel
theorem dX2_countWinning_2 : decode cX2_countWinning 2 = .ok (.iload_n 1, 1) := by decide +kernel
theorem dX2_countWinning_3 : decode cX2_countWinning 3 = .ok (.bipush 10, 2) := by decide +kernel
theorem dX2_countWinning_5 : decode cX2_countWinning 5 = .ok (.if_icmp .gt 19, 3) := by decide +kernel
theorem dX2_countWinning_8 : decode cX2_countWinning 8 = .ok (.aload_n 0, 1) := by decide +kernel
theorem dX2_countWinning_9 : decode cX2_countWinning 9 = .ok (.getfield 26, 3) := by decide +kernel
theorem dX2_countWinning_12 : decode cX2_countWinning 12 = .ok (.iload_n 1, 1) := by decide +kernel
theorem dX2_countWinning_13 : decode cX2_countWinning 13 = .ok (.aaload, 1) := by decide +kernel
theorem dX2_countWinning_14 : decode cX2_countWinning 14 = .ok (.iconst 0, 1) := by decide +kernel
theorem dX2_countWinning_15 : decode cX2_countWinning 15 = .ok (.invokestatic 90, 3) := by decide +kernel
theorem dX2_countWinning_18 : decode cX2_countWinning 18 = .ok (.iinc 1 1, 3) := by decide +kernel
theorem dX2_countWinning_21 : decode cX2_countWinning 21 = .ok (.goto (-19), 3) := by decide +kernel
theorem dX2_countWinning_24 : decode cX2_countWinning 24 = .ok (.iconst 0, 1) := by decide +kernel
theorem dX2_countWinning_25 : decode cX2_countWinning 25 = .ok (.istore_n 1, 1) := by decide +kernel
theorem dX2_countWinning_26 : decode cX2_countWinning 26 = .ok (.iload_n 1, 1) := by decide +kernel
theorem dX2_countWinning_27 : decode cX2_countWinning 27 = .ok (.aload_n 0, 1) := by decide +kernel
theorem dX2_countWinning_28 : decode cX2_countWinning 28 = .ok (.getfield 79, 3) := by decide +kernel
theorem dX2_countWinning_31 : decode cX2_countWinning 31 = .ok (.if_icmp .ge 38, 3) := by decide +kernel
theorem dX2_countWinning_34 : decode cX2_countWinning 34 = .ok (.aload_n 0, 1) := by decide +kernel
theorem dX2_countWinning_35 : decode cX2_countWinning 35 = .ok (.aload_n 0, 1) := by decide +kernel
theorem dX2_countWinning_36 : decode cX2_countWinning 36 = .ok (.getfield 18, 3) := by decide +kernel
theorem dX2_countWinning_39 : decode cX2_countWinning 39 = .ok (.iload_n 1, 1) := by decide +kernel
theorem dX2_countWinning_40 : decode cX2_countWinning 40 = .ok (.iaload, 1) := by decide +kernel
theorem dX2_countWinning_41 : decode cX2_countWinning 41 = .ok (.invokevirtual 96, 3) := by decide +kernel
theorem dX2_countWinning_44 : decode cX2_countWinning 44 = .ok (.ifCond .eq 19, 3) := by decide +kernel
theorem dX2_countWinning_47 : decode cX2_countWinning 47 = .ok (.aload_n 0, 1) := by decide +kernel
theorem dX2_countWinning_48 : decode cX2_countWinning 48 = .ok (.aload_n 0, 1) := by decide +kernel
theorem dX2_countWinning_49 : decode cX2_countWinning 49 = .ok (.getfield 18, 3) := by decide +kernel
theorem dX2_countWinning_52 : decode cX2_countWinning 52 = .ok (.iload_n 1, 1) := by decide +kernel
theorem dX2_countWinning_53 : decode cX2_countWinning 53 = .ok (.iaload, 1) := by decide +kernel
theorem dX2_countWinning_54 : decode cX2_countWinning 54 = .ok (.aload_n 0, 1) := by decide +kernel
theorem dX2_countWinning_55 : decode cX2_countWinning 55 = .ok (.getfield 21, 3) := by decide +kernel
theorem dX2_countWinning_58 : decode cX2_countWinning 58 = .ok (.iload_n 1, 1) := by decide +kernel
theorem dX2_countWinning_59 : decode cX2_countWinning 59 = .ok (.iaload, 1) := by decide +kernel
theorem dX2_countWinning_60 : decode cX2_countWinning 60 = .ok (.invokevirtual 99, 3) := by decide +kernel
theorem dX2_countWinning_63 : decode cX2_countWinning 63 = .ok (.iinc 1 1, 3) := by decide +kernel
theorem dX2_countWinning_66 : decode cX2_countWinning 66 = .ok (.goto (-40), 3) := by decide +kernel
theorem dX2_countWinning_69 : decode cX2_countWinning 69 = .ok (.iconst 0, 1) := by decide +kernel
theorem dX2_countWinning_70 : decode cX2_countWinning 70 = .ok (.istore_n 1, 1) := by decide +kernel
theorem dX2_countWinning_71 : decode cX2_countWinning 71 = .ok (.iload_n 1, 1) := by decide +kernel
theorem dX2_countWinning_72 : decode cX2_countWinning 72 = .ok (.bipush 10, 2) := by decide +kernel
theorem dX2_countWinning_74 : decode cX2_countWinning 74 = .ok (.if_icmp .gt 44, 3) := by decide +kernel
theorem dX2_countWinning_77 : decode cX2_countWinning 77 = .ok (.sipush 499, 3) := by decide +kernel
theorem dX2_countWinning_80 : decode cX2_countWinning 80 = .ok (.istore_n 2, 1) := by decide +kernel
theorem dX2_countWinning_81 : decode cX2_countWinning 81 = .ok (.iload_n 2, 1) := by decide +kernel
theorem dX2_countWinning_82 : decode cX2_countWinning 82 = .ok (.ifCond .lt 30, 3) := by decide +kernel
theorem dX2_countWinning_85 : decode cX2_countWinning 85 = .ok (.aload_n 0, 1) := by decide +kernel
theorem dX2_countWinning_86 : decode cX2_countWinning 86 = .ok (.getfield 26, 3) := by decide +kernel
theorem dX2_countWinning_89 : decode cX2_countWinning 89 = .ok (.iload_n 1, 1) := by decide +kernel
theorem dX2_countWinning_90 : decode cX2_countWinning 90 = .ok (.aaload, 1) := by decide +kernel
theorem dX2_countWinning_91 : decode cX2_countWinning 91 = .ok (.iload_n 2, 1) := by decide +kernel
theorem dX2_countWinning_92 : decode cX2_countWinning 92 = .ok (.dup2, 1) := by decide +kernel
theorem dX2_countWinning_93 : decode cX2_countWinning 93 = .ok (.iaload, 1) := by decide +kernel
theorem dX2_countWinning_94 : decode cX2_countWinning 94 = .ok (.aload_n 0, 1) := by decide +kernel
theorem dX2_countWinning_95 : decode cX2_countWinning 95 = .ok (.getfield 26, 3) := by decide +kernel
theorem dX2_countWinning_98 : decode cX2_countWinning 98 = .ok (.iload_n 1, 1) := by decide +kernel
theorem dX2_countWinning_99 : decode cX2_countWinning 99 = .ok (.aaload, 1) := by decide +kernel
theorem dX2_countWinning_100 : decode cX2_countWinning 100 = .ok (.iload_n 2, 1) := by decide +kernel
theorem dX2_countWinning_101 : decode cX2_countWinning 101 = .ok (.iconst 1, 1) := by decide +kernel
theorem dX2_countWinning_102 : decode cX2_countWinning 102 = .ok (.iadd, 1) := by decide +kernel
theorem dX2_countWinning_103 : decode cX2_countWinning 103 = .ok (.iaload, 1) := by decide +kernel
theorem dX2_countWinning_104 : decode cX2_countWinning 104 = .ok (.iadd, 1) := by decide +kernel
theorem dX2_countWinning_105 : decode cX2_countWinning 105 = .ok (.iastore, 1) := by decide +kernel
theorem dX2_countWinning_106 : decode cX2_countWinning 106 = .ok (.iinc 2 (-1), 3) := by decide +kernel
theorem dX2_countWinning_109 : decode cX2_countWinning 109 = .ok (.goto (-28), 3) := by decide +kernel
theorem dX2_countWinning_112 : decode cX2_countWinning 112 = .ok (.iinc 1 1, 3) := by decide +kernel
theorem dX2_countWinning_115 : decode cX2_countWinning 115 = .ok (.goto (-44), 3) := by decide +kernel
theorem dX2_countWinning_118 : decode cX2_countWinning 118 = .ok (.return_, 1) := by decide +kernel
theorem dX2_countAtWeight_0 : decode cX2_countAtWeight 0 = .ok (.iload_n 2, 1) := by decide +kernel
theorem dX2_countAtWeight_1 : decode cX2_countAtWeight 1 = .ok (.ifCond .lt 10, 3) := by decide +kernel
theorem dX2_countAtWeight_4 : decode cX2_countAtWeight 4 = .ok (.iload_n 2, 1) := by decide +kernel
theorem dX2_countAtWeight_5 : decode cX2_countAtWeight 5 = .ok (.sipush 500, 3) := by decide +kernel
theorem dX2_countAtWeight_8 : decode cX2_countAtWeight 8 = .ok (.if_icmp .le 4, 3) := by decide +kernel
theorem dX2_countAtWeight_11 : decode cX2_countAtWeight 11 = .ok (.return_, 1) := by decide +kernel
theorem dX2_countAtWeight_12 : decode cX2_countAtWeight 12 = .ok (.aload_n 0, 1) := by decide +kernel
theorem dX2_countAtWeight_13 : decode cX2_countAtWeight 13 = .ok (.getfield 26, 3) := by decide +kernel
theorem dX2_countAtWeight_16 : decode cX2_countAtWeight 16 = .ok (.bipush 10, 2) := by decide +kernel
theorem dX2_countAtWeight_18 : decode cX2_countAtWeight 18 = .ok (.aaload, 1) := by decide +kernel
theorem dX2_countAtWeight_19 : decode cX2_countAtWeight 19 = .ok (.iload_n 2, 1) := by decide +kernel
theorem dX2_countAtWeight_20 : decode cX2_countAtWeight 20 = .ok (.dup2, 1) := by decide +kernel
theorem dX2_countAtWeight_21 : decode cX2_countAtWeight 21 = .ok (.iaload, 1) := by decide +kernel
theorem dX2_countAtWeight_22 : decode cX2_countAtWeight 22 = .ok (.iconst 1, 1) := by decide +kernel
theorem dX2_countAtWeight_23 : decode cX2_countAtWeight 23 = .ok (.iadd, 1) := by decide +kernel
theorem dX2_countAtWeight_24 : decode cX2_countAtWeight 24 = .ok (.iastore, 1) := by decide +kernel
theorem dX2_countAtWeight_25 : decode cX2_countAtWeight 25 = .ok (.iconst 0, 1) := by decide +kernel
theorem dX2_countAtWeight_26 : decode cX2_countAtWeight 26 = .ok (.istore_n 3, 1) := by decide +kernel
theorem dX2_countAtWeight_27 : decode cX2_countAtWeight 27 = .ok (.iload_n 3, 1) := by decide +kernel
theorem dX2_countAtWeight_28 : decode cX2_countAtWeight 28 = .ok (.aload_n 0, 1) := by decide +kernel
theorem dX2_countAtWeight_29 : decode cX2_countAtWeight 29 = .ok (.getfield 38, 3) := by decide +kernel
theorem dX2_countAtWeight_32 : decode cX2_countAtWeight 32 = .ok (.if_icmp .ge 29, 3) := by decide +kernel
theorem dX2_countAtWeight_35 : decode cX2_countAtWeight 35 = .ok (.iload_n 1, 1) := by decide +kernel
theorem dX2_countAtWeight_36 : decode cX2_countAtWeight 36 = .ok (.iload_n 3, 1) := by decide +kernel
theorem dX2_countAtWeight_37 : decode cX2_countAtWeight 37 = .ok (.invokestatic 82, 3) := by decide +kernel
theorem dX2_countAtWeight_40 : decode cX2_countAtWeight 40 = .ok (.ifCond .eq 15, 3) := by decide +kernel
theorem dX2_countAtWeight_43 : decode cX2_countAtWeight 43 = .ok (.aload_n 0, 1) := by decide +kernel
theorem dX2_countAtWeight_44 : decode cX2_countAtWeight 44 = .ok (.getfield 26, 3) := by decide +kernel
theorem dX2_countAtWeight_47 : decode cX2_countAtWeight 47 = .ok (.iload_n 3, 1) := by decide +kernel
theorem dX2_countAtWeight_48 : decode cX2_countAtWeight 48 = .ok (.aaload, 1) := by decide +kernel
theorem dX2_countAtWeight_49 : decode cX2_countAtWeight 49 = .ok (.iload_n 2, 1) := by decide +kernel
theorem dX2_countAtWeight_50 : decode cX2_countAtWeight 50 = .ok (.dup2, 1) := by decide +kernel
theorem dX2_countAtWeight_51 : decode cX2_countAtWeight 51 = .ok (.iaload, 1) := by decide +kernel
theorem dX2_countAtWeight_52 : decode cX2_countAtWeight 52 = .ok (.iconst 1, 1) := by decide +kernel
theorem dX2_countAtWeight_53 : decode cX2_countAtWeight 53 = .ok (.iadd, 1) := by decide +kernel
theorem dX2_countAtWeight_54 : decode cX2_countAtWeight 54 = .ok (.iastore, 1) := by decide +kernel
theorem dX2_countAtWeight_55 : decode cX2_countAtWeight 55 = .ok (.iinc 3 1, 3) := by decide +kernel
theorem dX2_countAtWeight_58 : decode cX2_countAtWeight 58 = .ok (.goto (-31), 3) := by decide +kernel
theorem dX2_countAtWeight_61 : decode cX2_countAtWeight 61 = .ok (.return_, 1) := by decide +kernel
theorem dX2_hasAllVetoes_0 : decode cX2_hasAllVetoes 0 = .ok (.aload_n 0, 1) := by decide +kernel
theorem dX2_hasAllVetoes_1 : decode cX2_hasAllVetoes 1 = .ok (.getfield 46, 3) := by decide +kernel
theorem dX2_hasAllVetoes_4 : decode cX2_hasAllVetoes 4 = .ok (.iload_n 1, 1) := by decide +kernel
theorem dX2_hasAllVetoes_5 : decode cX2_hasAllVetoes 5 = .ok (.iconst (-1), 1) := by decide +kernel
theorem dX2_hasAllVetoes_6 : decode cX2_hasAllVetoes 6 = .ok (.ixor, 1) := by decide +kernel
theorem dX2_hasAllVetoes_7 : decode cX2_hasAllVetoes 7 = .ok (.iand, 1) := by decide +kernel
theorem dX2_hasAllVetoes_8 : decode cX2_hasAllVetoes 8 = .ok (.ifCond .ne 7, 3) := by decide +kernel
theorem dX2_hasAllVetoes_11 : decode cX2_hasAllVetoes 11 = .ok (.iconst 1, 1) := by decide +kernel
theorem dX2_hasAllVetoes_12 : decode cX2_hasAllVetoes 12 = .ok (.goto 4, 3) := by decide +kernel
theorem dX2_hasAllVetoes_15 : decode cX2_hasAllVetoes 15 = .ok (.iconst 0, 1) := by decide +kernel
theorem dX2_hasAllVetoes_16 : decode cX2_hasAllVetoes 16 = .ok (.ireturn, 1) := by decide +kernel
theorem dX2_isWinning_0 : decode cX2_isWinning 0 = .ok (.iload_n 2, 1) := by decide +kernel
theorem dX2_isWinning_1 : decode cX2_isWinning 1 = .ok (.aload_n 0, 1) := by decide +kernel
theorem dX2_isWinning_2 : decode cX2_isWinning 2 = .ok (.getfield 42, 3) := by decide +kernel
theorem dX2_isWinning_5 : decode cX2_isWinning 5 = .ok (.if_icmp .lt 15, 3) := by decide +kernel
theorem dX2_isWinning_8 : decode cX2_isWinning 8 = .ok (.aload_n 0, 1) := by decide +kernel
theorem dX2_isWinning_9 : decode cX2_isWinning 9 = .ok (.iload_n 1, 1) := by decide +kernel
theorem dX2_isWinning_10 : decode cX2_isWinning 10 = .ok (.invokevirtual 96, 3) := by decide +kernel
theorem dX2_isWinning_13 : decode cX2_isWinning 13 = .ok (.ifCond .eq 7, 3) := by decide +kernel
theorem dX2_isWinning_16 : decode cX2_isWinning 16 = .ok (.iconst 1, 1) := by decide +kernel
theorem dX2_isWinning_17 : decode cX2_isWinning 17 = .ok (.goto 4, 3) := by decide +kernel
theorem dX2_isWinning_20 : decode cX2_isWinning 20 = .ok (.iconst 0, 1) := by decide +kernel
theorem dX2_isWinning_21 : decode cX2_isWinning 21 = .ok (.ireturn, 1) := by decide +kernel
theorem dX2_winningCoalitions_0 : decode cX2_winningCoalitions 0 = .ok (.aload_n 0, 1) := by decide +kernel
theorem dX2_winningCoalitions_1 : decode cX2_winningCoalitions 1 = .ok (.getfield 26, 3) := by decide +kernel
theorem dX2_winningCoalitions_4 : decode cX2_winningCoalitions 4 = .ok (.bipush 10, 2) := by decide +kernel
theorem dX2_winningCoalitions_6 : decode cX2_winningCoalitions 6 = .ok (.aaload, 1) := by decide +kernel
theorem dX2_winningCoalitions_7 : decode cX2_winningCoalitions 7 = .ok (.iload_n 1, 1) := by decide +kernel
theorem dX2_winningCoalitions_8 : decode cX2_winningCoalitions 8 = .ok (.iaload, 1) := by decide +kernel
theorem dX2_winningCoalitions_9 : decode cX2_winningCoalitions 9 = .ok (.ireturn, 1) := by decide +kernel
theorem dX2_swings_0 : decode cX2_swings 0 = .ok (.aload_n 0, 1) := by decide +kernel
theorem dX2_swings_1 : decode cX2_swings 1 = .ok (.getfield 26, 3) := by decide +kernel
theorem dX2_swings_4 : decode cX2_swings 4 = .ok (.iload_n 1, 1) := by decide +kernel
theorem dX2_swings_5 : decode cX2_swings 5 = .ok (.aaload, 1) := by decide +kernel
theorem dX2_swings_6 : decode cX2_swings 6 = .ok (.iload_n 2, 1) := by decide +kernel
theorem dX2_swings_7 : decode cX2_swings 7 = .ok (.iaload, 1) := by decide +kernel
theorem dX2_swings_8 : decode cX2_swings 8 = .ok (.istore_n 3, 1) := by decide +kernel
theorem dX2_swings_9 : decode cX2_swings 9 = .ok (.aload_n 0, 1) := by decide +kernel
theorem dX2_swings_10 : decode cX2_swings 10 = .ok (.getfield 26, 3) := by decide +kernel
theorem dX2_swings_13 : decode cX2_swings 13 = .ok (.bipush 10, 2) := by decide +kernel
theorem dX2_swings_15 : decode cX2_swings 15 = .ok (.aaload, 1) := by decide +kernel
theorem dX2_swings_16 : decode cX2_swings 16 = .ok (.iload_n 2, 1) := by decide +kernel
theorem dX2_swings_17 : decode cX2_swings 17 = .ok (.iaload, 1) := by decide +kernel
theorem dX2_swings_18 : decode cX2_swings 18 = .ok (.iload_n 3, 1) := by decide +kernel
theorem dX2_swings_19 : decode cX2_swings 19 = .ok (.isub, 1) := by decide +kernel
theorem dX2_swings_20 : decode cX2_swings 20 = .ok (.istore 4, 2) := by decide +kernel
theorem dX2_swings_22 : decode cX2_swings 22 = .ok (.iload_n 3, 1) := by decide +kernel
theorem dX2_swings_23 : decode cX2_swings 23 = .ok (.iload 4, 2) := by decide +kernel
theorem dX2_swings_25 : decode cX2_swings 25 = .ok (.isub, 1) := by decide +kernel
theorem dX2_swings_26 : decode cX2_swings 26 = .ok (.ireturn, 1) := by decide +kernel
theorem dX2_swingsOfAll_0 : decode cX2_swingsOfAll 0 = .ok (.iconst 0, 1) := by decide +kernel
theorem dX2_swingsOfAll_1 : decode cX2_swingsOfAll 1 = .ok (.istore_n 2, 1) := by decide +kernel
theorem dX2_swingsOfAll_2 : decode cX2_swingsOfAll 2 = .ok (.iconst 0, 1) := by decide +kernel
theorem dX2_swingsOfAll_3 : decode cX2_swingsOfAll 3 = .ok (.istore_n 3, 1) := by decide +kernel
theorem dX2_swingsOfAll_4 : decode cX2_swingsOfAll 4 = .ok (.iload_n 3, 1) := by decide +kernel
theorem dX2_swingsOfAll_5 : decode cX2_swingsOfAll 5 = .ok (.aload_n 0, 1) := by decide +kernel
theorem dX2_swingsOfAll_6 : decode cX2_swingsOfAll 6 = .ok (.getfield 38, 3) := by decide +kernel
theorem dX2_swingsOfAll_9 : decode cX2_swingsOfAll 9 = .ok (.if_icmp .ge 29, 3) := by decide +kernel
theorem dX2_swingsOfAll_12 : decode cX2_swingsOfAll 12 = .ok (.aload_n 0, 1) := by decide +kernel
theorem dX2_swingsOfAll_13 : decode cX2_swingsOfAll 13 = .ok (.getfield 47, 3) := by decide +kernel
theorem dX2_swingsOfAll_16 : decode cX2_swingsOfAll 16 = .ok (.iload_n 3, 1) := by decide +kernel
theorem dX2_swingsOfAll_17 : decode cX2_swingsOfAll 17 = .ok (.invokestatic 82, 3) := by decide +kernel
theorem dX2_swingsOfAll_20 : decode cX2_swingsOfAll 20 = .ok (.ifCond .eq 12, 3) := by decide +kernel
theorem dX2_swingsOfAll_23 : decode cX2_swingsOfAll 23 = .ok (.iload_n 2, 1) := by decide +kernel
theorem dX2_swingsOfAll_24 : decode cX2_swingsOfAll 24 = .ok (.aload_n 0, 1) := by decide +kernel
theorem dX2_swingsOfAll_25 : decode cX2_swingsOfAll 25 = .ok (.iload_n 3, 1) := by decide +kernel
theorem dX2_swingsOfAll_26 : decode cX2_swingsOfAll 26 = .ok (.iload_n 1, 1) := by decide +kernel
theorem dX2_swingsOfAll_27 : decode cX2_swingsOfAll 27 = .ok (.invokevirtual 103, 3) := by decide +kernel
theorem dX2_swingsOfAll_30 : decode cX2_swingsOfAll 30 = .ok (.iadd, 1) := by decide +kernel
theorem dX2_swingsOfAll_31 : decode cX2_swingsOfAll 31 = .ok (.istore_n 2, 1) := by decide +kernel
theorem dX2_swingsOfAll_32 : decode cX2_swingsOfAll 32 = .ok (.iinc 3 1, 3) := by decide +kernel
theorem dX2_swingsOfAll_35 : decode cX2_swingsOfAll 35 = .ok (.goto (-31), 3) := by decide +kernel
theorem dX2_swingsOfAll_38 : decode cX2_swingsOfAll 38 = .ok (.iload_n 2, 1) := by decide +kernel
theorem dX2_swingsOfAll_39 : decode cX2_swingsOfAll 39 = .ok (.ireturn, 1) := by decide +kernel
theorem dX2_isDummy_0 : decode cX2_isDummy 0 = .ok (.aload_n 0, 1) := by decide +kernel
theorem dX2_isDummy_1 : decode cX2_isDummy 1 = .ok (.iload_n 1, 1) := by decide +kernel
theorem dX2_isDummy_2 : decode cX2_isDummy 2 = .ok (.iload_n 2, 1) := by decide +kernel
theorem dX2_isDummy_3 : decode cX2_isDummy 3 = .ok (.invokevirtual 103, 3) := by decide +kernel
theorem dX2_isDummy_6 : decode cX2_isDummy 6 = .ok (.ifCond .ne 7, 3) := by decide +kernel
theorem dX2_isDummy_9 : decode cX2_isDummy 9 = .ok (.iconst 1, 1) := by decide +kernel
theorem dX2_isDummy_10 : decode cX2_isDummy 10 = .ok (.goto 4, 3) := by decide +kernel
theorem dX2_isDummy_13 : decode cX2_isDummy 13 = .ok (.iconst 0, 1) := by decide +kernel
theorem dX2_isDummy_14 : decode cX2_isDummy 14 = .ok (.ireturn, 1) := by decide +kernel
theorem dX2_isBlocker_0 : decode cX2_isBlocker 0 = .ok (.aload_n 0, 1) := by decide +kernel
theorem dX2_isBlocker_1 : decode cX2_isBlocker 1 = .ok (.getfield 26, 3) := by decide +kernel
theorem dX2_isBlocker_4 : decode cX2_isBlocker 4 = .ok (.bipush 10, 2) := by decide +kernel
theorem dX2_isBlocker_6 : decode cX2_isBlocker 6 = .ok (.aaload, 1) := by decide +kernel
theorem dX2_isBlocker_7 : decode cX2_isBlocker 7 = .ok (.iload_n 2, 1) := by decide +kernel
theorem dX2_isBlocker_8 : decode cX2_isBlocker 8 = .ok (.iaload, 1) := by decide +kernel
theorem dX2_isBlocker_9 : decode cX2_isBlocker 9 = .ok (.ifCond .le 27, 3) := by decide +kernel
theorem dX2_isBlocker_12 : decode cX2_isBlocker 12 = .ok (.aload_n 0, 1) := by decide +kernel
theorem dX2_isBlocker_13 : decode cX2_isBlocker 13 = .ok (.getfield 26, 3) := by decide +kernel
theorem dX2_isBlocker_16 : decode cX2_isBlocker 16 = .ok (.iload_n 1, 1) := by decide +kernel
theorem dX2_isBlocker_17 : decode cX2_isBlocker 17 = .ok (.aaload, 1) := by decide +kernel
theorem dX2_isBlocker_18 : decode cX2_isBlocker 18 = .ok (.iload_n 2, 1) := by decide +kernel
theorem dX2_isBlocker_19 : decode cX2_isBlocker 19 = .ok (.iaload, 1) := by decide +kernel
theorem dX2_isBlocker_20 : decode cX2_isBlocker 20 = .ok (.aload_n 0, 1) := by decide +kernel
theorem dX2_isBlocker_21 : decode cX2_isBlocker 21 = .ok (.getfield 26, 3) := by decide +kernel
theorem dX2_isBlocker_24 : decode cX2_isBlocker 24 = .ok (.bipush 10, 2) := by decide +kernel
theorem dX2_isBlocker_26 : decode cX2_isBlocker 26 = .ok (.aaload, 1) := by decide +kernel
theorem dX2_isBlocker_27 : decode cX2_isBlocker 27 = .ok (.iload_n 2, 1) := by decide +kernel
theorem dX2_isBlocker_28 : decode cX2_isBlocker 28 = .ok (.iaload, 1) := by decide +kernel
theorem dX2_isBlocker_29 : decode cX2_isBlocker 29 = .ok (.if_icmp .ne 7, 3) := by decide +kernel
theorem dX2_isBlocker_32 : decode cX2_isBlocker 32 = .ok (.iconst 1, 1) := by decide +kernel
theorem dX2_isBlocker_33 : decode cX2_isBlocker 33 = .ok (.goto 4, 3) := by decide +kernel
theorem dX2_isBlocker_36 : decode cX2_isBlocker 36 = .ok (.iconst 0, 1) := by decide +kernel
theorem dX2_isBlocker_37 : decode cX2_isBlocker 37 = .ok (.ireturn, 1) := by decide +kernel
theorem dX2_isDictator_0 : decode cX2_isDictator 0 = .ok (.aload_n 0, 1) := by decide +kernel
theorem dX2_isDictator_1 : decode cX2_isDictator 1 = .ok (.aload_n 0, 1) := by decide +kernel
theorem dX2_isDictator_2 : decode cX2_isDictator 2 = .ok (.getfield 9, 3) := by decide +kernel
theorem dX2_isDictator_5 : decode cX2_isDictator 5 = .ok (.iload_n 1, 1) := by decide +kernel
theorem dX2_isDictator_6 : decode cX2_isDictator 6 = .ok (.iaload, 1) := by decide +kernel
theorem dX2_isDictator_7 : decode cX2_isDictator 7 = .ok (.aload_n 0, 1) := by decide +kernel
theorem dX2_isDictator_8 : decode cX2_isDictator 8 = .ok (.getfield 15, 3) := by decide +kernel
theorem dX2_isDictator_11 : decode cX2_isDictator 11 = .ok (.iload_n 1, 1) := by decide +kernel
theorem dX2_isDictator_12 : decode cX2_isDictator 12 = .ok (.iaload, 1) := by decide +kernel
theorem dX2_isDictator_13 : decode cX2_isDictator 13 = .ok (.invokevirtual 107, 3) := by decide +kernel
theorem dX2_isDictator_16 : decode cX2_isDictator 16 = .ok (.ifCond .ne 5, 3) := by decide +kernel
theorem dX2_isDictator_19 : decode cX2_isDictator 19 = .ok (.iconst 0, 1) := by decide +kernel
theorem dX2_isDictator_20 : decode cX2_isDictator 20 = .ok (.ireturn, 1) := by decide +kernel
theorem dX2_isDictator_21 : decode cX2_isDictator 21 = .ok (.iconst 0, 1) := by decide +kernel
theorem dX2_isDictator_22 : decode cX2_isDictator 22 = .ok (.istore_n 2, 1) := by decide +kernel
theorem dX2_isDictator_23 : decode cX2_isDictator 23 = .ok (.iload_n 2, 1) := by decide +kernel
theorem dX2_isDictator_24 : decode cX2_isDictator 24 = .ok (.aload_n 0, 1) := by decide +kernel
theorem dX2_isDictator_25 : decode cX2_isDictator 25 = .ok (.getfield 38, 3) := by decide +kernel
theorem dX2_isDictator_28 : decode cX2_isDictator 28 = .ok (.if_icmp .ge 36, 3) := by decide +kernel
theorem dX2_isDictator_31 : decode cX2_isDictator 31 = .ok (.aload_n 0, 1) := by decide +kernel
theorem dX2_isDictator_32 : decode cX2_isDictator 32 = .ok (.getfield 9, 3) := by decide +kernel
theorem dX2_isDictator_35 : decode cX2_isDictator 35 = .ok (.iload_n 1, 1) := by decide +kernel
theorem dX2_isDictator_36 : decode cX2_isDictator 36 = .ok (.iaload, 1) := by decide +kernel
theorem dX2_isDictator_37 : decode cX2_isDictator 37 = .ok (.iload_n 2, 1) := by decide +kernel
theorem dX2_isDictator_38 : decode cX2_isDictator 38 = .ok (.invokestatic 82, 3) := by decide +kernel
theorem dX2_isDictator_41 : decode cX2_isDictator 41 = .ok (.ifCond .ne 17, 3) := by decide +kernel
theorem dX2_isDictator_44 : decode cX2_isDictator 44 = .ok (.aload_n 0, 1) := by decide +kernel
theorem dX2_isDictator_45 : decode cX2_isDictator 45 = .ok (.iload_n 2, 1) := by decide +kernel
theorem dX2_isDictator_46 : decode cX2_isDictator 46 = .ok (.aload_n 0, 1) := by decide +kernel
theorem dX2_isDictator_47 : decode cX2_isDictator 47 = .ok (.getfield 42, 3) := by decide +kernel
theorem dX2_isDictator_50 : decode cX2_isDictator 50 = .ok (.invokevirtual 110, 3) := by decide +kernel
theorem dX2_isDictator_53 : decode cX2_isDictator 53 = .ok (.ifCond .ne 5, 3) := by decide +kernel
theorem dX2_isDictator_56 : decode cX2_isDictator 56 = .ok (.iconst 0, 1) := by decide +kernel
theorem dX2_isDictator_57 : decode cX2_isDictator 57 = .ok (.ireturn, 1) := by decide +kernel
theorem dX2_isDictator_58 : decode cX2_isDictator 58 = .ok (.iinc 2 1, 3) := by decide +kernel
theorem dX2_isDictator_61 : decode cX2_isDictator 61 = .ok (.goto (-38), 3) := by decide +kernel
theorem dX2_isDictator_64 : decode cX2_isDictator 64 = .ok (.iconst 1, 1) := by decide +kernel
theorem dX2_isDictator_65 : decode cX2_isDictator 65 = .ok (.ireturn, 1) := by decide +kernel
theorem dX2_dummies_0 : decode cX2_dummies 0 = .ok (.iconst 0, 1) := by decide +kernel
theorem dX2_dummies_1 : decode cX2_dummies 1 = .ok (.istore_n 2, 1) := by decide +kernel
theorem dX2_dummies_2 : decode cX2_dummies 2 = .ok (.iconst 0, 1) := by decide +kernel
theorem dX2_dummies_3 : decode cX2_dummies 3 = .ok (.istore_n 3, 1) := by decide +kernel
theorem dX2_dummies_4 : decode cX2_dummies 4 = .ok (.iload_n 3, 1) := by decide +kernel
theorem dX2_dummies_5 : decode cX2_dummies 5 = .ok (.aload_n 0, 1) := by decide +kernel
theorem dX2_dummies_6 : decode cX2_dummies 6 = .ok (.getfield 38, 3) := by decide +kernel
theorem dX2_dummies_9 : decode cX2_dummies 9 = .ok (.if_icmp .ge 32, 3) := by decide +kernel
theorem dX2_dummies_12 : decode cX2_dummies 12 = .ok (.aload_n 0, 1) := by decide +kernel
theorem dX2_dummies_13 : decode cX2_dummies 13 = .ok (.getfield 47, 3) := by decide +kernel
theorem dX2_dummies_16 : decode cX2_dummies 16 = .ok (.iload_n 3, 1) := by decide +kernel
theorem dX2_dummies_17 : decode cX2_dummies 17 = .ok (.invokestatic 82, 3) := by decide +kernel
theorem dX2_dummies_20 : decode cX2_dummies 20 = .ok (.ifCond .eq 15, 3) := by decide +kernel
theorem dX2_dummies_23 : decode cX2_dummies 23 = .ok (.aload_n 0, 1) := by decide +kernel
theorem dX2_dummies_24 : decode cX2_dummies 24 = .ok (.iload_n 3, 1) := by decide +kernel
theorem dX2_dummies_25 : decode cX2_dummies 25 = .ok (.iload_n 1, 1) := by decide +kernel
theorem dX2_dummies_26 : decode cX2_dummies 26 = .ok (.invokevirtual 110, 3) := by decide +kernel
theorem dX2_dummies_29 : decode cX2_dummies 29 = .ok (.ifCond .eq 6, 3) := by decide +kernel
theorem dX2_dummies_32 : decode cX2_dummies 32 = .ok (.iinc 2 1, 3) := by decide +kernel
theorem dX2_dummies_35 : decode cX2_dummies 35 = .ok (.iinc 3 1, 3) := by decide +kernel
theorem dX2_dummies_38 : decode cX2_dummies 38 = .ok (.goto (-34), 3) := by decide +kernel
theorem dX2_dummies_41 : decode cX2_dummies 41 = .ok (.iload_n 2, 1) := by decide +kernel
theorem dX2_dummies_42 : decode cX2_dummies 42 = .ok (.ireturn, 1) := by decide +kernel
theorem dX2_blockers_0 : decode cX2_blockers 0 = .ok (.iconst 0, 1) := by decide +kernel
theorem dX2_blockers_1 : decode cX2_blockers 1 = .ok (.istore_n 2, 1) := by decide +kernel
theorem dX2_blockers_2 : decode cX2_blockers 2 = .ok (.iconst 0, 1) := by decide +kernel
theorem dX2_blockers_3 : decode cX2_blockers 3 = .ok (.istore_n 3, 1) := by decide +kernel
theorem dX2_blockers_4 : decode cX2_blockers 4 = .ok (.iload_n 3, 1) := by decide +kernel
theorem dX2_blockers_5 : decode cX2_blockers 5 = .ok (.aload_n 0, 1) := by decide +kernel
theorem dX2_blockers_6 : decode cX2_blockers 6 = .ok (.getfield 38, 3) := by decide +kernel
theorem dX2_blockers_9 : decode cX2_blockers 9 = .ok (.if_icmp .ge 32, 3) := by decide +kernel
theorem dX2_blockers_12 : decode cX2_blockers 12 = .ok (.aload_n 0, 1) := by decide +kernel
theorem dX2_blockers_13 : decode cX2_blockers 13 = .ok (.getfield 47, 3) := by decide +kernel
theorem dX2_blockers_16 : decode cX2_blockers 16 = .ok (.iload_n 3, 1) := by decide +kernel
theorem dX2_blockers_17 : decode cX2_blockers 17 = .ok (.invokestatic 82, 3) := by decide +kernel
theorem dX2_blockers_20 : decode cX2_blockers 20 = .ok (.ifCond .eq 15, 3) := by decide +kernel
theorem dX2_blockers_23 : decode cX2_blockers 23 = .ok (.aload_n 0, 1) := by decide +kernel
theorem dX2_blockers_24 : decode cX2_blockers 24 = .ok (.iload_n 3, 1) := by decide +kernel
theorem dX2_blockers_25 : decode cX2_blockers 25 = .ok (.iload_n 1, 1) := by decide +kernel
theorem dX2_blockers_26 : decode cX2_blockers 26 = .ok (.invokevirtual 113, 3) := by decide +kernel
theorem dX2_blockers_29 : decode cX2_blockers 29 = .ok (.ifCond .eq 6, 3) := by decide +kernel
theorem dX2_blockers_32 : decode cX2_blockers 32 = .ok (.iinc 2 1, 3) := by decide +kernel
theorem dX2_blockers_35 : decode cX2_blockers 35 = .ok (.iinc 3 1, 3) := by decide +kernel
theorem dX2_blockers_38 : decode cX2_blockers 38 = .ok (.goto (-34), 3) := by decide +kernel
theorem dX2_blockers_41 : decode cX2_blockers 41 = .ok (.iload_n 2, 1) := by decide +kernel
theorem dX2_blockers_42 : decode cX2_blockers 42 = .ok (.ireturn, 1) := by decide +kernel
theorem dX2_orders_0 : decode cX2_orders 0 = .ok (.iconst 0, 1) := by decide +kernel
theorem dX2_orders_1 : decode cX2_orders 1 = .ok (.istore_n 2, 1) := by decide +kernel
theorem dX2_orders_2 : decode cX2_orders 2 = .ok (.iconst 0, 1) := by decide +kernel
theorem dX2_orders_3 : decode cX2_orders 3 = .ok (.istore_n 3, 1) := by decide +kernel
theorem dX2_orders_4 : decode cX2_orders 4 = .ok (.iload_n 3, 1) := by decide +kernel
theorem dX2_orders_5 : decode cX2_orders 5 = .ok (.aload_n 0, 1) := by decide +kernel
theorem dX2_orders_6 : decode cX2_orders 6 = .ok (.getfield 79, 3) := by decide +kernel
theorem dX2_orders_9 : decode cX2_orders 9 = .ok (.if_icmp .ge 45, 3) := by decide +kernel
theorem dX2_orders_12 : decode cX2_orders 12 = .ok (.aload_n 0, 1) := by decide +kernel
theorem dX2_orders_13 : decode cX2_orders 13 = .ok (.iload_n 1, 1) := by decide +kernel
theorem dX2_orders_14 : decode cX2_orders 14 = .ok (.iload_n 3, 1) := by decide +kernel
theorem dX2_orders_15 : decode cX2_orders 15 = .ok (.invokevirtual 116, 3) := by decide +kernel
theorem dX2_orders_18 : decode cX2_orders 18 = .ok (.ifCond .eq 30, 3) := by decide +kernel
theorem dX2_orders_21 : decode cX2_orders 21 = .ok (.iload_n 3, 1) := by decide +kernel
theorem dX2_orders_22 : decode cX2_orders 22 = .ok (.invokestatic 62, 3) := by decide +kernel
theorem dX2_orders_25 : decode cX2_orders 25 = .ok (.istore 4, 2) := by decide +kernel
theorem dX2_orders_27 : decode cX2_orders 27 = .ok (.iload_n 2, 1) := by decide +kernel
theorem dX2_orders_28 : decode cX2_orders 28 = .ok (.iload 4, 2) := by decide +kernel
theorem dX2_orders_30 : decode cX2_orders 30 = .ok (.invokestatic 119, 3) := by decide +kernel
theorem dX2_orders_33 : decode cX2_orders 33 = .ok (.aload_n 0, 1) := by decide +kernel
theorem dX2_orders_34 : decode cX2_orders 34 = .ok (.getfield 67, 3) := by decide +kernel
theorem dX2_orders_37 : decode cX2_orders 37 = .ok (.iconst 1, 1) := by decide +kernel
theorem dX2_orders_38 : decode cX2_orders 38 = .ok (.isub, 1) := by decide +kernel
theorem dX2_orders_39 : decode cX2_orders 39 = .ok (.iload 4, 2) := by decide +kernel
theorem dX2_orders_41 : decode cX2_orders 41 = .ok (.isub, 1) := by decide +kernel
theorem dX2_orders_42 : decode cX2_orders 42 = .ok (.invokestatic 119, 3) := by decide +kernel
theorem dX2_orders_45 : decode cX2_orders 45 = .ok (.imul, 1) := by decide +kernel
theorem dX2_orders_46 : decode cX2_orders 46 = .ok (.iadd, 1) := by decide +kernel
theorem dX2_orders_47 : decode cX2_orders 47 = .ok (.istore_n 2, 1) := by decide +kernel
theorem dX2_orders_48 : decode cX2_orders 48 = .ok (.iinc 3 1, 3) := by decide +kernel
theorem dX2_orders_51 : decode cX2_orders 51 = .ok (.goto (-47), 3) := by decide +kernel
theorem dX2_orders_54 : decode cX2_orders 54 = .ok (.iload_n 2, 1) := by decide +kernel
theorem dX2_orders_55 : decode cX2_orders 55 = .ok (.ireturn, 1) := by decide +kernel
theorem dX2_hasSwing_0 : decode cX2_hasSwing 0 = .ok (.aload_n 0, 1) := by decide +kernel
theorem dX2_hasSwing_1 : decode cX2_hasSwing 1 = .ok (.getfield 18, 3) := by decide +kernel
theorem dX2_hasSwing_4 : decode cX2_hasSwing 4 = .ok (.iload_n 2, 1) := by decide +kernel
theorem dX2_hasSwing_5 : decode cX2_hasSwing 5 = .ok (.iaload, 1) := by decide +kernel
theorem dX2_hasSwing_6 : decode cX2_hasSwing 6 = .ok (.istore_n 3, 1) := by decide +kernel
theorem dX2_hasSwing_7 : decode cX2_hasSwing 7 = .ok (.aload_n 0, 1) := by decide +kernel
theorem dX2_hasSwing_8 : decode cX2_hasSwing 8 = .ok (.getfield 21, 3) := by decide +kernel
theorem dX2_hasSwing_11 : decode cX2_hasSwing 11 = .ok (.iload_n 2, 1) := by decide +kernel
theorem dX2_hasSwing_12 : decode cX2_hasSwing 12 = .ok (.iaload, 1) := by decide +kernel
theorem dX2_hasSwing_13 : decode cX2_hasSwing 13 = .ok (.istore 4, 2) := by decide +kernel
theorem dX2_hasSwing_15 : decode cX2_hasSwing 15 = .ok (.iload_n 3, 1) := by decide +kernel
theorem dX2_hasSwing_16 : decode cX2_hasSwing 16 = .ok (.iload_n 1, 1) := by decide +kernel
theorem dX2_hasSwing_17 : decode cX2_hasSwing 17 = .ok (.invokestatic 82, 3) := by decide +kernel
theorem dX2_hasSwing_20 : decode cX2_hasSwing 20 = .ok (.ifCond .ne 41, 3) := by decide +kernel
theorem dX2_hasSwing_23 : decode cX2_hasSwing 23 = .ok (.aload_n 0, 1) := by decide +kernel
theorem dX2_hasSwing_24 : decode cX2_hasSwing 24 = .ok (.iload_n 3, 1) := by decide +kernel
theorem dX2_hasSwing_25 : decode cX2_hasSwing 25 = .ok (.iload 4, 2) := by decide +kernel
theorem dX2_hasSwing_27 : decode cX2_hasSwing 27 = .ok (.invokevirtual 107, 3) := by decide +kernel
theorem dX2_hasSwing_30 : decode cX2_hasSwing 30 = .ok (.ifCond .ne 31, 3) := by decide +kernel
theorem dX2_hasSwing_33 : decode cX2_hasSwing 33 = .ok (.aload_n 0, 1) := by decide +kernel
theorem dX2_hasSwing_34 : decode cX2_hasSwing 34 = .ok (.iload_n 3, 1) := by decide +kernel
theorem dX2_hasSwing_35 : decode cX2_hasSwing 35 = .ok (.aload_n 0, 1) := by decide +kernel
theorem dX2_hasSwing_36 : decode cX2_hasSwing 36 = .ok (.getfield 9, 3) := by decide +kernel
theorem dX2_hasSwing_39 : decode cX2_hasSwing 39 = .ok (.iload_n 1, 1) := by decide +kernel
theorem dX2_hasSwing_40 : decode cX2_hasSwing 40 = .ok (.iaload, 1) := by decide +kernel
theorem dX2_hasSwing_41 : decode cX2_hasSwing 41 = .ok (.ior, 1) := by decide +kernel
theorem dX2_hasSwing_42 : decode cX2_hasSwing 42 = .ok (.iload 4, 2) := by decide +kernel
theorem dX2_hasSwing_44 : decode cX2_hasSwing 44 = .ok (.aload_n 0, 1) := by decide +kernel
theorem dX2_hasSwing_45 : decode cX2_hasSwing 45 = .ok (.getfield 15, 3) := by decide +kernel
theorem dX2_hasSwing_48 : decode cX2_hasSwing 48 = .ok (.iload_n 1, 1) := by decide +kernel
theorem dX2_hasSwing_49 : decode cX2_hasSwing 49 = .ok (.iaload, 1) := by decide +kernel
theorem dX2_hasSwing_50 : decode cX2_hasSwing 50 = .ok (.iadd, 1) := by decide +kernel
theorem dX2_hasSwing_51 : decode cX2_hasSwing 51 = .ok (.invokevirtual 107, 3) := by decide +kernel
theorem dX2_hasSwing_54 : decode cX2_hasSwing 54 = .ok (.ifCond .eq 7, 3) := by decide +kernel
theorem dX2_hasSwing_57 : decode cX2_hasSwing 57 = .ok (.iconst 1, 1) := by decide +kernel
theorem dX2_hasSwing_58 : decode cX2_hasSwing 58 = .ok (.goto 4, 3) := by decide +kernel
theorem dX2_hasSwing_61 : decode cX2_hasSwing 61 = .ok (.iconst 0, 1) := by decide +kernel
theorem dX2_hasSwing_62 : decode cX2_hasSwing 62 = .ok (.ireturn, 1) := by decide +kernel
theorem dX2_distance_0 : decode cX2_distance 0 = .ok (.aload_n 0, 1) := by decide +kernel
theorem dX2_distance_1 : decode cX2_distance 1 = .ok (.iload_n 1, 1) := by decide +kernel
theorem dX2_distance_2 : decode cX2_distance 2 = .ok (.invokevirtual 122, 3) := by decide +kernel
theorem dX2_distance_5 : decode cX2_distance 5 = .ok (.istore_n 2, 1) := by decide +kernel
theorem dX2_distance_6 : decode cX2_distance 6 = .ok (.aload_n 0, 1) := by decide +kernel
theorem dX2_distance_7 : decode cX2_distance 7 = .ok (.getfield 21, 3) := by decide +kernel
theorem dX2_distance_10 : decode cX2_distance 10 = .ok (.aload_n 0, 1) := by decide +kernel
theorem dX2_distance_11 : decode cX2_distance 11 = .ok (.getfield 79, 3) := by decide +kernel
theorem dX2_distance_14 : decode cX2_distance 14 = .ok (.iconst 1, 1) := by decide +kernel
theorem dX2_distance_15 : decode cX2_distance 15 = .ok (.isub, 1) := by decide +kernel
theorem dX2_distance_16 : decode cX2_distance 16 = .ok (.iaload, 1) := by decide +kernel
theorem dX2_distance_17 : decode cX2_distance 17 = .ok (.istore_n 3, 1) := by decide +kernel
theorem dX2_distance_18 : decode cX2_distance 18 = .ok (.lconst 0, 1) := by decide +kernel
theorem dX2_distance_19 : decode cX2_distance 19 = .ok (.lstore 4, 2) := by decide +kernel
theorem dX2_distance_21 : decode cX2_distance 21 = .ok (.iconst 0, 1) := by decide +kernel
theorem dX2_distance_22 : decode cX2_distance 22 = .ok (.istore 6, 2) := by decide +kernel
theorem dX2_distance_24 : decode cX2_distance 24 = .ok (.iload 6, 2) := by decide +kernel
theorem dX2_distance_26 : decode cX2_distance 26 = .ok (.aload_n 0, 1) := by decide +kernel
theorem dX2_distance_27 : decode cX2_distance 27 = .ok (.getfield 38, 3) := by decide +kernel
theorem dX2_distance_30 : decode cX2_distance 30 = .ok (.if_icmp .ge 49, 3) := by decide +kernel
theorem dX2_distance_33 : decode cX2_distance 33 = .ok (.aload_n 0, 1) := by decide +kernel
theorem dX2_distance_34 : decode cX2_distance 34 = .ok (.getfield 47, 3) := by decide +kernel
theorem dX2_distance_37 : decode cX2_distance 37 = .ok (.iload 6, 2) := by decide +kernel
theorem dX2_distance_39 : decode cX2_distance 39 = .ok (.invokestatic 82, 3) := by decide +kernel
theorem dX2_distance_42 : decode cX2_distance 42 = .ok (.ifCond .eq 31, 3) := by decide +kernel
theorem dX2_distance_45 : decode cX2_distance 45 = .ok (.lload 4, 2) := by decide +kernel
theorem dX2_distance_47 : decode cX2_distance 47 = .ok (.aload_n 0, 1) := by decide +kernel
theorem dX2_distance_48 : decode cX2_distance 48 = .ok (.iload 6, 2) := by decide +kernel
theorem dX2_distance_50 : decode cX2_distance 50 = .ok (.iload_n 1, 1) := by decide +kernel
theorem dX2_distance_51 : decode cX2_distance 51 = .ok (.invokevirtual 103, 3) := by decide +kernel
theorem dX2_distance_54 : decode cX2_distance 54 = .ok (.iload_n 3, 1) := by decide +kernel
theorem dX2_distance_55 : decode cX2_distance 55 = .ok (.imul, 1) := by decide +kernel
theorem dX2_distance_56 : decode cX2_distance 56 = .ok (.aload_n 0, 1) := by decide +kernel
theorem dX2_distance_57 : decode cX2_distance 57 = .ok (.getfield 15, 3) := by decide +kernel
theorem dX2_distance_60 : decode cX2_distance 60 = .ok (.iload 6, 2) := by decide +kernel
theorem dX2_distance_62 : decode cX2_distance 62 = .ok (.iaload, 1) := by decide +kernel
theorem dX2_distance_63 : decode cX2_distance 63 = .ok (.iload_n 2, 1) := by decide +kernel
theorem dX2_distance_64 : decode cX2_distance 64 = .ok (.imul, 1) := by decide +kernel
theorem dX2_distance_65 : decode cX2_distance 65 = .ok (.isub, 1) := by decide +kernel
theorem dX2_distance_66 : decode cX2_distance 66 = .ok (.invokestatic 125, 3) := by decide +kernel
theorem dX2_distance_69 : decode cX2_distance 69 = .ok (.i2l, 1) := by decide +kernel
theorem dX2_distance_70 : decode cX2_distance 70 = .ok (.ladd, 1) := by decide +kernel
theorem dX2_distance_71 : decode cX2_distance 71 = .ok (.lstore 4, 2) := by decide +kernel
theorem dX2_distance_73 : decode cX2_distance 73 = .ok (.iinc 6 1, 3) := by decide +kernel
theorem dX2_distance_76 : decode cX2_distance 76 = .ok (.goto (-52), 3) := by decide +kernel
theorem dX2_distance_79 : decode cX2_distance 79 = .ok (.lload 4, 2) := by decide +kernel
theorem dX2_distance_81 : decode cX2_distance 81 = .ok (.lreturn, 1) := by decide +kernel
theorem dX2_leastCoalitions_0 : decode cX2_leastCoalitions 0 = .ok (.aload_n 0, 1) := by decide +kernel
theorem dX2_leastCoalitions_1 : decode cX2_leastCoalitions 1 = .ok (.getfield 76, 3) := by decide +kernel
theorem dX2_leastCoalitions_4 : decode cX2_leastCoalitions 4 = .ok (.iconst (-1), 1) := by decide +kernel
theorem dX2_leastCoalitions_5 : decode cX2_leastCoalitions 5 = .ok (.if_icmp .ne 7, 3) := by decide +kernel
theorem dX2_leastCoalitions_8 : decode cX2_leastCoalitions 8 = .ok (.aload_n 0, 1) := by decide +kernel
theorem dX2_leastCoalitions_9 : decode cX2_leastCoalitions 9 = .ok (.invokevirtual 130, 3) := by decide +kernel
theorem dX2_leastCoalitions_12 : decode cX2_leastCoalitions 12 = .ok (.aload_n 0, 1) := by decide +kernel
theorem dX2_leastCoalitions_13 : decode cX2_leastCoalitions 13 = .ok (.getfield 76, 3) := by decide +kernel
theorem dX2_leastCoalitions_16 : decode cX2_leastCoalitions 16 = .ok (.ireturn, 1) := by decide +kernel
theorem dX2_listLeast_0 : decode cX2_listLeast 0 = .ok (.aload_n 0, 1) := by decide +kernel
theorem dX2_listLeast_1 : decode cX2_listLeast 1 = .ok (.iconst 0, 1) := by decide +kernel
theorem dX2_listLeast_2 : decode cX2_listLeast 2 = .ok (.putfield 76, 3) := by decide +kernel
theorem dX2_listLeast_5 : decode cX2_listLeast 5 = .ok (.iconst 0, 1) := by decide +kernel
theorem dX2_listLeast_6 : decode cX2_listLeast 6 = .ok (.istore_n 1, 1) := by decide +kernel
theorem dX2_listLeast_7 : decode cX2_listLeast 7 = .ok (.iload_n 1, 1) := by decide +kernel
theorem dX2_listLeast_8 : decode cX2_listLeast 8 = .ok (.aload_n 0, 1) := by decide +kernel
theorem dX2_listLeast_9 : decode cX2_listLeast 9 = .ok (.getfield 79, 3) := by decide +kernel
theorem dX2_listLeast_12 : decode cX2_listLeast 12 = .ok (.if_icmp .ge 61, 3) := by decide +kernel
theorem dX2_listLeast_15 : decode cX2_listLeast 15 = .ok (.aload_n 0, 1) := by decide +kernel
theorem dX2_listLeast_16 : decode cX2_listLeast 16 = .ok (.aload_n 0, 1) := by decide +kernel
theorem dX2_listLeast_17 : decode cX2_listLeast 17 = .ok (.getfield 18, 3) := by decide +kernel
theorem dX2_listLeast_20 : decode cX2_listLeast 20 = .ok (.iload_n 1, 1) := by decide +kernel
theorem dX2_listLeast_21 : decode cX2_listLeast 21 = .ok (.iaload, 1) := by decide +kernel
theorem dX2_listLeast_22 : decode cX2_listLeast 22 = .ok (.aload_n 0, 1) := by decide +kernel
theorem dX2_listLeast_23 : decode cX2_listLeast 23 = .ok (.getfield 21, 3) := by decide +kernel
theorem dX2_listLeast_26 : decode cX2_listLeast 26 = .ok (.iload_n 1, 1) := by decide +kernel
theorem dX2_listLeast_27 : decode cX2_listLeast 27 = .ok (.iaload, 1) := by decide +kernel
theorem dX2_listLeast_28 : decode cX2_listLeast 28 = .ok (.invokevirtual 133, 3) := by decide +kernel
theorem dX2_listLeast_31 : decode cX2_listLeast 31 = .ok (.ifCond .eq 36, 3) := by decide +kernel
theorem dX2_listLeast_34 : decode cX2_listLeast 34 = .ok (.aload_n 0, 1) := by decide +kernel
theorem dX2_listLeast_35 : decode cX2_listLeast 35 = .ok (.getfield 76, 3) := by decide +kernel
theorem dX2_listLeast_38 : decode cX2_listLeast 38 = .ok (.sipush 252, 3) := by decide +kernel
theorem dX2_listLeast_41 : decode cX2_listLeast 41 = .ok (.if_icmp .ge 26, 3) := by decide +kernel
theorem dX2_listLeast_44 : decode cX2_listLeast 44 = .ok (.aload_n 0, 1) := by decide +kernel
theorem dX2_listLeast_45 : decode cX2_listLeast 45 = .ok (.iload_n 1, 1) := by decide +kernel
theorem dX2_listLeast_46 : decode cX2_listLeast 46 = .ok (.invokestatic 62, 3) := by decide +kernel
theorem dX2_listLeast_49 : decode cX2_listLeast 49 = .ok (.aload_n 0, 1) := by decide +kernel
theorem dX2_listLeast_50 : decode cX2_listLeast 50 = .ok (.getfield 21, 3) := by decide +kernel
theorem dX2_listLeast_53 : decode cX2_listLeast 53 = .ok (.iload_n 1, 1) := by decide +kernel
theorem dX2_listLeast_54 : decode cX2_listLeast 54 = .ok (.iaload, 1) := by decide +kernel
theorem dX2_listLeast_55 : decode cX2_listLeast 55 = .ok (.aload_n 0, 1) := by decide +kernel
theorem dX2_listLeast_56 : decode cX2_listLeast 56 = .ok (.getfield 18, 3) := by decide +kernel
theorem dX2_listLeast_59 : decode cX2_listLeast 59 = .ok (.iload_n 1, 1) := by decide +kernel
theorem dX2_listLeast_60 : decode cX2_listLeast 60 = .ok (.iaload, 1) := by decide +kernel
theorem dX2_listLeast_61 : decode cX2_listLeast 61 = .ok (.invokestatic 136, 3) := by decide +kernel
theorem dX2_listLeast_64 : decode cX2_listLeast 64 = .ok (.invokevirtual 140, 3) := by decide +kernel
theorem dX2_listLeast_67 : decode cX2_listLeast 67 = .ok (.iinc 1 1, 3) := by decide +kernel
theorem dX2_listLeast_70 : decode cX2_listLeast 70 = .ok (.goto (-63), 3) := by decide +kernel
theorem dX2_listLeast_73 : decode cX2_listLeast 73 = .ok (.return_, 1) := by decide +kernel
theorem dX2_isLeast_0 : decode cX2_isLeast 0 = .ok (.aload_n 0, 1) := by decide +kernel
theorem dX2_isLeast_1 : decode cX2_isLeast 1 = .ok (.iload_n 1, 1) := by decide +kernel
theorem dX2_isLeast_2 : decode cX2_isLeast 2 = .ok (.iload_n 2, 1) := by decide +kernel
theorem dX2_isLeast_3 : decode cX2_isLeast 3 = .ok (.invokevirtual 107, 3) := by decide +kernel
theorem dX2_isLeast_6 : decode cX2_isLeast 6 = .ok (.ifCond .ne 5, 3) := by decide +kernel
theorem dX2_isLeast_9 : decode cX2_isLeast 9 = .ok (.iconst 0, 1) := by decide +kernel
theorem dX2_isLeast_10 : decode cX2_isLeast 10 = .ok (.ireturn, 1) := by decide +kernel
theorem dX2_isLeast_11 : decode cX2_isLeast 11 = .ok (.iconst 0, 1) := by decide +kernel
theorem dX2_isLeast_12 : decode cX2_isLeast 12 = .ok (.istore_n 3, 1) := by decide +kernel
theorem dX2_isLeast_13 : decode cX2_isLeast 13 = .ok (.iload_n 3, 1) := by decide +kernel
theorem dX2_isLeast_14 : decode cX2_isLeast 14 = .ok (.aload_n 0, 1) := by decide +kernel
theorem dX2_isLeast_15 : decode cX2_isLeast 15 = .ok (.getfield 38, 3) := by decide +kernel
theorem dX2_isLeast_18 : decode cX2_isLeast 18 = .ok (.if_icmp .ge 44, 3) := by decide +kernel
theorem dX2_isLeast_21 : decode cX2_isLeast 21 = .ok (.iload_n 1, 1) := by decide +kernel
theorem dX2_isLeast_22 : decode cX2_isLeast 22 = .ok (.iload_n 3, 1) := by decide +kernel
theorem dX2_isLeast_23 : decode cX2_isLeast 23 = .ok (.invokestatic 82, 3) := by decide +kernel
theorem dX2_isLeast_26 : decode cX2_isLeast 26 = .ok (.ifCond .eq 30, 3) := by decide +kernel
theorem dX2_isLeast_29 : decode cX2_isLeast 29 = .ok (.aload_n 0, 1) := by decide +kernel
theorem dX2_isLeast_30 : decode cX2_isLeast 30 = .ok (.iload_n 1, 1) := by decide +kernel
theorem dX2_isLeast_31 : decode cX2_isLeast 31 = .ok (.aload_n 0, 1) := by decide +kernel
theorem dX2_isLeast_32 : decode cX2_isLeast 32 = .ok (.getfield 9, 3) := by decide +kernel
theorem dX2_isLeast_35 : decode cX2_isLeast 35 = .ok (.iload_n 3, 1) := by decide +kernel
theorem dX2_isLeast_36 : decode cX2_isLeast 36 = .ok (.iaload, 1) := by decide +kernel
theorem dX2_isLeast_37 : decode cX2_isLeast 37 = .ok (.iconst (-1), 1) := by decide +kernel
theorem dX2_isLeast_38 : decode cX2_isLeast 38 = .ok (.ixor, 1) := by decide +kernel
theorem dX2_isLeast_39 : decode cX2_isLeast 39 = .ok (.iand, 1) := by decide +kernel
theorem dX2_isLeast_40 : decode cX2_isLeast 40 = .ok (.iload_n 2, 1) := by decide +kernel
theorem dX2_isLeast_41 : decode cX2_isLeast 41 = .ok (.aload_n 0, 1) := by decide +kernel
theorem dX2_isLeast_42 : decode cX2_isLeast 42 = .ok (.getfield 15, 3) := by decide +kernel
theorem dX2_isLeast_45 : decode cX2_isLeast 45 = .ok (.iload_n 3, 1) := by decide +kernel
theorem dX2_isLeast_46 : decode cX2_isLeast 46 = .ok (.iaload, 1) := by decide +kernel
theorem dX2_isLeast_47 : decode cX2_isLeast 47 = .ok (.isub, 1) := by decide +kernel
theorem dX2_isLeast_48 : decode cX2_isLeast 48 = .ok (.invokevirtual 107, 3) := by decide +kernel
theorem dX2_isLeast_51 : decode cX2_isLeast 51 = .ok (.ifCond .eq 5, 3) := by decide +kernel
theorem dX2_isLeast_54 : decode cX2_isLeast 54 = .ok (.iconst 0, 1) := by decide +kernel
theorem dX2_isLeast_55 : decode cX2_isLeast 55 = .ok (.ireturn, 1) := by decide +kernel
theorem dX2_isLeast_56 : decode cX2_isLeast 56 = .ok (.iinc 3 1, 3) := by decide +kernel
theorem dX2_isLeast_59 : decode cX2_isLeast 59 = .ok (.goto (-46), 3) := by decide +kernel
theorem dX2_isLeast_62 : decode cX2_isLeast 62 = .ok (.iconst 1, 1) := by decide +kernel
theorem dX2_isLeast_63 : decode cX2_isLeast 63 = .ok (.ireturn, 1) := by decide +kernel
theorem dX2_sortingKey_0 : decode cX2_sortingKey 0 = .ok (.iload_n 0, 1) := by decide +kernel
theorem dX2_sortingKey_1 : decode cX2_sortingKey 1 = .ok (.bipush 9, 2) := by decide +kernel
theorem dX2_sortingKey_3 : decode cX2_sortingKey 3 = .ok (.ishl, 1) := by decide +kernel
theorem dX2_sortingKey_4 : decode cX2_sortingKey 4 = .ok (.iload_n 1, 1) := by decide +kernel
theorem dX2_sortingKey_5 : decode cX2_sortingKey 5 = .ok (.ior, 1) := by decide +kernel
theorem dX2_sortingKey_6 : decode cX2_sortingKey 6 = .ok (.bipush 10, 2) := by decide +kernel
theorem dX2_sortingKey_8 : decode cX2_sortingKey 8 = .ok (.ishl, 1) := by decide +kernel
theorem dX2_sortingKey_9 : decode cX2_sortingKey 9 = .ok (.iload_n 2, 1) := by decide +kernel
theorem dX2_sortingKey_10 : decode cX2_sortingKey 10 = .ok (.ior, 1) := by decide +kernel
theorem dX2_sortingKey_11 : decode cX2_sortingKey 11 = .ok (.ireturn, 1) := by decide +kernel
theorem dX2_insertLeast_0 : decode cX2_insertLeast 0 = .ok (.aload_n 0, 1) := by decide +kernel
theorem dX2_insertLeast_1 : decode cX2_insertLeast 1 = .ok (.getfield 76, 3) := by decide +kernel
theorem dX2_insertLeast_4 : decode cX2_insertLeast 4 = .ok (.istore_n 2, 1) := by decide +kernel
theorem dX2_insertLeast_5 : decode cX2_insertLeast 5 = .ok (.iload_n 2, 1) := by decide +kernel
theorem dX2_insertLeast_6 : decode cX2_insertLeast 6 = .ok (.ifCond .le 35, 3) := by decide +kernel
theorem dX2_insertLeast_9 : decode cX2_insertLeast 9 = .ok (.aload_n 0, 1) := by decide +kernel
theorem dX2_insertLeast_10 : decode cX2_insertLeast 10 = .ok (.getfield 29, 3) := by decide +kernel
theorem dX2_insertLeast_13 : decode cX2_insertLeast 13 = .ok (.iload_n 2, 1) := by decide +kernel
theorem dX2_insertLeast_14 : decode cX2_insertLeast 14 = .ok (.iconst 1, 1) := by decide +kernel
theorem dX2_insertLeast_15 : decode cX2_insertLeast 15 = .ok (.isub, 1) := by decide +kernel
theorem dX2_insertLeast_16 : decode cX2_insertLeast 16 = .ok (.iaload, 1) := by decide +kernel
theorem dX2_insertLeast_17 : decode cX2_insertLeast 17 = .ok (.iload_n 1, 1) := by decide +kernel
theorem dX2_insertLeast_18 : decode cX2_insertLeast 18 = .ok (.if_icmp .le 23, 3) := by decide +kernel
theorem dX2_insertLeast_21 : decode cX2_insertLeast 21 = .ok (.aload_n 0, 1) := by decide +kernel
theorem dX2_insertLeast_22 : decode cX2_insertLeast 22 = .ok (.getfield 29, 3) := by decide +kernel
theorem dX2_insertLeast_25 : decode cX2_insertLeast 25 = .ok (.iload_n 2, 1) := by decide +kernel
theorem dX2_insertLeast_26 : decode cX2_insertLeast 26 = .ok (.aload_n 0, 1) := by decide +kernel
theorem dX2_insertLeast_27 : decode cX2_insertLeast 27 = .ok (.getfield 29, 3) := by decide +kernel
theorem dX2_insertLeast_30 : decode cX2_insertLeast 30 = .ok (.iload_n 2, 1) := by decide +kernel
theorem dX2_insertLeast_31 : decode cX2_insertLeast 31 = .ok (.iconst 1, 1) := by decide +kernel
theorem dX2_insertLeast_32 : decode cX2_insertLeast 32 = .ok (.isub, 1) := by decide +kernel
theorem dX2_insertLeast_33 : decode cX2_insertLeast 33 = .ok (.iaload, 1) := by decide +kernel
theorem dX2_insertLeast_34 : decode cX2_insertLeast 34 = .ok (.iastore, 1) := by decide +kernel
theorem dX2_insertLeast_35 : decode cX2_insertLeast 35 = .ok (.iinc 2 (-1), 3) := by decide +kernel
theorem dX2_insertLeast_38 : decode cX2_insertLeast 38 = .ok (.goto (-33), 3) := by decide +kernel
theorem dX2_insertLeast_41 : decode cX2_insertLeast 41 = .ok (.aload_n 0, 1) := by decide +kernel
theorem dX2_insertLeast_42 : decode cX2_insertLeast 42 = .ok (.getfield 29, 3) := by decide +kernel
theorem dX2_insertLeast_45 : decode cX2_insertLeast 45 = .ok (.iload_n 2, 1) := by decide +kernel
theorem dX2_insertLeast_46 : decode cX2_insertLeast 46 = .ok (.iload_n 1, 1) := by decide +kernel
theorem dX2_insertLeast_47 : decode cX2_insertLeast 47 = .ok (.iastore, 1) := by decide +kernel
theorem dX2_insertLeast_48 : decode cX2_insertLeast 48 = .ok (.aload_n 0, 1) := by decide +kernel
theorem dX2_insertLeast_49 : decode cX2_insertLeast 49 = .ok (.dup, 1) := by decide +kernel
theorem dX2_insertLeast_50 : decode cX2_insertLeast 50 = .ok (.getfield 76, 3) := by decide +kernel
theorem dX2_insertLeast_53 : decode cX2_insertLeast 53 = .ok (.iconst 1, 1) := by decide +kernel
theorem dX2_insertLeast_54 : decode cX2_insertLeast 54 = .ok (.iadd, 1) := by decide +kernel
theorem dX2_insertLeast_55 : decode cX2_insertLeast 55 = .ok (.putfield 76, 3) := by decide +kernel
theorem dX2_insertLeast_58 : decode cX2_insertLeast 58 = .ok (.return_, 1) := by decide +kernel
theorem dX2_ofLeast_0 : decode cX2_ofLeast 0 = .ok (.aload_n 0, 1) := by decide +kernel
theorem dX2_ofLeast_1 : decode cX2_ofLeast 1 = .ok (.getfield 29, 3) := by decide +kernel
theorem dX2_ofLeast_4 : decode cX2_ofLeast 4 = .ok (.iload_n 1, 1) := by decide +kernel
theorem dX2_ofLeast_5 : decode cX2_ofLeast 5 = .ok (.iaload, 1) := by decide +kernel
theorem dX2_ofLeast_6 : decode cX2_ofLeast 6 = .ok (.istore_n 3, 1) := by decide +kernel
theorem dX2_ofLeast_7 : decode cX2_ofLeast 7 = .ok (.iload_n 2, 1) := by decide +kernel
theorem dX2_ofLeast_8 : decode cX2_ofLeast 8 = .ok (.lookupswitch 39 #[(0, 28), (1, 34)], 28) := by decide +kernel
theorem dX2_ofLeast_36 : decode cX2_ofLeast 36 = .ok (.iload_n 3, 1) := by decide +kernel
theorem dX2_ofLeast_37 : decode cX2_ofLeast 37 = .ok (.sipush 1023, 3) := by decide +kernel
theorem dX2_ofLeast_40 : decode cX2_ofLeast 40 = .ok (.iand, 1) := by decide +kernel
theorem dX2_ofLeast_41 : decode cX2_ofLeast 41 = .ok (.ireturn, 1) := by decide +kernel
theorem dX2_ofLeast_42 : decode cX2_ofLeast 42 = .ok (.iload_n 3, 1) := by decide +kernel
theorem dX2_ofLeast_43 : decode cX2_ofLeast 43 = .ok (.bipush 19, 2) := by decide +kernel
theorem dX2_ofLeast_45 : decode cX2_ofLeast 45 = .ok (.ishr, 1) := by decide +kernel
theorem dX2_ofLeast_46 : decode cX2_ofLeast 46 = .ok (.ireturn, 1) := by decide +kernel
theorem dX2_ofLeast_47 : decode cX2_ofLeast 47 = .ok (.iload_n 3, 1) := by decide +kernel
theorem dX2_ofLeast_48 : decode cX2_ofLeast 48 = .ok (.bipush 10, 2) := by decide +kernel
theorem dX2_ofLeast_50 : decode cX2_ofLeast 50 = .ok (.ishr, 1) := by decide +kernel
theorem dX2_ofLeast_51 : decode cX2_ofLeast 51 = .ok (.sipush 511, 3) := by decide +kernel
theorem dX2_ofLeast_54 : decode cX2_ofLeast 54 = .ok (.iand, 1) := by decide +kernel
theorem dX2_ofLeast_55 : decode cX2_ofLeast 55 = .ok (.ireturn, 1) := by decide +kernel
theorem dX3_init_0 : decode cX3_init 0 = .ok (.aload_n 0, 1) := by decide +kernel
theorem dX3_init_1 : decode cX3_init 1 = .ok (.invokespecial 3, 3) := by decide +kernel
theorem dX3_init_4 : decode cX3_init 4 = .ok (.aload_n 0, 1) := by decide +kernel
theorem dX3_init_5 : decode cX3_init 5 = .ok (.iconst 1, 1) := by decide +kernel
theorem dX3_init_6 : decode cX3_init 6 = .ok (.putfield 9, 3) := by decide +kernel
theorem dX3_init_9 : decode cX3_init 9 = .ok (.aload_n 0, 1) := by decide +kernel
theorem dX3_init_10 : decode cX3_init 10 = .ok (.bipush 10, 2) := by decide +kernel
theorem dX3_init_12 : decode cX3_init 12 = .ok (.newarray .int, 2) := by decide +kernel
theorem dX3_init_14 : decode cX3_init 14 = .ok (.putfield 15, 3) := by decide +kernel
theorem dX3_init_17 : decode cX3_init 17 = .ok (.aload_n 0, 1) := by decide +kernel
theorem dX3_init_18 : decode cX3_init 18 = .ok (.bipush 10, 2) := by decide +kernel
theorem dX3_init_20 : decode cX3_init 20 = .ok (.newarray .int, 2) := by decide +kernel
theorem dX3_init_22 : decode cX3_init 22 = .ok (.putfield 19, 3) := by decide +kernel
theorem dX3_init_25 : decode cX3_init 25 = .ok (.aload_n 0, 1) := by decide +kernel
theorem dX3_init_26 : decode cX3_init 26 = .ok (.bipush 10, 2) := by decide +kernel
theorem dX3_init_28 : decode cX3_init 28 = .ok (.newarray .int, 2) := by decide +kernel
theorem dX3_init_30 : decode cX3_init 30 = .ok (.putfield 22, 3) := by decide +kernel
theorem dX3_init_33 : decode cX3_init 33 = .ok (.aload_n 0, 1) := by decide +kernel
theorem dX3_init_34 : decode cX3_init 34 = .ok (.new 25, 3) := by decide +kernel
theorem dX3_init_37 : decode cX3_init 37 = .ok (.dup, 1) := by decide +kernel
theorem dX3_init_38 : decode cX3_init 38 = .ok (.invokespecial 27, 3) := by decide +kernel
theorem dX3_init_41 : decode cX3_init 41 = .ok (.putfield 28, 3) := by decide +kernel
theorem dX3_init_44 : decode cX3_init 44 = .ok (.return_, 1) := by decide +kernel
theorem dX3_copyFrom_0 : decode cX3_copyFrom 0 = .ok (.aload_n 0, 1) := by decide +kernel
theorem dX3_copyFrom_1 : decode cX3_copyFrom 1 = .ok (.aload_n 1, 1) := by decide +kernel
theorem dX3_copyFrom_2 : decode cX3_copyFrom 2 = .ok (.getfield 32, 3) := by decide +kernel
theorem dX3_copyFrom_5 : decode cX3_copyFrom 5 = .ok (.putfield 32, 3) := by decide +kernel
theorem dX3_copyFrom_8 : decode cX3_copyFrom 8 = .ok (.aload_n 0, 1) := by decide +kernel
theorem dX3_copyFrom_9 : decode cX3_copyFrom 9 = .ok (.aload_n 1, 1) := by decide +kernel
theorem dX3_copyFrom_10 : decode cX3_copyFrom 10 = .ok (.getfield 9, 3) := by decide +kernel
theorem dX3_copyFrom_13 : decode cX3_copyFrom 13 = .ok (.putfield 9, 3) := by decide +kernel
theorem dX3_copyFrom_16 : decode cX3_copyFrom 16 = .ok (.aload_n 0, 1) := by decide +kernel
theorem dX3_copyFrom_17 : decode cX3_copyFrom 17 = .ok (.aload_n 1, 1) := by decide +kernel
theorem dX3_copyFrom_18 : decode cX3_copyFrom 18 = .ok (.getfield 35, 3) := by decide +kernel
theorem dX3_copyFrom_21 : decode cX3_copyFrom 21 = .ok (.putfield 35, 3) := by decide +kernel
theorem dX3_copyFrom_24 : decode cX3_copyFrom 24 = .ok (.aload_n 1, 1) := by decide +kernel
theorem dX3_copyFrom_25 : decode cX3_copyFrom 25 = .ok (.getfield 15, 3) := by decide +kernel
theorem dX3_copyFrom_28 : decode cX3_copyFrom 28 = .ok (.iconst 0, 1) := by decide +kernel
theorem dX3_copyFrom_29 : decode cX3_copyFrom 29 = .ok (.aload_n 0, 1) := by decide +kernel
theorem dX3_copyFrom_30 : decode cX3_copyFrom 30 = .ok (.getfield 15, 3) := by decide +kernel
theorem dX3_copyFrom_33 : decode cX3_copyFrom 33 = .ok (.iconst 0, 1) := by decide +kernel
theorem dX3_copyFrom_34 : decode cX3_copyFrom 34 = .ok (.bipush 10, 2) := by decide +kernel
theorem dX3_copyFrom_36 : decode cX3_copyFrom 36 = .ok (.invokestatic 38, 3) := by decide +kernel
theorem dX3_copyFrom_39 : decode cX3_copyFrom 39 = .ok (.aload_n 1, 1) := by decide +kernel
theorem dX3_copyFrom_40 : decode cX3_copyFrom 40 = .ok (.getfield 19, 3) := by decide +kernel
theorem dX3_copyFrom_43 : decode cX3_copyFrom 43 = .ok (.iconst 0, 1) := by decide +kernel
theorem dX3_copyFrom_44 : decode cX3_copyFrom 44 = .ok (.aload_n 0, 1) := by decide +kernel
theorem dX3_copyFrom_45 : decode cX3_copyFrom 45 = .ok (.getfield 19, 3) := by decide +kernel
theorem dX3_copyFrom_48 : decode cX3_copyFrom 48 = .ok (.iconst 0, 1) := by decide +kernel
theorem dX3_copyFrom_49 : decode cX3_copyFrom 49 = .ok (.bipush 10, 2) := by decide +kernel
theorem dX3_copyFrom_51 : decode cX3_copyFrom 51 = .ok (.invokestatic 38, 3) := by decide +kernel
theorem dX3_copyFrom_54 : decode cX3_copyFrom 54 = .ok (.aload_n 1, 1) := by decide +kernel
theorem dX3_copyFrom_55 : decode cX3_copyFrom 55 = .ok (.getfield 22, 3) := by decide +kernel
theorem dX3_copyFrom_58 : decode cX3_copyFrom 58 = .ok (.iconst 0, 1) := by decide +kernel
theorem dX3_copyFrom_59 : decode cX3_copyFrom 59 = .ok (.aload_n 0, 1) := by decide +kernel
theorem dX3_copyFrom_60 : decode cX3_copyFrom 60 = .ok (.getfield 22, 3) := by decide +kernel
theorem dX3_copyFrom_63 : decode cX3_copyFrom 63 = .ok (.iconst 0, 1) := by decide +kernel
theorem dX3_copyFrom_64 : decode cX3_copyFrom 64 = .ok (.bipush 10, 2) := by decide +kernel
theorem dX3_copyFrom_66 : decode cX3_copyFrom 66 = .ok (.invokestatic 38, 3) := by decide +kernel
theorem dX3_copyFrom_69 : decode cX3_copyFrom 69 = .ok (.aload_n 0, 1) := by decide +kernel
theorem dX3_copyFrom_70 : decode cX3_copyFrom 70 = .ok (.getfield 28, 3) := by decide +kernel
theorem dX3_copyFrom_73 : decode cX3_copyFrom 73 = .ok (.aload_n 1, 1) := by decide +kernel
theorem dX3_copyFrom_74 : decode cX3_copyFrom 74 = .ok (.getfield 28, 3) := by decide +kernel
theorem dX3_copyFrom_77 : decode cX3_copyFrom 77 = .ok (.invokevirtual 44, 3) := by decide +kernel
theorem dX3_copyFrom_80 : decode cX3_copyFrom 80 = .ok (.return_, 1) := by decide +kernel
theorem dX3_has_0 : decode cX3_has 0 = .ok (.iload_n 1, 1) := by decide +kernel
theorem dX3_has_1 : decode cX3_has 1 = .ok (.ifCond .lt 15, 3) := by decide +kernel
theorem dX3_has_4 : decode cX3_has 4 = .ok (.iload_n 1, 1) := by decide +kernel
theorem dX3_has_5 : decode cX3_has 5 = .ok (.aload_n 0, 1) := by decide +kernel
theorem dX3_has_6 : decode cX3_has 6 = .ok (.getfield 32, 3) := by decide +kernel
theorem dX3_has_9 : decode cX3_has 9 = .ok (.if_icmp .ge 7, 3) := by decide +kernel
theorem dX3_has_12 : decode cX3_has 12 = .ok (.iconst 1, 1) := by decide +kernel
theorem dX3_has_13 : decode cX3_has 13 = .ok (.goto 4, 3) := by decide +kernel
theorem dX3_has_16 : decode cX3_has 16 = .ok (.iconst 0, 1) := by decide +kernel
theorem dX3_has_17 : decode cX3_has 17 = .ok (.ireturn, 1) := by decide +kernel
theorem dX3_everyone_0 : decode cX3_everyone 0 = .ok (.iconst 1, 1) := by decide +kernel
theorem dX3_everyone_1 : decode cX3_everyone 1 = .ok (.aload_n 0, 1) := by decide +kernel
theorem dX3_everyone_2 : decode cX3_everyone 2 = .ok (.getfield 32, 3) := by decide +kernel
theorem dX3_everyone_5 : decode cX3_everyone 5 = .ok (.ishl, 1) := by decide +kernel
theorem dX3_everyone_6 : decode cX3_everyone 6 = .ok (.iconst 1, 1) := by decide +kernel
theorem dX3_everyone_7 : decode cX3_everyone 7 = .ok (.isub, 1) := by decide +kernel
theorem dX3_everyone_8 : decode cX3_everyone 8 = .ok (.ireturn, 1) := by decide +kernel
theorem dX3_append_0 : decode cX3_append 0 = .ok (.aload_n 0, 1) := by decide +kernel
theorem dX3_append_1 : decode cX3_append 1 = .ok (.getfield 32, 3) := by decide +kernel
theorem dX3_append_4 : decode cX3_append 4 = .ok (.istore_n 2, 1) := by decide +kernel
theorem dX3_append_5 : decode cX3_append 5 = .ok (.iload_n 2, 1) := by decide +kernel
theorem dX3_append_6 : decode cX3_append 6 = .ok (.bipush 10, 2) := by decide +kernel
theorem dX3_append_8 : decode cX3_append 8 = .ok (.if_icmp .ge 37, 3) := by decide +kernel
theorem dX3_append_11 : decode cX3_append 11 = .ok (.aload_n 0, 1) := by decide +kernel
theorem dX3_append_12 : decode cX3_append 12 = .ok (.getfield 15, 3) := by decide +kernel
theorem dX3_append_15 : decode cX3_append 15 = .ok (.iload_n 2, 1) := by decide +kernel
theorem dX3_append_16 : decode cX3_append 16 = .ok (.iload_n 1, 1) := by decide +kernel
theorem dX3_append_17 : decode cX3_append 17 = .ok (.iastore, 1) := by decide +kernel
theorem dX3_append_18 : decode cX3_append 18 = .ok (.aload_n 0, 1) := by decide +kernel
theorem dX3_append_19 : decode cX3_append 19 = .ok (.getfield 19, 3) := by decide +kernel
theorem dX3_append_22 : decode cX3_append 22 = .ok (.iload_n 2, 1) := by decide +kernel
theorem dX3_append_23 : decode cX3_append 23 = .ok (.iload_n 2, 1) := by decide +kernel
theorem dX3_append_24 : decode cX3_append 24 = .ok (.invokestatic 48, 3) := by decide +kernel
theorem dX3_append_27 : decode cX3_append 27 = .ok (.iastore, 1) := by decide +kernel
theorem dX3_append_28 : decode cX3_append 28 = .ok (.aload_n 0, 1) := by decide +kernel
theorem dX3_append_29 : decode cX3_append 29 = .ok (.getfield 22, 3) := by decide +kernel
theorem dX3_append_32 : decode cX3_append 32 = .ok (.iload_n 2, 1) := by decide +kernel
theorem dX3_append_33 : decode cX3_append 33 = .ok (.iconst 0, 1) := by decide +kernel
theorem dX3_append_34 : decode cX3_append 34 = .ok (.iastore, 1) := by decide +kernel
theorem dX3_append_35 : decode cX3_append 35 = .ok (.aload_n 0, 1) := by decide +kernel
theorem dX3_append_36 : decode cX3_append 36 = .ok (.dup, 1) := by decide +kernel
theorem dX3_append_37 : decode cX3_append 37 = .ok (.getfield 32, 3) := by decide +kernel
theorem dX3_append_40 : decode cX3_append 40 = .ok (.iconst 1, 1) := by decide +kernel
theorem dX3_append_41 : decode cX3_append 41 = .ok (.iadd, 1) := by decide +kernel
theorem dX3_append_42 : decode cX3_append 42 = .ok (.putfield 32, 3) := by decide +kernel
theorem dX3_append_45 : decode cX3_append 45 = .ok (.iload_n 2, 1) := by decide +kernel
theorem dX3_append_46 : decode cX3_append 46 = .ok (.ireturn, 1) := by decide +kernel
theorem dX3_drop_0 : decode cX3_drop 0 = .ok (.iload_n 1, 1) := by decide +kernel
theorem dX3_drop_1 : decode cX3_drop 1 = .ok (.iconst 1, 1) := by decide +kernel
theorem dX3_drop_2 : decode cX3_drop 2 = .ok (.iadd, 1) := by decide +kernel
theorem dX3_drop_3 : decode cX3_drop 3 = .ok (.istore_n 2, 1) := by decide +kernel
theorem dX3_drop_4 : decode cX3_drop 4 = .ok (.iload_n 2, 1) := by decide +kernel
theorem dX3_drop_5 : decode cX3_drop 5 = .ok (.aload_n 0, 1) := by decide +kernel
theorem dX3_drop_6 : decode cX3_drop 6 = .ok (.getfield 32, 3) := by decide +kernel
theorem dX3_drop_9 : decode cX3_drop 9 = .ok (.if_icmp .ge 51, 3) := by decide +kernel
theorem dX3_drop_12 : decode cX3_drop 12 = .ok (.aload_n 0, 1) := by decide +kernel
theorem dX3_drop_13 : decode cX3_drop 13 = .ok (.getfield 15, 3) := by decide +kernel
theorem dX3_drop_16 : decode cX3_drop 16 = .ok (.iload_n 2, 1) := by decide +kernel
theorem dX3_drop_17 : decode cX3_drop 17 = .ok (.iconst 1, 1) := by decide +kernel
theorem dX3_drop_18 : decode cX3_drop 18 = .ok (.isub, 1) := by decide +kernel
theorem dX3_drop_19 : decode cX3_drop 19 = .ok (.aload_n 0, 1) := by decide +kernel
theorem dX3_drop_20 : decode cX3_drop 20 = .ok (.getfield 15, 3) := by decide +kernel
theorem dX3_drop_23 : decode cX3_drop 23 = .ok (.iload_n 2, 1) := by decide +kernel
theorem dX3_drop_24 : decode cX3_drop 24 = .ok (.iaload, 1) := by decide +kernel
theorem dX3_drop_25 : decode cX3_drop 25 = .ok (.iastore, 1) := by decide +kernel
theorem dX3_drop_26 : decode cX3_drop 26 = .ok (.aload_n 0, 1) := by decide +kernel
theorem dX3_drop_27 : decode cX3_drop 27 = .ok (.getfield 19, 3) := by decide +kernel
theorem dX3_drop_30 : decode cX3_drop 30 = .ok (.iload_n 2, 1) := by decide +kernel
theorem dX3_drop_31 : decode cX3_drop 31 = .ok (.iconst 1, 1) := by decide +kernel
theorem dX3_drop_32 : decode cX3_drop 32 = .ok (.isub, 1) := by decide +kernel
theorem dX3_drop_33 : decode cX3_drop 33 = .ok (.aload_n 0, 1) := by decide +kernel
theorem dX3_drop_34 : decode cX3_drop 34 = .ok (.getfield 19, 3) := by decide +kernel
theorem dX3_drop_37 : decode cX3_drop 37 = .ok (.iload_n 2, 1) := by decide +kernel
theorem dX3_drop_38 : decode cX3_drop 38 = .ok (.iaload, 1) := by decide +kernel
theorem dX3_drop_39 : decode cX3_drop 39 = .ok (.iastore, 1) := by decide +kernel
theorem dX3_drop_40 : decode cX3_drop 40 = .ok (.aload_n 0, 1) := by decide +kernel
theorem dX3_drop_41 : decode cX3_drop 41 = .ok (.getfield 22, 3) := by decide +kernel
theorem dX3_drop_44 : decode cX3_drop 44 = .ok (.iload_n 2, 1) := by decide +kernel
theorem dX3_drop_45 : decode cX3_drop 45 = .ok (.iconst 1, 1) := by decide +kernel
theorem dX3_drop_46 : decode cX3_drop 46 = .ok (.isub, 1) := by decide +kernel
theorem dX3_drop_47 : decode cX3_drop 47 = .ok (.aload_n 0, 1) := by decide +kernel
theorem dX3_drop_48 : decode cX3_drop 48 = .ok (.getfield 22, 3) := by decide +kernel
theorem dX3_drop_51 : decode cX3_drop 51 = .ok (.iload_n 2, 1) := by decide +kernel
theorem dX3_drop_52 : decode cX3_drop 52 = .ok (.iaload, 1) := by decide +kernel
theorem dX3_drop_53 : decode cX3_drop 53 = .ok (.iastore, 1) := by decide +kernel
theorem dX3_drop_54 : decode cX3_drop 54 = .ok (.iinc 2 1, 3) := by decide +kernel
theorem dX3_drop_57 : decode cX3_drop 57 = .ok (.goto (-53), 3) := by decide +kernel
theorem dX3_drop_60 : decode cX3_drop 60 = .ok (.aload_n 0, 1) := by decide +kernel
theorem dX3_drop_61 : decode cX3_drop 61 = .ok (.dup, 1) := by decide +kernel
theorem dX3_drop_62 : decode cX3_drop 62 = .ok (.getfield 32, 3) := by decide +kernel
theorem dX3_drop_65 : decode cX3_drop 65 = .ok (.iconst 1, 1) := by decide +kernel
theorem dX3_drop_66 : decode cX3_drop 66 = .ok (.isub, 1) := by decide +kernel
theorem dX3_drop_67 : decode cX3_drop 67 = .ok (.putfield 32, 3) := by decide +kernel
theorem dX3_drop_70 : decode cX3_drop 70 = .ok (.iconst 0, 1) := by decide +kernel
theorem dX3_drop_71 : decode cX3_drop 71 = .ok (.istore_n 2, 1) := by decide +kernel
theorem dX3_drop_72 : decode cX3_drop 72 = .ok (.iload_n 2, 1) := by decide +kernel
theorem dX3_drop_73 : decode cX3_drop 73 = .ok (.aload_n 0, 1) := by decide +kernel
theorem dX3_drop_74 : decode cX3_drop 74 = .ok (.getfield 32, 3) := by decide +kernel
theorem dX3_drop_77 : decode cX3_drop 77 = .ok (.if_icmp .ge 25, 3) := by decide +kernel
theorem dX3_drop_80 : decode cX3_drop 80 = .ok (.aload_n 0, 1) := by decide +kernel
theorem dX3_drop_81 : decode cX3_drop 81 = .ok (.getfield 19, 3) := by decide +kernel
theorem dX3_drop_84 : decode cX3_drop 84 = .ok (.iload_n 2, 1) := by decide +kernel
theorem dX3_drop_85 : decode cX3_drop 85 = .ok (.aload_n 0, 1) := by decide +kernel
theorem dX3_drop_86 : decode cX3_drop 86 = .ok (.getfield 19, 3) := by decide +kernel
theorem dX3_drop_89 : decode cX3_drop 89 = .ok (.iload_n 2, 1) := by decide +kernel
theorem dX3_drop_90 : decode cX3_drop 90 = .ok (.iaload, 1) := by decide +kernel
theorem dX3_drop_91 : decode cX3_drop 91 = .ok (.iload_n 1, 1) := by decide +kernel
theorem dX3_drop_92 : decode cX3_drop 92 = .ok (.invokestatic 52, 3) := by decide +kernel
theorem dX3_drop_95 : decode cX3_drop 95 = .ok (.iastore, 1) := by decide +kernel
theorem dX3_drop_96 : decode cX3_drop 96 = .ok (.iinc 2 1, 3) := by decide +kernel
theorem dX3_drop_99 : decode cX3_drop 99 = .ok (.goto (-27), 3) := by decide +kernel
theorem dX3_drop_102 : decode cX3_drop 102 = .ok (.aload_n 0, 1) := by decide +kernel
theorem dX3_drop_103 : decode cX3_drop 103 = .ok (.aload_n 0, 1) := by decide +kernel
theorem dX3_drop_104 : decode cX3_drop 104 = .ok (.getfield 35, 3) := by decide +kernel
theorem dX3_drop_107 : decode cX3_drop 107 = .ok (.iload_n 1, 1) := by decide +kernel
theorem dX3_drop_108 : decode cX3_drop 108 = .ok (.invokestatic 52, 3) := by decide +kernel
theorem dX3_drop_111 : decode cX3_drop 111 = .ok (.putfield 35, 3) := by decide +kernel
theorem dX3_drop_114 : decode cX3_drop 114 = .ok (.return_, 1) := by decide +kernel
theorem dX3_closeUp_0 : decode cX3_closeUp 0 = .ok (.iload_n 1, 1) := by decide +kernel
theorem dX3_closeUp_1 : decode cX3_closeUp 1 = .ok (.invokestatic 48, 3) := by decide +kernel
theorem dX3_closeUp_4 : decode cX3_closeUp 4 = .ok (.iconst 1, 1) := by decide +kernel
theorem dX3_closeUp_5 : decode cX3_closeUp 5 = .ok (.isub, 1) := by decide +kernel
theorem dX3_closeUp_6 : decode cX3_closeUp 6 = .ok (.istore_n 2, 1) := by decide +kernel
theorem dX3_closeUp_7 : decode cX3_closeUp 7 = .ok (.iload_n 0, 1) := by decide +kernel
theorem dX3_closeUp_8 : decode cX3_closeUp 8 = .ok (.iload_n 2, 1) := by decide +kernel
theorem dX3_closeUp_9 : decode cX3_closeUp 9 = .ok (.iand, 1) := by decide +kernel
theorem dX3_closeUp_10 : decode cX3_closeUp 10 = .ok (.iload_n 0, 1) := by decide +kernel
theorem dX3_closeUp_11 : decode cX3_closeUp 11 = .ok (.iconst 1, 1) := by decide +kernel
theorem dX3_closeUp_12 : decode cX3_closeUp 12 = .ok (.ishr, 1) := by decide +kernel
theorem dX3_closeUp_13 : decode cX3_closeUp 13 = .ok (.iload_n 2, 1) := by decide +kernel
theorem dX3_closeUp_14 : decode cX3_closeUp 14 = .ok (.iconst (-1), 1) := by decide +kernel
theorem dX3_closeUp_15 : decode cX3_closeUp 15 = .ok (.ixor, 1) := by decide +kernel
theorem dX3_closeUp_16 : decode cX3_closeUp 16 = .ok (.iand, 1) := by decide +kernel
theorem dX3_closeUp_17 : decode cX3_closeUp 17 = .ok (.ior, 1) := by decide +kernel
theorem dX3_closeUp_18 : decode cX3_closeUp 18 = .ok (.ireturn, 1) := by decide +kernel
theorem dX3_makeBloc_0 : decode cX3_makeBloc 0 = .ok (.iconst 0, 1) := by decide +kernel
theorem dX3_makeBloc_1 : decode cX3_makeBloc 1 = .ok (.istore_n 2, 1) := by decide +kernel
theorem dX3_makeBloc_2 : decode cX3_makeBloc 2 = .ok (.iload_n 2, 1) := by decide +kernel
theorem dX3_makeBloc_3 : decode cX3_makeBloc 3 = .ok (.aload_n 0, 1) := by decide +kernel
theorem dX3_makeBloc_4 : decode cX3_makeBloc 4 = .ok (.getfield 32, 3) := by decide +kernel
theorem dX3_makeBloc_7 : decode cX3_makeBloc 7 = .ok (.if_icmp .ge 24, 3) := by decide +kernel
theorem dX3_makeBloc_10 : decode cX3_makeBloc 10 = .ok (.iload_n 1, 1) := by decide +kernel
theorem dX3_makeBloc_11 : decode cX3_makeBloc 11 = .ok (.iload_n 2, 1) := by decide +kernel
theorem dX3_makeBloc_12 : decode cX3_makeBloc 12 = .ok (.invokestatic 56, 3) := by decide +kernel
theorem dX3_makeBloc_15 : decode cX3_makeBloc 15 = .ok (.ifCond .eq 10, 3) := by decide +kernel
theorem dX3_makeBloc_18 : decode cX3_makeBloc 18 = .ok (.aload_n 0, 1) := by decide +kernel
theorem dX3_makeBloc_19 : decode cX3_makeBloc 19 = .ok (.getfield 19, 3) := by decide +kernel
theorem dX3_makeBloc_22 : decode cX3_makeBloc 22 = .ok (.iload_n 2, 1) := by decide +kernel
theorem dX3_makeBloc_23 : decode cX3_makeBloc 23 = .ok (.iload_n 1, 1) := by decide +kernel
theorem dX3_makeBloc_24 : decode cX3_makeBloc 24 = .ok (.iastore, 1) := by decide +kernel
theorem dX3_makeBloc_25 : decode cX3_makeBloc 25 = .ok (.iinc 2 1, 3) := by decide +kernel
theorem dX3_makeBloc_28 : decode cX3_makeBloc 28 = .ok (.goto (-26), 3) := by decide +kernel
theorem dX3_makeBloc_31 : decode cX3_makeBloc 31 = .ok (.return_, 1) := by decide +kernel
theorem dX3_isLowest_0 : decode cX3_isLowest 0 = .ok (.aload_n 0, 1) := by decide +kernel
theorem dX3_isLowest_1 : decode cX3_isLowest 1 = .ok (.iload_n 1, 1) := by decide +kernel
theorem dX3_isLowest_2 : decode cX3_isLowest 2 = .ok (.invokevirtual 60, 3) := by decide +kernel
theorem dX3_isLowest_5 : decode cX3_isLowest 5 = .ok (.iload_n 1, 1) := by decide +kernel
theorem dX3_isLowest_6 : decode cX3_isLowest 6 = .ok (.if_icmp .ne 7, 3) := by decide +kernel
theorem dX3_isLowest_9 : decode cX3_isLowest 9 = .ok (.iconst 1, 1) := by decide +kernel
theorem dX3_isLowest_10 : decode cX3_isLowest 10 = .ok (.goto 4, 3) := by decide +kernel
theorem dX3_isLowest_13 : decode cX3_isLowest 13 = .ok (.iconst 0, 1) := by decide +kernel
theorem dX3_isLowest_14 : decode cX3_isLowest 14 = .ok (.ireturn, 1) := by decide +kernel
theorem dX3_lowestBeside_0 : decode cX3_lowestBeside 0 = .ok (.iconst 0, 1) := by decide +kernel
theorem dX3_lowestBeside_1 : decode cX3_lowestBeside 1 = .ok (.istore_n 2, 1) := by decide +kernel
theorem dX3_lowestBeside_2 : decode cX3_lowestBeside 2 = .ok (.iload_n 2, 1) := by decide +kernel
theorem dX3_lowestBeside_3 : decode cX3_lowestBeside 3 = .ok (.iload_n 1, 1) := by decide +kernel
theorem dX3_lowestBeside_4 : decode cX3_lowestBeside 4 = .ok (.if_icmp .ge 24, 3) := by decide +kernel
theorem dX3_lowestBeside_7 : decode cX3_lowestBeside 7 = .ok (.aload_n 0, 1) := by decide +kernel
theorem dX3_lowestBeside_8 : decode cX3_lowestBeside 8 = .ok (.getfield 19, 3) := by decide +kernel
theorem dX3_lowestBeside_11 : decode cX3_lowestBeside 11 = .ok (.iload_n 1, 1) := by decide +kernel
theorem dX3_lowestBeside_12 : decode cX3_lowestBeside 12 = .ok (.iaload, 1) := by decide +kernel
theorem dX3_lowestBeside_13 : decode cX3_lowestBeside 13 = .ok (.iload_n 2, 1) := by decide +kernel
theorem dX3_lowestBeside_14 : decode cX3_lowestBeside 14 = .ok (.invokestatic 56, 3) := by decide +kernel
theorem dX3_lowestBeside_17 : decode cX3_lowestBeside 17 = .ok (.ifCond .eq 5, 3) := by decide +kernel
theorem dX3_lowestBeside_20 : decode cX3_lowestBeside 20 = .ok (.iload_n 2, 1) := by decide +kernel
theorem dX3_lowestBeside_21 : decode cX3_lowestBeside 21 = .ok (.ireturn, 1) := by decide +kernel
theorem dX3_lowestBeside_22 : decode cX3_lowestBeside 22 = .ok (.iinc 2 1, 3) := by decide +kernel
theorem dX3_lowestBeside_25 : decode cX3_lowestBeside 25 = .ok (.goto (-23), 3) := by decide +kernel
theorem dX3_lowestBeside_28 : decode cX3_lowestBeside 28 = .ok (.iload_n 1, 1) := by decide +kernel
theorem dX3_lowestBeside_29 : decode cX3_lowestBeside 29 = .ok (.ireturn, 1) := by decide +kernel
theorem dX3_blocCount_0 : decode cX3_blocCount 0 = .ok (.iconst 0, 1) := by decide +kernel
theorem dX3_blocCount_1 : decode cX3_blocCount 1 = .ok (.istore_n 1, 1) := by decide +kernel
theorem dX3_blocCount_2 : decode cX3_blocCount 2 = .ok (.iconst 0, 1) := by decide +kernel
theorem dX3_blocCount_3 : decode cX3_blocCount 3 = .ok (.istore_n 2, 1) := by decide +kernel
theorem dX3_blocCount_4 : decode cX3_blocCount 4 = .ok (.iload_n 2, 1) := by decide +kernel
theorem dX3_blocCount_5 : decode cX3_blocCount 5 = .ok (.aload_n 0, 1) := by decide +kernel
theorem dX3_blocCount_6 : decode cX3_blocCount 6 = .ok (.getfield 32, 3) := by decide +kernel
theorem dX3_blocCount_9 : decode cX3_blocCount 9 = .ok (.if_icmp .ge 20, 3) := by decide +kernel
theorem dX3_blocCount_12 : decode cX3_blocCount 12 = .ok (.aload_n 0, 1) := by decide +kernel
theorem dX3_blocCount_13 : decode cX3_blocCount 13 = .ok (.iload_n 2, 1) := by decide +kernel
theorem dX3_blocCount_14 : decode cX3_blocCount 14 = .ok (.invokevirtual 63, 3) := by decide +kernel
theorem dX3_blocCount_17 : decode cX3_blocCount 17 = .ok (.ifCond .eq 6, 3) := by decide +kernel
theorem dX3_blocCount_20 : decode cX3_blocCount 20 = .ok (.iinc 1 1, 3) := by decide +kernel
theorem dX3_blocCount_23 : decode cX3_blocCount 23 = .ok (.iinc 2 1, 3) := by decide +kernel
theorem dX3_blocCount_26 : decode cX3_blocCount 26 = .ok (.goto (-22), 3) := by decide +kernel
theorem dX3_blocCount_29 : decode cX3_blocCount 29 = .ok (.iload_n 1, 1) := by decide +kernel
theorem dX3_blocCount_30 : decode cX3_blocCount 30 = .ok (.ireturn, 1) := by decide +kernel
theorem dX3_leaderOf_0 : decode cX3_leaderOf 0 = .ok (.aload_n 0, 1) := by decide +kernel
theorem dX3_leaderOf_1 : decode cX3_leaderOf 1 = .ok (.iload_n 1, 1) := by decide +kernel
theorem dX3_leaderOf_2 : decode cX3_leaderOf 2 = .ok (.invokevirtual 60, 3) := by decide +kernel
theorem dX3_leaderOf_5 : decode cX3_leaderOf 5 = .ok (.istore_n 2, 1) := by decide +kernel
theorem dX3_leaderOf_6 : decode cX3_leaderOf 6 = .ok (.iload_n 2, 1) := by decide +kernel
theorem dX3_leaderOf_7 : decode cX3_leaderOf 7 = .ok (.iconst 1, 1) := by decide +kernel
theorem dX3_leaderOf_8 : decode cX3_leaderOf 8 = .ok (.iadd, 1) := by decide +kernel
theorem dX3_leaderOf_9 : decode cX3_leaderOf 9 = .ok (.istore_n 3, 1) := by decide +kernel
theorem dX3_leaderOf_10 : decode cX3_leaderOf 10 = .ok (.iload_n 3, 1) := by decide +kernel
theorem dX3_leaderOf_11 : decode cX3_leaderOf 11 = .ok (.aload_n 0, 1) := by decide +kernel
theorem dX3_leaderOf_12 : decode cX3_leaderOf 12 = .ok (.getfield 32, 3) := by decide +kernel
theorem dX3_leaderOf_15 : decode cX3_leaderOf 15 = .ok (.if_icmp .ge 39, 3) := by decide +kernel
theorem dX3_leaderOf_18 : decode cX3_leaderOf 18 = .ok (.aload_n 0, 1) := by decide +kernel
theorem dX3_leaderOf_19 : decode cX3_leaderOf 19 = .ok (.getfield 19, 3) := by decide +kernel
theorem dX3_leaderOf_22 : decode cX3_leaderOf 22 = .ok (.iload_n 1, 1) := by decide +kernel
theorem dX3_leaderOf_23 : decode cX3_leaderOf 23 = .ok (.iaload, 1) := by decide +kernel
theorem dX3_leaderOf_24 : decode cX3_leaderOf 24 = .ok (.iload_n 3, 1) := by decide +kernel
theorem dX3_leaderOf_25 : decode cX3_leaderOf 25 = .ok (.invokestatic 56, 3) := by decide +kernel
theorem dX3_leaderOf_28 : decode cX3_leaderOf 28 = .ok (.ifCond .eq 20, 3) := by decide +kernel
theorem dX3_leaderOf_31 : decode cX3_leaderOf 31 = .ok (.aload_n 0, 1) := by decide +kernel
theorem dX3_leaderOf_32 : decode cX3_leaderOf 32 = .ok (.getfield 15, 3) := by decide +kernel
theorem dX3_leaderOf_35 : decode cX3_leaderOf 35 = .ok (.iload_n 3, 1) := by decide +kernel
theorem dX3_leaderOf_36 : decode cX3_leaderOf 36 = .ok (.iaload, 1) := by decide +kernel
theorem dX3_leaderOf_37 : decode cX3_leaderOf 37 = .ok (.aload_n 0, 1) := by decide +kernel
theorem dX3_leaderOf_38 : decode cX3_leaderOf 38 = .ok (.getfield 15, 3) := by decide +kernel
theorem dX3_leaderOf_41 : decode cX3_leaderOf 41 = .ok (.iload_n 2, 1) := by decide +kernel
theorem dX3_leaderOf_42 : decode cX3_leaderOf 42 = .ok (.iaload, 1) := by decide +kernel
theorem dX3_leaderOf_43 : decode cX3_leaderOf 43 = .ok (.if_icmp .le 5, 3) := by decide +kernel
theorem dX3_leaderOf_46 : decode cX3_leaderOf 46 = .ok (.iload_n 3, 1) := by decide +kernel
theorem dX3_leaderOf_47 : decode cX3_leaderOf 47 = .ok (.istore_n 2, 1) := by decide +kernel
theorem dX3_leaderOf_48 : decode cX3_leaderOf 48 = .ok (.iinc 3 1, 3) := by decide +kernel
theorem dX3_leaderOf_51 : decode cX3_leaderOf 51 = .ok (.goto (-41), 3) := by decide +kernel
theorem dX3_leaderOf_54 : decode cX3_leaderOf 54 = .ok (.iload_n 2, 1) := by decide +kernel
theorem dX3_leaderOf_55 : decode cX3_leaderOf 55 = .ok (.ireturn, 1) := by decide +kernel
theorem dX3_weightOf_0 : decode cX3_weightOf 0 = .ok (.iconst 0, 1) := by decide +kernel
theorem dX3_weightOf_1 : decode cX3_weightOf 1 = .ok (.istore_n 2, 1) := by decide +kernel
theorem dX3_weightOf_2 : decode cX3_weightOf 2 = .ok (.iconst 0, 1) := by decide +kernel
theorem dX3_weightOf_3 : decode cX3_weightOf 3 = .ok (.istore_n 3, 1) := by decide +kernel
theorem dX3_weightOf_4 : decode cX3_weightOf 4 = .ok (.iload_n 3, 1) := by decide +kernel
theorem dX3_weightOf_5 : decode cX3_weightOf 5 = .ok (.aload_n 0, 1) := by decide +kernel
theorem dX3_weightOf_6 : decode cX3_weightOf 6 = .ok (.getfield 32, 3) := by decide +kernel
theorem dX3_weightOf_9 : decode cX3_weightOf 9 = .ok (.if_icmp .ge 26, 3) := by decide +kernel
theorem dX3_weightOf_12 : decode cX3_weightOf 12 = .ok (.iload_n 1, 1) := by decide +kernel
theorem dX3_weightOf_13 : decode cX3_weightOf 13 = .ok (.iload_n 3, 1) := by decide +kernel
theorem dX3_weightOf_14 : decode cX3_weightOf 14 = .ok (.invokestatic 56, 3) := by decide +kernel
theorem dX3_weightOf_17 : decode cX3_weightOf 17 = .ok (.ifCond .eq 12, 3) := by decide +kernel
theorem dX3_weightOf_20 : decode cX3_weightOf 20 = .ok (.iload_n 2, 1) := by decide +kernel
theorem dX3_weightOf_21 : decode cX3_weightOf 21 = .ok (.aload_n 0, 1) := by decide +kernel
theorem dX3_weightOf_22 : decode cX3_weightOf 22 = .ok (.getfield 15, 3) := by decide +kernel
theorem dX3_weightOf_25 : decode cX3_weightOf 25 = .ok (.iload_n 3, 1) := by decide +kernel
theorem dX3_weightOf_26 : decode cX3_weightOf 26 = .ok (.iaload, 1) := by decide +kernel
theorem dX3_weightOf_27 : decode cX3_weightOf 27 = .ok (.iadd, 1) := by decide +kernel
theorem dX3_weightOf_28 : decode cX3_weightOf 28 = .ok (.istore_n 2, 1) := by decide +kernel
theorem dX3_weightOf_29 : decode cX3_weightOf 29 = .ok (.iinc 3 1, 3) := by decide +kernel
theorem dX3_weightOf_32 : decode cX3_weightOf 32 = .ok (.goto (-28), 3) := by decide +kernel
theorem dX3_weightOf_35 : decode cX3_weightOf 35 = .ok (.iload_n 2, 1) := by decide +kernel
theorem dX3_weightOf_36 : decode cX3_weightOf 36 = .ok (.ireturn, 1) := by decide +kernel
theorem dX3_wholeBlocsIn_0 : decode cX3_wholeBlocsIn 0 = .ok (.iconst 0, 1) := by decide +kernel
theorem dX3_wholeBlocsIn_1 : decode cX3_wholeBlocsIn 1 = .ok (.istore_n 2, 1) := by decide +kernel
theorem dX3_wholeBlocsIn_2 : decode cX3_wholeBlocsIn 2 = .ok (.iconst 0, 1) := by decide +kernel
theorem dX3_wholeBlocsIn_3 : decode cX3_wholeBlocsIn 3 = .ok (.istore_n 3, 1) := by decide +kernel
theorem dX3_wholeBlocsIn_4 : decode cX3_wholeBlocsIn 4 = .ok (.iload_n 3, 1) := by decide +kernel
theorem dX3_wholeBlocsIn_5 : decode cX3_wholeBlocsIn 5 = .ok (.aload_n 0, 1) := by decide +kernel
theorem dX3_wholeBlocsIn_6 : decode cX3_wholeBlocsIn 6 = .ok (.getfield 32, 3) := by decide +kernel
theorem dX3_wholeBlocsIn_9 : decode cX3_wholeBlocsIn 9 = .ok (.if_icmp .ge 29, 3) := by decide +kernel
theorem dX3_wholeBlocsIn_12 : decode cX3_wholeBlocsIn 12 = .ok (.aload_n 0, 1) := by decide +kernel
theorem dX3_wholeBlocsIn_13 : decode cX3_wholeBlocsIn 13 = .ok (.getfield 19, 3) := by decide +kernel
theorem dX3_wholeBlocsIn_16 : decode cX3_wholeBlocsIn 16 = .ok (.iload_n 3, 1) := by decide +kernel
theorem dX3_wholeBlocsIn_17 : decode cX3_wholeBlocsIn 17 = .ok (.iaload, 1) := by decide +kernel
theorem dX3_wholeBlocsIn_18 : decode cX3_wholeBlocsIn 18 = .ok (.iload_n 1, 1) := by decide +kernel
theorem dX3_wholeBlocsIn_19 : decode cX3_wholeBlocsIn 19 = .ok (.iconst (-1), 1) := by decide +kernel
theorem dX3_wholeBlocsIn_20 : decode cX3_wholeBlocsIn 20 = .ok (.ixor, 1) := by decide +kernel
theorem dX3_wholeBlocsIn_21 : decode cX3_wholeBlocsIn 21 = .ok (.iand, 1) := by decide +kernel
theorem dX3_wholeBlocsIn_22 : decode cX3_wholeBlocsIn 22 = .ok (.ifCond .ne 10, 3) := by decide +kernel
theorem dX3_wholeBlocsIn_25 : decode cX3_wholeBlocsIn 25 = .ok (.iload_n 2, 1) := by decide +kernel
theorem dX3_wholeBlocsIn_26 : decode cX3_wholeBlocsIn 26 = .ok (.iload_n 3, 1) := by decide +kernel
theorem dX3_wholeBlocsIn_27 : decode cX3_wholeBlocsIn 27 = .ok (.invokestatic 48, 3) := by decide +kernel
theorem dX3_wholeBlocsIn_30 : decode cX3_wholeBlocsIn 30 = .ok (.ior, 1) := by decide +kernel
theorem dX3_wholeBlocsIn_31 : decode cX3_wholeBlocsIn 31 = .ok (.istore_n 2, 1) := by decide +kernel
theorem dX3_wholeBlocsIn_32 : decode cX3_wholeBlocsIn 32 = .ok (.iinc 3 1, 3) := by decide +kernel
theorem dX3_wholeBlocsIn_35 : decode cX3_wholeBlocsIn 35 = .ok (.goto (-31), 3) := by decide +kernel
theorem dX3_wholeBlocsIn_38 : decode cX3_wholeBlocsIn 38 = .ok (.iload_n 2, 1) := by decide +kernel
theorem dX3_wholeBlocsIn_39 : decode cX3_wholeBlocsIn 39 = .ok (.ireturn, 1) := by decide +kernel
theorem dX3_isWinning_0 : decode cX3_isWinning 0 = .ok (.aload_n 0, 1) := by decide +kernel
theorem dX3_isWinning_1 : decode cX3_isWinning 1 = .ok (.iload_n 1, 1) := by decide +kernel
theorem dX3_isWinning_2 : decode cX3_isWinning 2 = .ok (.invokevirtual 67, 3) := by decide +kernel
theorem dX3_isWinning_5 : decode cX3_isWinning 5 = .ok (.aload_n 0, 1) := by decide +kernel
theorem dX3_isWinning_6 : decode cX3_isWinning 6 = .ok (.getfield 9, 3) := by decide +kernel
theorem dX3_isWinning_9 : decode cX3_isWinning 9 = .ok (.if_icmp .lt 18, 3) := by decide +kernel
theorem dX3_isWinning_12 : decode cX3_isWinning 12 = .ok (.aload_n 0, 1) := by decide +kernel
theorem dX3_isWinning_13 : decode cX3_isWinning 13 = .ok (.getfield 35, 3) := by decide +kernel
theorem dX3_isWinning_16 : decode cX3_isWinning 16 = .ok (.iload_n 1, 1) := by decide +kernel
theorem dX3_isWinning_17 : decode cX3_isWinning 17 = .ok (.iconst (-1), 1) := by decide +kernel
theorem dX3_isWinning_18 : decode cX3_isWinning 18 = .ok (.ixor, 1) := by decide +kernel
theorem dX3_isWinning_19 : decode cX3_isWinning 19 = .ok (.iand, 1) := by decide +kernel
theorem dX3_isWinning_20 : decode cX3_isWinning 20 = .ok (.ifCond .ne 7, 3) := by decide +kernel
theorem dX3_isWinning_23 : decode cX3_isWinning 23 = .ok (.iconst 1, 1) := by decide +kernel
theorem dX3_isWinning_24 : decode cX3_isWinning 24 = .ok (.goto 4, 3) := by decide +kernel
theorem dX3_isWinning_27 : decode cX3_isWinning 27 = .ok (.iconst 0, 1) := by decide +kernel
theorem dX3_isWinning_28 : decode cX3_isWinning 28 = .ok (.ireturn, 1) := by decide +kernel
theorem dX3_hold_0 : decode cX3_hold 0 = .ok (.iconst 0, 1) := by decide +kernel
theorem dX3_hold_1 : decode cX3_hold 1 = .ok (.istore_n 3, 1) := by decide +kernel
theorem dX3_hold_2 : decode cX3_hold 2 = .ok (.iconst 0, 1) := by decide +kernel
theorem dX3_hold_3 : decode cX3_hold 3 = .ok (.istore 4, 2) := by decide +kernel
theorem dX3_hold_5 : decode cX3_hold 5 = .ok (.iconst 0, 1) := by decide +kernel
theorem dX3_hold_6 : decode cX3_hold 6 = .ok (.istore 5, 2) := by decide +kernel
theorem dX3_hold_8 : decode cX3_hold 8 = .ok (.iload 5, 2) := by decide +kernel
theorem dX3_hold_10 : decode cX3_hold 10 = .ok (.aload_n 0, 1) := by decide +kernel
theorem dX3_hold_11 : decode cX3_hold 11 = .ok (.getfield 32, 3) := by decide +kernel
theorem dX3_hold_14 : decode cX3_hold 14 = .ok (.if_icmp .ge 54, 3) := by decide +kernel
theorem dX3_hold_17 : decode cX3_hold 17 = .ok (.aload_n 1, 1) := by decide +kernel
theorem dX3_hold_18 : decode cX3_hold 18 = .ok (.iload_n 2, 1) := by decide +kernel
theorem dX3_hold_19 : decode cX3_hold 19 = .ok (.aload_n 0, 1) := by decide +kernel
theorem dX3_hold_20 : decode cX3_hold 20 = .ok (.iload 5, 2) := by decide +kernel
theorem dX3_hold_22 : decode cX3_hold 22 = .ok (.invokevirtual 70, 3) := by decide +kernel
theorem dX3_hold_25 : decode cX3_hold 25 = .ok (.iadd, 1) := by decide +kernel
theorem dX3_hold_26 : decode cX3_hold 26 = .ok (.invokevirtual 73, 3) := by decide +kernel
theorem dX3_hold_29 : decode cX3_hold 29 = .ok (.istore 6, 2) := by decide +kernel
theorem dX3_hold_31 : decode cX3_hold 31 = .ok (.iload 6, 2) := by decide +kernel
theorem dX3_hold_33 : decode cX3_hold 33 = .ok (.bipush 43, 2) := by decide +kernel
theorem dX3_hold_35 : decode cX3_hold 35 = .ok (.if_icmp .ne 11, 3) := by decide +kernel
theorem dX3_hold_38 : decode cX3_hold 38 = .ok (.iload_n 3, 1) := by decide +kernel
theorem dX3_hold_39 : decode cX3_hold 39 = .ok (.iload 5, 2) := by decide +kernel
theorem dX3_hold_41 : decode cX3_hold 41 = .ok (.invokestatic 48, 3) := by decide +kernel
theorem dX3_hold_44 : decode cX3_hold 44 = .ok (.ior, 1) := by decide +kernel
theorem dX3_hold_45 : decode cX3_hold 45 = .ok (.istore_n 3, 1) := by decide +kernel
theorem dX3_hold_46 : decode cX3_hold 46 = .ok (.aload_n 1, 1) := by decide +kernel
theorem dX3_hold_47 : decode cX3_hold 47 = .ok (.iload_n 2, 1) := by decide +kernel
theorem dX3_hold_48 : decode cX3_hold 48 = .ok (.iload 5, 2) := by decide +kernel
theorem dX3_hold_50 : decode cX3_hold 50 = .ok (.iadd, 1) := by decide +kernel
end
section
theorem dX3_hold_51 : decode cX3_hold 51 = .ok (.invokevirtual 73, 3) := by decide +kernel
theorem dX3_hold_54 : decode cX3_hold 54 = .ok (.iload 6, 2) := by decide +kernel
theorem dX3_hold_56 : decode cX3_hold 56 = .ok (.if_icmp .eq 6, 3) := by decide +kernel
theorem dX3_hold_59 : decode cX3_hold 59 = .ok (.iinc 4 1, 3) := by decide +kernel
theorem dX3_hold_62 : decode cX3_hold 62 = .ok (.iinc 5 1, 3) := by decide +kernel
theorem dX3_hold_65 : decode cX3_hold 65 = .ok (.goto (-57), 3) := by decide +kernel
theorem dX3_hold_68 : decode cX3_hold 68 = .ok (.aload_n 0, 1) := by decide +kernel
theorem dX3_hold_69 : decode cX3_hold 69 = .ok (.iload_n 3, 1) := by decide +kernel
theorem dX3_hold_70 : decode cX3_hold 70 = .ok (.invokevirtual 79, 3) := by decide +kernel
theorem dX3_hold_73 : decode cX3_hold 73 = .ok (.istore 5, 2) := by decide +kernel
theorem dX3_hold_75 : decode cX3_hold 75 = .ok (.aload_n 0, 1) := by decide +kernel
theorem dX3_hold_76 : decode cX3_hold 76 = .ok (.iload_n 3, 1) := by decide +kernel
theorem dX3_hold_77 : decode cX3_hold 77 = .ok (.iload 5, 2) := by decide +kernel
theorem dX3_hold_79 : decode cX3_hold 79 = .ok (.invokevirtual 82, 3) := by decide +kernel
theorem dX3_hold_82 : decode cX3_hold 82 = .ok (.aload_n 0, 1) := by decide +kernel
theorem dX3_hold_83 : decode cX3_hold 83 = .ok (.getfield 28, 3) := by decide +kernel
theorem dX3_hold_86 : decode cX3_hold 86 = .ok (.iload 5, 2) := by decide +kernel
theorem dX3_hold_88 : decode cX3_hold 88 = .ok (.aload_n 0, 1) := by decide +kernel
theorem dX3_hold_89 : decode cX3_hold 89 = .ok (.iload_n 3, 1) := by decide +kernel
theorem dX3_hold_90 : decode cX3_hold 90 = .ok (.invokevirtual 67, 3) := by decide +kernel
theorem dX3_hold_93 : decode cX3_hold 93 = .ok (.iload 4, 2) := by decide +kernel
theorem dX3_hold_95 : decode cX3_hold 95 = .ok (.invokevirtual 86, 3) := by decide +kernel
theorem dX3_hold_98 : decode cX3_hold 98 = .ok (.return_, 1) := by decide +kernel
theorem dX3_tellSwings_0 : decode cX3_tellSwings 0 = .ok (.iconst 0, 1) := by decide +kernel
theorem dX3_tellSwings_1 : decode cX3_tellSwings 1 = .ok (.istore_n 3, 1) := by decide +kernel
theorem dX3_tellSwings_2 : decode cX3_tellSwings 2 = .ok (.iload_n 3, 1) := by decide +kernel
theorem dX3_tellSwings_3 : decode cX3_tellSwings 3 = .ok (.aload_n 0, 1) := by decide +kernel
theorem dX3_tellSwings_4 : decode cX3_tellSwings 4 = .ok (.getfield 32, 3) := by decide +kernel
theorem dX3_tellSwings_7 : decode cX3_tellSwings 7 = .ok (.if_icmp .ge 35, 3) := by decide +kernel
theorem dX3_tellSwings_10 : decode cX3_tellSwings 10 = .ok (.aload_n 0, 1) := by decide +kernel
theorem dX3_tellSwings_11 : decode cX3_tellSwings 11 = .ok (.iload_n 1, 1) := by decide +kernel
theorem dX3_tellSwings_12 : decode cX3_tellSwings 12 = .ok (.aload_n 0, 1) := by decide +kernel
theorem dX3_tellSwings_13 : decode cX3_tellSwings 13 = .ok (.getfield 19, 3) := by decide +kernel
theorem dX3_tellSwings_16 : decode cX3_tellSwings 16 = .ok (.iload_n 3, 1) := by decide +kernel
theorem dX3_tellSwings_17 : decode cX3_tellSwings 17 = .ok (.iaload, 1) := by decide +kernel
theorem dX3_tellSwings_18 : decode cX3_tellSwings 18 = .ok (.ixor, 1) := by decide +kernel
theorem dX3_tellSwings_19 : decode cX3_tellSwings 19 = .ok (.invokevirtual 79, 3) := by decide +kernel
theorem dX3_tellSwings_22 : decode cX3_tellSwings 22 = .ok (.iload_n 2, 1) := by decide +kernel
theorem dX3_tellSwings_23 : decode cX3_tellSwings 23 = .ok (.if_icmp .eq 13, 3) := by decide +kernel
theorem dX3_tellSwings_26 : decode cX3_tellSwings 26 = .ok (.aload_n 0, 1) := by decide +kernel
theorem dX3_tellSwings_27 : decode cX3_tellSwings 27 = .ok (.getfield 22, 3) := by decide +kernel
theorem dX3_tellSwings_30 : decode cX3_tellSwings 30 = .ok (.iload_n 3, 1) := by decide +kernel
theorem dX3_tellSwings_31 : decode cX3_tellSwings 31 = .ok (.dup2, 1) := by decide +kernel
theorem dX3_tellSwings_32 : decode cX3_tellSwings 32 = .ok (.iaload, 1) := by decide +kernel
theorem dX3_tellSwings_33 : decode cX3_tellSwings 33 = .ok (.iconst 1, 1) := by decide +kernel
theorem dX3_tellSwings_34 : decode cX3_tellSwings 34 = .ok (.iadd, 1) := by decide +kernel
theorem dX3_tellSwings_35 : decode cX3_tellSwings 35 = .ok (.iastore, 1) := by decide +kernel
theorem dX3_tellSwings_36 : decode cX3_tellSwings 36 = .ok (.iinc 3 1, 3) := by decide +kernel
theorem dX3_tellSwings_39 : decode cX3_tellSwings 39 = .ok (.goto (-37), 3) := by decide +kernel
theorem dX3_tellSwings_42 : decode cX3_tellSwings 42 = .ok (.return_, 1) := by decide +kernel
theorem dX4_init_0 : decode cX4_init 0 = .ok (.aload_n 0, 1) := by decide +kernel
theorem dX4_init_1 : decode cX4_init 1 = .ok (.invokespecial 3, 3) := by decide +kernel
theorem dX4_init_4 : decode cX4_init 4 = .ok (.aload_n 0, 1) := by decide +kernel
theorem dX4_init_5 : decode cX4_init 5 = .ok (.bipush 60, 2) := by decide +kernel
theorem dX4_init_7 : decode cX4_init 7 = .ok (.newarray .char, 2) := by decide +kernel
theorem dX4_init_9 : decode cX4_init 9 = .ok (.putfield 9, 3) := by decide +kernel
theorem dX4_init_12 : decode cX4_init 12 = .ok (.return_, 1) := by decide +kernel
theorem dX4_append_0 : decode cX4_append 0 = .ok (.aload_n 0, 1) := by decide +kernel
theorem dX4_append_1 : decode cX4_append 1 = .ok (.getfield 15, 3) := by decide +kernel
theorem dX4_append_4 : decode cX4_append 4 = .ok (.bipush 60, 2) := by decide +kernel
theorem dX4_append_6 : decode cX4_append 6 = .ok (.if_icmp .ge 23, 3) := by decide +kernel
theorem dX4_append_9 : decode cX4_append 9 = .ok (.aload_n 0, 1) := by decide +kernel
theorem dX4_append_10 : decode cX4_append 10 = .ok (.getfield 9, 3) := by decide +kernel
theorem dX4_append_13 : decode cX4_append 13 = .ok (.aload_n 0, 1) := by decide +kernel
theorem dX4_append_14 : decode cX4_append 14 = .ok (.getfield 15, 3) := by decide +kernel
theorem dX4_append_17 : decode cX4_append 17 = .ok (.iload_n 1, 1) := by decide +kernel
theorem dX4_append_18 : decode cX4_append 18 = .ok (.castore, 1) := by decide +kernel
theorem dX4_append_19 : decode cX4_append 19 = .ok (.aload_n 0, 1) := by decide +kernel
theorem dX4_append_20 : decode cX4_append 20 = .ok (.dup, 1) := by decide +kernel
theorem dX4_append_21 : decode cX4_append 21 = .ok (.getfield 15, 3) := by decide +kernel
theorem dX4_append_24 : decode cX4_append 24 = .ok (.iconst 1, 1) := by decide +kernel
theorem dX4_append_25 : decode cX4_append 25 = .ok (.iadd, 1) := by decide +kernel
theorem dX4_append_26 : decode cX4_append 26 = .ok (.putfield 15, 3) := by decide +kernel
theorem dX4_append_29 : decode cX4_append 29 = .ok (.return_, 1) := by decide +kernel
theorem dX4_at_0 : decode cX4_at 0 = .ok (.iload_n 1, 1) := by decide +kernel
theorem dX4_at_1 : decode cX4_at 1 = .ok (.ifCond .lt 20, 3) := by decide +kernel
theorem dX4_at_4 : decode cX4_at 4 = .ok (.iload_n 1, 1) := by decide +kernel
theorem dX4_at_5 : decode cX4_at 5 = .ok (.aload_n 0, 1) := by decide +kernel
theorem dX4_at_6 : decode cX4_at 6 = .ok (.getfield 15, 3) := by decide +kernel
theorem dX4_at_9 : decode cX4_at 9 = .ok (.if_icmp .ge 12, 3) := by decide +kernel
theorem dX4_at_12 : decode cX4_at 12 = .ok (.aload_n 0, 1) := by decide +kernel
theorem dX4_at_13 : decode cX4_at 13 = .ok (.getfield 9, 3) := by decide +kernel
theorem dX4_at_16 : decode cX4_at 16 = .ok (.iload_n 1, 1) := by decide +kernel
theorem dX4_at_17 : decode cX4_at 17 = .ok (.caload, 1) := by decide +kernel
theorem dX4_at_18 : decode cX4_at 18 = .ok (.goto 5, 3) := by decide +kernel
theorem dX4_at_21 : decode cX4_at 21 = .ok (.bipush 48, 2) := by decide +kernel
theorem dX4_at_23 : decode cX4_at 23 = .ok (.ireturn, 1) := by decide +kernel
theorem dX4_fault_0 : decode cX4_fault 0 = .ok (.iload_n 1, 1) := by decide +kernel
theorem dX4_fault_1 : decode cX4_fault 1 = .ok (.ifCond .ne 5, 3) := by decide +kernel
theorem dX4_fault_4 : decode cX4_fault 4 = .ok (.iconst 0, 1) := by decide +kernel
theorem dX4_fault_5 : decode cX4_fault 5 = .ok (.ireturn, 1) := by decide +kernel
theorem dX4_fault_6 : decode cX4_fault 6 = .ok (.iconst 0, 1) := by decide +kernel
theorem dX4_fault_7 : decode cX4_fault 7 = .ok (.istore_n 2, 1) := by decide +kernel
theorem dX4_fault_8 : decode cX4_fault 8 = .ok (.iconst 0, 1) := by decide +kernel
theorem dX4_fault_9 : decode cX4_fault 9 = .ok (.istore_n 3, 1) := by decide +kernel
theorem dX4_fault_10 : decode cX4_fault 10 = .ok (.iload_n 3, 1) := by decide +kernel
theorem dX4_fault_11 : decode cX4_fault 11 = .ok (.aload_n 0, 1) := by decide +kernel
theorem dX4_fault_12 : decode cX4_fault 12 = .ok (.getfield 15, 3) := by decide +kernel
theorem dX4_fault_15 : decode cX4_fault 15 = .ok (.if_icmp .ge 67, 3) := by decide +kernel
theorem dX4_fault_18 : decode cX4_fault 18 = .ok (.iload_n 2, 1) := by decide +kernel
theorem dX4_fault_19 : decode cX4_fault 19 = .ok (.iload_n 1, 1) := by decide +kernel
theorem dX4_fault_20 : decode cX4_fault 20 = .ok (.if_icmp .ne 7, 3) := by decide +kernel
theorem dX4_fault_23 : decode cX4_fault 23 = .ok (.iconst 1, 1) := by decide +kernel
theorem dX4_fault_24 : decode cX4_fault 24 = .ok (.goto 4, 3) := by decide +kernel
theorem dX4_fault_27 : decode cX4_fault 27 = .ok (.iconst 0, 1) := by decide +kernel
theorem dX4_fault_28 : decode cX4_fault 28 = .ok (.istore 4, 2) := by decide +kernel
theorem dX4_fault_30 : decode cX4_fault 30 = .ok (.iload 4, 2) := by decide +kernel
theorem dX4_fault_32 : decode cX4_fault 32 = .ok (.ifCond .eq 17, 3) := by decide +kernel
theorem dX4_fault_35 : decode cX4_fault 35 = .ok (.aload_n 0, 1) := by decide +kernel
theorem dX4_fault_36 : decode cX4_fault 36 = .ok (.getfield 9, 3) := by decide +kernel
theorem dX4_fault_39 : decode cX4_fault 39 = .ok (.iload_n 3, 1) := by decide +kernel
theorem dX4_fault_40 : decode cX4_fault 40 = .ok (.caload, 1) := by decide +kernel
theorem dX4_fault_41 : decode cX4_fault 41 = .ok (.bipush 44, 2) := by decide +kernel
theorem dX4_fault_43 : decode cX4_fault 43 = .ok (.if_icmp .eq 20, 3) := by decide +kernel
theorem dX4_fault_46 : decode cX4_fault 46 = .ok (.goto 15, 3) := by decide +kernel
theorem dX4_fault_49 : decode cX4_fault 49 = .ok (.aload_n 0, 1) := by decide +kernel
theorem dX4_fault_50 : decode cX4_fault 50 = .ok (.getfield 9, 3) := by decide +kernel
theorem dX4_fault_53 : decode cX4_fault 53 = .ok (.iload_n 3, 1) := by decide +kernel
theorem dX4_fault_54 : decode cX4_fault 54 = .ok (.caload, 1) := by decide +kernel
theorem dX4_fault_55 : decode cX4_fault 55 = .ok (.invokestatic 19, 3) := by decide +kernel
theorem dX4_fault_58 : decode cX4_fault 58 = .ok (.ifCond .ne 5, 3) := by decide +kernel
theorem dX4_fault_61 : decode cX4_fault 61 = .ok (.iload_n 3, 1) := by decide +kernel
theorem dX4_fault_62 : decode cX4_fault 62 = .ok (.ireturn, 1) := by decide +kernel
theorem dX4_fault_63 : decode cX4_fault 63 = .ok (.iload 4, 2) := by decide +kernel
theorem dX4_fault_65 : decode cX4_fault 65 = .ok (.ifCond .eq 7, 3) := by decide +kernel
theorem dX4_fault_68 : decode cX4_fault 68 = .ok (.iconst 0, 1) := by decide +kernel
theorem dX4_fault_69 : decode cX4_fault 69 = .ok (.goto 6, 3) := by decide +kernel
theorem dX4_fault_72 : decode cX4_fault 72 = .ok (.iload_n 2, 1) := by decide +kernel
theorem dX4_fault_73 : decode cX4_fault 73 = .ok (.iconst 1, 1) := by decide +kernel
theorem dX4_fault_74 : decode cX4_fault 74 = .ok (.iadd, 1) := by decide +kernel
theorem dX4_fault_75 : decode cX4_fault 75 = .ok (.istore_n 2, 1) := by decide +kernel
theorem dX4_fault_76 : decode cX4_fault 76 = .ok (.iinc 3 1, 3) := by decide +kernel
theorem dX4_fault_79 : decode cX4_fault 79 = .ok (.goto (-69), 3) := by decide +kernel
theorem dX4_fault_82 : decode cX4_fault 82 = .ok (.iload_n 2, 1) := by decide +kernel
theorem dX4_fault_83 : decode cX4_fault 83 = .ok (.iload_n 1, 1) := by decide +kernel
theorem dX4_fault_84 : decode cX4_fault 84 = .ok (.if_icmp .ne 7, 3) := by decide +kernel
theorem dX4_fault_87 : decode cX4_fault 87 = .ok (.iconst (-1), 1) := by decide +kernel
theorem dX4_fault_88 : decode cX4_fault 88 = .ok (.goto 7, 3) := by decide +kernel
theorem dX4_fault_91 : decode cX4_fault 91 = .ok (.aload_n 0, 1) := by decide +kernel
theorem dX4_fault_92 : decode cX4_fault 92 = .ok (.getfield 15, 3) := by decide +kernel
theorem dX4_fault_95 : decode cX4_fault 95 = .ok (.ireturn, 1) := by decide +kernel
theorem dX4_isSign_0 : decode cX4_isSign 0 = .ok (.iload_n 0, 1) := by decide +kernel
theorem dX4_isSign_1 : decode cX4_isSign 1 = .ok (.bipush 43, 2) := by decide +kernel
theorem dX4_isSign_3 : decode cX4_isSign 3 = .ok (.if_icmp .eq 15, 3) := by decide +kernel
theorem dX4_isSign_6 : decode cX4_isSign 6 = .ok (.iload_n 0, 1) := by decide +kernel
theorem dX4_isSign_7 : decode cX4_isSign 7 = .ok (.bipush 45, 2) := by decide +kernel
theorem dX4_isSign_9 : decode cX4_isSign 9 = .ok (.if_icmp .eq 9, 3) := by decide +kernel
theorem dX4_isSign_12 : decode cX4_isSign 12 = .ok (.iload_n 0, 1) := by decide +kernel
theorem dX4_isSign_13 : decode cX4_isSign 13 = .ok (.bipush 48, 2) := by decide +kernel
theorem dX4_isSign_15 : decode cX4_isSign 15 = .ok (.if_icmp .ne 7, 3) := by decide +kernel
theorem dX4_isSign_18 : decode cX4_isSign 18 = .ok (.iconst 1, 1) := by decide +kernel
theorem dX4_isSign_19 : decode cX4_isSign 19 = .ok (.goto 4, 3) := by decide +kernel
theorem dX4_isSign_22 : decode cX4_isSign 22 = .ok (.iconst 0, 1) := by decide +kernel
theorem dX4_isSign_23 : decode cX4_isSign 23 = .ok (.ireturn, 1) := by decide +kernel
theorem dX5_init_0 : decode cX5_init 0 = .ok (.aload_n 0, 1) := by decide +kernel
theorem dX5_init_1 : decode cX5_init 1 = .ok (.invokespecial 1, 3) := by decide +kernel
theorem dX5_init_4 : decode cX5_init 4 = .ok (.aload_n 0, 1) := by decide +kernel
theorem dX5_init_5 : decode cX5_init 5 = .ok (.new 7, 3) := by decide +kernel
theorem dX5_init_8 : decode cX5_init 8 = .ok (.dup, 1) := by decide +kernel
theorem dX5_init_9 : decode cX5_init 9 = .ok (.invokespecial 9, 3) := by decide +kernel
theorem dX5_init_12 : decode cX5_init 12 = .ok (.putfield 10, 3) := by decide +kernel
theorem dX5_init_15 : decode cX5_init 15 = .ok (.aload_n 0, 1) := by decide +kernel
theorem dX5_init_16 : decode cX5_init 16 = .ok (.new 7, 3) := by decide +kernel
theorem dX5_init_19 : decode cX5_init 19 = .ok (.dup, 1) := by decide +kernel
theorem dX5_init_20 : decode cX5_init 20 = .ok (.invokespecial 9, 3) := by decide +kernel
theorem dX5_init_23 : decode cX5_init 23 = .ok (.putfield 16, 3) := by decide +kernel
theorem dX5_init_26 : decode cX5_init 26 = .ok (.aload_n 0, 1) := by decide +kernel
theorem dX5_init_27 : decode cX5_init 27 = .ok (.new 19, 3) := by decide +kernel
theorem dX5_init_30 : decode cX5_init 30 = .ok (.dup, 1) := by decide +kernel
theorem dX5_init_31 : decode cX5_init 31 = .ok (.invokespecial 21, 3) := by decide +kernel
theorem dX5_init_34 : decode cX5_init 34 = .ok (.putfield 22, 3) := by decide +kernel
theorem dX5_init_37 : decode cX5_init 37 = .ok (.aload_n 0, 1) := by decide +kernel
theorem dX5_init_38 : decode cX5_init 38 = .ok (.new 26, 3) := by decide +kernel
theorem dX5_init_41 : decode cX5_init 41 = .ok (.dup, 1) := by decide +kernel
theorem dX5_init_42 : decode cX5_init 42 = .ok (.invokespecial 28, 3) := by decide +kernel
theorem dX5_init_45 : decode cX5_init 45 = .ok (.putfield 29, 3) := by decide +kernel
theorem dX5_init_48 : decode cX5_init 48 = .ok (.aload_n 0, 1) := by decide +kernel
theorem dX5_init_49 : decode cX5_init 49 = .ok (.new 33, 3) := by decide +kernel
theorem dX5_init_52 : decode cX5_init 52 = .ok (.dup, 1) := by decide +kernel
theorem dX5_init_53 : decode cX5_init 53 = .ok (.invokespecial 35, 3) := by decide +kernel
theorem dX5_init_56 : decode cX5_init 56 = .ok (.putfield 36, 3) := by decide +kernel
theorem dX5_init_59 : decode cX5_init 59 = .ok (.return_, 1) := by decide +kernel
theorem dX5_addMember_0 : decode cX5_addMember 0 = .ok (.iload_n 1, 1) := by decide +kernel
theorem dX5_addMember_1 : decode cX5_addMember 1 = .ok (.invokestatic 40, 3) := by decide +kernel
theorem dX5_addMember_4 : decode cX5_addMember 4 = .ok (.ifCond .ne 6, 3) := by decide +kernel
theorem dX5_addMember_7 : decode cX5_addMember 7 = .ok (.bipush (-2), 2) := by decide +kernel
theorem dX5_addMember_9 : decode cX5_addMember 9 = .ok (.ireturn, 1) := by decide +kernel
theorem dX5_addMember_10 : decode cX5_addMember 10 = .ok (.aload_n 0, 1) := by decide +kernel
theorem dX5_addMember_11 : decode cX5_addMember 11 = .ok (.getfield 10, 3) := by decide +kernel
theorem dX5_addMember_14 : decode cX5_addMember 14 = .ok (.getfield 44, 3) := by decide +kernel
theorem dX5_addMember_17 : decode cX5_addMember 17 = .ok (.bipush 10, 2) := by decide +kernel
theorem dX5_addMember_19 : decode cX5_addMember 19 = .ok (.if_icmp .lt 6, 3) := by decide +kernel
theorem dX5_addMember_22 : decode cX5_addMember 22 = .ok (.bipush (-3), 2) := by decide +kernel
theorem dX5_addMember_24 : decode cX5_addMember 24 = .ok (.ireturn, 1) := by decide +kernel
theorem dX5_addMember_25 : decode cX5_addMember 25 = .ok (.aload_n 0, 1) := by decide +kernel
theorem dX5_addMember_26 : decode cX5_addMember 26 = .ok (.invokevirtual 48, 3) := by decide +kernel
theorem dX5_addMember_29 : decode cX5_addMember 29 = .ok (.aload_n 0, 1) := by decide +kernel
theorem dX5_addMember_30 : decode cX5_addMember 30 = .ok (.getfield 10, 3) := by decide +kernel
theorem dX5_addMember_33 : decode cX5_addMember 33 = .ok (.iload_n 1, 1) := by decide +kernel
theorem dX5_addMember_34 : decode cX5_addMember 34 = .ok (.invokevirtual 51, 3) := by decide +kernel
theorem dX5_addMember_37 : decode cX5_addMember 37 = .ok (.ireturn, 1) := by decide +kernel
theorem dX5_removeMember_0 : decode cX5_removeMember 0 = .ok (.aload_n 0, 1) := by decide +kernel
theorem dX5_removeMember_1 : decode cX5_removeMember 1 = .ok (.getfield 10, 3) := by decide +kernel
theorem dX5_removeMember_4 : decode cX5_removeMember 4 = .ok (.iload_n 1, 1) := by decide +kernel
theorem dX5_removeMember_5 : decode cX5_removeMember 5 = .ok (.invokevirtual 55, 3) := by decide +kernel
theorem dX5_removeMember_8 : decode cX5_removeMember 8 = .ok (.ifCond .ne 5, 3) := by decide +kernel
theorem dX5_removeMember_11 : decode cX5_removeMember 11 = .ok (.iconst (-1), 1) := by decide +kernel
theorem dX5_removeMember_12 : decode cX5_removeMember 12 = .ok (.ireturn, 1) := by decide +kernel
theorem dX5_removeMember_13 : decode cX5_removeMember 13 = .ok (.aload_n 0, 1) := by decide +kernel
theorem dX5_removeMember_14 : decode cX5_removeMember 14 = .ok (.invokevirtual 48, 3) := by decide +kernel
theorem dX5_removeMember_17 : decode cX5_removeMember 17 = .ok (.aload_n 0, 1) := by decide +kernel
theorem dX5_removeMember_18 : decode cX5_removeMember 18 = .ok (.getfield 10, 3) := by decide +kernel
theorem dX5_removeMember_21 : decode cX5_removeMember 21 = .ok (.iload_n 1, 1) := by decide +kernel
theorem dX5_removeMember_22 : decode cX5_removeMember 22 = .ok (.invokevirtual 58, 3) := by decide +kernel
theorem dX5_removeMember_25 : decode cX5_removeMember 25 = .ok (.aload_n 0, 1) := by decide +kernel
theorem dX5_removeMember_26 : decode cX5_removeMember 26 = .ok (.getfield 10, 3) := by decide +kernel
theorem dX5_removeMember_29 : decode cX5_removeMember 29 = .ok (.getfield 44, 3) := by decide +kernel
theorem dX5_removeMember_32 : decode cX5_removeMember 32 = .ok (.ireturn, 1) := by decide +kernel
theorem dX5_setWeight_0 : decode cX5_setWeight 0 = .ok (.aload_n 0, 1) := by decide +kernel
theorem dX5_setWeight_1 : decode cX5_setWeight 1 = .ok (.getfield 10, 3) := by decide +kernel
theorem dX5_setWeight_4 : decode cX5_setWeight 4 = .ok (.iload_n 1, 1) := by decide +kernel
theorem dX5_setWeight_5 : decode cX5_setWeight 5 = .ok (.invokevirtual 55, 3) := by decide +kernel
theorem dX5_setWeight_8 : decode cX5_setWeight 8 = .ok (.ifCond .ne 5, 3) := by decide +kernel
theorem dX5_setWeight_11 : decode cX5_setWeight 11 = .ok (.iconst (-1), 1) := by decide +kernel
theorem dX5_setWeight_12 : decode cX5_setWeight 12 = .ok (.ireturn, 1) := by decide +kernel
theorem dX5_setWeight_13 : decode cX5_setWeight 13 = .ok (.iload_n 2, 1) := by decide +kernel
theorem dX5_setWeight_14 : decode cX5_setWeight 14 = .ok (.invokestatic 40, 3) := by decide +kernel
theorem dX5_setWeight_17 : decode cX5_setWeight 17 = .ok (.ifCond .ne 6, 3) := by decide +kernel
theorem dX5_setWeight_20 : decode cX5_setWeight 20 = .ok (.bipush (-2), 2) := by decide +kernel
theorem dX5_setWeight_22 : decode cX5_setWeight 22 = .ok (.ireturn, 1) := by decide +kernel
theorem dX5_setWeight_23 : decode cX5_setWeight 23 = .ok (.aload_n 0, 1) := by decide +kernel
theorem dX5_setWeight_24 : decode cX5_setWeight 24 = .ok (.getfield 10, 3) := by decide +kernel
theorem dX5_setWeight_27 : decode cX5_setWeight 27 = .ok (.getfield 62, 3) := by decide +kernel
theorem dX5_setWeight_30 : decode cX5_setWeight 30 = .ok (.iload_n 1, 1) := by decide +kernel
theorem dX5_setWeight_31 : decode cX5_setWeight 31 = .ok (.iaload, 1) := by decide +kernel
theorem dX5_setWeight_32 : decode cX5_setWeight 32 = .ok (.istore_n 3, 1) := by decide +kernel
theorem dX5_setWeight_33 : decode cX5_setWeight 33 = .ok (.iload_n 3, 1) := by decide +kernel
theorem dX5_setWeight_34 : decode cX5_setWeight 34 = .ok (.iload_n 2, 1) := by decide +kernel
theorem dX5_setWeight_35 : decode cX5_setWeight 35 = .ok (.if_icmp .ne 6, 3) := by decide +kernel
theorem dX5_setWeight_38 : decode cX5_setWeight 38 = .ok (.bipush (-5), 2) := by decide +kernel
theorem dX5_setWeight_40 : decode cX5_setWeight 40 = .ok (.ireturn, 1) := by decide +kernel
theorem dX5_setWeight_41 : decode cX5_setWeight 41 = .ok (.aload_n 0, 1) := by decide +kernel
theorem dX5_setWeight_42 : decode cX5_setWeight 42 = .ok (.invokevirtual 48, 3) := by decide +kernel
theorem dX5_setWeight_45 : decode cX5_setWeight 45 = .ok (.aload_n 0, 1) := by decide +kernel
theorem dX5_setWeight_46 : decode cX5_setWeight 46 = .ok (.getfield 10, 3) := by decide +kernel
theorem dX5_setWeight_49 : decode cX5_setWeight 49 = .ok (.getfield 62, 3) := by decide +kernel
theorem dX5_setWeight_52 : decode cX5_setWeight 52 = .ok (.iload_n 1, 1) := by decide +kernel
theorem dX5_setWeight_53 : decode cX5_setWeight 53 = .ok (.iload_n 2, 1) := by decide +kernel
theorem dX5_setWeight_54 : decode cX5_setWeight 54 = .ok (.iastore, 1) := by decide +kernel
theorem dX5_setWeight_55 : decode cX5_setWeight 55 = .ok (.iload_n 3, 1) := by decide +kernel
theorem dX5_setWeight_56 : decode cX5_setWeight 56 = .ok (.ireturn, 1) := by decide +kernel
theorem dX5_setVeto_0 : decode cX5_setVeto 0 = .ok (.aload_n 0, 1) := by decide +kernel
theorem dX5_setVeto_1 : decode cX5_setVeto 1 = .ok (.getfield 10, 3) := by decide +kernel
theorem dX5_setVeto_4 : decode cX5_setVeto 4 = .ok (.iload_n 1, 1) := by decide +kernel
theorem dX5_setVeto_5 : decode cX5_setVeto 5 = .ok (.invokevirtual 55, 3) := by decide +kernel
theorem dX5_setVeto_8 : decode cX5_setVeto 8 = .ok (.ifCond .ne 5, 3) := by decide +kernel
theorem dX5_setVeto_11 : decode cX5_setVeto 11 = .ok (.iconst (-1), 1) := by decide +kernel
theorem dX5_setVeto_12 : decode cX5_setVeto 12 = .ok (.ireturn, 1) := by decide +kernel
theorem dX5_setVeto_13 : decode cX5_setVeto 13 = .ok (.iload_n 2, 1) := by decide +kernel
theorem dX5_setVeto_14 : decode cX5_setVeto 14 = .ok (.ifCond .eq 18, 3) := by decide +kernel
theorem dX5_setVeto_17 : decode cX5_setVeto 17 = .ok (.aload_n 0, 1) := by decide +kernel
theorem dX5_setVeto_18 : decode cX5_setVeto 18 = .ok (.getfield 10, 3) := by decide +kernel
theorem dX5_setVeto_21 : decode cX5_setVeto 21 = .ok (.getfield 66, 3) := by decide +kernel
theorem dX5_setVeto_24 : decode cX5_setVeto 24 = .ok (.iload_n 1, 1) := by decide +kernel
theorem dX5_setVeto_25 : decode cX5_setVeto 25 = .ok (.invokestatic 69, 3) := by decide +kernel
theorem dX5_setVeto_28 : decode cX5_setVeto 28 = .ok (.ior, 1) := by decide +kernel
theorem dX5_setVeto_29 : decode cX5_setVeto 29 = .ok (.goto 17, 3) := by decide +kernel
theorem dX5_setVeto_32 : decode cX5_setVeto 32 = .ok (.aload_n 0, 1) := by decide +kernel
theorem dX5_setVeto_33 : decode cX5_setVeto 33 = .ok (.getfield 10, 3) := by decide +kernel
theorem dX5_setVeto_36 : decode cX5_setVeto 36 = .ok (.getfield 66, 3) := by decide +kernel
theorem dX5_setVeto_39 : decode cX5_setVeto 39 = .ok (.iload_n 1, 1) := by decide +kernel
theorem dX5_setVeto_40 : decode cX5_setVeto 40 = .ok (.invokestatic 69, 3) := by decide +kernel
theorem dX5_setVeto_43 : decode cX5_setVeto 43 = .ok (.iconst (-1), 1) := by decide +kernel
theorem dX5_setVeto_44 : decode cX5_setVeto 44 = .ok (.ixor, 1) := by decide +kernel
theorem dX5_setVeto_45 : decode cX5_setVeto 45 = .ok (.iand, 1) := by decide +kernel
theorem dX5_setVeto_46 : decode cX5_setVeto 46 = .ok (.istore_n 3, 1) := by decide +kernel
theorem dX5_setVeto_47 : decode cX5_setVeto 47 = .ok (.iload_n 3, 1) := by decide +kernel
theorem dX5_setVeto_48 : decode cX5_setVeto 48 = .ok (.aload_n 0, 1) := by decide +kernel
theorem dX5_setVeto_49 : decode cX5_setVeto 49 = .ok (.getfield 10, 3) := by decide +kernel
theorem dX5_setVeto_52 : decode cX5_setVeto 52 = .ok (.getfield 66, 3) := by decide +kernel
theorem dX5_setVeto_55 : decode cX5_setVeto 55 = .ok (.if_icmp .ne 6, 3) := by decide +kernel
theorem dX5_setVeto_58 : decode cX5_setVeto 58 = .ok (.bipush (-5), 2) := by decide +kernel
theorem dX5_setVeto_60 : decode cX5_setVeto 60 = .ok (.ireturn, 1) := by decide +kernel
theorem dX5_setVeto_61 : decode cX5_setVeto 61 = .ok (.aload_n 0, 1) := by decide +kernel
theorem dX5_setVeto_62 : decode cX5_setVeto 62 = .ok (.invokevirtual 48, 3) := by decide +kernel
theorem dX5_setVeto_65 : decode cX5_setVeto 65 = .ok (.aload_n 0, 1) := by decide +kernel
theorem dX5_setVeto_66 : decode cX5_setVeto 66 = .ok (.getfield 10, 3) := by decide +kernel
theorem dX5_setVeto_69 : decode cX5_setVeto 69 = .ok (.iload_n 3, 1) := by decide +kernel
theorem dX5_setVeto_70 : decode cX5_setVeto 70 = .ok (.putfield 66, 3) := by decide +kernel
theorem dX5_setVeto_73 : decode cX5_setVeto 73 = .ok (.iload_n 3, 1) := by decide +kernel
theorem dX5_setVeto_74 : decode cX5_setVeto 74 = .ok (.invokestatic 72, 3) := by decide +kernel
theorem dX5_setVeto_77 : decode cX5_setVeto 77 = .ok (.ireturn, 1) := by decide +kernel
theorem dX5_setQuota_0 : decode cX5_setQuota 0 = .ok (.iload_n 1, 1) := by decide +kernel
theorem dX5_setQuota_1 : decode cX5_setQuota 1 = .ok (.invokestatic 77, 3) := by decide +kernel
theorem dX5_setQuota_4 : decode cX5_setQuota 4 = .ok (.ifCond .ne 6, 3) := by decide +kernel
theorem dX5_setQuota_7 : decode cX5_setQuota 7 = .ok (.bipush (-2), 2) := by decide +kernel
theorem dX5_setQuota_9 : decode cX5_setQuota 9 = .ok (.ireturn, 1) := by decide +kernel
theorem dX5_setQuota_10 : decode cX5_setQuota 10 = .ok (.aload_n 0, 1) := by decide +kernel
theorem dX5_setQuota_11 : decode cX5_setQuota 11 = .ok (.getfield 10, 3) := by decide +kernel
theorem dX5_setQuota_14 : decode cX5_setQuota 14 = .ok (.getfield 80, 3) := by decide +kernel
theorem dX5_setQuota_17 : decode cX5_setQuota 17 = .ok (.istore_n 2, 1) := by decide +kernel
theorem dX5_setQuota_18 : decode cX5_setQuota 18 = .ok (.iload_n 2, 1) := by decide +kernel
theorem dX5_setQuota_19 : decode cX5_setQuota 19 = .ok (.iload_n 1, 1) := by decide +kernel
theorem dX5_setQuota_20 : decode cX5_setQuota 20 = .ok (.if_icmp .ne 6, 3) := by decide +kernel
theorem dX5_setQuota_23 : decode cX5_setQuota 23 = .ok (.bipush (-5), 2) := by decide +kernel
theorem dX5_setQuota_25 : decode cX5_setQuota 25 = .ok (.ireturn, 1) := by decide +kernel
theorem dX5_setQuota_26 : decode cX5_setQuota 26 = .ok (.aload_n 0, 1) := by decide +kernel
theorem dX5_setQuota_27 : decode cX5_setQuota 27 = .ok (.invokevirtual 48, 3) := by decide +kernel
theorem dX5_setQuota_30 : decode cX5_setQuota 30 = .ok (.aload_n 0, 1) := by decide +kernel
theorem dX5_setQuota_31 : decode cX5_setQuota 31 = .ok (.getfield 10, 3) := by decide +kernel
theorem dX5_setQuota_34 : decode cX5_setQuota 34 = .ok (.iload_n 1, 1) := by decide +kernel
theorem dX5_setQuota_35 : decode cX5_setQuota 35 = .ok (.putfield 80, 3) := by decide +kernel
theorem dX5_setQuota_38 : decode cX5_setQuota 38 = .ok (.iload_n 2, 1) := by decide +kernel
theorem dX5_setQuota_39 : decode cX5_setQuota 39 = .ok (.ireturn, 1) := by decide +kernel
theorem dX5_join_0 : decode cX5_join 0 = .ok (.aload_n 0, 1) := by decide +kernel
theorem dX5_join_1 : decode cX5_join 1 = .ok (.getfield 10, 3) := by decide +kernel
theorem dX5_join_4 : decode cX5_join 4 = .ok (.iload_n 1, 1) := by decide +kernel
theorem dX5_join_5 : decode cX5_join 5 = .ok (.invokevirtual 55, 3) := by decide +kernel
theorem dX5_join_8 : decode cX5_join 8 = .ok (.ifCond .eq 14, 3) := by decide +kernel
theorem dX5_join_11 : decode cX5_join 11 = .ok (.aload_n 0, 1) := by decide +kernel
theorem dX5_join_12 : decode cX5_join 12 = .ok (.getfield 10, 3) := by decide +kernel
theorem dX5_join_15 : decode cX5_join 15 = .ok (.iload_n 2, 1) := by decide +kernel
theorem dX5_join_16 : decode cX5_join 16 = .ok (.invokevirtual 55, 3) := by decide +kernel
theorem dX5_join_19 : decode cX5_join 19 = .ok (.ifCond .ne 5, 3) := by decide +kernel
theorem dX5_join_22 : decode cX5_join 22 = .ok (.iconst (-1), 1) := by decide +kernel
theorem dX5_join_23 : decode cX5_join 23 = .ok (.ireturn, 1) := by decide +kernel
theorem dX5_join_24 : decode cX5_join 24 = .ok (.aload_n 0, 1) := by decide +kernel
theorem dX5_join_25 : decode cX5_join 25 = .ok (.getfield 10, 3) := by decide +kernel
theorem dX5_join_28 : decode cX5_join 28 = .ok (.getfield 83, 3) := by decide +kernel
theorem dX5_join_31 : decode cX5_join 31 = .ok (.iload_n 1, 1) := by decide +kernel
theorem dX5_join_32 : decode cX5_join 32 = .ok (.iaload, 1) := by decide +kernel
theorem dX5_join_33 : decode cX5_join 33 = .ok (.iload_n 2, 1) := by decide +kernel
theorem dX5_join_34 : decode cX5_join 34 = .ok (.invokestatic 86, 3) := by decide +kernel
theorem dX5_join_37 : decode cX5_join 37 = .ok (.ifCond .eq 6, 3) := by decide +kernel
theorem dX5_join_40 : decode cX5_join 40 = .ok (.bipush (-5), 2) := by decide +kernel
theorem dX5_join_42 : decode cX5_join 42 = .ok (.ireturn, 1) := by decide +kernel
theorem dX5_join_43 : decode cX5_join 43 = .ok (.aload_n 0, 1) := by decide +kernel
theorem dX5_join_44 : decode cX5_join 44 = .ok (.invokevirtual 48, 3) := by decide +kernel
theorem dX5_join_47 : decode cX5_join 47 = .ok (.aload_n 0, 1) := by decide +kernel
theorem dX5_join_48 : decode cX5_join 48 = .ok (.getfield 10, 3) := by decide +kernel
theorem dX5_join_51 : decode cX5_join 51 = .ok (.getfield 83, 3) := by decide +kernel
theorem dX5_join_54 : decode cX5_join 54 = .ok (.iload_n 1, 1) := by decide +kernel
theorem dX5_join_55 : decode cX5_join 55 = .ok (.iaload, 1) := by decide +kernel
theorem dX5_join_56 : decode cX5_join 56 = .ok (.aload_n 0, 1) := by decide +kernel
theorem dX5_join_57 : decode cX5_join 57 = .ok (.getfield 10, 3) := by decide +kernel
theorem dX5_join_60 : decode cX5_join 60 = .ok (.getfield 83, 3) := by decide +kernel
theorem dX5_join_63 : decode cX5_join 63 = .ok (.iload_n 2, 1) := by decide +kernel
theorem dX5_join_64 : decode cX5_join 64 = .ok (.iaload, 1) := by decide +kernel
theorem dX5_join_65 : decode cX5_join 65 = .ok (.ior, 1) := by decide +kernel
theorem dX5_join_66 : decode cX5_join 66 = .ok (.istore_n 3, 1) := by decide +kernel
theorem dX5_join_67 : decode cX5_join 67 = .ok (.aload_n 0, 1) := by decide +kernel
theorem dX5_join_68 : decode cX5_join 68 = .ok (.getfield 10, 3) := by decide +kernel
theorem dX5_join_71 : decode cX5_join 71 = .ok (.iload_n 3, 1) := by decide +kernel
theorem dX5_join_72 : decode cX5_join 72 = .ok (.invokevirtual 90, 3) := by decide +kernel
theorem dX5_join_75 : decode cX5_join 75 = .ok (.iload_n 3, 1) := by decide +kernel
theorem dX5_join_76 : decode cX5_join 76 = .ok (.invokestatic 72, 3) := by decide +kernel
theorem dX5_join_79 : decode cX5_join 79 = .ok (.ireturn, 1) := by decide +kernel
theorem dX5_leave_0 : decode cX5_leave 0 = .ok (.aload_n 0, 1) := by decide +kernel
theorem dX5_leave_1 : decode cX5_leave 1 = .ok (.getfield 10, 3) := by decide +kernel
theorem dX5_leave_4 : decode cX5_leave 4 = .ok (.iload_n 1, 1) := by decide +kernel
theorem dX5_leave_5 : decode cX5_leave 5 = .ok (.invokevirtual 55, 3) := by decide +kernel
theorem dX5_leave_8 : decode cX5_leave 8 = .ok (.ifCond .ne 5, 3) := by decide +kernel
theorem dX5_leave_11 : decode cX5_leave 11 = .ok (.iconst (-1), 1) := by decide +kernel
theorem dX5_leave_12 : decode cX5_leave 12 = .ok (.ireturn, 1) := by decide +kernel
theorem dX5_leave_13 : decode cX5_leave 13 = .ok (.aload_n 0, 1) := by decide +kernel
theorem dX5_leave_14 : decode cX5_leave 14 = .ok (.getfield 10, 3) := by decide +kernel
theorem dX5_leave_17 : decode cX5_leave 17 = .ok (.getfield 83, 3) := by decide +kernel
theorem dX5_leave_20 : decode cX5_leave 20 = .ok (.iload_n 1, 1) := by decide +kernel
theorem dX5_leave_21 : decode cX5_leave 21 = .ok (.iaload, 1) := by decide +kernel
theorem dX5_leave_22 : decode cX5_leave 22 = .ok (.iload_n 1, 1) := by decide +kernel
theorem dX5_leave_23 : decode cX5_leave 23 = .ok (.invokestatic 69, 3) := by decide +kernel
theorem dX5_leave_26 : decode cX5_leave 26 = .ok (.iconst (-1), 1) := by decide +kernel
theorem dX5_leave_27 : decode cX5_leave 27 = .ok (.ixor, 1) := by decide +kernel
theorem dX5_leave_28 : decode cX5_leave 28 = .ok (.iand, 1) := by decide +kernel
theorem dX5_leave_29 : decode cX5_leave 29 = .ok (.istore_n 2, 1) := by decide +kernel
theorem dX5_leave_30 : decode cX5_leave 30 = .ok (.iload_n 2, 1) := by decide +kernel
theorem dX5_leave_31 : decode cX5_leave 31 = .ok (.ifCond .ne 6, 3) := by decide +kernel
theorem dX5_leave_34 : decode cX5_leave 34 = .ok (.bipush (-5), 2) := by decide +kernel
theorem dX5_leave_36 : decode cX5_leave 36 = .ok (.ireturn, 1) := by decide +kernel
theorem dX5_leave_37 : decode cX5_leave 37 = .ok (.aload_n 0, 1) := by decide +kernel
theorem dX5_leave_38 : decode cX5_leave 38 = .ok (.invokevirtual 48, 3) := by decide +kernel
theorem dX5_leave_41 : decode cX5_leave 41 = .ok (.aload_n 0, 1) := by decide +kernel
theorem dX5_leave_42 : decode cX5_leave 42 = .ok (.getfield 10, 3) := by decide +kernel
theorem dX5_leave_45 : decode cX5_leave 45 = .ok (.iload_n 2, 1) := by decide +kernel
theorem dX5_leave_46 : decode cX5_leave 46 = .ok (.invokevirtual 90, 3) := by decide +kernel
theorem dX5_leave_49 : decode cX5_leave 49 = .ok (.aload_n 0, 1) := by decide +kernel
theorem dX5_leave_50 : decode cX5_leave 50 = .ok (.getfield 10, 3) := by decide +kernel
theorem dX5_leave_53 : decode cX5_leave 53 = .ok (.iload_n 1, 1) := by decide +kernel
theorem dX5_leave_54 : decode cX5_leave 54 = .ok (.invokestatic 69, 3) := by decide +kernel
theorem dX5_leave_57 : decode cX5_leave 57 = .ok (.invokevirtual 90, 3) := by decide +kernel
theorem dX5_leave_60 : decode cX5_leave 60 = .ok (.iload_n 2, 1) := by decide +kernel
theorem dX5_leave_61 : decode cX5_leave 61 = .ok (.invokestatic 72, 3) := by decide +kernel
theorem dX5_leave_64 : decode cX5_leave 64 = .ok (.ireturn, 1) := by decide +kernel
theorem dX5_type_0 : decode cX5_type 0 = .ok (.aload_n 0, 1) := by decide +kernel
theorem dX5_type_1 : decode cX5_type 1 = .ok (.getfield 29, 3) := by decide +kernel
theorem dX5_type_4 : decode cX5_type 4 = .ok (.getfield 93, 3) := by decide +kernel
theorem dX5_type_7 : decode cX5_type 7 = .ok (.bipush 60, 2) := by decide +kernel
theorem dX5_type_9 : decode cX5_type 9 = .ok (.if_icmp .lt 6, 3) := by decide +kernel
theorem dX5_type_12 : decode cX5_type 12 = .ok (.bipush (-3), 2) := by decide +kernel
theorem dX5_type_14 : decode cX5_type 14 = .ok (.ireturn, 1) := by decide +kernel
theorem dX5_type_15 : decode cX5_type 15 = .ok (.aload_n 0, 1) := by decide +kernel
theorem dX5_type_16 : decode cX5_type 16 = .ok (.getfield 29, 3) := by decide +kernel
theorem dX5_type_19 : decode cX5_type 19 = .ok (.iload_n 1, 1) := by decide +kernel
theorem dX5_type_20 : decode cX5_type 20 = .ok (.invokevirtual 96, 3) := by decide +kernel
theorem dX5_type_23 : decode cX5_type 23 = .ok (.aload_n 0, 1) := by decide +kernel
theorem dX5_type_24 : decode cX5_type 24 = .ok (.getfield 29, 3) := by decide +kernel
theorem dX5_type_27 : decode cX5_type 27 = .ok (.getfield 93, 3) := by decide +kernel
theorem dX5_type_30 : decode cX5_type 30 = .ok (.ireturn, 1) := by decide +kernel
theorem dX5_clearText_0 : decode cX5_clearText 0 = .ok (.aload_n 0, 1) := by decide +kernel
theorem dX5_clearText_1 : decode cX5_clearText 1 = .ok (.getfield 29, 3) := by decide +kernel
theorem dX5_clearText_4 : decode cX5_clearText 4 = .ok (.getfield 93, 3) := by decide +kernel
theorem dX5_clearText_7 : decode cX5_clearText 7 = .ok (.istore_n 1, 1) := by decide +kernel
theorem dX5_clearText_8 : decode cX5_clearText 8 = .ok (.aload_n 0, 1) := by decide +kernel
theorem dX5_clearText_9 : decode cX5_clearText 9 = .ok (.getfield 29, 3) := by decide +kernel
theorem dX5_clearText_12 : decode cX5_clearText 12 = .ok (.iconst 0, 1) := by decide +kernel
theorem dX5_clearText_13 : decode cX5_clearText 13 = .ok (.putfield 93, 3) := by decide +kernel
theorem dX5_clearText_16 : decode cX5_clearText 16 = .ok (.iload_n 1, 1) := by decide +kernel
theorem dX5_clearText_17 : decode cX5_clearText 17 = .ok (.ireturn, 1) := by decide +kernel
theorem dX5_vote_0 : decode cX5_vote 0 = .ok (.aload_n 0, 1) := by decide +kernel
theorem dX5_vote_1 : decode cX5_vote 1 = .ok (.getfield 29, 3) := by decide +kernel
theorem dX5_vote_4 : decode cX5_vote 4 = .ok (.aload_n 0, 1) := by decide +kernel
theorem dX5_vote_5 : decode cX5_vote 5 = .ok (.getfield 10, 3) := by decide +kernel
theorem dX5_vote_8 : decode cX5_vote 8 = .ok (.getfield 44, 3) := by decide +kernel
theorem dX5_vote_11 : decode cX5_vote 11 = .ok (.invokevirtual 99, 3) := by decide +kernel
theorem dX5_vote_14 : decode cX5_vote 14 = .ok (.istore_n 1, 1) := by decide +kernel
theorem dX5_vote_15 : decode cX5_vote 15 = .ok (.iload_n 1, 1) := by decide +kernel
theorem dX5_vote_16 : decode cX5_vote 16 = .ok (.iconst (-1), 1) := by decide +kernel
theorem dX5_vote_17 : decode cX5_vote 17 = .ok (.if_icmp .eq 8, 3) := by decide +kernel
theorem dX5_vote_20 : decode cX5_vote 20 = .ok (.bipush (-100), 2) := by decide +kernel
theorem dX5_vote_22 : decode cX5_vote 22 = .ok (.iload_n 1, 1) := by decide +kernel
theorem dX5_vote_23 : decode cX5_vote 23 = .ok (.isub, 1) := by decide +kernel
theorem dX5_vote_24 : decode cX5_vote 24 = .ok (.ireturn, 1) := by decide +kernel
theorem dX5_vote_25 : decode cX5_vote 25 = .ok (.aload_n 0, 1) := by decide +kernel
theorem dX5_vote_26 : decode cX5_vote 26 = .ok (.invokevirtual 48, 3) := by decide +kernel
theorem dX5_vote_29 : decode cX5_vote 29 = .ok (.aload_n 0, 1) := by decide +kernel
theorem dX5_vote_30 : decode cX5_vote 30 = .ok (.getfield 10, 3) := by decide +kernel
theorem dX5_vote_33 : decode cX5_vote 33 = .ok (.getfield 102, 3) := by decide +kernel
theorem dX5_vote_36 : decode cX5_vote 36 = .ok (.getfield 106, 3) := by decide +kernel
theorem dX5_vote_39 : decode cX5_vote 39 = .ok (.istore_n 2, 1) := by decide +kernel
theorem dX5_vote_40 : decode cX5_vote 40 = .ok (.iconst 0, 1) := by decide +kernel
theorem dX5_vote_41 : decode cX5_vote 41 = .ok (.istore_n 3, 1) := by decide +kernel
theorem dX5_vote_42 : decode cX5_vote 42 = .ok (.iload_n 3, 1) := by decide +kernel
theorem dX5_vote_43 : decode cX5_vote 43 = .ok (.aload_n 0, 1) := by decide +kernel
theorem dX5_vote_44 : decode cX5_vote 44 = .ok (.getfield 29, 3) := by decide +kernel
theorem dX5_vote_47 : decode cX5_vote 47 = .ok (.getfield 93, 3) := by decide +kernel
theorem dX5_vote_50 : decode cX5_vote 50 = .ok (.if_icmp .ge 30, 3) := by decide +kernel
theorem dX5_vote_53 : decode cX5_vote 53 = .ok (.aload_n 0, 1) := by decide +kernel
theorem dX5_vote_54 : decode cX5_vote 54 = .ok (.getfield 10, 3) := by decide +kernel
theorem dX5_vote_57 : decode cX5_vote 57 = .ok (.aload_n 0, 1) := by decide +kernel
theorem dX5_vote_58 : decode cX5_vote 58 = .ok (.getfield 29, 3) := by decide +kernel
theorem dX5_vote_61 : decode cX5_vote 61 = .ok (.iload_n 3, 1) := by decide +kernel
theorem dX5_vote_62 : decode cX5_vote 62 = .ok (.invokevirtual 111, 3) := by decide +kernel
theorem dX5_vote_65 : decode cX5_vote 65 = .ok (.iload_n 3, 1) := by decide +kernel
theorem dX5_vote_66 : decode cX5_vote 66 = .ok (.aload_n 0, 1) := by decide +kernel
theorem dX5_vote_67 : decode cX5_vote 67 = .ok (.getfield 10, 3) := by decide +kernel
theorem dX5_vote_70 : decode cX5_vote 70 = .ok (.getfield 44, 3) := by decide +kernel
theorem dX5_vote_73 : decode cX5_vote 73 = .ok (.iconst 1, 1) := by decide +kernel
theorem dX5_vote_74 : decode cX5_vote 74 = .ok (.iadd, 1) := by decide +kernel
theorem dX5_vote_75 : decode cX5_vote 75 = .ok (.iadd, 1) := by decide +kernel
theorem dX5_vote_76 : decode cX5_vote 76 = .ok (.istore_n 3, 1) := by decide +kernel
theorem dX5_vote_77 : decode cX5_vote 77 = .ok (.goto (-35), 3) := by decide +kernel
theorem dX5_vote_80 : decode cX5_vote 80 = .ok (.aload_n 0, 1) := by decide +kernel
theorem dX5_vote_81 : decode cX5_vote 81 = .ok (.getfield 10, 3) := by decide +kernel
theorem dX5_vote_84 : decode cX5_vote 84 = .ok (.getfield 102, 3) := by decide +kernel
theorem dX5_vote_87 : decode cX5_vote 87 = .ok (.getfield 106, 3) := by decide +kernel
theorem dX5_vote_90 : decode cX5_vote 90 = .ok (.iload_n 2, 1) := by decide +kernel
theorem dX5_vote_91 : decode cX5_vote 91 = .ok (.isub, 1) := by decide +kernel
theorem dX5_vote_92 : decode cX5_vote 92 = .ok (.ireturn, 1) := by decide +kernel
theorem dX5_undo_0 : decode cX5_undo 0 = .ok (.aload_n 0, 1) := by decide +kernel
theorem dX5_undo_1 : decode cX5_undo 1 = .ok (.getfield 22, 3) := by decide +kernel
theorem dX5_undo_4 : decode cX5_undo 4 = .ok (.getfield 115, 3) := by decide +kernel
theorem dX5_undo_7 : decode cX5_undo 7 = .ok (.ifCond .ne 6, 3) := by decide +kernel
theorem dX5_undo_10 : decode cX5_undo 10 = .ok (.bipush (-5), 2) := by decide +kernel
theorem dX5_undo_12 : decode cX5_undo 12 = .ok (.ireturn, 1) := by decide +kernel
theorem dX5_undo_13 : decode cX5_undo 13 = .ok (.aload_n 0, 1) := by decide +kernel
theorem dX5_undo_14 : decode cX5_undo 14 = .ok (.getfield 22, 3) := by decide +kernel
theorem dX5_undo_17 : decode cX5_undo 17 = .ok (.aload_n 0, 1) := by decide +kernel
theorem dX5_undo_18 : decode cX5_undo 18 = .ok (.getfield 10, 3) := by decide +kernel
theorem dX5_undo_21 : decode cX5_undo 21 = .ok (.invokevirtual 118, 3) := by decide +kernel
theorem dX5_undo_24 : decode cX5_undo 24 = .ok (.aload_n 0, 1) := by decide +kernel
theorem dX5_undo_25 : decode cX5_undo 25 = .ok (.iconst 0, 1) := by decide +kernel
theorem dX5_undo_26 : decode cX5_undo 26 = .ok (.putfield 122, 3) := by decide +kernel
theorem dX5_undo_29 : decode cX5_undo 29 = .ok (.aload_n 0, 1) := by decide +kernel
theorem dX5_undo_30 : decode cX5_undo 30 = .ok (.getfield 22, 3) := by decide +kernel
theorem dX5_undo_33 : decode cX5_undo 33 = .ok (.getfield 115, 3) := by decide +kernel
theorem dX5_undo_36 : decode cX5_undo 36 = .ok (.ireturn, 1) := by decide +kernel
theorem dX5_keep_0 : decode cX5_keep 0 = .ok (.aload_n 0, 1) := by decide +kernel
theorem dX5_keep_1 : decode cX5_keep 1 = .ok (.getfield 16, 3) := by decide +kernel
theorem dX5_keep_4 : decode cX5_keep 4 = .ok (.aload_n 0, 1) := by decide +kernel
theorem dX5_keep_5 : decode cX5_keep 5 = .ok (.getfield 10, 3) := by decide +kernel
theorem dX5_keep_8 : decode cX5_keep 8 = .ok (.invokevirtual 126, 3) := by decide +kernel
theorem dX5_keep_11 : decode cX5_keep 11 = .ok (.aload_n 0, 1) := by decide +kernel
theorem dX5_keep_12 : decode cX5_keep 12 = .ok (.iconst 1, 1) := by decide +kernel
theorem dX5_keep_13 : decode cX5_keep 13 = .ok (.putfield 129, 3) := by decide +kernel
theorem dX5_keep_16 : decode cX5_keep 16 = .ok (.aload_n 0, 1) := by decide +kernel
theorem dX5_keep_17 : decode cX5_keep 17 = .ok (.getfield 10, 3) := by decide +kernel
theorem dX5_keep_20 : decode cX5_keep 20 = .ok (.getfield 44, 3) := by decide +kernel
theorem dX5_keep_23 : decode cX5_keep 23 = .ok (.ireturn, 1) := by decide +kernel
theorem dX5_restore_0 : decode cX5_restore 0 = .ok (.aload_n 0, 1) := by decide +kernel
theorem dX5_restore_1 : decode cX5_restore 1 = .ok (.getfield 129, 3) := by decide +kernel
theorem dX5_restore_4 : decode cX5_restore 4 = .ok (.ifCond .ne 6, 3) := by decide +kernel
theorem dX5_restore_7 : decode cX5_restore 7 = .ok (.bipush (-5), 2) := by decide +kernel
theorem dX5_restore_9 : decode cX5_restore 9 = .ok (.ireturn, 1) := by decide +kernel
theorem dX5_restore_10 : decode cX5_restore 10 = .ok (.aload_n 0, 1) := by decide +kernel
theorem dX5_restore_11 : decode cX5_restore 11 = .ok (.invokevirtual 48, 3) := by decide +kernel
theorem dX5_restore_14 : decode cX5_restore 14 = .ok (.aload_n 0, 1) := by decide +kernel
theorem dX5_restore_15 : decode cX5_restore 15 = .ok (.getfield 10, 3) := by decide +kernel
theorem dX5_restore_18 : decode cX5_restore 18 = .ok (.aload_n 0, 1) := by decide +kernel
theorem dX5_restore_19 : decode cX5_restore 19 = .ok (.getfield 16, 3) := by decide +kernel
theorem dX5_restore_22 : decode cX5_restore 22 = .ok (.invokevirtual 126, 3) := by decide +kernel
theorem dX5_restore_25 : decode cX5_restore 25 = .ok (.aload_n 0, 1) := by decide +kernel
theorem dX5_restore_26 : decode cX5_restore 26 = .ok (.getfield 10, 3) := by decide +kernel
theorem dX5_restore_29 : decode cX5_restore 29 = .ok (.getfield 44, 3) := by decide +kernel
theorem dX5_restore_32 : decode cX5_restore 32 = .ok (.ireturn, 1) := by decide +kernel
theorem dX5_member_0 : decode cX5_member 0 = .ok (.aload_n 0, 1) := by decide +kernel
theorem dX5_member_1 : decode cX5_member 1 = .ok (.getfield 10, 3) := by decide +kernel
theorem dX5_member_4 : decode cX5_member 4 = .ok (.iload_n 1, 1) := by decide +kernel
theorem dX5_member_5 : decode cX5_member 5 = .ok (.invokevirtual 55, 3) := by decide +kernel
theorem dX5_member_8 : decode cX5_member 8 = .ok (.ifCond .ne 5, 3) := by decide +kernel
theorem dX5_member_11 : decode cX5_member 11 = .ok (.iconst (-1), 1) := by decide +kernel
theorem dX5_member_12 : decode cX5_member 12 = .ok (.ireturn, 1) := by decide +kernel
theorem dX5_member_13 : decode cX5_member 13 = .ok (.iload_n 2, 1) := by decide +kernel
theorem dX5_member_14 : decode cX5_member 14 = .ok (.tableswitch 217 0 11 #[62, 72, 87, 96, 113, 122, 138, 147, 166, 185, 197, 207], 62) := by decide +kernel
theorem dX5_member_76 : decode cX5_member 76 = .ok (.aload_n 0, 1) := by decide +kernel
theorem dX5_member_77 : decode cX5_member 77 = .ok (.getfield 10, 3) := by decide +kernel
theorem dX5_member_80 : decode cX5_member 80 = .ok (.getfield 62, 3) := by decide +kernel
theorem dX5_member_83 : decode cX5_member 83 = .ok (.iload_n 1, 1) := by decide +kernel
theorem dX5_member_84 : decode cX5_member 84 = .ok (.iaload, 1) := by decide +kernel
theorem dX5_member_85 : decode cX5_member 85 = .ok (.ireturn, 1) := by decide +kernel
theorem dX5_member_86 : decode cX5_member 86 = .ok (.aload_n 0, 1) := by decide +kernel
theorem dX5_member_87 : decode cX5_member 87 = .ok (.getfield 10, 3) := by decide +kernel
theorem dX5_member_90 : decode cX5_member 90 = .ok (.getfield 66, 3) := by decide +kernel
theorem dX5_member_93 : decode cX5_member 93 = .ok (.iload_n 1, 1) := by decide +kernel
theorem dX5_member_94 : decode cX5_member 94 = .ok (.invokestatic 86, 3) := by decide +kernel
theorem dX5_member_97 : decode cX5_member 97 = .ok (.invokestatic 132, 3) := by decide +kernel
theorem dX5_member_100 : decode cX5_member 100 = .ok (.ireturn, 1) := by decide +kernel
theorem dX5_member_101 : decode cX5_member 101 = .ok (.aload_n 0, 1) := by decide +kernel
theorem dX5_member_102 : decode cX5_member 102 = .ok (.getfield 10, 3) := by decide +kernel
theorem dX5_member_105 : decode cX5_member 105 = .ok (.iload_n 1, 1) := by decide +kernel
theorem dX5_member_106 : decode cX5_member 106 = .ok (.invokevirtual 136, 3) := by decide +kernel
theorem dX5_member_109 : decode cX5_member 109 = .ok (.ireturn, 1) := by decide +kernel
theorem dX5_member_110 : decode cX5_member 110 = .ok (.aload_n 0, 1) := by decide +kernel
theorem dX5_member_111 : decode cX5_member 111 = .ok (.getfield 10, 3) := by decide +kernel
theorem dX5_member_114 : decode cX5_member 114 = .ok (.aload_n 0, 1) := by decide +kernel
theorem dX5_member_115 : decode cX5_member 115 = .ok (.getfield 10, 3) := by decide +kernel
theorem dX5_member_118 : decode cX5_member 118 = .ok (.getfield 83, 3) := by decide +kernel
theorem dX5_member_121 : decode cX5_member 121 = .ok (.iload_n 1, 1) := by decide +kernel
theorem dX5_member_122 : decode cX5_member 122 = .ok (.iaload, 1) := by decide +kernel
theorem dX5_member_123 : decode cX5_member 123 = .ok (.invokevirtual 139, 3) := by decide +kernel
theorem dX5_member_126 : decode cX5_member 126 = .ok (.ireturn, 1) := by decide +kernel
theorem dX5_member_127 : decode cX5_member 127 = .ok (.aload_n 0, 1) := by decide +kernel
theorem dX5_member_128 : decode cX5_member 128 = .ok (.getfield 10, 3) := by decide +kernel
theorem dX5_member_131 : decode cX5_member 131 = .ok (.iload_n 1, 1) := by decide +kernel
theorem dX5_member_132 : decode cX5_member 132 = .ok (.invokevirtual 142, 3) := by decide +kernel
theorem dX5_member_135 : decode cX5_member 135 = .ok (.ireturn, 1) := by decide +kernel
theorem dX5_member_136 : decode cX5_member 136 = .ok (.aload_n 0, 1) := by decide +kernel
theorem dX5_member_137 : decode cX5_member 137 = .ok (.invokevirtual 145, 3) := by decide +kernel
theorem dX5_member_140 : decode cX5_member 140 = .ok (.iload_n 1, 1) := by decide +kernel
theorem dX5_member_141 : decode cX5_member 141 = .ok (.aload_n 0, 1) := by decide +kernel
theorem dX5_member_142 : decode cX5_member 142 = .ok (.getfield 10, 3) := by decide +kernel
theorem dX5_member_145 : decode cX5_member 145 = .ok (.getfield 80, 3) := by decide +kernel
theorem dX5_member_148 : decode cX5_member 148 = .ok (.invokevirtual 149, 3) := by decide +kernel
theorem dX5_member_151 : decode cX5_member 151 = .ok (.ireturn, 1) := by decide +kernel
theorem dX5_member_152 : decode cX5_member 152 = .ok (.aload_n 0, 1) := by decide +kernel
theorem dX5_member_153 : decode cX5_member 153 = .ok (.invokevirtual 145, 3) := by decide +kernel
theorem dX5_member_156 : decode cX5_member 156 = .ok (.iload_n 1, 1) := by decide +kernel
theorem dX5_member_157 : decode cX5_member 157 = .ok (.invokevirtual 153, 3) := by decide +kernel
theorem dX5_member_160 : decode cX5_member 160 = .ok (.ireturn, 1) := by decide +kernel
theorem dX5_member_161 : decode cX5_member 161 = .ok (.aload_n 0, 1) := by decide +kernel
theorem dX5_member_162 : decode cX5_member 162 = .ok (.invokevirtual 145, 3) := by decide +kernel
theorem dX5_member_165 : decode cX5_member 165 = .ok (.iload_n 1, 1) := by decide +kernel
theorem dX5_member_166 : decode cX5_member 166 = .ok (.aload_n 0, 1) := by decide +kernel
theorem dX5_member_167 : decode cX5_member 167 = .ok (.getfield 10, 3) := by decide +kernel
theorem dX5_member_170 : decode cX5_member 170 = .ok (.getfield 80, 3) := by decide +kernel
theorem dX5_member_173 : decode cX5_member 173 = .ok (.invokevirtual 156, 3) := by decide +kernel
theorem dX5_member_176 : decode cX5_member 176 = .ok (.invokestatic 132, 3) := by decide +kernel
theorem dX5_member_179 : decode cX5_member 179 = .ok (.ireturn, 1) := by decide +kernel
theorem dX5_member_180 : decode cX5_member 180 = .ok (.aload_n 0, 1) := by decide +kernel
theorem dX5_member_181 : decode cX5_member 181 = .ok (.invokevirtual 145, 3) := by decide +kernel
theorem dX5_member_184 : decode cX5_member 184 = .ok (.iload_n 1, 1) := by decide +kernel
theorem dX5_member_185 : decode cX5_member 185 = .ok (.aload_n 0, 1) := by decide +kernel
theorem dX5_member_186 : decode cX5_member 186 = .ok (.getfield 10, 3) := by decide +kernel
theorem dX5_member_189 : decode cX5_member 189 = .ok (.getfield 80, 3) := by decide +kernel
theorem dX5_member_192 : decode cX5_member 192 = .ok (.invokevirtual 159, 3) := by decide +kernel
theorem dX5_member_195 : decode cX5_member 195 = .ok (.invokestatic 132, 3) := by decide +kernel
theorem dX5_member_198 : decode cX5_member 198 = .ok (.ireturn, 1) := by decide +kernel
theorem dX5_member_199 : decode cX5_member 199 = .ok (.aload_n 0, 1) := by decide +kernel
theorem dX5_member_200 : decode cX5_member 200 = .ok (.invokevirtual 145, 3) := by decide +kernel
theorem dX5_member_203 : decode cX5_member 203 = .ok (.iload_n 1, 1) := by decide +kernel
theorem dX5_member_204 : decode cX5_member 204 = .ok (.invokevirtual 162, 3) := by decide +kernel
theorem dX5_member_207 : decode cX5_member 207 = .ok (.invokestatic 132, 3) := by decide +kernel
theorem dX5_member_210 : decode cX5_member 210 = .ok (.ireturn, 1) := by decide +kernel
theorem dX5_member_211 : decode cX5_member 211 = .ok (.aload_n 0, 1) := by decide +kernel
theorem dX5_member_212 : decode cX5_member 212 = .ok (.iload_n 1, 1) := by decide +kernel
theorem dX5_member_213 : decode cX5_member 213 = .ok (.aload_n 0, 1) := by decide +kernel
theorem dX5_member_214 : decode cX5_member 214 = .ok (.invokevirtual 145, 3) := by decide +kernel
theorem dX5_member_217 : decode cX5_member 217 = .ok (.invokevirtual 165, 3) := by decide +kernel
theorem dX5_member_220 : decode cX5_member 220 = .ok (.ireturn, 1) := by decide +kernel
theorem dX5_member_221 : decode cX5_member 221 = .ok (.aload_n 0, 1) := by decide +kernel
theorem dX5_member_222 : decode cX5_member 222 = .ok (.getfield 10, 3) := by decide +kernel
theorem dX5_member_225 : decode cX5_member 225 = .ok (.getfield 169, 3) := by decide +kernel
theorem dX5_member_228 : decode cX5_member 228 = .ok (.iload_n 1, 1) := by decide +kernel
theorem dX5_member_229 : decode cX5_member 229 = .ok (.iaload, 1) := by decide +kernel
theorem dX5_member_230 : decode cX5_member 230 = .ok (.ireturn, 1) := by decide +kernel
theorem dX5_member_231 : decode cX5_member 231 = .ok (.bipush (-2), 2) := by decide +kernel
theorem dX5_member_233 : decode cX5_member 233 = .ok (.ireturn, 1) := by decide +kernel
theorem dX5_share_0 : decode cX5_share 0 = .ok (.aload_n 0, 1) := by decide +kernel
theorem dX5_share_1 : decode cX5_share 1 = .ok (.getfield 10, 3) := by decide +kernel
theorem dX5_share_4 : decode cX5_share 4 = .ok (.iload_n 1, 1) := by decide +kernel
theorem dX5_share_5 : decode cX5_share 5 = .ok (.invokevirtual 55, 3) := by decide +kernel
theorem dX5_share_8 : decode cX5_share 8 = .ok (.ifCond .ne 5, 3) := by decide +kernel
theorem dX5_share_11 : decode cX5_share 11 = .ok (.iconst (-1), 1) := by decide +kernel
theorem dX5_share_12 : decode cX5_share 12 = .ok (.ireturn, 1) := by decide +kernel
theorem dX5_share_13 : decode cX5_share 13 = .ok (.iload_n 2, 1) := by decide +kernel
theorem dX5_share_14 : decode cX5_share 14 = .ok (.ifCond .lt 8, 3) := by decide +kernel
theorem dX5_share_17 : decode cX5_share 17 = .ok (.iload_n 2, 1) := by decide +kernel
theorem dX5_share_18 : decode cX5_share 18 = .ok (.iconst 3, 1) := by decide +kernel
theorem dX5_share_19 : decode cX5_share 19 = .ok (.if_icmp .le 6, 3) := by decide +kernel
theorem dX5_share_22 : decode cX5_share 22 = .ok (.bipush (-2), 2) := by decide +kernel
theorem dX5_share_24 : decode cX5_share 24 = .ok (.ireturn, 1) := by decide +kernel
theorem dX5_share_25 : decode cX5_share 25 = .ok (.aload_n 0, 1) := by decide +kernel
theorem dX5_share_26 : decode cX5_share 26 = .ok (.invokevirtual 145, 3) := by decide +kernel
theorem dX5_share_29 : decode cX5_share 29 = .ok (.astore_n 3, 1) := by decide +kernel
theorem dX5_share_30 : decode cX5_share 30 = .ok (.aload_n 3, 1) := by decide +kernel
theorem dX5_share_31 : decode cX5_share 31 = .ok (.aload_n 0, 1) := by decide +kernel
theorem dX5_share_32 : decode cX5_share 32 = .ok (.getfield 10, 3) := by decide +kernel
theorem dX5_share_35 : decode cX5_share 35 = .ok (.getfield 80, 3) := by decide +kernel
theorem dX5_share_38 : decode cX5_share 38 = .ok (.invokevirtual 172, 3) := by decide +kernel
theorem dX5_share_41 : decode cX5_share 41 = .ok (.ifCond .ne 6, 3) := by decide +kernel
theorem dX5_share_44 : decode cX5_share 44 = .ok (.bipush (-5), 2) := by decide +kernel
theorem dX5_share_46 : decode cX5_share 46 = .ok (.ireturn, 1) := by decide +kernel
theorem dX5_share_47 : decode cX5_share 47 = .ok (.iload_n 2, 1) := by decide +kernel
theorem dX5_share_48 : decode cX5_share 48 = .ok (.iconst 2, 1) := by decide +kernel
theorem dX5_share_49 : decode cX5_share 49 = .ok (.if_icmp .ge 7, 3) := by decide +kernel
theorem dX5_share_52 : decode cX5_share 52 = .ok (.iconst 1, 1) := by decide +kernel
theorem dX5_share_53 : decode cX5_share 53 = .ok (.goto 4, 3) := by decide +kernel
theorem dX5_share_56 : decode cX5_share 56 = .ok (.iconst 0, 1) := by decide +kernel
theorem dX5_share_57 : decode cX5_share 57 = .ok (.istore 4, 2) := by decide +kernel
theorem dX5_share_59 : decode cX5_share 59 = .ok (.iload 4, 2) := by decide +kernel
theorem dX5_share_61 : decode cX5_share 61 = .ok (.ifCond .eq 18, 3) := by decide +kernel
theorem dX5_share_64 : decode cX5_share 64 = .ok (.aload_n 3, 1) := by decide +kernel
theorem dX5_share_65 : decode cX5_share 65 = .ok (.iload_n 1, 1) := by decide +kernel
theorem dX5_share_66 : decode cX5_share 66 = .ok (.aload_n 0, 1) := by decide +kernel
theorem dX5_share_67 : decode cX5_share 67 = .ok (.getfield 10, 3) := by decide +kernel
theorem dX5_share_70 : decode cX5_share 70 = .ok (.getfield 80, 3) := by decide +kernel
theorem dX5_share_73 : decode cX5_share 73 = .ok (.invokevirtual 149, 3) := by decide +kernel
theorem dX5_share_76 : decode cX5_share 76 = .ok (.goto 8, 3) := by decide +kernel
theorem dX5_share_79 : decode cX5_share 79 = .ok (.aload_n 3, 1) := by decide +kernel
theorem dX5_share_80 : decode cX5_share 80 = .ok (.iload_n 1, 1) := by decide +kernel
theorem dX5_share_81 : decode cX5_share 81 = .ok (.invokevirtual 153, 3) := by decide +kernel
theorem dX5_share_84 : decode cX5_share 84 = .ok (.istore 5, 2) := by decide +kernel
theorem dX5_share_86 : decode cX5_share 86 = .ok (.iload 4, 2) := by decide +kernel
theorem dX5_share_88 : decode cX5_share 88 = .ok (.ifCond .eq 17, 3) := by decide +kernel
theorem dX5_share_91 : decode cX5_share 91 = .ok (.aload_n 3, 1) := by decide +kernel
theorem dX5_share_92 : decode cX5_share 92 = .ok (.aload_n 0, 1) := by decide +kernel
theorem dX5_share_93 : decode cX5_share 93 = .ok (.getfield 10, 3) := by decide +kernel
theorem dX5_share_96 : decode cX5_share 96 = .ok (.getfield 80, 3) := by decide +kernel
theorem dX5_share_99 : decode cX5_share 99 = .ok (.invokevirtual 175, 3) := by decide +kernel
theorem dX5_share_102 : decode cX5_share 102 = .ok (.goto 13, 3) := by decide +kernel
theorem dX5_share_105 : decode cX5_share 105 = .ok (.aload_n 0, 1) := by decide +kernel
theorem dX5_share_106 : decode cX5_share 106 = .ok (.getfield 10, 3) := by decide +kernel
theorem dX5_share_109 : decode cX5_share 109 = .ok (.invokevirtual 178, 3) := by decide +kernel
theorem dX5_share_112 : decode cX5_share 112 = .ok (.invokestatic 182, 3) := by decide +kernel
theorem dX5_share_115 : decode cX5_share 115 = .ok (.istore 6, 2) := by decide +kernel
theorem dX5_share_117 : decode cX5_share 117 = .ok (.iload_n 2, 1) := by decide +kernel
theorem dX5_share_118 : decode cX5_share 118 = .ok (.ifCond .eq 8, 3) := by decide +kernel
theorem dX5_share_121 : decode cX5_share 121 = .ok (.iload_n 2, 1) := by decide +kernel
theorem dX5_share_122 : decode cX5_share 122 = .ok (.iconst 2, 1) := by decide +kernel
theorem dX5_share_123 : decode cX5_share 123 = .ok (.if_icmp .ne 8, 3) := by decide +kernel
theorem dX5_share_126 : decode cX5_share 126 = .ok (.iload 5, 2) := by decide +kernel
theorem dX5_share_128 : decode cX5_share 128 = .ok (.goto 5, 3) := by decide +kernel
theorem dX5_share_131 : decode cX5_share 131 = .ok (.iload 6, 2) := by decide +kernel
theorem dX5_share_133 : decode cX5_share 133 = .ok (.istore 7, 2) := by decide +kernel
theorem dX5_share_135 : decode cX5_share 135 = .ok (.iload 7, 2) := by decide +kernel
theorem dX5_share_137 : decode cX5_share 137 = .ok (.iload 5, 2) := by decide +kernel
theorem dX5_share_139 : decode cX5_share 139 = .ok (.iload 6, 2) := by decide +kernel
theorem dX5_share_141 : decode cX5_share 141 = .ok (.invokestatic 185, 3) := by decide +kernel
theorem dX5_share_144 : decode cX5_share 144 = .ok (.idiv, 1) := by decide +kernel
theorem dX5_share_145 : decode cX5_share 145 = .ok (.ireturn, 1) := by decide +kernel
theorem dX5_wins_0 : decode cX5_wins 0 = .ok (.iload_n 1, 1) := by decide +kernel
theorem dX5_wins_1 : decode cX5_wins 1 = .ok (.aload_n 0, 1) := by decide +kernel
theorem dX5_wins_2 : decode cX5_wins 2 = .ok (.getfield 10, 3) := by decide +kernel
theorem dX5_wins_5 : decode cX5_wins 5 = .ok (.invokevirtual 188, 3) := by decide +kernel
theorem dX5_wins_8 : decode cX5_wins 8 = .ok (.iconst (-1), 1) := by decide +kernel
theorem dX5_wins_9 : decode cX5_wins 9 = .ok (.ixor, 1) := by decide +kernel
theorem dX5_wins_10 : decode cX5_wins 10 = .ok (.iand, 1) := by decide +kernel
theorem dX5_wins_11 : decode cX5_wins 11 = .ok (.ifCond .eq 6, 3) := by decide +kernel
theorem dX5_wins_14 : decode cX5_wins 14 = .ok (.bipush (-2), 2) := by decide +kernel
theorem dX5_wins_16 : decode cX5_wins 16 = .ok (.ireturn, 1) := by decide +kernel
theorem dX5_wins_17 : decode cX5_wins 17 = .ok (.aload_n 0, 1) := by decide +kernel
theorem dX5_wins_18 : decode cX5_wins 18 = .ok (.getfield 10, 3) := by decide +kernel
theorem dX5_wins_21 : decode cX5_wins 21 = .ok (.aload_n 0, 1) := by decide +kernel
theorem dX5_wins_22 : decode cX5_wins 22 = .ok (.getfield 10, 3) := by decide +kernel
theorem dX5_wins_25 : decode cX5_wins 25 = .ok (.iload_n 1, 1) := by decide +kernel
theorem dX5_wins_26 : decode cX5_wins 26 = .ok (.invokevirtual 191, 3) := by decide +kernel
theorem dX5_wins_29 : decode cX5_wins 29 = .ok (.invokevirtual 194, 3) := by decide +kernel
theorem dX5_wins_32 : decode cX5_wins 32 = .ok (.invokestatic 132, 3) := by decide +kernel
theorem dX5_wins_35 : decode cX5_wins 35 = .ok (.ireturn, 1) := by decide +kernel
theorem dX5_leastCoalition_0 : decode cX5_leastCoalition 0 = .ok (.iload_n 1, 1) := by decide +kernel
theorem dX5_leastCoalition_1 : decode cX5_leastCoalition 1 = .ok (.ifCond .lt 12, 3) := by decide +kernel
theorem dX5_leastCoalition_4 : decode cX5_leastCoalition 4 = .ok (.iload_n 2, 1) := by decide +kernel
theorem dX5_leastCoalition_5 : decode cX5_leastCoalition 5 = .ok (.ifCond .lt 8, 3) := by decide +kernel
theorem dX5_leastCoalition_8 : decode cX5_leastCoalition 8 = .ok (.iload_n 2, 1) := by decide +kernel
theorem dX5_leastCoalition_9 : decode cX5_leastCoalition 9 = .ok (.iconst 2, 1) := by decide +kernel
theorem dX5_leastCoalition_10 : decode cX5_leastCoalition 10 = .ok (.if_icmp .le 6, 3) := by decide +kernel
theorem dX5_leastCoalition_13 : decode cX5_leastCoalition 13 = .ok (.bipush (-2), 2) := by decide +kernel
theorem dX5_leastCoalition_15 : decode cX5_leastCoalition 15 = .ok (.ireturn, 1) := by decide +kernel
theorem dX5_leastCoalition_16 : decode cX5_leastCoalition 16 = .ok (.aload_n 0, 1) := by decide +kernel
theorem dX5_leastCoalition_17 : decode cX5_leastCoalition 17 = .ok (.invokevirtual 145, 3) := by decide +kernel
theorem dX5_leastCoalition_20 : decode cX5_leastCoalition 20 = .ok (.astore_n 3, 1) := by decide +kernel
theorem dX5_leastCoalition_21 : decode cX5_leastCoalition 21 = .ok (.iload_n 1, 1) := by decide +kernel
theorem dX5_leastCoalition_22 : decode cX5_leastCoalition 22 = .ok (.aload_n 3, 1) := by decide +kernel
theorem dX5_leastCoalition_23 : decode cX5_leastCoalition 23 = .ok (.invokevirtual 197, 3) := by decide +kernel
theorem dX5_leastCoalition_26 : decode cX5_leastCoalition 26 = .ok (.if_icmp .ge 12, 3) := by decide +kernel
theorem dX5_leastCoalition_29 : decode cX5_leastCoalition 29 = .ok (.aload_n 3, 1) := by decide +kernel
theorem dX5_leastCoalition_30 : decode cX5_leastCoalition 30 = .ok (.iload_n 1, 1) := by decide +kernel
theorem dX5_leastCoalition_31 : decode cX5_leastCoalition 31 = .ok (.iload_n 2, 1) := by decide +kernel
theorem dX5_leastCoalition_32 : decode cX5_leastCoalition 32 = .ok (.invokevirtual 200, 3) := by decide +kernel
theorem dX5_leastCoalition_35 : decode cX5_leastCoalition 35 = .ok (.goto 5, 3) := by decide +kernel
theorem dX5_leastCoalition_38 : decode cX5_leastCoalition 38 = .ok (.bipush (-5), 2) := by decide +kernel
theorem dX5_leastCoalition_40 : decode cX5_leastCoalition 40 = .ok (.ireturn, 1) := by decide +kernel
theorem dX5_ranked_0 : decode cX5_ranked 0 = .ok (.iload_n 1, 1) := by decide +kernel
theorem dX5_ranked_1 : decode cX5_ranked 1 = .ok (.ifCond .ge 6, 3) := by decide +kernel
theorem dX5_ranked_4 : decode cX5_ranked 4 = .ok (.bipush (-2), 2) := by decide +kernel
theorem dX5_ranked_6 : decode cX5_ranked 6 = .ok (.ireturn, 1) := by decide +kernel
theorem dX5_ranked_7 : decode cX5_ranked 7 = .ok (.aload_n 0, 1) := by decide +kernel
theorem dX5_ranked_8 : decode cX5_ranked 8 = .ok (.invokevirtual 145, 3) := by decide +kernel
theorem dX5_ranked_11 : decode cX5_ranked 11 = .ok (.astore_n 2, 1) := by decide +kernel
theorem dX5_ranked_12 : decode cX5_ranked 12 = .ok (.iconst 0, 1) := by decide +kernel
theorem dX5_ranked_13 : decode cX5_ranked 13 = .ok (.istore_n 3, 1) := by decide +kernel
theorem dX5_ranked_14 : decode cX5_ranked 14 = .ok (.iload_n 3, 1) := by decide +kernel
theorem dX5_ranked_15 : decode cX5_ranked 15 = .ok (.aload_n 0, 1) := by decide +kernel
theorem dX5_ranked_16 : decode cX5_ranked 16 = .ok (.getfield 10, 3) := by decide +kernel
theorem dX5_ranked_19 : decode cX5_ranked 19 = .ok (.getfield 44, 3) := by decide +kernel
theorem dX5_ranked_22 : decode cX5_ranked 22 = .ok (.if_icmp .ge 21, 3) := by decide +kernel
theorem dX5_ranked_25 : decode cX5_ranked 25 = .ok (.aload_n 0, 1) := by decide +kernel
theorem dX5_ranked_26 : decode cX5_ranked 26 = .ok (.iload_n 3, 1) := by decide +kernel
theorem dX5_ranked_27 : decode cX5_ranked 27 = .ok (.aload_n 2, 1) := by decide +kernel
theorem dX5_ranked_28 : decode cX5_ranked 28 = .ok (.invokevirtual 165, 3) := by decide +kernel
theorem dX5_ranked_31 : decode cX5_ranked 31 = .ok (.iload_n 1, 1) := by decide +kernel
theorem dX5_ranked_32 : decode cX5_ranked 32 = .ok (.if_icmp .ne 5, 3) := by decide +kernel
theorem dX5_ranked_35 : decode cX5_ranked 35 = .ok (.iload_n 3, 1) := by decide +kernel
theorem dX5_ranked_36 : decode cX5_ranked 36 = .ok (.ireturn, 1) := by decide +kernel
theorem dX5_ranked_37 : decode cX5_ranked 37 = .ok (.iinc 3 1, 3) := by decide +kernel
theorem dX5_ranked_40 : decode cX5_ranked 40 = .ok (.goto (-26), 3) := by decide +kernel
theorem dX5_ranked_43 : decode cX5_ranked 43 = .ok (.bipush (-5), 2) := by decide +kernel
theorem dX5_ranked_45 : decode cX5_ranked 45 = .ok (.ireturn, 1) := by decide +kernel
theorem dX5_withQuota_0 : decode cX5_withQuota 0 = .ok (.iload_n 1, 1) := by decide +kernel
theorem dX5_withQuota_1 : decode cX5_withQuota 1 = .ok (.invokestatic 77, 3) := by decide +kernel
theorem dX5_withQuota_4 : decode cX5_withQuota 4 = .ok (.ifCond .ne 6, 3) := by decide +kernel
theorem dX5_withQuota_7 : decode cX5_withQuota 7 = .ok (.bipush (-2), 2) := by decide +kernel
theorem dX5_withQuota_9 : decode cX5_withQuota 9 = .ok (.ireturn, 1) := by decide +kernel
theorem dX5_withQuota_10 : decode cX5_withQuota 10 = .ok (.iload_n 2, 1) := by decide +kernel
theorem dX5_withQuota_11 : decode cX5_withQuota 11 = .ok (.tableswitch 65 0 3 #[29, 38, 47, 56], 29) := by decide +kernel
theorem dX5_withQuota_40 : decode cX5_withQuota 40 = .ok (.aload_n 0, 1) := by decide +kernel
theorem dX5_withQuota_41 : decode cX5_withQuota 41 = .ok (.invokevirtual 145, 3) := by decide +kernel
theorem dX5_withQuota_44 : decode cX5_withQuota 44 = .ok (.iload_n 1, 1) := by decide +kernel
theorem dX5_withQuota_45 : decode cX5_withQuota 45 = .ok (.invokevirtual 203, 3) := by decide +kernel
theorem dX5_withQuota_48 : decode cX5_withQuota 48 = .ok (.ireturn, 1) := by decide +kernel
theorem dX5_withQuota_49 : decode cX5_withQuota 49 = .ok (.aload_n 0, 1) := by decide +kernel
theorem dX5_withQuota_50 : decode cX5_withQuota 50 = .ok (.invokevirtual 145, 3) := by decide +kernel
theorem dX5_withQuota_53 : decode cX5_withQuota 53 = .ok (.iload_n 1, 1) := by decide +kernel
theorem dX5_withQuota_54 : decode cX5_withQuota 54 = .ok (.invokevirtual 206, 3) := by decide +kernel
theorem dX5_withQuota_57 : decode cX5_withQuota 57 = .ok (.ireturn, 1) := by decide +kernel
theorem dX5_withQuota_58 : decode cX5_withQuota 58 = .ok (.aload_n 0, 1) := by decide +kernel
theorem dX5_withQuota_59 : decode cX5_withQuota 59 = .ok (.invokevirtual 145, 3) := by decide +kernel
theorem dX5_withQuota_62 : decode cX5_withQuota 62 = .ok (.iload_n 1, 1) := by decide +kernel
theorem dX5_withQuota_63 : decode cX5_withQuota 63 = .ok (.invokevirtual 175, 3) := by decide +kernel
theorem dX5_withQuota_66 : decode cX5_withQuota 66 = .ok (.ireturn, 1) := by decide +kernel
theorem dX5_withQuota_67 : decode cX5_withQuota 67 = .ok (.aload_n 0, 1) := by decide +kernel
theorem dX5_withQuota_68 : decode cX5_withQuota 68 = .ok (.invokevirtual 145, 3) := by decide +kernel
theorem dX5_withQuota_71 : decode cX5_withQuota 71 = .ok (.iload_n 1, 1) := by decide +kernel
theorem dX5_withQuota_72 : decode cX5_withQuota 72 = .ok (.invokevirtual 172, 3) := by decide +kernel
theorem dX5_withQuota_75 : decode cX5_withQuota 75 = .ok (.ireturn, 1) := by decide +kernel
theorem dX5_withQuota_76 : decode cX5_withQuota 76 = .ok (.bipush (-2), 2) := by decide +kernel
theorem dX5_withQuota_78 : decode cX5_withQuota 78 = .ok (.ireturn, 1) := by decide +kernel
theorem dX5_leavesOut_0 : decode cX5_leavesOut 0 = .ok (.aload_n 0, 1) := by decide +kernel
theorem dX5_leavesOut_1 : decode cX5_leavesOut 1 = .ok (.getfield 10, 3) := by decide +kernel
theorem dX5_leavesOut_4 : decode cX5_leavesOut 4 = .ok (.iload_n 1, 1) := by decide +kernel
theorem dX5_leavesOut_5 : decode cX5_leavesOut 5 = .ok (.invokevirtual 55, 3) := by decide +kernel
theorem dX5_leavesOut_8 : decode cX5_leavesOut 8 = .ok (.ifCond .ne 5, 3) := by decide +kernel
theorem dX5_leavesOut_11 : decode cX5_leavesOut 11 = .ok (.iconst (-1), 1) := by decide +kernel
theorem dX5_leavesOut_12 : decode cX5_leavesOut 12 = .ok (.ireturn, 1) := by decide +kernel
theorem dX5_leavesOut_13 : decode cX5_leavesOut 13 = .ok (.iload_n 2, 1) := by decide +kernel
theorem dX5_leavesOut_14 : decode cX5_leavesOut 14 = .ok (.invokestatic 77, 3) := by decide +kernel
theorem dX5_leavesOut_17 : decode cX5_leavesOut 17 = .ok (.ifCond .ne 6, 3) := by decide +kernel
theorem dX5_leavesOut_20 : decode cX5_leavesOut 20 = .ok (.bipush (-2), 2) := by decide +kernel
theorem dX5_leavesOut_22 : decode cX5_leavesOut 22 = .ok (.ireturn, 1) := by decide +kernel
theorem dX5_leavesOut_23 : decode cX5_leavesOut 23 = .ok (.aload_n 0, 1) := by decide +kernel
theorem dX5_leavesOut_24 : decode cX5_leavesOut 24 = .ok (.invokevirtual 145, 3) := by decide +kernel
theorem dX5_leavesOut_27 : decode cX5_leavesOut 27 = .ok (.astore_n 3, 1) := by decide +kernel
theorem dX5_leavesOut_28 : decode cX5_leavesOut 28 = .ok (.aload_n 0, 1) := by decide +kernel
theorem dX5_leavesOut_29 : decode cX5_leavesOut 29 = .ok (.getfield 10, 3) := by decide +kernel
theorem dX5_leavesOut_32 : decode cX5_leavesOut 32 = .ok (.aload_n 0, 1) := by decide +kernel
theorem dX5_leavesOut_33 : decode cX5_leavesOut 33 = .ok (.getfield 10, 3) := by decide +kernel
theorem dX5_leavesOut_36 : decode cX5_leavesOut 36 = .ok (.invokevirtual 188, 3) := by decide +kernel
theorem dX5_leavesOut_39 : decode cX5_leavesOut 39 = .ok (.invokevirtual 139, 3) := by decide +kernel
theorem dX5_leavesOut_42 : decode cX5_leavesOut 42 = .ok (.istore 4, 2) := by decide +kernel
theorem dX5_leavesOut_44 : decode cX5_leavesOut 44 = .ok (.iload_n 2, 1) := by decide +kernel
theorem dX5_leavesOut_45 : decode cX5_leavesOut 45 = .ok (.istore 5, 2) := by decide +kernel
theorem dX5_leavesOut_47 : decode cX5_leavesOut 47 = .ok (.iload 5, 2) := by decide +kernel
theorem dX5_leavesOut_49 : decode cX5_leavesOut 49 = .ok (.iload 4, 2) := by decide +kernel
theorem dX5_leavesOut_51 : decode cX5_leavesOut 51 = .ok (.if_icmp .gt 22, 3) := by decide +kernel
theorem dX5_leavesOut_54 : decode cX5_leavesOut 54 = .ok (.aload_n 3, 1) := by decide +kernel
theorem dX5_leavesOut_55 : decode cX5_leavesOut 55 = .ok (.iload_n 1, 1) := by decide +kernel
theorem dX5_leavesOut_56 : decode cX5_leavesOut 56 = .ok (.iload 5, 2) := by decide +kernel
theorem dX5_leavesOut_58 : decode cX5_leavesOut 58 = .ok (.invokevirtual 156, 3) := by decide +kernel
theorem dX5_leavesOut_61 : decode cX5_leavesOut 61 = .ok (.ifCond .eq 6, 3) := by decide +kernel
theorem dX5_leavesOut_64 : decode cX5_leavesOut 64 = .ok (.iload 5, 2) := by decide +kernel
theorem dX5_leavesOut_66 : decode cX5_leavesOut 66 = .ok (.ireturn, 1) := by decide +kernel
theorem dX5_leavesOut_67 : decode cX5_leavesOut 67 = .ok (.iinc 5 1, 3) := by decide +kernel
theorem dX5_leavesOut_70 : decode cX5_leavesOut 70 = .ok (.goto (-23), 3) := by decide +kernel
theorem dX5_leavesOut_73 : decode cX5_leavesOut 73 = .ok (.bipush (-5), 2) := by decide +kernel
theorem dX5_leavesOut_75 : decode cX5_leavesOut 75 = .ok (.ireturn, 1) := by decide +kernel
theorem dX5_fairest_0 : decode cX5_fairest 0 = .ok (.aload_n 0, 1) := by decide +kernel
theorem dX5_fairest_1 : decode cX5_fairest 1 = .ok (.getfield 10, 3) := by decide +kernel
theorem dX5_fairest_4 : decode cX5_fairest 4 = .ok (.aload_n 0, 1) := by decide +kernel
theorem dX5_fairest_5 : decode cX5_fairest 5 = .ok (.getfield 10, 3) := by decide +kernel
theorem dX5_fairest_8 : decode cX5_fairest 8 = .ok (.invokevirtual 188, 3) := by decide +kernel
theorem dX5_fairest_11 : decode cX5_fairest 11 = .ok (.invokevirtual 139, 3) := by decide +kernel
theorem dX5_fairest_14 : decode cX5_fairest 14 = .ok (.istore_n 1, 1) := by decide +kernel
theorem dX5_fairest_15 : decode cX5_fairest 15 = .ok (.iload_n 1, 1) := by decide +kernel
theorem dX5_fairest_16 : decode cX5_fairest 16 = .ok (.ifCond .ne 6, 3) := by decide +kernel
theorem dX5_fairest_19 : decode cX5_fairest 19 = .ok (.bipush (-5), 2) := by decide +kernel
theorem dX5_fairest_21 : decode cX5_fairest 21 = .ok (.ireturn, 1) := by decide +kernel
theorem dX5_fairest_22 : decode cX5_fairest 22 = .ok (.aload_n 0, 1) := by decide +kernel
theorem dX5_fairest_23 : decode cX5_fairest 23 = .ok (.invokevirtual 145, 3) := by decide +kernel
theorem dX5_fairest_26 : decode cX5_fairest 26 = .ok (.astore_n 2, 1) := by decide +kernel
theorem dX5_fairest_27 : decode cX5_fairest 27 = .ok (.iconst 1, 1) := by decide +kernel
theorem dX5_fairest_28 : decode cX5_fairest 28 = .ok (.istore_n 3, 1) := by decide +kernel
theorem dX5_fairest_29 : decode cX5_fairest 29 = .ok (.aload_n 2, 1) := by decide +kernel
theorem dX5_fairest_30 : decode cX5_fairest 30 = .ok (.iload_n 3, 1) := by decide +kernel
theorem dX5_fairest_31 : decode cX5_fairest 31 = .ok (.invokevirtual 209, 3) := by decide +kernel
theorem dX5_fairest_34 : decode cX5_fairest 34 = .ok (.lstore 4, 2) := by decide +kernel
theorem dX5_fairest_36 : decode cX5_fairest 36 = .ok (.aload_n 2, 1) := by decide +kernel
theorem dX5_fairest_37 : decode cX5_fairest 37 = .ok (.iload_n 3, 1) := by decide +kernel
theorem dX5_fairest_38 : decode cX5_fairest 38 = .ok (.invokevirtual 175, 3) := by decide +kernel
theorem dX5_fairest_41 : decode cX5_fairest 41 = .ok (.i2l, 1) := by decide +kernel
theorem dX5_fairest_42 : decode cX5_fairest 42 = .ok (.lstore 6, 2) := by decide +kernel
theorem dX5_fairest_44 : decode cX5_fairest 44 = .ok (.iconst 2, 1) := by decide +kernel
theorem dX5_fairest_45 : decode cX5_fairest 45 = .ok (.istore 8, 2) := by decide +kernel
theorem dX5_fairest_47 : decode cX5_fairest 47 = .ok (.iload 8, 2) := by decide +kernel
theorem dX5_fairest_49 : decode cX5_fairest 49 = .ok (.iload_n 1, 1) := by decide +kernel
theorem dX5_fairest_50 : decode cX5_fairest 50 = .ok (.if_icmp .gt 51, 3) := by decide +kernel
theorem dX5_fairest_53 : decode cX5_fairest 53 = .ok (.aload_n 2, 1) := by decide +kernel
theorem dX5_fairest_54 : decode cX5_fairest 54 = .ok (.iload 8, 2) := by decide +kernel
theorem dX5_fairest_56 : decode cX5_fairest 56 = .ok (.invokevirtual 209, 3) := by decide +kernel
theorem dX5_fairest_59 : decode cX5_fairest 59 = .ok (.lstore 9, 2) := by decide +kernel
theorem dX5_fairest_61 : decode cX5_fairest 61 = .ok (.aload_n 2, 1) := by decide +kernel
theorem dX5_fairest_62 : decode cX5_fairest 62 = .ok (.iload 8, 2) := by decide +kernel
theorem dX5_fairest_64 : decode cX5_fairest 64 = .ok (.invokevirtual 175, 3) := by decide +kernel
theorem dX5_fairest_67 : decode cX5_fairest 67 = .ok (.i2l, 1) := by decide +kernel
theorem dX5_fairest_68 : decode cX5_fairest 68 = .ok (.lstore 11, 2) := by decide +kernel
theorem dX5_fairest_70 : decode cX5_fairest 70 = .ok (.lload 9, 2) := by decide +kernel
theorem dX5_fairest_72 : decode cX5_fairest 72 = .ok (.lload 6, 2) := by decide +kernel
theorem dX5_fairest_74 : decode cX5_fairest 74 = .ok (.lmul, 1) := by decide +kernel
theorem dX5_fairest_75 : decode cX5_fairest 75 = .ok (.lload 4, 2) := by decide +kernel
theorem dX5_fairest_77 : decode cX5_fairest 77 = .ok (.lload 11, 2) := by decide +kernel
theorem dX5_fairest_79 : decode cX5_fairest 79 = .ok (.lmul, 1) := by decide +kernel
theorem dX5_fairest_80 : decode cX5_fairest 80 = .ok (.lcmp, 1) := by decide +kernel
theorem dX5_fairest_81 : decode cX5_fairest 81 = .ok (.ifCond .ge 14, 3) := by decide +kernel
theorem dX5_fairest_84 : decode cX5_fairest 84 = .ok (.iload 8, 2) := by decide +kernel
theorem dX5_fairest_86 : decode cX5_fairest 86 = .ok (.istore_n 3, 1) := by decide +kernel
theorem dX5_fairest_87 : decode cX5_fairest 87 = .ok (.lload 9, 2) := by decide +kernel
theorem dX5_fairest_89 : decode cX5_fairest 89 = .ok (.lstore 4, 2) := by decide +kernel
theorem dX5_fairest_91 : decode cX5_fairest 91 = .ok (.lload 11, 2) := by decide +kernel
theorem dX5_fairest_93 : decode cX5_fairest 93 = .ok (.lstore 6, 2) := by decide +kernel
theorem dX5_fairest_95 : decode cX5_fairest 95 = .ok (.iinc 8 1, 3) := by decide +kernel
theorem dX5_fairest_98 : decode cX5_fairest 98 = .ok (.goto (-51), 3) := by decide +kernel
theorem dX5_fairest_101 : decode cX5_fairest 101 = .ok (.iload_n 3, 1) := by decide +kernel
theorem dX5_fairest_102 : decode cX5_fairest 102 = .ok (.ireturn, 1) := by decide +kernel
theorem dX5_ballot_0 : decode cX5_ballot 0 = .ok (.iload_n 1, 1) := by decide +kernel
theorem dX5_ballot_1 : decode cX5_ballot 1 = .ok (.ifCond .lt 12, 3) := by decide +kernel
theorem dX5_ballot_4 : decode cX5_ballot 4 = .ok (.iload_n 2, 1) := by decide +kernel
theorem dX5_ballot_5 : decode cX5_ballot 5 = .ok (.ifCond .lt 8, 3) := by decide +kernel
theorem dX5_ballot_8 : decode cX5_ballot 8 = .ok (.iload_n 2, 1) := by decide +kernel
theorem dX5_ballot_9 : decode cX5_ballot 9 = .ok (.iconst 2, 1) := by decide +kernel
theorem dX5_ballot_10 : decode cX5_ballot 10 = .ok (.if_icmp .le 6, 3) := by decide +kernel
theorem dX5_ballot_13 : decode cX5_ballot 13 = .ok (.bipush (-2), 2) := by decide +kernel
theorem dX5_ballot_15 : decode cX5_ballot 15 = .ok (.ireturn, 1) := by decide +kernel
theorem dX5_ballot_16 : decode cX5_ballot 16 = .ok (.iload_n 1, 1) := by decide +kernel
theorem dX5_ballot_17 : decode cX5_ballot 17 = .ok (.bipush 8, 2) := by decide +kernel
theorem dX5_ballot_19 : decode cX5_ballot 19 = .ok (.if_icmp .ge 17, 3) := by decide +kernel
theorem dX5_ballot_22 : decode cX5_ballot 22 = .ok (.iload_n 1, 1) := by decide +kernel
theorem dX5_ballot_23 : decode cX5_ballot 23 = .ok (.aload_n 0, 1) := by decide +kernel
theorem dX5_ballot_24 : decode cX5_ballot 24 = .ok (.getfield 10, 3) := by decide +kernel
theorem dX5_ballot_27 : decode cX5_ballot 27 = .ok (.getfield 102, 3) := by decide +kernel
theorem dX5_ballot_30 : decode cX5_ballot 30 = .ok (.getfield 213, 3) := by decide +kernel
theorem dX5_ballot_33 : decode cX5_ballot 33 = .ok (.if_icmp .lt 6, 3) := by decide +kernel
theorem dX5_ballot_36 : decode cX5_ballot 36 = .ok (.bipush (-5), 2) := by decide +kernel
theorem dX5_ballot_38 : decode cX5_ballot 38 = .ok (.ireturn, 1) := by decide +kernel
theorem dX5_ballot_39 : decode cX5_ballot 39 = .ok (.iload_n 2, 1) := by decide +kernel
theorem dX5_ballot_40 : decode cX5_ballot 40 = .ok (.lookupswitch 54 #[(0, 28), (1, 41)], 28) := by decide +kernel
theorem dX5_ballot_68 : decode cX5_ballot 68 = .ok (.aload_n 0, 1) := by decide +kernel
theorem dX5_ballot_69 : decode cX5_ballot 69 = .ok (.getfield 10, 3) := by decide +kernel
theorem dX5_ballot_72 : decode cX5_ballot 72 = .ok (.getfield 102, 3) := by decide +kernel
theorem dX5_ballot_75 : decode cX5_ballot 75 = .ok (.getfield 216, 3) := by decide +kernel
theorem dX5_ballot_78 : decode cX5_ballot 78 = .ok (.iload_n 1, 1) := by decide +kernel
theorem dX5_ballot_79 : decode cX5_ballot 79 = .ok (.iaload, 1) := by decide +kernel
theorem dX5_ballot_80 : decode cX5_ballot 80 = .ok (.ireturn, 1) := by decide +kernel
theorem dX5_ballot_81 : decode cX5_ballot 81 = .ok (.aload_n 0, 1) := by decide +kernel
theorem dX5_ballot_82 : decode cX5_ballot 82 = .ok (.getfield 10, 3) := by decide +kernel
theorem dX5_ballot_85 : decode cX5_ballot 85 = .ok (.getfield 102, 3) := by decide +kernel
theorem dX5_ballot_88 : decode cX5_ballot 88 = .ok (.getfield 219, 3) := by decide +kernel
theorem dX5_ballot_91 : decode cX5_ballot 91 = .ok (.iload_n 1, 1) := by decide +kernel
theorem dX5_ballot_92 : decode cX5_ballot 92 = .ok (.iaload, 1) := by decide +kernel
theorem dX5_ballot_93 : decode cX5_ballot 93 = .ok (.ireturn, 1) := by decide +kernel
theorem dX5_ballot_94 : decode cX5_ballot 94 = .ok (.aload_n 0, 1) := by decide +kernel
theorem dX5_ballot_95 : decode cX5_ballot 95 = .ok (.getfield 10, 3) := by decide +kernel
theorem dX5_ballot_98 : decode cX5_ballot 98 = .ok (.getfield 102, 3) := by decide +kernel
theorem dX5_ballot_101 : decode cX5_ballot 101 = .ok (.getfield 222, 3) := by decide +kernel
theorem dX5_ballot_104 : decode cX5_ballot 104 = .ok (.iload_n 1, 1) := by decide +kernel
theorem dX5_ballot_105 : decode cX5_ballot 105 = .ok (.iaload, 1) := by decide +kernel
theorem dX5_ballot_106 : decode cX5_ballot 106 = .ok (.ireturn, 1) := by decide +kernel
theorem dX5_count_0 : decode cX5_count 0 = .ok (.iload_n 1, 1) := by decide +kernel
theorem dX5_count_1 : decode cX5_count 1 = .ok (.tableswitch 208 0 12 #[67, 75, 83, 91, 106, 121, 129, 144, 159, 170, 181, 192, 200], 67) := by decide +kernel
theorem dX5_count_68 : decode cX5_count 68 = .ok (.aload_n 0, 1) := by decide +kernel
theorem dX5_count_69 : decode cX5_count 69 = .ok (.getfield 10, 3) := by decide +kernel
theorem dX5_count_72 : decode cX5_count 72 = .ok (.getfield 44, 3) := by decide +kernel
theorem dX5_count_75 : decode cX5_count 75 = .ok (.ireturn, 1) := by decide +kernel
theorem dX5_count_76 : decode cX5_count 76 = .ok (.aload_n 0, 1) := by decide +kernel
theorem dX5_count_77 : decode cX5_count 77 = .ok (.getfield 10, 3) := by decide +kernel
theorem dX5_count_80 : decode cX5_count 80 = .ok (.invokevirtual 178, 3) := by decide +kernel
theorem dX5_count_83 : decode cX5_count 83 = .ok (.ireturn, 1) := by decide +kernel
theorem dX5_count_84 : decode cX5_count 84 = .ok (.aload_n 0, 1) := by decide +kernel
theorem dX5_count_85 : decode cX5_count 85 = .ok (.getfield 10, 3) := by decide +kernel
theorem dX5_count_88 : decode cX5_count 88 = .ok (.getfield 80, 3) := by decide +kernel
theorem dX5_count_91 : decode cX5_count 91 = .ok (.ireturn, 1) := by decide +kernel
theorem dX5_count_92 : decode cX5_count 92 = .ok (.aload_n 0, 1) := by decide +kernel
theorem dX5_count_93 : decode cX5_count 93 = .ok (.getfield 10, 3) := by decide +kernel
theorem dX5_count_96 : decode cX5_count 96 = .ok (.aload_n 0, 1) := by decide +kernel
theorem dX5_count_97 : decode cX5_count 97 = .ok (.getfield 10, 3) := by decide +kernel
theorem dX5_count_100 : decode cX5_count 100 = .ok (.invokevirtual 188, 3) := by decide +kernel
theorem dX5_count_103 : decode cX5_count 103 = .ok (.invokevirtual 139, 3) := by decide +kernel
theorem dX5_count_106 : decode cX5_count 106 = .ok (.ireturn, 1) := by decide +kernel
theorem dX5_count_107 : decode cX5_count 107 = .ok (.aload_n 0, 1) := by decide +kernel
theorem dX5_count_108 : decode cX5_count 108 = .ok (.invokevirtual 145, 3) := by decide +kernel
theorem dX5_count_111 : decode cX5_count 111 = .ok (.aload_n 0, 1) := by decide +kernel
theorem dX5_count_112 : decode cX5_count 112 = .ok (.getfield 10, 3) := by decide +kernel
theorem dX5_count_115 : decode cX5_count 115 = .ok (.getfield 80, 3) := by decide +kernel
theorem dX5_count_118 : decode cX5_count 118 = .ok (.invokevirtual 172, 3) := by decide +kernel
theorem dX5_count_121 : decode cX5_count 121 = .ok (.ireturn, 1) := by decide +kernel
theorem dX5_count_122 : decode cX5_count 122 = .ok (.aload_n 0, 1) := by decide +kernel
theorem dX5_count_123 : decode cX5_count 123 = .ok (.invokevirtual 145, 3) := by decide +kernel
theorem dX5_count_126 : decode cX5_count 126 = .ok (.invokevirtual 197, 3) := by decide +kernel
theorem dX5_count_129 : decode cX5_count 129 = .ok (.ireturn, 1) := by decide +kernel
theorem dX5_count_130 : decode cX5_count 130 = .ok (.aload_n 0, 1) := by decide +kernel
theorem dX5_count_131 : decode cX5_count 131 = .ok (.invokevirtual 145, 3) := by decide +kernel
theorem dX5_count_134 : decode cX5_count 134 = .ok (.aload_n 0, 1) := by decide +kernel
theorem dX5_count_135 : decode cX5_count 135 = .ok (.getfield 10, 3) := by decide +kernel
theorem dX5_count_138 : decode cX5_count 138 = .ok (.getfield 80, 3) := by decide +kernel
theorem dX5_count_141 : decode cX5_count 141 = .ok (.invokevirtual 175, 3) := by decide +kernel
theorem dX5_count_144 : decode cX5_count 144 = .ok (.ireturn, 1) := by decide +kernel
theorem dX5_count_145 : decode cX5_count 145 = .ok (.aload_n 0, 1) := by decide +kernel
theorem dX5_count_146 : decode cX5_count 146 = .ok (.invokevirtual 145, 3) := by decide +kernel
theorem dX5_count_149 : decode cX5_count 149 = .ok (.aload_n 0, 1) := by decide +kernel
theorem dX5_count_150 : decode cX5_count 150 = .ok (.getfield 10, 3) := by decide +kernel
theorem dX5_count_153 : decode cX5_count 153 = .ok (.getfield 80, 3) := by decide +kernel
theorem dX5_count_156 : decode cX5_count 156 = .ok (.invokevirtual 203, 3) := by decide +kernel
theorem dX5_count_159 : decode cX5_count 159 = .ok (.ireturn, 1) := by decide +kernel
theorem dX5_count_160 : decode cX5_count 160 = .ok (.aload_n 0, 1) := by decide +kernel
theorem dX5_count_161 : decode cX5_count 161 = .ok (.getfield 10, 3) := by decide +kernel
theorem dX5_count_164 : decode cX5_count 164 = .ok (.getfield 66, 3) := by decide +kernel
theorem dX5_count_167 : decode cX5_count 167 = .ok (.invokestatic 72, 3) := by decide +kernel
theorem dX5_count_170 : decode cX5_count 170 = .ok (.ireturn, 1) := by decide +kernel
theorem dX5_count_171 : decode cX5_count 171 = .ok (.aload_n 0, 1) := by decide +kernel
theorem dX5_count_172 : decode cX5_count 172 = .ok (.getfield 10, 3) := by decide +kernel
theorem dX5_count_175 : decode cX5_count 175 = .ok (.getfield 102, 3) := by decide +kernel
theorem dX5_count_178 : decode cX5_count 178 = .ok (.getfield 213, 3) := by decide +kernel
theorem dX5_count_181 : decode cX5_count 181 = .ok (.ireturn, 1) := by decide +kernel
theorem dX5_count_182 : decode cX5_count 182 = .ok (.aload_n 0, 1) := by decide +kernel
theorem dX5_count_183 : decode cX5_count 183 = .ok (.getfield 10, 3) := by decide +kernel
theorem dX5_count_186 : decode cX5_count 186 = .ok (.getfield 102, 3) := by decide +kernel
theorem dX5_count_189 : decode cX5_count 189 = .ok (.getfield 106, 3) := by decide +kernel
theorem dX5_count_192 : decode cX5_count 192 = .ok (.ireturn, 1) := by decide +kernel
theorem dX5_count_193 : decode cX5_count 193 = .ok (.aload_n 0, 1) := by decide +kernel
theorem dX5_count_194 : decode cX5_count 194 = .ok (.getfield 22, 3) := by decide +kernel
theorem dX5_count_197 : decode cX5_count 197 = .ok (.getfield 115, 3) := by decide +kernel
theorem dX5_count_200 : decode cX5_count 200 = .ok (.ireturn, 1) := by decide +kernel
theorem dX5_count_201 : decode cX5_count 201 = .ok (.aload_n 0, 1) := by decide +kernel
theorem dX5_count_202 : decode cX5_count 202 = .ok (.getfield 29, 3) := by decide +kernel
theorem dX5_count_205 : decode cX5_count 205 = .ok (.getfield 93, 3) := by decide +kernel
theorem dX5_count_208 : decode cX5_count 208 = .ok (.ireturn, 1) := by decide +kernel
theorem dX5_count_209 : decode cX5_count 209 = .ok (.bipush (-2), 2) := by decide +kernel
theorem dX5_count_211 : decode cX5_count 211 = .ok (.ireturn, 1) := by decide +kernel
theorem dX5_beginAct_0 : decode cX5_beginAct 0 = .ok (.aload_n 0, 1) := by decide +kernel
theorem dX5_beginAct_1 : decode cX5_beginAct 1 = .ok (.getfield 22, 3) := by decide +kernel
theorem dX5_beginAct_4 : decode cX5_beginAct 4 = .ok (.aload_n 0, 1) := by decide +kernel
theorem dX5_beginAct_5 : decode cX5_beginAct 5 = .ok (.getfield 10, 3) := by decide +kernel
theorem dX5_beginAct_8 : decode cX5_beginAct 8 = .ok (.invokevirtual 225, 3) := by decide +kernel
theorem dX5_beginAct_11 : decode cX5_beginAct 11 = .ok (.aload_n 0, 1) := by decide +kernel
theorem dX5_beginAct_12 : decode cX5_beginAct 12 = .ok (.iconst 0, 1) := by decide +kernel
theorem dX5_beginAct_13 : decode cX5_beginAct 13 = .ok (.putfield 122, 3) := by decide +kernel
theorem dX5_beginAct_16 : decode cX5_beginAct 16 = .ok (.return_, 1) := by decide +kernel
theorem dX5_currentPower_0 : decode cX5_currentPower 0 = .ok (.aload_n 0, 1) := by decide +kernel
theorem dX5_currentPower_1 : decode cX5_currentPower 1 = .ok (.getfield 122, 3) := by decide +kernel
theorem dX5_currentPower_4 : decode cX5_currentPower 4 = .ok (.ifCond .ne 19, 3) := by decide +kernel
theorem dX5_currentPower_7 : decode cX5_currentPower 7 = .ok (.aload_n 0, 1) := by decide +kernel
theorem dX5_currentPower_8 : decode cX5_currentPower 8 = .ok (.getfield 36, 3) := by decide +kernel
theorem dX5_currentPower_11 : decode cX5_currentPower 11 = .ok (.aload_n 0, 1) := by decide +kernel
theorem dX5_currentPower_12 : decode cX5_currentPower 12 = .ok (.getfield 10, 3) := by decide +kernel
theorem dX5_currentPower_15 : decode cX5_currentPower 15 = .ok (.invokevirtual 228, 3) := by decide +kernel
theorem dX5_currentPower_18 : decode cX5_currentPower 18 = .ok (.aload_n 0, 1) := by decide +kernel
theorem dX5_currentPower_19 : decode cX5_currentPower 19 = .ok (.iconst 1, 1) := by decide +kernel
theorem dX5_currentPower_20 : decode cX5_currentPower 20 = .ok (.putfield 122, 3) := by decide +kernel
theorem dX5_currentPower_23 : decode cX5_currentPower 23 = .ok (.aload_n 0, 1) := by decide +kernel
theorem dX5_currentPower_24 : decode cX5_currentPower 24 = .ok (.getfield 36, 3) := by decide +kernel
theorem dX5_currentPower_27 : decode cX5_currentPower 27 = .ok (.areturn, 1) := by decide +kernel
theorem dX5_rankOf_0 : decode cX5_rankOf 0 = .ok (.iconst 0, 1) := by decide +kernel
theorem dX5_rankOf_1 : decode cX5_rankOf 1 = .ok (.istore_n 3, 1) := by decide +kernel
theorem dX5_rankOf_2 : decode cX5_rankOf 2 = .ok (.iconst 0, 1) := by decide +kernel
theorem dX5_rankOf_3 : decode cX5_rankOf 3 = .ok (.istore 4, 2) := by decide +kernel
theorem dX5_rankOf_5 : decode cX5_rankOf 5 = .ok (.iload 4, 2) := by decide +kernel
theorem dX5_rankOf_7 : decode cX5_rankOf 7 = .ok (.aload_n 0, 1) := by decide +kernel
theorem dX5_rankOf_8 : decode cX5_rankOf 8 = .ok (.getfield 10, 3) := by decide +kernel
theorem dX5_rankOf_11 : decode cX5_rankOf 11 = .ok (.getfield 44, 3) := by decide +kernel
theorem dX5_rankOf_14 : decode cX5_rankOf 14 = .ok (.if_icmp .ge 23, 3) := by decide +kernel
theorem dX5_rankOf_17 : decode cX5_rankOf 17 = .ok (.aload_n 0, 1) := by decide +kernel
theorem dX5_rankOf_18 : decode cX5_rankOf 18 = .ok (.iload 4, 2) := by decide +kernel
theorem dX5_rankOf_20 : decode cX5_rankOf 20 = .ok (.iload_n 1, 1) := by decide +kernel
theorem dX5_rankOf_21 : decode cX5_rankOf 21 = .ok (.aload_n 2, 1) := by decide +kernel
theorem dX5_rankOf_22 : decode cX5_rankOf 22 = .ok (.invokevirtual 231, 3) := by decide +kernel
theorem dX5_rankOf_25 : decode cX5_rankOf 25 = .ok (.ifCond .eq 6, 3) := by decide +kernel
theorem dX5_rankOf_28 : decode cX5_rankOf 28 = .ok (.iinc 3 1, 3) := by decide +kernel
theorem dX5_rankOf_31 : decode cX5_rankOf 31 = .ok (.iinc 4 1, 3) := by decide +kernel
theorem dX5_rankOf_34 : decode cX5_rankOf 34 = .ok (.goto (-29), 3) := by decide +kernel
theorem dX5_rankOf_37 : decode cX5_rankOf 37 = .ok (.iload_n 3, 1) := by decide +kernel
theorem dX5_rankOf_38 : decode cX5_rankOf 38 = .ok (.ireturn, 1) := by decide +kernel
theorem dX5_isAhead_0 : decode cX5_isAhead 0 = .ok (.aload_n 3, 1) := by decide +kernel
theorem dX5_isAhead_1 : decode cX5_isAhead 1 = .ok (.iload_n 1, 1) := by decide +kernel
theorem dX5_isAhead_2 : decode cX5_isAhead 2 = .ok (.aload_n 0, 1) := by decide +kernel
theorem dX5_isAhead_3 : decode cX5_isAhead 3 = .ok (.getfield 10, 3) := by decide +kernel
theorem dX5_isAhead_6 : decode cX5_isAhead 6 = .ok (.getfield 80, 3) := by decide +kernel
theorem dX5_isAhead_9 : decode cX5_isAhead 9 = .ok (.invokevirtual 149, 3) := by decide +kernel
theorem dX5_isAhead_12 : decode cX5_isAhead 12 = .ok (.aload_n 3, 1) := by decide +kernel
theorem dX5_isAhead_13 : decode cX5_isAhead 13 = .ok (.iload_n 2, 1) := by decide +kernel
theorem dX5_isAhead_14 : decode cX5_isAhead 14 = .ok (.aload_n 0, 1) := by decide +kernel
theorem dX5_isAhead_15 : decode cX5_isAhead 15 = .ok (.getfield 10, 3) := by decide +kernel
theorem dX5_isAhead_18 : decode cX5_isAhead 18 = .ok (.getfield 80, 3) := by decide +kernel
theorem dX5_isAhead_21 : decode cX5_isAhead 21 = .ok (.invokevirtual 149, 3) := by decide +kernel
theorem dX5_isAhead_24 : decode cX5_isAhead 24 = .ok (.invokestatic 235, 3) := by decide +kernel
theorem dX5_isAhead_27 : decode cX5_isAhead 27 = .ok (.istore 4, 2) := by decide +kernel
theorem dX5_isAhead_29 : decode cX5_isAhead 29 = .ok (.iload 4, 2) := by decide +kernel
theorem dX5_isAhead_31 : decode cX5_isAhead 31 = .ok (.ifCond .eq 14, 3) := by decide +kernel
theorem dX5_isAhead_34 : decode cX5_isAhead 34 = .ok (.iload 4, 2) := by decide +kernel
theorem dX5_isAhead_36 : decode cX5_isAhead 36 = .ok (.ifCond .le 7, 3) := by decide +kernel
theorem dX5_isAhead_39 : decode cX5_isAhead 39 = .ok (.iconst 1, 1) := by decide +kernel
theorem dX5_isAhead_40 : decode cX5_isAhead 40 = .ok (.goto 4, 3) := by decide +kernel
theorem dX5_isAhead_43 : decode cX5_isAhead 43 = .ok (.iconst 0, 1) := by decide +kernel
theorem dX5_isAhead_44 : decode cX5_isAhead 44 = .ok (.ireturn, 1) := by decide +kernel
theorem dX5_isAhead_45 : decode cX5_isAhead 45 = .ok (.aload_n 0, 1) := by decide +kernel
theorem dX5_isAhead_46 : decode cX5_isAhead 46 = .ok (.getfield 10, 3) := by decide +kernel
theorem dX5_isAhead_49 : decode cX5_isAhead 49 = .ok (.getfield 62, 3) := by decide +kernel
theorem dX5_isAhead_52 : decode cX5_isAhead 52 = .ok (.iload_n 1, 1) := by decide +kernel
theorem dX5_isAhead_53 : decode cX5_isAhead 53 = .ok (.iaload, 1) := by decide +kernel
theorem dX5_isAhead_54 : decode cX5_isAhead 54 = .ok (.aload_n 0, 1) := by decide +kernel
theorem dX5_isAhead_55 : decode cX5_isAhead 55 = .ok (.getfield 10, 3) := by decide +kernel
theorem dX5_isAhead_58 : decode cX5_isAhead 58 = .ok (.getfield 62, 3) := by decide +kernel
theorem dX5_isAhead_61 : decode cX5_isAhead 61 = .ok (.iload_n 2, 1) := by decide +kernel
theorem dX5_isAhead_62 : decode cX5_isAhead 62 = .ok (.iaload, 1) := by decide +kernel
theorem dX5_isAhead_63 : decode cX5_isAhead 63 = .ok (.invokestatic 235, 3) := by decide +kernel
theorem dX5_isAhead_66 : decode cX5_isAhead 66 = .ok (.istore 5, 2) := by decide +kernel
theorem dX5_isAhead_68 : decode cX5_isAhead 68 = .ok (.iload 5, 2) := by decide +kernel
theorem dX5_isAhead_70 : decode cX5_isAhead 70 = .ok (.ifCond .eq 16, 3) := by decide +kernel
theorem dX5_isAhead_73 : decode cX5_isAhead 73 = .ok (.iload 5, 2) := by decide +kernel
theorem dX5_isAhead_75 : decode cX5_isAhead 75 = .ok (.ifCond .le 7, 3) := by decide +kernel
theorem dX5_isAhead_78 : decode cX5_isAhead 78 = .ok (.iconst 1, 1) := by decide +kernel
theorem dX5_isAhead_79 : decode cX5_isAhead 79 = .ok (.goto 17, 3) := by decide +kernel
theorem dX5_isAhead_82 : decode cX5_isAhead 82 = .ok (.iconst 0, 1) := by decide +kernel
theorem dX5_isAhead_83 : decode cX5_isAhead 83 = .ok (.goto 13, 3) := by decide +kernel
theorem dX5_isAhead_86 : decode cX5_isAhead 86 = .ok (.iload_n 1, 1) := by decide +kernel
theorem dX5_isAhead_87 : decode cX5_isAhead 87 = .ok (.iload_n 2, 1) := by decide +kernel
theorem dX5_isAhead_88 : decode cX5_isAhead 88 = .ok (.if_icmp .ge 7, 3) := by decide +kernel
theorem dX5_isAhead_91 : decode cX5_isAhead 91 = .ok (.iconst 1, 1) := by decide +kernel
theorem dX5_isAhead_92 : decode cX5_isAhead 92 = .ok (.goto 4, 3) := by decide +kernel
theorem dX5_isAhead_95 : decode cX5_isAhead 95 = .ok (.iconst 0, 1) := by decide +kernel
theorem dX5_isAhead_96 : decode cX5_isAhead 96 = .ok (.ireturn, 1) := by decide +kernel
theorem dX5_isWeight_0 : decode cX5_isWeight 0 = .ok (.iload_n 0, 1) := by decide +kernel
theorem dX5_isWeight_1 : decode cX5_isWeight 1 = .ok (.ifCond .lt 13, 3) := by decide +kernel
theorem dX5_isWeight_4 : decode cX5_isWeight 4 = .ok (.iload_n 0, 1) := by decide +kernel
theorem dX5_isWeight_5 : decode cX5_isWeight 5 = .ok (.bipush 50, 2) := by decide +kernel
theorem dX5_isWeight_7 : decode cX5_isWeight 7 = .ok (.if_icmp .gt 7, 3) := by decide +kernel
theorem dX5_isWeight_10 : decode cX5_isWeight 10 = .ok (.iconst 1, 1) := by decide +kernel
theorem dX5_isWeight_11 : decode cX5_isWeight 11 = .ok (.goto 4, 3) := by decide +kernel
theorem dX5_isWeight_14 : decode cX5_isWeight 14 = .ok (.iconst 0, 1) := by decide +kernel
theorem dX5_isWeight_15 : decode cX5_isWeight 15 = .ok (.ireturn, 1) := by decide +kernel
theorem dX5_isQuota_0 : decode cX5_isQuota 0 = .ok (.iload_n 0, 1) := by decide +kernel
theorem dX5_isQuota_1 : decode cX5_isQuota 1 = .ok (.iconst 1, 1) := by decide +kernel
theorem dX5_isQuota_2 : decode cX5_isQuota 2 = .ok (.if_icmp .lt 14, 3) := by decide +kernel
theorem dX5_isQuota_5 : decode cX5_isQuota 5 = .ok (.iload_n 0, 1) := by decide +kernel
theorem dX5_isQuota_6 : decode cX5_isQuota 6 = .ok (.sipush 500, 3) := by decide +kernel
theorem dX5_isQuota_9 : decode cX5_isQuota 9 = .ok (.if_icmp .gt 7, 3) := by decide +kernel
theorem dX5_isQuota_12 : decode cX5_isQuota 12 = .ok (.iconst 1, 1) := by decide +kernel
theorem dX5_isQuota_13 : decode cX5_isQuota 13 = .ok (.goto 4, 3) := by decide +kernel
theorem dX5_isQuota_16 : decode cX5_isQuota 16 = .ok (.iconst 0, 1) := by decide +kernel
theorem dX5_isQuota_17 : decode cX5_isQuota 17 = .ok (.ireturn, 1) := by decide +kernel
theorem dX5_oneIf_0 : decode cX5_oneIf 0 = .ok (.iload_n 0, 1) := by decide +kernel
theorem dX5_oneIf_1 : decode cX5_oneIf 1 = .ok (.ifCond .eq 7, 3) := by decide +kernel
theorem dX5_oneIf_4 : decode cX5_oneIf 4 = .ok (.iconst 1, 1) := by decide +kernel
theorem dX5_oneIf_5 : decode cX5_oneIf 5 = .ok (.goto 4, 3) := by decide +kernel
theorem dX5_oneIf_8 : decode cX5_oneIf 8 = .ok (.iconst 0, 1) := by decide +kernel
theorem dX5_oneIf_9 : decode cX5_oneIf 9 = .ok (.ireturn, 1) := by decide +kernel
theorem dX5_bit_0 : decode cX5_bit 0 = .ok (.iconst 1, 1) := by decide +kernel
theorem dX5_bit_1 : decode cX5_bit 1 = .ok (.iload_n 0, 1) := by decide +kernel
theorem dX5_bit_2 : decode cX5_bit 2 = .ok (.ishl, 1) := by decide +kernel
theorem dX5_bit_3 : decode cX5_bit 3 = .ok (.ireturn, 1) := by decide +kernel
theorem dX5_holds_0 : decode cX5_holds 0 = .ok (.iload_n 0, 1) := by decide +kernel
theorem dX5_holds_1 : decode cX5_holds 1 = .ok (.iload_n 1, 1) := by decide +kernel
theorem dX5_holds_2 : decode cX5_holds 2 = .ok (.invokestatic 69, 3) := by decide +kernel
theorem dX5_holds_5 : decode cX5_holds 5 = .ok (.iand, 1) := by decide +kernel
theorem dX5_holds_6 : decode cX5_holds 6 = .ok (.ifCond .eq 7, 3) := by decide +kernel
theorem dX5_holds_9 : decode cX5_holds 9 = .ok (.iconst 1, 1) := by decide +kernel
theorem dX5_holds_10 : decode cX5_holds 10 = .ok (.goto 4, 3) := by decide +kernel
theorem dX5_holds_13 : decode cX5_holds 13 = .ok (.iconst 0, 1) := by decide +kernel
theorem dX5_holds_14 : decode cX5_holds 14 = .ok (.ireturn, 1) := by decide +kernel
theorem dX5_factorial_0 : decode cX5_factorial 0 = .ok (.iload_n 0, 1) := by decide +kernel
theorem dX5_factorial_1 : decode cX5_factorial 1 = .ok (.ifCond .lt 19, 3) := by decide +kernel
theorem dX5_factorial_4 : decode cX5_factorial 4 = .ok (.iload_n 0, 1) := by decide +kernel
theorem dX5_factorial_5 : decode cX5_factorial 5 = .ok (.getstatic 238, 3) := by decide +kernel
theorem dX5_factorial_8 : decode cX5_factorial 8 = .ok (.arraylength, 1) := by decide +kernel
theorem dX5_factorial_9 : decode cX5_factorial 9 = .ok (.if_icmp .ge 11, 3) := by decide +kernel
theorem dX5_factorial_12 : decode cX5_factorial 12 = .ok (.getstatic 238, 3) := by decide +kernel
theorem dX5_factorial_15 : decode cX5_factorial 15 = .ok (.iload_n 0, 1) := by decide +kernel
theorem dX5_factorial_16 : decode cX5_factorial 16 = .ok (.iaload, 1) := by decide +kernel
theorem dX5_factorial_17 : decode cX5_factorial 17 = .ok (.goto 4, 3) := by decide +kernel
theorem dX5_factorial_20 : decode cX5_factorial 20 = .ok (.iconst 0, 1) := by decide +kernel
theorem dX5_factorial_21 : decode cX5_factorial 21 = .ok (.ireturn, 1) := by decide +kernel
theorem dX5_greatestDivisor_0 : decode cX5_greatestDivisor 0 = .ok (.iload_n 0, 1) := by decide +kernel
theorem dX5_greatestDivisor_1 : decode cX5_greatestDivisor 1 = .ok (.istore_n 2, 1) := by decide +kernel
theorem dX5_greatestDivisor_2 : decode cX5_greatestDivisor 2 = .ok (.iload_n 1, 1) := by decide +kernel
theorem dX5_greatestDivisor_3 : decode cX5_greatestDivisor 3 = .ok (.istore_n 3, 1) := by decide +kernel
theorem dX5_greatestDivisor_4 : decode cX5_greatestDivisor 4 = .ok (.iconst 0, 1) := by decide +kernel
theorem dX5_greatestDivisor_5 : decode cX5_greatestDivisor 5 = .ok (.istore 4, 2) := by decide +kernel
theorem dX5_greatestDivisor_7 : decode cX5_greatestDivisor 7 = .ok (.iload 4, 2) := by decide +kernel
theorem dX5_greatestDivisor_9 : decode cX5_greatestDivisor 9 = .ok (.bipush 64, 2) := by decide +kernel
theorem dX5_greatestDivisor_11 : decode cX5_greatestDivisor 11 = .ok (.if_icmp .ge 23, 3) := by decide +kernel
theorem dX5_greatestDivisor_14 : decode cX5_greatestDivisor 14 = .ok (.iload_n 3, 1) := by decide +kernel
theorem dX5_greatestDivisor_15 : decode cX5_greatestDivisor 15 = .ok (.ifCond .eq 19, 3) := by decide +kernel
theorem dX5_greatestDivisor_18 : decode cX5_greatestDivisor 18 = .ok (.iload_n 2, 1) := by decide +kernel
theorem dX5_greatestDivisor_19 : decode cX5_greatestDivisor 19 = .ok (.iload_n 3, 1) := by decide +kernel
theorem dX5_greatestDivisor_20 : decode cX5_greatestDivisor 20 = .ok (.irem, 1) := by decide +kernel
theorem dX5_greatestDivisor_21 : decode cX5_greatestDivisor 21 = .ok (.istore 5, 2) := by decide +kernel
theorem dX5_greatestDivisor_23 : decode cX5_greatestDivisor 23 = .ok (.iload_n 3, 1) := by decide +kernel
theorem dX5_greatestDivisor_24 : decode cX5_greatestDivisor 24 = .ok (.istore_n 2, 1) := by decide +kernel
theorem dX5_greatestDivisor_25 : decode cX5_greatestDivisor 25 = .ok (.iload 5, 2) := by decide +kernel
theorem dX5_greatestDivisor_27 : decode cX5_greatestDivisor 27 = .ok (.istore_n 3, 1) := by decide +kernel
theorem dX5_greatestDivisor_28 : decode cX5_greatestDivisor 28 = .ok (.iinc 4 1, 3) := by decide +kernel
theorem dX5_greatestDivisor_31 : decode cX5_greatestDivisor 31 = .ok (.goto (-24), 3) := by decide +kernel
theorem dX5_greatestDivisor_34 : decode cX5_greatestDivisor 34 = .ok (.iload_n 2, 1) := by decide +kernel
theorem dX5_greatestDivisor_35 : decode cX5_greatestDivisor 35 = .ok (.iconst 1, 1) := by decide +kernel
theorem dX5_greatestDivisor_36 : decode cX5_greatestDivisor 36 = .ok (.invokestatic 241, 3) := by decide +kernel
theorem dX5_greatestDivisor_39 : decode cX5_greatestDivisor 39 = .ok (.ireturn, 1) := by decide +kernel
theorem dX6_init_0 : decode cX6_init 0 = .ok (.aload_n 0, 1) := by decide +kernel
theorem dX6_init_1 : decode cX6_init 1 = .ok (.invokespecial 1, 3) := by decide +kernel
theorem dX6_init_4 : decode cX6_init 4 = .ok (.aload_n 0, 1) := by decide +kernel
theorem dX6_init_5 : decode cX6_init 5 = .ok (.bipush 69, 2) := by decide +kernel
theorem dX6_init_7 : decode cX6_init 7 = .ok (.newarray .int, 2) := by decide +kernel
theorem dX6_init_9 : decode cX6_init 9 = .ok (.putfield 7, 3) := by decide +kernel
theorem dX6_init_12 : decode cX6_init 12 = .ok (.aload_n 0, 1) := by decide +kernel
theorem dX6_init_13 : decode cX6_init 13 = .ok (.sipush 276, 3) := by decide +kernel
theorem dX6_init_16 : decode cX6_init 16 = .ok (.newarray .int, 2) := by decide +kernel
theorem dX6_init_18 : decode cX6_init 18 = .ok (.putfield 13, 3) := by decide +kernel
theorem dX6_init_21 : decode cX6_init 21 = .ok (.aload_n 0, 1) := by decide +kernel
theorem dX6_init_22 : decode cX6_init 22 = .ok (.bipush 69, 2) := by decide +kernel
theorem dX6_init_24 : decode cX6_init 24 = .ok (.newarray .int, 2) := by decide +kernel
theorem dX6_init_26 : decode cX6_init 26 = .ok (.putfield 16, 3) := by decide +kernel
theorem dX6_init_29 : decode cX6_init 29 = .ok (.aload_n 0, 1) := by decide +kernel
theorem dX6_init_30 : decode cX6_init 30 = .ok (.bipush 60, 2) := by decide +kernel
theorem dX6_init_32 : decode cX6_init 32 = .ok (.newarray .char, 2) := by decide +kernel
theorem dX6_init_34 : decode cX6_init 34 = .ok (.putfield 19, 3) := by decide +kernel
theorem dX6_init_37 : decode cX6_init 37 = .ok (.aload_n 0, 1) := by decide +kernel
theorem dX6_init_38 : decode cX6_init 38 = .ok (.bipush 10, 2) := by decide +kernel
theorem dX6_init_40 : decode cX6_init 40 = .ok (.newarray .int, 2) := by decide +kernel
theorem dX6_init_42 : decode cX6_init 42 = .ok (.putfield 23, 3) := by decide +kernel
theorem dX6_init_45 : decode cX6_init 45 = .ok (.aload_n 0, 1) := by decide +kernel
theorem dX6_init_46 : decode cX6_init 46 = .ok (.bipush 10, 2) := by decide +kernel
theorem dX6_init_48 : decode cX6_init 48 = .ok (.newarray .int, 2) := by decide +kernel
theorem dX6_init_50 : decode cX6_init 50 = .ok (.putfield 26, 3) := by decide +kernel
theorem dX6_init_53 : decode cX6_init 53 = .ok (.aload_n 0, 1) := by decide +kernel
theorem dX6_init_54 : decode cX6_init 54 = .ok (.bipush 10, 2) := by decide +kernel
theorem dX6_init_56 : decode cX6_init 56 = .ok (.newarray .int, 2) := by decide +kernel
theorem dX6_init_58 : decode cX6_init 58 = .ok (.putfield 29, 3) := by decide +kernel
theorem dX6_init_61 : decode cX6_init 61 = .ok (.aload_n 0, 1) := by decide +kernel
theorem dX6_init_62 : decode cX6_init 62 = .ok (.sipush 1024, 3) := by decide +kernel
theorem dX6_init_65 : decode cX6_init 65 = .ok (.newarray .boolean, 2) := by decide +kernel
theorem dX6_init_67 : decode cX6_init 67 = .ok (.putfield 32, 3) := by decide +kernel
theorem dX6_init_70 : decode cX6_init 70 = .ok (.aload_n 0, 1) := by decide +kernel
theorem dX6_init_71 : decode cX6_init 71 = .ok (.bipush 10, 2) := by decide +kernel
theorem dX6_init_73 : decode cX6_init 73 = .ok (.newarray .int, 2) := by decide +kernel
theorem dX6_init_75 : decode cX6_init 75 = .ok (.putfield 36, 3) := by decide +kernel
theorem dX6_init_78 : decode cX6_init 78 = .ok (.aload_n 0, 1) := by decide +kernel
theorem dX6_init_79 : decode cX6_init 79 = .ok (.sipush 1024, 3) := by decide +kernel
theorem dX6_init_82 : decode cX6_init 82 = .ok (.newarray .int, 2) := by decide +kernel
theorem dX6_init_84 : decode cX6_init 84 = .ok (.putfield 39, 3) := by decide +kernel
theorem dX6_init_87 : decode cX6_init 87 = .ok (.aload_n 0, 1) := by decide +kernel
theorem dX6_init_88 : decode cX6_init 88 = .ok (.getfield 7, 3) := by decide +kernel
theorem dX6_init_91 : decode cX6_init 91 = .ok (.iconst 1, 1) := by decide +kernel
theorem dX6_init_92 : decode cX6_init 92 = .ok (.iconst 1, 1) := by decide +kernel
theorem dX6_init_93 : decode cX6_init 93 = .ok (.iastore, 1) := by decide +kernel
theorem dX6_init_94 : decode cX6_init 94 = .ok (.return_, 1) := by decide +kernel
theorem dX6_in_0 : decode cX6_in 0 = .ok (.iload_n 0, 1) := by decide +kernel
theorem dX6_in_1 : decode cX6_in 1 = .ok (.iload_n 1, 1) := by decide +kernel
theorem dX6_in_2 : decode cX6_in 2 = .ok (.if_icmp .lt 12, 3) := by decide +kernel
theorem dX6_in_5 : decode cX6_in 5 = .ok (.iload_n 0, 1) := by decide +kernel
theorem dX6_in_6 : decode cX6_in 6 = .ok (.iload_n 2, 1) := by decide +kernel
theorem dX6_in_7 : decode cX6_in 7 = .ok (.if_icmp .gt 7, 3) := by decide +kernel
theorem dX6_in_10 : decode cX6_in 10 = .ok (.iconst 1, 1) := by decide +kernel
theorem dX6_in_11 : decode cX6_in 11 = .ok (.goto 4, 3) := by decide +kernel
theorem dX6_in_14 : decode cX6_in 14 = .ok (.iconst 0, 1) := by decide +kernel
theorem dX6_in_15 : decode cX6_in 15 = .ok (.ireturn, 1) := by decide +kernel
theorem dX6_isIn_0 : decode cX6_isIn 0 = .ok (.iload_n 0, 1) := by decide +kernel
theorem dX6_isIn_1 : decode cX6_isIn 1 = .ok (.iload_n 1, 1) := by decide +kernel
theorem dX6_isIn_2 : decode cX6_isIn 2 = .ok (.ishr, 1) := by decide +kernel
theorem dX6_isIn_3 : decode cX6_isIn 3 = .ok (.iconst 1, 1) := by decide +kernel
theorem dX6_isIn_4 : decode cX6_isIn 4 = .ok (.iand, 1) := by decide +kernel
theorem dX6_isIn_5 : decode cX6_isIn 5 = .ok (.iconst 1, 1) := by decide +kernel
theorem dX6_isIn_6 : decode cX6_isIn 6 = .ok (.if_icmp .ne 7, 3) := by decide +kernel
theorem dX6_isIn_9 : decode cX6_isIn 9 = .ok (.iconst 1, 1) := by decide +kernel
theorem dX6_isIn_10 : decode cX6_isIn 10 = .ok (.goto 4, 3) := by decide +kernel
theorem dX6_isIn_13 : decode cX6_isIn 13 = .ok (.iconst 0, 1) := by decide +kernel
theorem dX6_isIn_14 : decode cX6_isIn 14 = .ok (.ireturn, 1) := by decide +kernel
theorem dX6_many_0 : decode cX6_many 0 = .ok (.iconst 0, 1) := by decide +kernel
theorem dX6_many_1 : decode cX6_many 1 = .ok (.istore_n 1, 1) := by decide +kernel
theorem dX6_many_2 : decode cX6_many 2 = .ok (.iconst 0, 1) := by decide +kernel
theorem dX6_many_3 : decode cX6_many 3 = .ok (.istore_n 2, 1) := by decide +kernel
theorem dX6_many_4 : decode cX6_many 4 = .ok (.iload_n 2, 1) := by decide +kernel
theorem dX6_many_5 : decode cX6_many 5 = .ok (.bipush 10, 2) := by decide +kernel
theorem dX6_many_7 : decode cX6_many 7 = .ok (.if_icmp .ge 17, 3) := by decide +kernel
theorem dX6_many_10 : decode cX6_many 10 = .ok (.iload_n 1, 1) := by decide +kernel
theorem dX6_many_11 : decode cX6_many 11 = .ok (.iload_n 0, 1) := by decide +kernel
theorem dX6_many_12 : decode cX6_many 12 = .ok (.iload_n 2, 1) := by decide +kernel
theorem dX6_many_13 : decode cX6_many 13 = .ok (.ishr, 1) := by decide +kernel
theorem dX6_many_14 : decode cX6_many 14 = .ok (.iconst 1, 1) := by decide +kernel
theorem dX6_many_15 : decode cX6_many 15 = .ok (.iand, 1) := by decide +kernel
theorem dX6_many_16 : decode cX6_many 16 = .ok (.iadd, 1) := by decide +kernel
theorem dX6_many_17 : decode cX6_many 17 = .ok (.istore_n 1, 1) := by decide +kernel
theorem dX6_many_18 : decode cX6_many 18 = .ok (.iinc 2 1, 3) := by decide +kernel
theorem dX6_many_21 : decode cX6_many 21 = .ok (.goto (-17), 3) := by decide +kernel
theorem dX6_many_24 : decode cX6_many 24 = .ok (.iload_n 1, 1) := by decide +kernel
theorem dX6_many_25 : decode cX6_many 25 = .ok (.ireturn, 1) := by decide +kernel
theorem dX6_record_0 : decode cX6_record 0 = .ok (.aload_n 0, 1) := by decide +kernel
theorem dX6_record_1 : decode cX6_record 1 = .ok (.getfield 42, 3) := by decide +kernel
theorem dX6_record_4 : decode cX6_record 4 = .ok (.iconst 4, 1) := by decide +kernel
theorem dX6_record_5 : decode cX6_record 5 = .ok (.if_icmp .ne 43, 3) := by decide +kernel
theorem dX6_record_8 : decode cX6_record 8 = .ok (.iconst 0, 1) := by decide +kernel
theorem dX6_record_9 : decode cX6_record 9 = .ok (.istore_n 1, 1) := by decide +kernel
theorem dX6_record_10 : decode cX6_record 10 = .ok (.iload_n 1, 1) := by decide +kernel
theorem dX6_record_11 : decode cX6_record 11 = .ok (.sipush 207, 3) := by decide +kernel
theorem dX6_record_14 : decode cX6_record 14 = .ok (.if_icmp .ge 24, 3) := by decide +kernel
theorem dX6_record_17 : decode cX6_record 17 = .ok (.aload_n 0, 1) := by decide +kernel
theorem dX6_record_18 : decode cX6_record 18 = .ok (.getfield 13, 3) := by decide +kernel
theorem dX6_record_21 : decode cX6_record 21 = .ok (.iload_n 1, 1) := by decide +kernel
theorem dX6_record_22 : decode cX6_record 22 = .ok (.aload_n 0, 1) := by decide +kernel
theorem dX6_record_23 : decode cX6_record 23 = .ok (.getfield 13, 3) := by decide +kernel
theorem dX6_record_26 : decode cX6_record 26 = .ok (.bipush 69, 2) := by decide +kernel
theorem dX6_record_28 : decode cX6_record 28 = .ok (.iload_n 1, 1) := by decide +kernel
theorem dX6_record_29 : decode cX6_record 29 = .ok (.iadd, 1) := by decide +kernel
theorem dX6_record_30 : decode cX6_record 30 = .ok (.iaload, 1) := by decide +kernel
theorem dX6_record_31 : decode cX6_record 31 = .ok (.iastore, 1) := by decide +kernel
theorem dX6_record_32 : decode cX6_record 32 = .ok (.iinc 1 1, 3) := by decide +kernel
theorem dX6_record_35 : decode cX6_record 35 = .ok (.goto (-25), 3) := by decide +kernel
theorem dX6_record_38 : decode cX6_record 38 = .ok (.aload_n 0, 1) := by decide +kernel
theorem dX6_record_39 : decode cX6_record 39 = .ok (.dup, 1) := by decide +kernel
theorem dX6_record_40 : decode cX6_record 40 = .ok (.getfield 42, 3) := by decide +kernel
theorem dX6_record_43 : decode cX6_record 43 = .ok (.iconst 1, 1) := by decide +kernel
theorem dX6_record_44 : decode cX6_record 44 = .ok (.isub, 1) := by decide +kernel
theorem dX6_record_45 : decode cX6_record 45 = .ok (.putfield 42, 3) := by decide +kernel
theorem dX6_record_48 : decode cX6_record 48 = .ok (.iconst 0, 1) := by decide +kernel
theorem dX6_record_49 : decode cX6_record 49 = .ok (.istore_n 1, 1) := by decide +kernel
theorem dX6_record_50 : decode cX6_record 50 = .ok (.iload_n 1, 1) := by decide +kernel
theorem dX6_record_51 : decode cX6_record 51 = .ok (.bipush 69, 2) := by decide +kernel
theorem dX6_record_53 : decode cX6_record 53 = .ok (.if_icmp .ge 29, 3) := by decide +kernel
theorem dX6_record_56 : decode cX6_record 56 = .ok (.aload_n 0, 1) := by decide +kernel
theorem dX6_record_57 : decode cX6_record 57 = .ok (.getfield 13, 3) := by decide +kernel
theorem dX6_record_60 : decode cX6_record 60 = .ok (.bipush 69, 2) := by decide +kernel
theorem dX6_record_62 : decode cX6_record 62 = .ok (.aload_n 0, 1) := by decide +kernel
theorem dX6_record_63 : decode cX6_record 63 = .ok (.getfield 42, 3) := by decide +kernel
theorem dX6_record_66 : decode cX6_record 66 = .ok (.imul, 1) := by decide +kernel
theorem dX6_record_67 : decode cX6_record 67 = .ok (.iload_n 1, 1) := by decide +kernel
theorem dX6_record_68 : decode cX6_record 68 = .ok (.iadd, 1) := by decide +kernel
theorem dX6_record_69 : decode cX6_record 69 = .ok (.aload_n 0, 1) := by decide +kernel
theorem dX6_record_70 : decode cX6_record 70 = .ok (.getfield 7, 3) := by decide +kernel
theorem dX6_record_73 : decode cX6_record 73 = .ok (.iload_n 1, 1) := by decide +kernel
theorem dX6_record_74 : decode cX6_record 74 = .ok (.iaload, 1) := by decide +kernel
theorem dX6_record_75 : decode cX6_record 75 = .ok (.iastore, 1) := by decide +kernel
theorem dX6_record_76 : decode cX6_record 76 = .ok (.iinc 1 1, 3) := by decide +kernel
theorem dX6_record_79 : decode cX6_record 79 = .ok (.goto (-29), 3) := by decide +kernel
theorem dX6_record_82 : decode cX6_record 82 = .ok (.aload_n 0, 1) := by decide +kernel
theorem dX6_record_83 : decode cX6_record 83 = .ok (.dup, 1) := by decide +kernel
theorem dX6_record_84 : decode cX6_record 84 = .ok (.getfield 42, 3) := by decide +kernel
theorem dX6_record_87 : decode cX6_record 87 = .ok (.iconst 1, 1) := by decide +kernel
theorem dX6_record_88 : decode cX6_record 88 = .ok (.iadd, 1) := by decide +kernel
theorem dX6_record_89 : decode cX6_record 89 = .ok (.putfield 42, 3) := by decide +kernel
theorem dX6_record_92 : decode cX6_record 92 = .ok (.return_, 1) := by decide +kernel
theorem dX6_undo_0 : decode cX6_undo 0 = .ok (.aload_n 0, 1) := by decide +kernel
theorem dX6_undo_1 : decode cX6_undo 1 = .ok (.getfield 42, 3) := by decide +kernel
theorem dX6_undo_4 : decode cX6_undo 4 = .ok (.ifCond .ne 6, 3) := by decide +kernel
theorem dX6_undo_7 : decode cX6_undo 7 = .ok (.bipush (-5), 2) := by decide +kernel
theorem dX6_undo_9 : decode cX6_undo 9 = .ok (.ireturn, 1) := by decide +kernel
theorem dX6_undo_10 : decode cX6_undo 10 = .ok (.aload_n 0, 1) := by decide +kernel
theorem dX6_undo_11 : decode cX6_undo 11 = .ok (.dup, 1) := by decide +kernel
theorem dX6_undo_12 : decode cX6_undo 12 = .ok (.getfield 42, 3) := by decide +kernel
theorem dX6_undo_15 : decode cX6_undo 15 = .ok (.iconst 1, 1) := by decide +kernel
theorem dX6_undo_16 : decode cX6_undo 16 = .ok (.isub, 1) := by decide +kernel
theorem dX6_undo_17 : decode cX6_undo 17 = .ok (.putfield 42, 3) := by decide +kernel
theorem dX6_undo_20 : decode cX6_undo 20 = .ok (.iconst 0, 1) := by decide +kernel
theorem dX6_undo_21 : decode cX6_undo 21 = .ok (.istore_n 1, 1) := by decide +kernel
theorem dX6_undo_22 : decode cX6_undo 22 = .ok (.iload_n 1, 1) := by decide +kernel
theorem dX6_undo_23 : decode cX6_undo 23 = .ok (.bipush 69, 2) := by decide +kernel
theorem dX6_undo_25 : decode cX6_undo 25 = .ok (.if_icmp .ge 29, 3) := by decide +kernel
theorem dX6_undo_28 : decode cX6_undo 28 = .ok (.aload_n 0, 1) := by decide +kernel
theorem dX6_undo_29 : decode cX6_undo 29 = .ok (.getfield 7, 3) := by decide +kernel
theorem dX6_undo_32 : decode cX6_undo 32 = .ok (.iload_n 1, 1) := by decide +kernel
theorem dX6_undo_33 : decode cX6_undo 33 = .ok (.aload_n 0, 1) := by decide +kernel
theorem dX6_undo_34 : decode cX6_undo 34 = .ok (.getfield 13, 3) := by decide +kernel
theorem dX6_undo_37 : decode cX6_undo 37 = .ok (.bipush 69, 2) := by decide +kernel
theorem dX6_undo_39 : decode cX6_undo 39 = .ok (.aload_n 0, 1) := by decide +kernel
theorem dX6_undo_40 : decode cX6_undo 40 = .ok (.getfield 42, 3) := by decide +kernel
theorem dX6_undo_43 : decode cX6_undo 43 = .ok (.imul, 1) := by decide +kernel
theorem dX6_undo_44 : decode cX6_undo 44 = .ok (.iload_n 1, 1) := by decide +kernel
theorem dX6_undo_45 : decode cX6_undo 45 = .ok (.iadd, 1) := by decide +kernel
theorem dX6_undo_46 : decode cX6_undo 46 = .ok (.iaload, 1) := by decide +kernel
theorem dX6_undo_47 : decode cX6_undo 47 = .ok (.iastore, 1) := by decide +kernel
theorem dX6_undo_48 : decode cX6_undo 48 = .ok (.iinc 1 1, 3) := by decide +kernel
theorem dX6_undo_51 : decode cX6_undo 51 = .ok (.goto (-29), 3) := by decide +kernel
theorem dX6_undo_54 : decode cX6_undo 54 = .ok (.aload_n 0, 1) := by decide +kernel
theorem dX6_undo_55 : decode cX6_undo 55 = .ok (.getfield 42, 3) := by decide +kernel
theorem dX6_undo_58 : decode cX6_undo 58 = .ok (.ireturn, 1) := by decide +kernel
theorem dX6_keep_0 : decode cX6_keep 0 = .ok (.iconst 0, 1) := by decide +kernel
theorem dX6_keep_1 : decode cX6_keep 1 = .ok (.istore_n 1, 1) := by decide +kernel
theorem dX6_keep_2 : decode cX6_keep 2 = .ok (.iload_n 1, 1) := by decide +kernel
theorem dX6_keep_3 : decode cX6_keep 3 = .ok (.bipush 69, 2) := by decide +kernel
theorem dX6_keep_5 : decode cX6_keep 5 = .ok (.if_icmp .ge 21, 3) := by decide +kernel
theorem dX6_keep_8 : decode cX6_keep 8 = .ok (.aload_n 0, 1) := by decide +kernel
theorem dX6_keep_9 : decode cX6_keep 9 = .ok (.getfield 16, 3) := by decide +kernel
end
section
theorem dX6_keep_12 : decode cX6_keep 12 = .ok (.iload_n 1, 1) := by decide +kernel
theorem dX6_keep_13 : decode cX6_keep 13 = .ok (.aload_n 0, 1) := by decide +kernel
theorem dX6_keep_14 : decode cX6_keep 14 = .ok (.getfield 7, 3) := by decide +kernel
theorem dX6_keep_17 : decode cX6_keep 17 = .ok (.iload_n 1, 1) := by decide +kernel
theorem dX6_keep_18 : decode cX6_keep 18 = .ok (.iaload, 1) := by decide +kernel
theorem dX6_keep_19 : decode cX6_keep 19 = .ok (.iastore, 1) := by decide +kernel
theorem dX6_keep_20 : decode cX6_keep 20 = .ok (.iinc 1 1, 3) := by decide +kernel
theorem dX6_keep_23 : decode cX6_keep 23 = .ok (.goto (-21), 3) := by decide +kernel
theorem dX6_keep_26 : decode cX6_keep 26 = .ok (.aload_n 0, 1) := by decide +kernel
theorem dX6_keep_27 : decode cX6_keep 27 = .ok (.iconst 1, 1) := by decide +kernel
theorem dX6_keep_28 : decode cX6_keep 28 = .ok (.putfield 46, 3) := by decide +kernel
theorem dX6_keep_31 : decode cX6_keep 31 = .ok (.aload_n 0, 1) := by decide +kernel
theorem dX6_keep_32 : decode cX6_keep 32 = .ok (.getfield 7, 3) := by decide +kernel
theorem dX6_keep_35 : decode cX6_keep 35 = .ok (.iconst 0, 1) := by decide +kernel
theorem dX6_keep_36 : decode cX6_keep 36 = .ok (.iaload, 1) := by decide +kernel
theorem dX6_keep_37 : decode cX6_keep 37 = .ok (.ireturn, 1) := by decide +kernel
theorem dX6_restore_0 : decode cX6_restore 0 = .ok (.aload_n 0, 1) := by decide +kernel
theorem dX6_restore_1 : decode cX6_restore 1 = .ok (.getfield 46, 3) := by decide +kernel
theorem dX6_restore_4 : decode cX6_restore 4 = .ok (.ifCond .ne 6, 3) := by decide +kernel
theorem dX6_restore_7 : decode cX6_restore 7 = .ok (.bipush (-5), 2) := by decide +kernel
theorem dX6_restore_9 : decode cX6_restore 9 = .ok (.ireturn, 1) := by decide +kernel
theorem dX6_restore_10 : decode cX6_restore 10 = .ok (.aload_n 0, 1) := by decide +kernel
theorem dX6_restore_11 : decode cX6_restore 11 = .ok (.invokevirtual 50, 3) := by decide +kernel
theorem dX6_restore_14 : decode cX6_restore 14 = .ok (.iconst 0, 1) := by decide +kernel
theorem dX6_restore_15 : decode cX6_restore 15 = .ok (.istore_n 1, 1) := by decide +kernel
theorem dX6_restore_16 : decode cX6_restore 16 = .ok (.iload_n 1, 1) := by decide +kernel
theorem dX6_restore_17 : decode cX6_restore 17 = .ok (.bipush 69, 2) := by decide +kernel
theorem dX6_restore_19 : decode cX6_restore 19 = .ok (.if_icmp .ge 21, 3) := by decide +kernel
theorem dX6_restore_22 : decode cX6_restore 22 = .ok (.aload_n 0, 1) := by decide +kernel
theorem dX6_restore_23 : decode cX6_restore 23 = .ok (.getfield 7, 3) := by decide +kernel
theorem dX6_restore_26 : decode cX6_restore 26 = .ok (.iload_n 1, 1) := by decide +kernel
theorem dX6_restore_27 : decode cX6_restore 27 = .ok (.aload_n 0, 1) := by decide +kernel
theorem dX6_restore_28 : decode cX6_restore 28 = .ok (.getfield 16, 3) := by decide +kernel
theorem dX6_restore_31 : decode cX6_restore 31 = .ok (.iload_n 1, 1) := by decide +kernel
theorem dX6_restore_32 : decode cX6_restore 32 = .ok (.iaload, 1) := by decide +kernel
theorem dX6_restore_33 : decode cX6_restore 33 = .ok (.iastore, 1) := by decide +kernel
theorem dX6_restore_34 : decode cX6_restore 34 = .ok (.iinc 1 1, 3) := by decide +kernel
theorem dX6_restore_37 : decode cX6_restore 37 = .ok (.goto (-21), 3) := by decide +kernel
theorem dX6_restore_40 : decode cX6_restore 40 = .ok (.aload_n 0, 1) := by decide +kernel
theorem dX6_restore_41 : decode cX6_restore 41 = .ok (.getfield 7, 3) := by decide +kernel
theorem dX6_restore_44 : decode cX6_restore 44 = .ok (.iconst 0, 1) := by decide +kernel
theorem dX6_restore_45 : decode cX6_restore 45 = .ok (.iaload, 1) := by decide +kernel
theorem dX6_restore_46 : decode cX6_restore 46 = .ok (.ireturn, 1) := by decide +kernel
theorem dX6_noMember_0 : decode cX6_noMember 0 = .ok (.iload_n 1, 1) := by decide +kernel
theorem dX6_noMember_1 : decode cX6_noMember 1 = .ok (.iconst 0, 1) := by decide +kernel
theorem dX6_noMember_2 : decode cX6_noMember 2 = .ok (.aload_n 0, 1) := by decide +kernel
theorem dX6_noMember_3 : decode cX6_noMember 3 = .ok (.getfield 7, 3) := by decide +kernel
theorem dX6_noMember_6 : decode cX6_noMember 6 = .ok (.iconst 0, 1) := by decide +kernel
theorem dX6_noMember_7 : decode cX6_noMember 7 = .ok (.iaload, 1) := by decide +kernel
theorem dX6_noMember_8 : decode cX6_noMember 8 = .ok (.iconst 1, 1) := by decide +kernel
theorem dX6_noMember_9 : decode cX6_noMember 9 = .ok (.isub, 1) := by decide +kernel
theorem dX6_noMember_10 : decode cX6_noMember 10 = .ok (.invokestatic 53, 3) := by decide +kernel
theorem dX6_noMember_13 : decode cX6_noMember 13 = .ok (.ifCond .ne 7, 3) := by decide +kernel
theorem dX6_noMember_16 : decode cX6_noMember 16 = .ok (.iconst 1, 1) := by decide +kernel
theorem dX6_noMember_17 : decode cX6_noMember 17 = .ok (.goto 4, 3) := by decide +kernel
theorem dX6_noMember_20 : decode cX6_noMember 20 = .ok (.iconst 0, 1) := by decide +kernel
theorem dX6_noMember_21 : decode cX6_noMember 21 = .ok (.ireturn, 1) := by decide +kernel
theorem dX6_addMember_0 : decode cX6_addMember 0 = .ok (.iload_n 1, 1) := by decide +kernel
theorem dX6_addMember_1 : decode cX6_addMember 1 = .ok (.iconst 0, 1) := by decide +kernel
theorem dX6_addMember_2 : decode cX6_addMember 2 = .ok (.bipush 50, 2) := by decide +kernel
theorem dX6_addMember_4 : decode cX6_addMember 4 = .ok (.invokestatic 53, 3) := by decide +kernel
theorem dX6_addMember_7 : decode cX6_addMember 7 = .ok (.ifCond .ne 6, 3) := by decide +kernel
theorem dX6_addMember_10 : decode cX6_addMember 10 = .ok (.bipush (-2), 2) := by decide +kernel
theorem dX6_addMember_12 : decode cX6_addMember 12 = .ok (.ireturn, 1) := by decide +kernel
theorem dX6_addMember_13 : decode cX6_addMember 13 = .ok (.aload_n 0, 1) := by decide +kernel
theorem dX6_addMember_14 : decode cX6_addMember 14 = .ok (.getfield 7, 3) := by decide +kernel
theorem dX6_addMember_17 : decode cX6_addMember 17 = .ok (.iconst 0, 1) := by decide +kernel
theorem dX6_addMember_18 : decode cX6_addMember 18 = .ok (.iaload, 1) := by decide +kernel
theorem dX6_addMember_19 : decode cX6_addMember 19 = .ok (.istore_n 2, 1) := by decide +kernel
theorem dX6_addMember_20 : decode cX6_addMember 20 = .ok (.iload_n 2, 1) := by decide +kernel
theorem dX6_addMember_21 : decode cX6_addMember 21 = .ok (.bipush 10, 2) := by decide +kernel
theorem dX6_addMember_23 : decode cX6_addMember 23 = .ok (.if_icmp .ne 6, 3) := by decide +kernel
theorem dX6_addMember_26 : decode cX6_addMember 26 = .ok (.bipush (-3), 2) := by decide +kernel
theorem dX6_addMember_28 : decode cX6_addMember 28 = .ok (.ireturn, 1) := by decide +kernel
theorem dX6_addMember_29 : decode cX6_addMember 29 = .ok (.aload_n 0, 1) := by decide +kernel
theorem dX6_addMember_30 : decode cX6_addMember 30 = .ok (.invokevirtual 50, 3) := by decide +kernel
theorem dX6_addMember_33 : decode cX6_addMember 33 = .ok (.aload_n 0, 1) := by decide +kernel
theorem dX6_addMember_34 : decode cX6_addMember 34 = .ok (.getfield 7, 3) := by decide +kernel
theorem dX6_addMember_37 : decode cX6_addMember 37 = .ok (.bipush 29, 2) := by decide +kernel
theorem dX6_addMember_39 : decode cX6_addMember 39 = .ok (.iload_n 2, 1) := by decide +kernel
theorem dX6_addMember_40 : decode cX6_addMember 40 = .ok (.iadd, 1) := by decide +kernel
theorem dX6_addMember_41 : decode cX6_addMember 41 = .ok (.iload_n 1, 1) := by decide +kernel
theorem dX6_addMember_42 : decode cX6_addMember 42 = .ok (.iastore, 1) := by decide +kernel
theorem dX6_addMember_43 : decode cX6_addMember 43 = .ok (.aload_n 0, 1) := by decide +kernel
theorem dX6_addMember_44 : decode cX6_addMember 44 = .ok (.getfield 7, 3) := by decide +kernel
theorem dX6_addMember_47 : decode cX6_addMember 47 = .ok (.bipush 39, 2) := by decide +kernel
theorem dX6_addMember_49 : decode cX6_addMember 49 = .ok (.iload_n 2, 1) := by decide +kernel
theorem dX6_addMember_50 : decode cX6_addMember 50 = .ok (.iadd, 1) := by decide +kernel
theorem dX6_addMember_51 : decode cX6_addMember 51 = .ok (.iconst 0, 1) := by decide +kernel
theorem dX6_addMember_52 : decode cX6_addMember 52 = .ok (.iastore, 1) := by decide +kernel
theorem dX6_addMember_53 : decode cX6_addMember 53 = .ok (.aload_n 0, 1) := by decide +kernel
theorem dX6_addMember_54 : decode cX6_addMember 54 = .ok (.getfield 7, 3) := by decide +kernel
theorem dX6_addMember_57 : decode cX6_addMember 57 = .ok (.bipush 49, 2) := by decide +kernel
theorem dX6_addMember_59 : decode cX6_addMember 59 = .ok (.iload_n 2, 1) := by decide +kernel
theorem dX6_addMember_60 : decode cX6_addMember 60 = .ok (.iadd, 1) := by decide +kernel
theorem dX6_addMember_61 : decode cX6_addMember 61 = .ok (.iload_n 2, 1) := by decide +kernel
theorem dX6_addMember_62 : decode cX6_addMember 62 = .ok (.iastore, 1) := by decide +kernel
theorem dX6_addMember_63 : decode cX6_addMember 63 = .ok (.aload_n 0, 1) := by decide +kernel
theorem dX6_addMember_64 : decode cX6_addMember 64 = .ok (.getfield 7, 3) := by decide +kernel
theorem dX6_addMember_67 : decode cX6_addMember 67 = .ok (.bipush 59, 2) := by decide +kernel
theorem dX6_addMember_69 : decode cX6_addMember 69 = .ok (.iload_n 2, 1) := by decide +kernel
theorem dX6_addMember_70 : decode cX6_addMember 70 = .ok (.iadd, 1) := by decide +kernel
theorem dX6_addMember_71 : decode cX6_addMember 71 = .ok (.iconst 0, 1) := by decide +kernel
theorem dX6_addMember_72 : decode cX6_addMember 72 = .ok (.iastore, 1) := by decide +kernel
theorem dX6_addMember_73 : decode cX6_addMember 73 = .ok (.aload_n 0, 1) := by decide +kernel
theorem dX6_addMember_74 : decode cX6_addMember 74 = .ok (.getfield 7, 3) := by decide +kernel
theorem dX6_addMember_77 : decode cX6_addMember 77 = .ok (.iconst 0, 1) := by decide +kernel
theorem dX6_addMember_78 : decode cX6_addMember 78 = .ok (.dup2, 1) := by decide +kernel
theorem dX6_addMember_79 : decode cX6_addMember 79 = .ok (.iaload, 1) := by decide +kernel
theorem dX6_addMember_80 : decode cX6_addMember 80 = .ok (.iconst 1, 1) := by decide +kernel
theorem dX6_addMember_81 : decode cX6_addMember 81 = .ok (.iadd, 1) := by decide +kernel
theorem dX6_addMember_82 : decode cX6_addMember 82 = .ok (.iastore, 1) := by decide +kernel
theorem dX6_addMember_83 : decode cX6_addMember 83 = .ok (.iload_n 2, 1) := by decide +kernel
theorem dX6_addMember_84 : decode cX6_addMember 84 = .ok (.ireturn, 1) := by decide +kernel
theorem dX6_part_0 : decode cX6_part 0 = .ok (.aload_n 0, 1) := by decide +kernel
theorem dX6_part_1 : decode cX6_part 1 = .ok (.getfield 7, 3) := by decide +kernel
theorem dX6_part_4 : decode cX6_part 4 = .ok (.bipush 49, 2) := by decide +kernel
theorem dX6_part_6 : decode cX6_part 6 = .ok (.iload_n 1, 1) := by decide +kernel
theorem dX6_part_7 : decode cX6_part 7 = .ok (.iadd, 1) := by decide +kernel
theorem dX6_part_8 : decode cX6_part 8 = .ok (.iaload, 1) := by decide +kernel
theorem dX6_part_9 : decode cX6_part 9 = .ok (.istore_n 2, 1) := by decide +kernel
theorem dX6_part_10 : decode cX6_part 10 = .ok (.bipush (-5), 2) := by decide +kernel
theorem dX6_part_12 : decode cX6_part 12 = .ok (.istore_n 3, 1) := by decide +kernel
theorem dX6_part_13 : decode cX6_part 13 = .ok (.iconst 0, 1) := by decide +kernel
theorem dX6_part_14 : decode cX6_part 14 = .ok (.istore 4, 2) := by decide +kernel
theorem dX6_part_16 : decode cX6_part 16 = .ok (.iload 4, 2) := by decide +kernel
theorem dX6_part_18 : decode cX6_part 18 = .ok (.aload_n 0, 1) := by decide +kernel
theorem dX6_part_19 : decode cX6_part 19 = .ok (.getfield 7, 3) := by decide +kernel
theorem dX6_part_22 : decode cX6_part 22 = .ok (.iconst 0, 1) := by decide +kernel
theorem dX6_part_23 : decode cX6_part 23 = .ok (.iaload, 1) := by decide +kernel
theorem dX6_part_24 : decode cX6_part 24 = .ok (.if_icmp .ge 51, 3) := by decide +kernel
theorem dX6_part_27 : decode cX6_part 27 = .ok (.iload 4, 2) := by decide +kernel
theorem dX6_part_29 : decode cX6_part 29 = .ok (.iload_n 1, 1) := by decide +kernel
theorem dX6_part_30 : decode cX6_part 30 = .ok (.if_icmp .eq 39, 3) := by decide +kernel
theorem dX6_part_33 : decode cX6_part 33 = .ok (.aload_n 0, 1) := by decide +kernel
theorem dX6_part_34 : decode cX6_part 34 = .ok (.getfield 7, 3) := by decide +kernel
theorem dX6_part_37 : decode cX6_part 37 = .ok (.bipush 49, 2) := by decide +kernel
theorem dX6_part_39 : decode cX6_part 39 = .ok (.iload 4, 2) := by decide +kernel
theorem dX6_part_41 : decode cX6_part 41 = .ok (.iadd, 1) := by decide +kernel
theorem dX6_part_42 : decode cX6_part 42 = .ok (.iaload, 1) := by decide +kernel
theorem dX6_part_43 : decode cX6_part 43 = .ok (.iload_n 2, 1) := by decide +kernel
theorem dX6_part_44 : decode cX6_part 44 = .ok (.if_icmp .ne 25, 3) := by decide +kernel
theorem dX6_part_47 : decode cX6_part 47 = .ok (.iload_n 3, 1) := by decide +kernel
theorem dX6_part_48 : decode cX6_part 48 = .ok (.ifCond .ge 8, 3) := by decide +kernel
theorem dX6_part_51 : decode cX6_part 51 = .ok (.iload 4, 2) := by decide +kernel
theorem dX6_part_53 : decode cX6_part 53 = .ok (.goto 4, 3) := by decide +kernel
theorem dX6_part_56 : decode cX6_part 56 = .ok (.iload_n 3, 1) := by decide +kernel
theorem dX6_part_57 : decode cX6_part 57 = .ok (.istore_n 3, 1) := by decide +kernel
theorem dX6_part_58 : decode cX6_part 58 = .ok (.aload_n 0, 1) := by decide +kernel
theorem dX6_part_59 : decode cX6_part 59 = .ok (.getfield 7, 3) := by decide +kernel
theorem dX6_part_62 : decode cX6_part 62 = .ok (.bipush 49, 2) := by decide +kernel
theorem dX6_part_64 : decode cX6_part 64 = .ok (.iload 4, 2) := by decide +kernel
theorem dX6_part_66 : decode cX6_part 66 = .ok (.iadd, 1) := by decide +kernel
theorem dX6_part_67 : decode cX6_part 67 = .ok (.iload_n 3, 1) := by decide +kernel
theorem dX6_part_68 : decode cX6_part 68 = .ok (.iastore, 1) := by decide +kernel
theorem dX6_part_69 : decode cX6_part 69 = .ok (.iinc 4 1, 3) := by decide +kernel
theorem dX6_part_72 : decode cX6_part 72 = .ok (.goto (-56), 3) := by decide +kernel
theorem dX6_part_75 : decode cX6_part 75 = .ok (.aload_n 0, 1) := by decide +kernel
theorem dX6_part_76 : decode cX6_part 76 = .ok (.getfield 7, 3) := by decide +kernel
theorem dX6_part_79 : decode cX6_part 79 = .ok (.bipush 49, 2) := by decide +kernel
theorem dX6_part_81 : decode cX6_part 81 = .ok (.iload_n 1, 1) := by decide +kernel
theorem dX6_part_82 : decode cX6_part 82 = .ok (.iadd, 1) := by decide +kernel
theorem dX6_part_83 : decode cX6_part 83 = .ok (.iload_n 1, 1) := by decide +kernel
theorem dX6_part_84 : decode cX6_part 84 = .ok (.iastore, 1) := by decide +kernel
theorem dX6_part_85 : decode cX6_part 85 = .ok (.return_, 1) := by decide +kernel
theorem dX6_removeMember_0 : decode cX6_removeMember 0 = .ok (.aload_n 0, 1) := by decide +kernel
theorem dX6_removeMember_1 : decode cX6_removeMember 1 = .ok (.iload_n 1, 1) := by decide +kernel
theorem dX6_removeMember_2 : decode cX6_removeMember 2 = .ok (.invokevirtual 57, 3) := by decide +kernel
theorem dX6_removeMember_5 : decode cX6_removeMember 5 = .ok (.ifCond .eq 5, 3) := by decide +kernel
theorem dX6_removeMember_8 : decode cX6_removeMember 8 = .ok (.iconst (-1), 1) := by decide +kernel
theorem dX6_removeMember_9 : decode cX6_removeMember 9 = .ok (.ireturn, 1) := by decide +kernel
theorem dX6_removeMember_10 : decode cX6_removeMember 10 = .ok (.aload_n 0, 1) := by decide +kernel
theorem dX6_removeMember_11 : decode cX6_removeMember 11 = .ok (.invokevirtual 50, 3) := by decide +kernel
theorem dX6_removeMember_14 : decode cX6_removeMember 14 = .ok (.aload_n 0, 1) := by decide +kernel
theorem dX6_removeMember_15 : decode cX6_removeMember 15 = .ok (.iload_n 1, 1) := by decide +kernel
theorem dX6_removeMember_16 : decode cX6_removeMember 16 = .ok (.invokevirtual 61, 3) := by decide +kernel
theorem dX6_removeMember_19 : decode cX6_removeMember 19 = .ok (.aload_n 0, 1) := by decide +kernel
theorem dX6_removeMember_20 : decode cX6_removeMember 20 = .ok (.getfield 7, 3) := by decide +kernel
theorem dX6_removeMember_23 : decode cX6_removeMember 23 = .ok (.iconst 0, 1) := by decide +kernel
theorem dX6_removeMember_24 : decode cX6_removeMember 24 = .ok (.dup2, 1) := by decide +kernel
theorem dX6_removeMember_25 : decode cX6_removeMember 25 = .ok (.iaload, 1) := by decide +kernel
theorem dX6_removeMember_26 : decode cX6_removeMember 26 = .ok (.iconst 1, 1) := by decide +kernel
theorem dX6_removeMember_27 : decode cX6_removeMember 27 = .ok (.isub, 1) := by decide +kernel
theorem dX6_removeMember_28 : decode cX6_removeMember 28 = .ok (.iastore, 1) := by decide +kernel
theorem dX6_removeMember_29 : decode cX6_removeMember 29 = .ok (.iload_n 1, 1) := by decide +kernel
theorem dX6_removeMember_30 : decode cX6_removeMember 30 = .ok (.istore_n 2, 1) := by decide +kernel
theorem dX6_removeMember_31 : decode cX6_removeMember 31 = .ok (.iload_n 2, 1) := by decide +kernel
theorem dX6_removeMember_32 : decode cX6_removeMember 32 = .ok (.aload_n 0, 1) := by decide +kernel
theorem dX6_removeMember_33 : decode cX6_removeMember 33 = .ok (.getfield 7, 3) := by decide +kernel
theorem dX6_removeMember_36 : decode cX6_removeMember 36 = .ok (.iconst 0, 1) := by decide +kernel
theorem dX6_removeMember_37 : decode cX6_removeMember 37 = .ok (.iaload, 1) := by decide +kernel
theorem dX6_removeMember_38 : decode cX6_removeMember 38 = .ok (.if_icmp .ge 89, 3) := by decide +kernel
theorem dX6_removeMember_41 : decode cX6_removeMember 41 = .ok (.aload_n 0, 1) := by decide +kernel
theorem dX6_removeMember_42 : decode cX6_removeMember 42 = .ok (.getfield 7, 3) := by decide +kernel
theorem dX6_removeMember_45 : decode cX6_removeMember 45 = .ok (.bipush 29, 2) := by decide +kernel
theorem dX6_removeMember_47 : decode cX6_removeMember 47 = .ok (.iload_n 2, 1) := by decide +kernel
theorem dX6_removeMember_48 : decode cX6_removeMember 48 = .ok (.iadd, 1) := by decide +kernel
theorem dX6_removeMember_49 : decode cX6_removeMember 49 = .ok (.aload_n 0, 1) := by decide +kernel
theorem dX6_removeMember_50 : decode cX6_removeMember 50 = .ok (.getfield 7, 3) := by decide +kernel
theorem dX6_removeMember_53 : decode cX6_removeMember 53 = .ok (.bipush 29, 2) := by decide +kernel
theorem dX6_removeMember_55 : decode cX6_removeMember 55 = .ok (.iload_n 2, 1) := by decide +kernel
theorem dX6_removeMember_56 : decode cX6_removeMember 56 = .ok (.iadd, 1) := by decide +kernel
theorem dX6_removeMember_57 : decode cX6_removeMember 57 = .ok (.iconst 1, 1) := by decide +kernel
theorem dX6_removeMember_58 : decode cX6_removeMember 58 = .ok (.iadd, 1) := by decide +kernel
theorem dX6_removeMember_59 : decode cX6_removeMember 59 = .ok (.iaload, 1) := by decide +kernel
theorem dX6_removeMember_60 : decode cX6_removeMember 60 = .ok (.iastore, 1) := by decide +kernel
theorem dX6_removeMember_61 : decode cX6_removeMember 61 = .ok (.aload_n 0, 1) := by decide +kernel
theorem dX6_removeMember_62 : decode cX6_removeMember 62 = .ok (.getfield 7, 3) := by decide +kernel
theorem dX6_removeMember_65 : decode cX6_removeMember 65 = .ok (.bipush 39, 2) := by decide +kernel
theorem dX6_removeMember_67 : decode cX6_removeMember 67 = .ok (.iload_n 2, 1) := by decide +kernel
theorem dX6_removeMember_68 : decode cX6_removeMember 68 = .ok (.iadd, 1) := by decide +kernel
theorem dX6_removeMember_69 : decode cX6_removeMember 69 = .ok (.aload_n 0, 1) := by decide +kernel
theorem dX6_removeMember_70 : decode cX6_removeMember 70 = .ok (.getfield 7, 3) := by decide +kernel
theorem dX6_removeMember_73 : decode cX6_removeMember 73 = .ok (.bipush 39, 2) := by decide +kernel
theorem dX6_removeMember_75 : decode cX6_removeMember 75 = .ok (.iload_n 2, 1) := by decide +kernel
theorem dX6_removeMember_76 : decode cX6_removeMember 76 = .ok (.iadd, 1) := by decide +kernel
theorem dX6_removeMember_77 : decode cX6_removeMember 77 = .ok (.iconst 1, 1) := by decide +kernel
theorem dX6_removeMember_78 : decode cX6_removeMember 78 = .ok (.iadd, 1) := by decide +kernel
theorem dX6_removeMember_79 : decode cX6_removeMember 79 = .ok (.iaload, 1) := by decide +kernel
theorem dX6_removeMember_80 : decode cX6_removeMember 80 = .ok (.iastore, 1) := by decide +kernel
theorem dX6_removeMember_81 : decode cX6_removeMember 81 = .ok (.aload_n 0, 1) := by decide +kernel
theorem dX6_removeMember_82 : decode cX6_removeMember 82 = .ok (.getfield 7, 3) := by decide +kernel
theorem dX6_removeMember_85 : decode cX6_removeMember 85 = .ok (.bipush 49, 2) := by decide +kernel
theorem dX6_removeMember_87 : decode cX6_removeMember 87 = .ok (.iload_n 2, 1) := by decide +kernel
theorem dX6_removeMember_88 : decode cX6_removeMember 88 = .ok (.iadd, 1) := by decide +kernel
theorem dX6_removeMember_89 : decode cX6_removeMember 89 = .ok (.aload_n 0, 1) := by decide +kernel
theorem dX6_removeMember_90 : decode cX6_removeMember 90 = .ok (.getfield 7, 3) := by decide +kernel
theorem dX6_removeMember_93 : decode cX6_removeMember 93 = .ok (.bipush 49, 2) := by decide +kernel
theorem dX6_removeMember_95 : decode cX6_removeMember 95 = .ok (.iload_n 2, 1) := by decide +kernel
theorem dX6_removeMember_96 : decode cX6_removeMember 96 = .ok (.iadd, 1) := by decide +kernel
theorem dX6_removeMember_97 : decode cX6_removeMember 97 = .ok (.iconst 1, 1) := by decide +kernel
theorem dX6_removeMember_98 : decode cX6_removeMember 98 = .ok (.iadd, 1) := by decide +kernel
theorem dX6_removeMember_99 : decode cX6_removeMember 99 = .ok (.iaload, 1) := by decide +kernel
theorem dX6_removeMember_100 : decode cX6_removeMember 100 = .ok (.iastore, 1) := by decide +kernel
theorem dX6_removeMember_101 : decode cX6_removeMember 101 = .ok (.aload_n 0, 1) := by decide +kernel
theorem dX6_removeMember_102 : decode cX6_removeMember 102 = .ok (.getfield 7, 3) := by decide +kernel
theorem dX6_removeMember_105 : decode cX6_removeMember 105 = .ok (.bipush 59, 2) := by decide +kernel
theorem dX6_removeMember_107 : decode cX6_removeMember 107 = .ok (.iload_n 2, 1) := by decide +kernel
theorem dX6_removeMember_108 : decode cX6_removeMember 108 = .ok (.iadd, 1) := by decide +kernel
theorem dX6_removeMember_109 : decode cX6_removeMember 109 = .ok (.aload_n 0, 1) := by decide +kernel
theorem dX6_removeMember_110 : decode cX6_removeMember 110 = .ok (.getfield 7, 3) := by decide +kernel
theorem dX6_removeMember_113 : decode cX6_removeMember 113 = .ok (.bipush 59, 2) := by decide +kernel
theorem dX6_removeMember_115 : decode cX6_removeMember 115 = .ok (.iload_n 2, 1) := by decide +kernel
theorem dX6_removeMember_116 : decode cX6_removeMember 116 = .ok (.iadd, 1) := by decide +kernel
theorem dX6_removeMember_117 : decode cX6_removeMember 117 = .ok (.iconst 1, 1) := by decide +kernel
theorem dX6_removeMember_118 : decode cX6_removeMember 118 = .ok (.iadd, 1) := by decide +kernel
theorem dX6_removeMember_119 : decode cX6_removeMember 119 = .ok (.iaload, 1) := by decide +kernel
theorem dX6_removeMember_120 : decode cX6_removeMember 120 = .ok (.iastore, 1) := by decide +kernel
theorem dX6_removeMember_121 : decode cX6_removeMember 121 = .ok (.iinc 2 1, 3) := by decide +kernel
theorem dX6_removeMember_124 : decode cX6_removeMember 124 = .ok (.goto (-93), 3) := by decide +kernel
theorem dX6_removeMember_127 : decode cX6_removeMember 127 = .ok (.iconst 0, 1) := by decide +kernel
theorem dX6_removeMember_128 : decode cX6_removeMember 128 = .ok (.istore_n 2, 1) := by decide +kernel
theorem dX6_removeMember_129 : decode cX6_removeMember 129 = .ok (.iload_n 2, 1) := by decide +kernel
theorem dX6_removeMember_130 : decode cX6_removeMember 130 = .ok (.aload_n 0, 1) := by decide +kernel
theorem dX6_removeMember_131 : decode cX6_removeMember 131 = .ok (.getfield 7, 3) := by decide +kernel
theorem dX6_removeMember_134 : decode cX6_removeMember 134 = .ok (.iconst 0, 1) := by decide +kernel
theorem dX6_removeMember_135 : decode cX6_removeMember 135 = .ok (.iaload, 1) := by decide +kernel
theorem dX6_removeMember_136 : decode cX6_removeMember 136 = .ok (.if_icmp .ge 39, 3) := by decide +kernel
theorem dX6_removeMember_139 : decode cX6_removeMember 139 = .ok (.aload_n 0, 1) := by decide +kernel
theorem dX6_removeMember_140 : decode cX6_removeMember 140 = .ok (.getfield 7, 3) := by decide +kernel
theorem dX6_removeMember_143 : decode cX6_removeMember 143 = .ok (.bipush 49, 2) := by decide +kernel
theorem dX6_removeMember_145 : decode cX6_removeMember 145 = .ok (.iload_n 2, 1) := by decide +kernel
theorem dX6_removeMember_146 : decode cX6_removeMember 146 = .ok (.iadd, 1) := by decide +kernel
theorem dX6_removeMember_147 : decode cX6_removeMember 147 = .ok (.dup2, 1) := by decide +kernel
theorem dX6_removeMember_148 : decode cX6_removeMember 148 = .ok (.iaload, 1) := by decide +kernel
theorem dX6_removeMember_149 : decode cX6_removeMember 149 = .ok (.aload_n 0, 1) := by decide +kernel
theorem dX6_removeMember_150 : decode cX6_removeMember 150 = .ok (.getfield 7, 3) := by decide +kernel
theorem dX6_removeMember_153 : decode cX6_removeMember 153 = .ok (.bipush 49, 2) := by decide +kernel
theorem dX6_removeMember_155 : decode cX6_removeMember 155 = .ok (.iload_n 2, 1) := by decide +kernel
theorem dX6_removeMember_156 : decode cX6_removeMember 156 = .ok (.iadd, 1) := by decide +kernel
theorem dX6_removeMember_157 : decode cX6_removeMember 157 = .ok (.iaload, 1) := by decide +kernel
theorem dX6_removeMember_158 : decode cX6_removeMember 158 = .ok (.iload_n 1, 1) := by decide +kernel
theorem dX6_removeMember_159 : decode cX6_removeMember 159 = .ok (.if_icmp .le 7, 3) := by decide +kernel
theorem dX6_removeMember_162 : decode cX6_removeMember 162 = .ok (.iconst 1, 1) := by decide +kernel
theorem dX6_removeMember_163 : decode cX6_removeMember 163 = .ok (.goto 4, 3) := by decide +kernel
theorem dX6_removeMember_166 : decode cX6_removeMember 166 = .ok (.iconst 0, 1) := by decide +kernel
theorem dX6_removeMember_167 : decode cX6_removeMember 167 = .ok (.isub, 1) := by decide +kernel
theorem dX6_removeMember_168 : decode cX6_removeMember 168 = .ok (.iastore, 1) := by decide +kernel
theorem dX6_removeMember_169 : decode cX6_removeMember 169 = .ok (.iinc 2 1, 3) := by decide +kernel
theorem dX6_removeMember_172 : decode cX6_removeMember 172 = .ok (.goto (-43), 3) := by decide +kernel
theorem dX6_removeMember_175 : decode cX6_removeMember 175 = .ok (.aload_n 0, 1) := by decide +kernel
theorem dX6_removeMember_176 : decode cX6_removeMember 176 = .ok (.getfield 7, 3) := by decide +kernel
theorem dX6_removeMember_179 : decode cX6_removeMember 179 = .ok (.iconst 0, 1) := by decide +kernel
theorem dX6_removeMember_180 : decode cX6_removeMember 180 = .ok (.iaload, 1) := by decide +kernel
theorem dX6_removeMember_181 : decode cX6_removeMember 181 = .ok (.ireturn, 1) := by decide +kernel
theorem dX6_set_0 : decode cX6_set 0 = .ok (.aload_n 0, 1) := by decide +kernel
theorem dX6_set_1 : decode cX6_set 1 = .ok (.getfield 7, 3) := by decide +kernel
theorem dX6_set_4 : decode cX6_set 4 = .ok (.iload_n 1, 1) := by decide +kernel
theorem dX6_set_5 : decode cX6_set 5 = .ok (.iaload, 1) := by decide +kernel
theorem dX6_set_6 : decode cX6_set 6 = .ok (.istore_n 3, 1) := by decide +kernel
theorem dX6_set_7 : decode cX6_set 7 = .ok (.iload_n 3, 1) := by decide +kernel
theorem dX6_set_8 : decode cX6_set 8 = .ok (.iload_n 2, 1) := by decide +kernel
theorem dX6_set_9 : decode cX6_set 9 = .ok (.if_icmp .ne 6, 3) := by decide +kernel
theorem dX6_set_12 : decode cX6_set 12 = .ok (.bipush (-5), 2) := by decide +kernel
theorem dX6_set_14 : decode cX6_set 14 = .ok (.ireturn, 1) := by decide +kernel
theorem dX6_set_15 : decode cX6_set 15 = .ok (.aload_n 0, 1) := by decide +kernel
theorem dX6_set_16 : decode cX6_set 16 = .ok (.invokevirtual 50, 3) := by decide +kernel
theorem dX6_set_19 : decode cX6_set 19 = .ok (.aload_n 0, 1) := by decide +kernel
theorem dX6_set_20 : decode cX6_set 20 = .ok (.getfield 7, 3) := by decide +kernel
theorem dX6_set_23 : decode cX6_set 23 = .ok (.iload_n 1, 1) := by decide +kernel
theorem dX6_set_24 : decode cX6_set 24 = .ok (.iload_n 2, 1) := by decide +kernel
theorem dX6_set_25 : decode cX6_set 25 = .ok (.iastore, 1) := by decide +kernel
theorem dX6_set_26 : decode cX6_set 26 = .ok (.iload_n 3, 1) := by decide +kernel
theorem dX6_set_27 : decode cX6_set 27 = .ok (.ireturn, 1) := by decide +kernel
theorem dX6_setWeight_0 : decode cX6_setWeight 0 = .ok (.aload_n 0, 1) := by decide +kernel
theorem dX6_setWeight_1 : decode cX6_setWeight 1 = .ok (.iload_n 1, 1) := by decide +kernel
theorem dX6_setWeight_2 : decode cX6_setWeight 2 = .ok (.invokevirtual 57, 3) := by decide +kernel
theorem dX6_setWeight_5 : decode cX6_setWeight 5 = .ok (.ifCond .eq 5, 3) := by decide +kernel
theorem dX6_setWeight_8 : decode cX6_setWeight 8 = .ok (.iconst (-1), 1) := by decide +kernel
theorem dX6_setWeight_9 : decode cX6_setWeight 9 = .ok (.ireturn, 1) := by decide +kernel
theorem dX6_setWeight_10 : decode cX6_setWeight 10 = .ok (.iload_n 2, 1) := by decide +kernel
theorem dX6_setWeight_11 : decode cX6_setWeight 11 = .ok (.iconst 0, 1) := by decide +kernel
theorem dX6_setWeight_12 : decode cX6_setWeight 12 = .ok (.bipush 50, 2) := by decide +kernel
theorem dX6_setWeight_14 : decode cX6_setWeight 14 = .ok (.invokestatic 53, 3) := by decide +kernel
theorem dX6_setWeight_17 : decode cX6_setWeight 17 = .ok (.ifCond .eq 15, 3) := by decide +kernel
theorem dX6_setWeight_20 : decode cX6_setWeight 20 = .ok (.aload_n 0, 1) := by decide +kernel
theorem dX6_setWeight_21 : decode cX6_setWeight 21 = .ok (.bipush 29, 2) := by decide +kernel
theorem dX6_setWeight_23 : decode cX6_setWeight 23 = .ok (.iload_n 1, 1) := by decide +kernel
theorem dX6_setWeight_24 : decode cX6_setWeight 24 = .ok (.iadd, 1) := by decide +kernel
theorem dX6_setWeight_25 : decode cX6_setWeight 25 = .ok (.iload_n 2, 1) := by decide +kernel
theorem dX6_setWeight_26 : decode cX6_setWeight 26 = .ok (.invokevirtual 65, 3) := by decide +kernel
theorem dX6_setWeight_29 : decode cX6_setWeight 29 = .ok (.goto 5, 3) := by decide +kernel
theorem dX6_setWeight_32 : decode cX6_setWeight 32 = .ok (.bipush (-2), 2) := by decide +kernel
theorem dX6_setWeight_34 : decode cX6_setWeight 34 = .ok (.ireturn, 1) := by decide +kernel
theorem dX6_withVeto_0 : decode cX6_withVeto 0 = .ok (.iconst 0, 1) := by decide +kernel
theorem dX6_withVeto_1 : decode cX6_withVeto 1 = .ok (.istore_n 1, 1) := by decide +kernel
theorem dX6_withVeto_2 : decode cX6_withVeto 2 = .ok (.iconst 0, 1) := by decide +kernel
theorem dX6_withVeto_3 : decode cX6_withVeto 3 = .ok (.istore_n 2, 1) := by decide +kernel
theorem dX6_withVeto_4 : decode cX6_withVeto 4 = .ok (.iload_n 2, 1) := by decide +kernel
theorem dX6_withVeto_5 : decode cX6_withVeto 5 = .ok (.aload_n 0, 1) := by decide +kernel
theorem dX6_withVeto_6 : decode cX6_withVeto 6 = .ok (.getfield 7, 3) := by decide +kernel
theorem dX6_withVeto_9 : decode cX6_withVeto 9 = .ok (.iconst 0, 1) := by decide +kernel
theorem dX6_withVeto_10 : decode cX6_withVeto 10 = .ok (.iaload, 1) := by decide +kernel
theorem dX6_withVeto_11 : decode cX6_withVeto 11 = .ok (.if_icmp .ge 21, 3) := by decide +kernel
theorem dX6_withVeto_14 : decode cX6_withVeto 14 = .ok (.iload_n 1, 1) := by decide +kernel
theorem dX6_withVeto_15 : decode cX6_withVeto 15 = .ok (.aload_n 0, 1) := by decide +kernel
theorem dX6_withVeto_16 : decode cX6_withVeto 16 = .ok (.getfield 7, 3) := by decide +kernel
theorem dX6_withVeto_19 : decode cX6_withVeto 19 = .ok (.bipush 39, 2) := by decide +kernel
theorem dX6_withVeto_21 : decode cX6_withVeto 21 = .ok (.iload_n 2, 1) := by decide +kernel
theorem dX6_withVeto_22 : decode cX6_withVeto 22 = .ok (.iadd, 1) := by decide +kernel
theorem dX6_withVeto_23 : decode cX6_withVeto 23 = .ok (.iaload, 1) := by decide +kernel
theorem dX6_withVeto_24 : decode cX6_withVeto 24 = .ok (.iadd, 1) := by decide +kernel
theorem dX6_withVeto_25 : decode cX6_withVeto 25 = .ok (.istore_n 1, 1) := by decide +kernel
theorem dX6_withVeto_26 : decode cX6_withVeto 26 = .ok (.iinc 2 1, 3) := by decide +kernel
theorem dX6_withVeto_29 : decode cX6_withVeto 29 = .ok (.goto (-25), 3) := by decide +kernel
theorem dX6_withVeto_32 : decode cX6_withVeto 32 = .ok (.iload_n 1, 1) := by decide +kernel
theorem dX6_withVeto_33 : decode cX6_withVeto 33 = .ok (.ireturn, 1) := by decide +kernel
theorem dX6_setVeto_0 : decode cX6_setVeto 0 = .ok (.aload_n 0, 1) := by decide +kernel
theorem dX6_setVeto_1 : decode cX6_setVeto 1 = .ok (.iload_n 1, 1) := by decide +kernel
theorem dX6_setVeto_2 : decode cX6_setVeto 2 = .ok (.invokevirtual 57, 3) := by decide +kernel
theorem dX6_setVeto_5 : decode cX6_setVeto 5 = .ok (.ifCond .eq 5, 3) := by decide +kernel
theorem dX6_setVeto_8 : decode cX6_setVeto 8 = .ok (.iconst (-1), 1) := by decide +kernel
theorem dX6_setVeto_9 : decode cX6_setVeto 9 = .ok (.ireturn, 1) := by decide +kernel
theorem dX6_setVeto_10 : decode cX6_setVeto 10 = .ok (.iload_n 2, 1) := by decide +kernel
theorem dX6_setVeto_11 : decode cX6_setVeto 11 = .ok (.ifCond .eq 7, 3) := by decide +kernel
theorem dX6_setVeto_14 : decode cX6_setVeto 14 = .ok (.iconst 1, 1) := by decide +kernel
theorem dX6_setVeto_15 : decode cX6_setVeto 15 = .ok (.goto 4, 3) := by decide +kernel
theorem dX6_setVeto_18 : decode cX6_setVeto 18 = .ok (.iconst 0, 1) := by decide +kernel
theorem dX6_setVeto_19 : decode cX6_setVeto 19 = .ok (.istore_n 3, 1) := by decide +kernel
theorem dX6_setVeto_20 : decode cX6_setVeto 20 = .ok (.aload_n 0, 1) := by decide +kernel
theorem dX6_setVeto_21 : decode cX6_setVeto 21 = .ok (.getfield 7, 3) := by decide +kernel
theorem dX6_setVeto_24 : decode cX6_setVeto 24 = .ok (.bipush 39, 2) := by decide +kernel
theorem dX6_setVeto_26 : decode cX6_setVeto 26 = .ok (.iload_n 1, 1) := by decide +kernel
theorem dX6_setVeto_27 : decode cX6_setVeto 27 = .ok (.iadd, 1) := by decide +kernel
theorem dX6_setVeto_28 : decode cX6_setVeto 28 = .ok (.iaload, 1) := by decide +kernel
theorem dX6_setVeto_29 : decode cX6_setVeto 29 = .ok (.iload_n 3, 1) := by decide +kernel
theorem dX6_setVeto_30 : decode cX6_setVeto 30 = .ok (.if_icmp .ne 6, 3) := by decide +kernel
theorem dX6_setVeto_33 : decode cX6_setVeto 33 = .ok (.bipush (-5), 2) := by decide +kernel
theorem dX6_setVeto_35 : decode cX6_setVeto 35 = .ok (.ireturn, 1) := by decide +kernel
theorem dX6_setVeto_36 : decode cX6_setVeto 36 = .ok (.aload_n 0, 1) := by decide +kernel
theorem dX6_setVeto_37 : decode cX6_setVeto 37 = .ok (.invokevirtual 50, 3) := by decide +kernel
theorem dX6_setVeto_40 : decode cX6_setVeto 40 = .ok (.aload_n 0, 1) := by decide +kernel
theorem dX6_setVeto_41 : decode cX6_setVeto 41 = .ok (.getfield 7, 3) := by decide +kernel
theorem dX6_setVeto_44 : decode cX6_setVeto 44 = .ok (.bipush 39, 2) := by decide +kernel
theorem dX6_setVeto_46 : decode cX6_setVeto 46 = .ok (.iload_n 1, 1) := by decide +kernel
theorem dX6_setVeto_47 : decode cX6_setVeto 47 = .ok (.iadd, 1) := by decide +kernel
theorem dX6_setVeto_48 : decode cX6_setVeto 48 = .ok (.iload_n 3, 1) := by decide +kernel
theorem dX6_setVeto_49 : decode cX6_setVeto 49 = .ok (.iastore, 1) := by decide +kernel
theorem dX6_setVeto_50 : decode cX6_setVeto 50 = .ok (.aload_n 0, 1) := by decide +kernel
theorem dX6_setVeto_51 : decode cX6_setVeto 51 = .ok (.invokevirtual 69, 3) := by decide +kernel
theorem dX6_setVeto_54 : decode cX6_setVeto 54 = .ok (.ireturn, 1) := by decide +kernel
theorem dX6_setQuota_0 : decode cX6_setQuota 0 = .ok (.iload_n 1, 1) := by decide +kernel
theorem dX6_setQuota_1 : decode cX6_setQuota 1 = .ok (.iconst 1, 1) := by decide +kernel
theorem dX6_setQuota_2 : decode cX6_setQuota 2 = .ok (.sipush 500, 3) := by decide +kernel
theorem dX6_setQuota_5 : decode cX6_setQuota 5 = .ok (.invokestatic 53, 3) := by decide +kernel
theorem dX6_setQuota_8 : decode cX6_setQuota 8 = .ok (.ifCond .eq 12, 3) := by decide +kernel
theorem dX6_setQuota_11 : decode cX6_setQuota 11 = .ok (.aload_n 0, 1) := by decide +kernel
theorem dX6_setQuota_12 : decode cX6_setQuota 12 = .ok (.iconst 1, 1) := by decide +kernel
theorem dX6_setQuota_13 : decode cX6_setQuota 13 = .ok (.iload_n 1, 1) := by decide +kernel
theorem dX6_setQuota_14 : decode cX6_setQuota 14 = .ok (.invokevirtual 65, 3) := by decide +kernel
theorem dX6_setQuota_17 : decode cX6_setQuota 17 = .ok (.goto 5, 3) := by decide +kernel
theorem dX6_setQuota_20 : decode cX6_setQuota 20 = .ok (.bipush (-2), 2) := by decide +kernel
theorem dX6_setQuota_22 : decode cX6_setQuota 22 = .ok (.ireturn, 1) := by decide +kernel
theorem dX6_size_0 : decode cX6_size 0 = .ok (.iconst 0, 1) := by decide +kernel
theorem dX6_size_1 : decode cX6_size 1 = .ok (.istore_n 2, 1) := by decide +kernel
theorem dX6_size_2 : decode cX6_size 2 = .ok (.iconst 0, 1) := by decide +kernel
theorem dX6_size_3 : decode cX6_size 3 = .ok (.istore_n 3, 1) := by decide +kernel
theorem dX6_size_4 : decode cX6_size 4 = .ok (.iload_n 3, 1) := by decide +kernel
theorem dX6_size_5 : decode cX6_size 5 = .ok (.aload_n 0, 1) := by decide +kernel
theorem dX6_size_6 : decode cX6_size 6 = .ok (.getfield 7, 3) := by decide +kernel
theorem dX6_size_9 : decode cX6_size 9 = .ok (.iconst 0, 1) := by decide +kernel
theorem dX6_size_10 : decode cX6_size 10 = .ok (.iaload, 1) := by decide +kernel
theorem dX6_size_11 : decode cX6_size 11 = .ok (.if_icmp .ge 30, 3) := by decide +kernel
theorem dX6_size_14 : decode cX6_size 14 = .ok (.iload_n 2, 1) := by decide +kernel
theorem dX6_size_15 : decode cX6_size 15 = .ok (.aload_n 0, 1) := by decide +kernel
theorem dX6_size_16 : decode cX6_size 16 = .ok (.getfield 7, 3) := by decide +kernel
theorem dX6_size_19 : decode cX6_size 19 = .ok (.bipush 49, 2) := by decide +kernel
theorem dX6_size_21 : decode cX6_size 21 = .ok (.iload_n 3, 1) := by decide +kernel
theorem dX6_size_22 : decode cX6_size 22 = .ok (.iadd, 1) := by decide +kernel
theorem dX6_size_23 : decode cX6_size 23 = .ok (.iaload, 1) := by decide +kernel
theorem dX6_size_24 : decode cX6_size 24 = .ok (.iload_n 1, 1) := by decide +kernel
theorem dX6_size_25 : decode cX6_size 25 = .ok (.if_icmp .ne 7, 3) := by decide +kernel
theorem dX6_size_28 : decode cX6_size 28 = .ok (.iconst 1, 1) := by decide +kernel
theorem dX6_size_29 : decode cX6_size 29 = .ok (.goto 4, 3) := by decide +kernel
theorem dX6_size_32 : decode cX6_size 32 = .ok (.iconst 0, 1) := by decide +kernel
theorem dX6_size_33 : decode cX6_size 33 = .ok (.iadd, 1) := by decide +kernel
theorem dX6_size_34 : decode cX6_size 34 = .ok (.istore_n 2, 1) := by decide +kernel
theorem dX6_size_35 : decode cX6_size 35 = .ok (.iinc 3 1, 3) := by decide +kernel
theorem dX6_size_38 : decode cX6_size 38 = .ok (.goto (-34), 3) := by decide +kernel
theorem dX6_size_41 : decode cX6_size 41 = .ok (.iload_n 2, 1) := by decide +kernel
theorem dX6_size_42 : decode cX6_size 42 = .ok (.ireturn, 1) := by decide +kernel
theorem dX6_join_0 : decode cX6_join 0 = .ok (.aload_n 0, 1) := by decide +kernel
theorem dX6_join_1 : decode cX6_join 1 = .ok (.iload_n 1, 1) := by decide +kernel
theorem dX6_join_2 : decode cX6_join 2 = .ok (.invokevirtual 57, 3) := by decide +kernel
theorem dX6_join_5 : decode cX6_join 5 = .ok (.ifCond .ne 11, 3) := by decide +kernel
theorem dX6_join_8 : decode cX6_join 8 = .ok (.aload_n 0, 1) := by decide +kernel
theorem dX6_join_9 : decode cX6_join 9 = .ok (.iload_n 2, 1) := by decide +kernel
theorem dX6_join_10 : decode cX6_join 10 = .ok (.invokevirtual 57, 3) := by decide +kernel
theorem dX6_join_13 : decode cX6_join 13 = .ok (.ifCond .eq 5, 3) := by decide +kernel
theorem dX6_join_16 : decode cX6_join 16 = .ok (.iconst (-1), 1) := by decide +kernel
theorem dX6_join_17 : decode cX6_join 17 = .ok (.ireturn, 1) := by decide +kernel
theorem dX6_join_18 : decode cX6_join 18 = .ok (.aload_n 0, 1) := by decide +kernel
theorem dX6_join_19 : decode cX6_join 19 = .ok (.getfield 7, 3) := by decide +kernel
theorem dX6_join_22 : decode cX6_join 22 = .ok (.bipush 49, 2) := by decide +kernel
theorem dX6_join_24 : decode cX6_join 24 = .ok (.iload_n 1, 1) := by decide +kernel
theorem dX6_join_25 : decode cX6_join 25 = .ok (.iadd, 1) := by decide +kernel
theorem dX6_join_26 : decode cX6_join 26 = .ok (.iaload, 1) := by decide +kernel
theorem dX6_join_27 : decode cX6_join 27 = .ok (.istore_n 3, 1) := by decide +kernel
theorem dX6_join_28 : decode cX6_join 28 = .ok (.aload_n 0, 1) := by decide +kernel
theorem dX6_join_29 : decode cX6_join 29 = .ok (.getfield 7, 3) := by decide +kernel
theorem dX6_join_32 : decode cX6_join 32 = .ok (.bipush 49, 2) := by decide +kernel
theorem dX6_join_34 : decode cX6_join 34 = .ok (.iload_n 2, 1) := by decide +kernel
theorem dX6_join_35 : decode cX6_join 35 = .ok (.iadd, 1) := by decide +kernel
theorem dX6_join_36 : decode cX6_join 36 = .ok (.iaload, 1) := by decide +kernel
theorem dX6_join_37 : decode cX6_join 37 = .ok (.istore 4, 2) := by decide +kernel
theorem dX6_join_39 : decode cX6_join 39 = .ok (.iload_n 3, 1) := by decide +kernel
theorem dX6_join_40 : decode cX6_join 40 = .ok (.iload 4, 2) := by decide +kernel
theorem dX6_join_42 : decode cX6_join 42 = .ok (.if_icmp .ne 6, 3) := by decide +kernel
theorem dX6_join_45 : decode cX6_join 45 = .ok (.bipush (-5), 2) := by decide +kernel
theorem dX6_join_47 : decode cX6_join 47 = .ok (.ireturn, 1) := by decide +kernel
theorem dX6_join_48 : decode cX6_join 48 = .ok (.aload_n 0, 1) := by decide +kernel
theorem dX6_join_49 : decode cX6_join 49 = .ok (.invokevirtual 50, 3) := by decide +kernel
theorem dX6_join_52 : decode cX6_join 52 = .ok (.iload_n 3, 1) := by decide +kernel
theorem dX6_join_53 : decode cX6_join 53 = .ok (.iload 4, 2) := by decide +kernel
theorem dX6_join_55 : decode cX6_join 55 = .ok (.if_icmp .ge 7, 3) := by decide +kernel
theorem dX6_join_58 : decode cX6_join 58 = .ok (.iload_n 3, 1) := by decide +kernel
theorem dX6_join_59 : decode cX6_join 59 = .ok (.goto 5, 3) := by decide +kernel
theorem dX6_join_62 : decode cX6_join 62 = .ok (.iload 4, 2) := by decide +kernel
theorem dX6_join_64 : decode cX6_join 64 = .ok (.istore 5, 2) := by decide +kernel
theorem dX6_join_66 : decode cX6_join 66 = .ok (.iconst 0, 1) := by decide +kernel
theorem dX6_join_67 : decode cX6_join 67 = .ok (.istore 6, 2) := by decide +kernel
theorem dX6_join_69 : decode cX6_join 69 = .ok (.iload 6, 2) := by decide +kernel
theorem dX6_join_71 : decode cX6_join 71 = .ok (.aload_n 0, 1) := by decide +kernel
theorem dX6_join_72 : decode cX6_join 72 = .ok (.getfield 7, 3) := by decide +kernel
theorem dX6_join_75 : decode cX6_join 75 = .ok (.iconst 0, 1) := by decide +kernel
theorem dX6_join_76 : decode cX6_join 76 = .ok (.iaload, 1) := by decide +kernel
theorem dX6_join_77 : decode cX6_join 77 = .ok (.if_icmp .ge 63, 3) := by decide +kernel
theorem dX6_join_80 : decode cX6_join 80 = .ok (.aload_n 0, 1) := by decide +kernel
theorem dX6_join_81 : decode cX6_join 81 = .ok (.getfield 7, 3) := by decide +kernel
theorem dX6_join_84 : decode cX6_join 84 = .ok (.bipush 49, 2) := by decide +kernel
theorem dX6_join_86 : decode cX6_join 86 = .ok (.iload 6, 2) := by decide +kernel
theorem dX6_join_88 : decode cX6_join 88 = .ok (.iadd, 1) := by decide +kernel
theorem dX6_join_89 : decode cX6_join 89 = .ok (.aload_n 0, 1) := by decide +kernel
theorem dX6_join_90 : decode cX6_join 90 = .ok (.getfield 7, 3) := by decide +kernel
theorem dX6_join_93 : decode cX6_join 93 = .ok (.bipush 49, 2) := by decide +kernel
theorem dX6_join_95 : decode cX6_join 95 = .ok (.iload 6, 2) := by decide +kernel
theorem dX6_join_97 : decode cX6_join 97 = .ok (.iadd, 1) := by decide +kernel
theorem dX6_join_98 : decode cX6_join 98 = .ok (.iaload, 1) := by decide +kernel
theorem dX6_join_99 : decode cX6_join 99 = .ok (.iload_n 3, 1) := by decide +kernel
theorem dX6_join_100 : decode cX6_join 100 = .ok (.if_icmp .eq 18, 3) := by decide +kernel
theorem dX6_join_103 : decode cX6_join 103 = .ok (.aload_n 0, 1) := by decide +kernel
theorem dX6_join_104 : decode cX6_join 104 = .ok (.getfield 7, 3) := by decide +kernel
theorem dX6_join_107 : decode cX6_join 107 = .ok (.bipush 49, 2) := by decide +kernel
theorem dX6_join_109 : decode cX6_join 109 = .ok (.iload 6, 2) := by decide +kernel
theorem dX6_join_111 : decode cX6_join 111 = .ok (.iadd, 1) := by decide +kernel
theorem dX6_join_112 : decode cX6_join 112 = .ok (.iaload, 1) := by decide +kernel
theorem dX6_join_113 : decode cX6_join 113 = .ok (.iload 4, 2) := by decide +kernel
theorem dX6_join_115 : decode cX6_join 115 = .ok (.if_icmp .ne 8, 3) := by decide +kernel
theorem dX6_join_118 : decode cX6_join 118 = .ok (.iload 5, 2) := by decide +kernel
theorem dX6_join_120 : decode cX6_join 120 = .ok (.goto 13, 3) := by decide +kernel
theorem dX6_join_123 : decode cX6_join 123 = .ok (.aload_n 0, 1) := by decide +kernel
theorem dX6_join_124 : decode cX6_join 124 = .ok (.getfield 7, 3) := by decide +kernel
theorem dX6_join_127 : decode cX6_join 127 = .ok (.bipush 49, 2) := by decide +kernel
theorem dX6_join_129 : decode cX6_join 129 = .ok (.iload 6, 2) := by decide +kernel
theorem dX6_join_131 : decode cX6_join 131 = .ok (.iadd, 1) := by decide +kernel
theorem dX6_join_132 : decode cX6_join 132 = .ok (.iaload, 1) := by decide +kernel
theorem dX6_join_133 : decode cX6_join 133 = .ok (.iastore, 1) := by decide +kernel
theorem dX6_join_134 : decode cX6_join 134 = .ok (.iinc 6 1, 3) := by decide +kernel
theorem dX6_join_137 : decode cX6_join 137 = .ok (.goto (-68), 3) := by decide +kernel
theorem dX6_join_140 : decode cX6_join 140 = .ok (.aload_n 0, 1) := by decide +kernel
theorem dX6_join_141 : decode cX6_join 141 = .ok (.iload 5, 2) := by decide +kernel
theorem dX6_join_143 : decode cX6_join 143 = .ok (.invokevirtual 73, 3) := by decide +kernel
theorem dX6_join_146 : decode cX6_join 146 = .ok (.ireturn, 1) := by decide +kernel
theorem dX6_leave_0 : decode cX6_leave 0 = .ok (.aload_n 0, 1) := by decide +kernel
theorem dX6_leave_1 : decode cX6_leave 1 = .ok (.iload_n 1, 1) := by decide +kernel
theorem dX6_leave_2 : decode cX6_leave 2 = .ok (.invokevirtual 57, 3) := by decide +kernel
theorem dX6_leave_5 : decode cX6_leave 5 = .ok (.ifCond .eq 5, 3) := by decide +kernel
theorem dX6_leave_8 : decode cX6_leave 8 = .ok (.iconst (-1), 1) := by decide +kernel
theorem dX6_leave_9 : decode cX6_leave 9 = .ok (.ireturn, 1) := by decide +kernel
theorem dX6_leave_10 : decode cX6_leave 10 = .ok (.aload_n 0, 1) := by decide +kernel
theorem dX6_leave_11 : decode cX6_leave 11 = .ok (.aload_n 0, 1) := by decide +kernel
theorem dX6_leave_12 : decode cX6_leave 12 = .ok (.getfield 7, 3) := by decide +kernel
theorem dX6_leave_15 : decode cX6_leave 15 = .ok (.bipush 49, 2) := by decide +kernel
theorem dX6_leave_17 : decode cX6_leave 17 = .ok (.iload_n 1, 1) := by decide +kernel
theorem dX6_leave_18 : decode cX6_leave 18 = .ok (.iadd, 1) := by decide +kernel
theorem dX6_leave_19 : decode cX6_leave 19 = .ok (.iaload, 1) := by decide +kernel
theorem dX6_leave_20 : decode cX6_leave 20 = .ok (.invokevirtual 73, 3) := by decide +kernel
theorem dX6_leave_23 : decode cX6_leave 23 = .ok (.iconst 1, 1) := by decide +kernel
theorem dX6_leave_24 : decode cX6_leave 24 = .ok (.isub, 1) := by decide +kernel
theorem dX6_leave_25 : decode cX6_leave 25 = .ok (.istore_n 2, 1) := by decide +kernel
theorem dX6_leave_26 : decode cX6_leave 26 = .ok (.iload_n 2, 1) := by decide +kernel
theorem dX6_leave_27 : decode cX6_leave 27 = .ok (.ifCond .ne 6, 3) := by decide +kernel
theorem dX6_leave_30 : decode cX6_leave 30 = .ok (.bipush (-5), 2) := by decide +kernel
theorem dX6_leave_32 : decode cX6_leave 32 = .ok (.ireturn, 1) := by decide +kernel
theorem dX6_leave_33 : decode cX6_leave 33 = .ok (.aload_n 0, 1) := by decide +kernel
theorem dX6_leave_34 : decode cX6_leave 34 = .ok (.invokevirtual 50, 3) := by decide +kernel
theorem dX6_leave_37 : decode cX6_leave 37 = .ok (.aload_n 0, 1) := by decide +kernel
theorem dX6_leave_38 : decode cX6_leave 38 = .ok (.iload_n 1, 1) := by decide +kernel
theorem dX6_leave_39 : decode cX6_leave 39 = .ok (.invokevirtual 61, 3) := by decide +kernel
theorem dX6_leave_42 : decode cX6_leave 42 = .ok (.iload_n 2, 1) := by decide +kernel
theorem dX6_leave_43 : decode cX6_leave 43 = .ok (.ireturn, 1) := by decide +kernel
theorem dX6_layBlocs_0 : decode cX6_layBlocs 0 = .ok (.aload_n 0, 1) := by decide +kernel
theorem dX6_layBlocs_1 : decode cX6_layBlocs 1 = .ok (.iconst 0, 1) := by decide +kernel
theorem dX6_layBlocs_2 : decode cX6_layBlocs 2 = .ok (.putfield 77, 3) := by decide +kernel
theorem dX6_layBlocs_5 : decode cX6_layBlocs 5 = .ok (.aload_n 0, 1) := by decide +kernel
theorem dX6_layBlocs_6 : decode cX6_layBlocs 6 = .ok (.iconst 0, 1) := by decide +kernel
theorem dX6_layBlocs_7 : decode cX6_layBlocs 7 = .ok (.putfield 80, 3) := by decide +kernel
theorem dX6_layBlocs_10 : decode cX6_layBlocs 10 = .ok (.iconst 0, 1) := by decide +kernel
theorem dX6_layBlocs_11 : decode cX6_layBlocs 11 = .ok (.istore_n 1, 1) := by decide +kernel
theorem dX6_layBlocs_12 : decode cX6_layBlocs 12 = .ok (.iload_n 1, 1) := by decide +kernel
theorem dX6_layBlocs_13 : decode cX6_layBlocs 13 = .ok (.aload_n 0, 1) := by decide +kernel
theorem dX6_layBlocs_14 : decode cX6_layBlocs 14 = .ok (.getfield 7, 3) := by decide +kernel
theorem dX6_layBlocs_17 : decode cX6_layBlocs 17 = .ok (.iconst 0, 1) := by decide +kernel
theorem dX6_layBlocs_18 : decode cX6_layBlocs 18 = .ok (.iaload, 1) := by decide +kernel
theorem dX6_layBlocs_19 : decode cX6_layBlocs 19 = .ok (.if_icmp .ge 127, 3) := by decide +kernel
theorem dX6_layBlocs_22 : decode cX6_layBlocs 22 = .ok (.aload_n 0, 1) := by decide +kernel
theorem dX6_layBlocs_23 : decode cX6_layBlocs 23 = .ok (.getfield 7, 3) := by decide +kernel
theorem dX6_layBlocs_26 : decode cX6_layBlocs 26 = .ok (.bipush 49, 2) := by decide +kernel
theorem dX6_layBlocs_28 : decode cX6_layBlocs 28 = .ok (.iload_n 1, 1) := by decide +kernel
theorem dX6_layBlocs_29 : decode cX6_layBlocs 29 = .ok (.iadd, 1) := by decide +kernel
theorem dX6_layBlocs_30 : decode cX6_layBlocs 30 = .ok (.iaload, 1) := by decide +kernel
theorem dX6_layBlocs_31 : decode cX6_layBlocs 31 = .ok (.iload_n 1, 1) := by decide +kernel
theorem dX6_layBlocs_32 : decode cX6_layBlocs 32 = .ok (.if_icmp .ne 43, 3) := by decide +kernel
theorem dX6_layBlocs_35 : decode cX6_layBlocs 35 = .ok (.aload_n 0, 1) := by decide +kernel
theorem dX6_layBlocs_36 : decode cX6_layBlocs 36 = .ok (.getfield 23, 3) := by decide +kernel
theorem dX6_layBlocs_39 : decode cX6_layBlocs 39 = .ok (.aload_n 0, 1) := by decide +kernel
theorem dX6_layBlocs_40 : decode cX6_layBlocs 40 = .ok (.getfield 77, 3) := by decide +kernel
theorem dX6_layBlocs_43 : decode cX6_layBlocs 43 = .ok (.iload_n 1, 1) := by decide +kernel
theorem dX6_layBlocs_44 : decode cX6_layBlocs 44 = .ok (.iastore, 1) := by decide +kernel
theorem dX6_layBlocs_45 : decode cX6_layBlocs 45 = .ok (.aload_n 0, 1) := by decide +kernel
theorem dX6_layBlocs_46 : decode cX6_layBlocs 46 = .ok (.getfield 26, 3) := by decide +kernel
theorem dX6_layBlocs_49 : decode cX6_layBlocs 49 = .ok (.aload_n 0, 1) := by decide +kernel
theorem dX6_layBlocs_50 : decode cX6_layBlocs 50 = .ok (.getfield 77, 3) := by decide +kernel
theorem dX6_layBlocs_53 : decode cX6_layBlocs 53 = .ok (.iconst 0, 1) := by decide +kernel
theorem dX6_layBlocs_54 : decode cX6_layBlocs 54 = .ok (.iastore, 1) := by decide +kernel
theorem dX6_layBlocs_55 : decode cX6_layBlocs 55 = .ok (.aload_n 0, 1) := by decide +kernel
theorem dX6_layBlocs_56 : decode cX6_layBlocs 56 = .ok (.getfield 29, 3) := by decide +kernel
theorem dX6_layBlocs_59 : decode cX6_layBlocs 59 = .ok (.aload_n 0, 1) := by decide +kernel
theorem dX6_layBlocs_60 : decode cX6_layBlocs 60 = .ok (.getfield 77, 3) := by decide +kernel
theorem dX6_layBlocs_63 : decode cX6_layBlocs 63 = .ok (.iconst 0, 1) := by decide +kernel
theorem dX6_layBlocs_64 : decode cX6_layBlocs 64 = .ok (.iastore, 1) := by decide +kernel
theorem dX6_layBlocs_65 : decode cX6_layBlocs 65 = .ok (.aload_n 0, 1) := by decide +kernel
theorem dX6_layBlocs_66 : decode cX6_layBlocs 66 = .ok (.dup, 1) := by decide +kernel
theorem dX6_layBlocs_67 : decode cX6_layBlocs 67 = .ok (.getfield 77, 3) := by decide +kernel
theorem dX6_layBlocs_70 : decode cX6_layBlocs 70 = .ok (.iconst 1, 1) := by decide +kernel
theorem dX6_layBlocs_71 : decode cX6_layBlocs 71 = .ok (.iadd, 1) := by decide +kernel
theorem dX6_layBlocs_72 : decode cX6_layBlocs 72 = .ok (.putfield 77, 3) := by decide +kernel
theorem dX6_layBlocs_75 : decode cX6_layBlocs 75 = .ok (.aload_n 0, 1) := by decide +kernel
theorem dX6_layBlocs_76 : decode cX6_layBlocs 76 = .ok (.iload_n 1, 1) := by decide +kernel
theorem dX6_layBlocs_77 : decode cX6_layBlocs 77 = .ok (.invokevirtual 83, 3) := by decide +kernel
theorem dX6_layBlocs_80 : decode cX6_layBlocs 80 = .ok (.istore_n 2, 1) := by decide +kernel
theorem dX6_layBlocs_81 : decode cX6_layBlocs 81 = .ok (.aload_n 0, 1) := by decide +kernel
theorem dX6_layBlocs_82 : decode cX6_layBlocs 82 = .ok (.getfield 26, 3) := by decide +kernel
theorem dX6_layBlocs_85 : decode cX6_layBlocs 85 = .ok (.iload_n 2, 1) := by decide +kernel
theorem dX6_layBlocs_86 : decode cX6_layBlocs 86 = .ok (.dup2, 1) := by decide +kernel
theorem dX6_layBlocs_87 : decode cX6_layBlocs 87 = .ok (.iaload, 1) := by decide +kernel
theorem dX6_layBlocs_88 : decode cX6_layBlocs 88 = .ok (.aload_n 0, 1) := by decide +kernel
theorem dX6_layBlocs_89 : decode cX6_layBlocs 89 = .ok (.getfield 7, 3) := by decide +kernel
theorem dX6_layBlocs_92 : decode cX6_layBlocs 92 = .ok (.bipush 29, 2) := by decide +kernel
theorem dX6_layBlocs_94 : decode cX6_layBlocs 94 = .ok (.iload_n 1, 1) := by decide +kernel
theorem dX6_layBlocs_95 : decode cX6_layBlocs 95 = .ok (.iadd, 1) := by decide +kernel
theorem dX6_layBlocs_96 : decode cX6_layBlocs 96 = .ok (.iaload, 1) := by decide +kernel
theorem dX6_layBlocs_97 : decode cX6_layBlocs 97 = .ok (.iadd, 1) := by decide +kernel
theorem dX6_layBlocs_98 : decode cX6_layBlocs 98 = .ok (.iastore, 1) := by decide +kernel
theorem dX6_layBlocs_99 : decode cX6_layBlocs 99 = .ok (.aload_n 0, 1) := by decide +kernel
theorem dX6_layBlocs_100 : decode cX6_layBlocs 100 = .ok (.getfield 29, 3) := by decide +kernel
theorem dX6_layBlocs_103 : decode cX6_layBlocs 103 = .ok (.iload_n 2, 1) := by decide +kernel
theorem dX6_layBlocs_104 : decode cX6_layBlocs 104 = .ok (.dup2, 1) := by decide +kernel
theorem dX6_layBlocs_105 : decode cX6_layBlocs 105 = .ok (.iaload, 1) := by decide +kernel
theorem dX6_layBlocs_106 : decode cX6_layBlocs 106 = .ok (.iconst 1, 1) := by decide +kernel
theorem dX6_layBlocs_107 : decode cX6_layBlocs 107 = .ok (.iload_n 1, 1) := by decide +kernel
theorem dX6_layBlocs_108 : decode cX6_layBlocs 108 = .ok (.ishl, 1) := by decide +kernel
theorem dX6_layBlocs_109 : decode cX6_layBlocs 109 = .ok (.ior, 1) := by decide +kernel
theorem dX6_layBlocs_110 : decode cX6_layBlocs 110 = .ok (.iastore, 1) := by decide +kernel
theorem dX6_layBlocs_111 : decode cX6_layBlocs 111 = .ok (.aload_n 0, 1) := by decide +kernel
theorem dX6_layBlocs_112 : decode cX6_layBlocs 112 = .ok (.dup, 1) := by decide +kernel
theorem dX6_layBlocs_113 : decode cX6_layBlocs 113 = .ok (.getfield 80, 3) := by decide +kernel
theorem dX6_layBlocs_116 : decode cX6_layBlocs 116 = .ok (.aload_n 0, 1) := by decide +kernel
theorem dX6_layBlocs_117 : decode cX6_layBlocs 117 = .ok (.getfield 7, 3) := by decide +kernel
theorem dX6_layBlocs_120 : decode cX6_layBlocs 120 = .ok (.bipush 39, 2) := by decide +kernel
theorem dX6_layBlocs_122 : decode cX6_layBlocs 122 = .ok (.iload_n 1, 1) := by decide +kernel
theorem dX6_layBlocs_123 : decode cX6_layBlocs 123 = .ok (.iadd, 1) := by decide +kernel
theorem dX6_layBlocs_124 : decode cX6_layBlocs 124 = .ok (.iaload, 1) := by decide +kernel
theorem dX6_layBlocs_125 : decode cX6_layBlocs 125 = .ok (.iconst 1, 1) := by decide +kernel
theorem dX6_layBlocs_126 : decode cX6_layBlocs 126 = .ok (.if_icmp .ne 9, 3) := by decide +kernel
theorem dX6_layBlocs_129 : decode cX6_layBlocs 129 = .ok (.iconst 1, 1) := by decide +kernel
theorem dX6_layBlocs_130 : decode cX6_layBlocs 130 = .ok (.iload_n 2, 1) := by decide +kernel
theorem dX6_layBlocs_131 : decode cX6_layBlocs 131 = .ok (.ishl, 1) := by decide +kernel
theorem dX6_layBlocs_132 : decode cX6_layBlocs 132 = .ok (.goto 4, 3) := by decide +kernel
theorem dX6_layBlocs_135 : decode cX6_layBlocs 135 = .ok (.iconst 0, 1) := by decide +kernel
theorem dX6_layBlocs_136 : decode cX6_layBlocs 136 = .ok (.ior, 1) := by decide +kernel
theorem dX6_layBlocs_137 : decode cX6_layBlocs 137 = .ok (.putfield 80, 3) := by decide +kernel
theorem dX6_layBlocs_140 : decode cX6_layBlocs 140 = .ok (.iinc 1 1, 3) := by decide +kernel
theorem dX6_layBlocs_143 : decode cX6_layBlocs 143 = .ok (.goto (-131), 3) := by decide +kernel
theorem dX6_layBlocs_146 : decode cX6_layBlocs 146 = .ok (.return_, 1) := by decide +kernel
theorem dX6_blocOf_0 : decode cX6_blocOf 0 = .ok (.iconst 0, 1) := by decide +kernel
theorem dX6_blocOf_1 : decode cX6_blocOf 1 = .ok (.istore_n 2, 1) := by decide +kernel
theorem dX6_blocOf_2 : decode cX6_blocOf 2 = .ok (.aload_n 0, 1) := by decide +kernel
theorem dX6_blocOf_3 : decode cX6_blocOf 3 = .ok (.getfield 23, 3) := by decide +kernel
theorem dX6_blocOf_6 : decode cX6_blocOf 6 = .ok (.iload_n 2, 1) := by decide +kernel
theorem dX6_blocOf_7 : decode cX6_blocOf 7 = .ok (.iaload, 1) := by decide +kernel
theorem dX6_blocOf_8 : decode cX6_blocOf 8 = .ok (.aload_n 0, 1) := by decide +kernel
theorem dX6_blocOf_9 : decode cX6_blocOf 9 = .ok (.getfield 7, 3) := by decide +kernel
theorem dX6_blocOf_12 : decode cX6_blocOf 12 = .ok (.bipush 49, 2) := by decide +kernel
theorem dX6_blocOf_14 : decode cX6_blocOf 14 = .ok (.iload_n 1, 1) := by decide +kernel
theorem dX6_blocOf_15 : decode cX6_blocOf 15 = .ok (.iadd, 1) := by decide +kernel
theorem dX6_blocOf_16 : decode cX6_blocOf 16 = .ok (.iaload, 1) := by decide +kernel
theorem dX6_blocOf_17 : decode cX6_blocOf 17 = .ok (.if_icmp .eq 9, 3) := by decide +kernel
theorem dX6_blocOf_20 : decode cX6_blocOf 20 = .ok (.iinc 2 1, 3) := by decide +kernel
theorem dX6_blocOf_23 : decode cX6_blocOf 23 = .ok (.goto (-21), 3) := by decide +kernel
theorem dX6_blocOf_26 : decode cX6_blocOf 26 = .ok (.iload_n 2, 1) := by decide +kernel
theorem dX6_blocOf_27 : decode cX6_blocOf 27 = .ok (.ireturn, 1) := by decide +kernel
theorem dX6_weightOf_0 : decode cX6_weightOf 0 = .ok (.iconst 0, 1) := by decide +kernel
theorem dX6_weightOf_1 : decode cX6_weightOf 1 = .ok (.istore_n 2, 1) := by decide +kernel
theorem dX6_weightOf_2 : decode cX6_weightOf 2 = .ok (.iconst 0, 1) := by decide +kernel
theorem dX6_weightOf_3 : decode cX6_weightOf 3 = .ok (.istore_n 3, 1) := by decide +kernel
theorem dX6_weightOf_4 : decode cX6_weightOf 4 = .ok (.iload_n 3, 1) := by decide +kernel
theorem dX6_weightOf_5 : decode cX6_weightOf 5 = .ok (.aload_n 0, 1) := by decide +kernel
theorem dX6_weightOf_6 : decode cX6_weightOf 6 = .ok (.getfield 77, 3) := by decide +kernel
theorem dX6_weightOf_9 : decode cX6_weightOf 9 = .ok (.if_icmp .ge 30, 3) := by decide +kernel
theorem dX6_weightOf_12 : decode cX6_weightOf 12 = .ok (.iload_n 2, 1) := by decide +kernel
theorem dX6_weightOf_13 : decode cX6_weightOf 13 = .ok (.iload_n 1, 1) := by decide +kernel
theorem dX6_weightOf_14 : decode cX6_weightOf 14 = .ok (.iload_n 3, 1) := by decide +kernel
theorem dX6_weightOf_15 : decode cX6_weightOf 15 = .ok (.invokestatic 86, 3) := by decide +kernel
theorem dX6_weightOf_18 : decode cX6_weightOf 18 = .ok (.ifCond .eq 12, 3) := by decide +kernel
theorem dX6_weightOf_21 : decode cX6_weightOf 21 = .ok (.aload_n 0, 1) := by decide +kernel
theorem dX6_weightOf_22 : decode cX6_weightOf 22 = .ok (.getfield 26, 3) := by decide +kernel
theorem dX6_weightOf_25 : decode cX6_weightOf 25 = .ok (.iload_n 3, 1) := by decide +kernel
theorem dX6_weightOf_26 : decode cX6_weightOf 26 = .ok (.iaload, 1) := by decide +kernel
theorem dX6_weightOf_27 : decode cX6_weightOf 27 = .ok (.goto 4, 3) := by decide +kernel
theorem dX6_weightOf_30 : decode cX6_weightOf 30 = .ok (.iconst 0, 1) := by decide +kernel
theorem dX6_weightOf_31 : decode cX6_weightOf 31 = .ok (.iadd, 1) := by decide +kernel
theorem dX6_weightOf_32 : decode cX6_weightOf 32 = .ok (.istore_n 2, 1) := by decide +kernel
theorem dX6_weightOf_33 : decode cX6_weightOf 33 = .ok (.iinc 3 1, 3) := by decide +kernel
theorem dX6_weightOf_36 : decode cX6_weightOf 36 = .ok (.goto (-32), 3) := by decide +kernel
theorem dX6_weightOf_39 : decode cX6_weightOf 39 = .ok (.iload_n 2, 1) := by decide +kernel
theorem dX6_weightOf_40 : decode cX6_weightOf 40 = .ok (.ireturn, 1) := by decide +kernel
theorem dX6_winsWith_0 : decode cX6_winsWith 0 = .ok (.aload_n 0, 1) := by decide +kernel
theorem dX6_winsWith_1 : decode cX6_winsWith 1 = .ok (.iload_n 1, 1) := by decide +kernel
theorem dX6_winsWith_2 : decode cX6_winsWith 2 = .ok (.invokevirtual 90, 3) := by decide +kernel
theorem dX6_winsWith_5 : decode cX6_winsWith 5 = .ok (.iload_n 2, 1) := by decide +kernel
theorem dX6_winsWith_6 : decode cX6_winsWith 6 = .ok (.if_icmp .lt 20, 3) := by decide +kernel
theorem dX6_winsWith_9 : decode cX6_winsWith 9 = .ok (.iload_n 1, 1) := by decide +kernel
theorem dX6_winsWith_10 : decode cX6_winsWith 10 = .ok (.aload_n 0, 1) := by decide +kernel
theorem dX6_winsWith_11 : decode cX6_winsWith 11 = .ok (.getfield 80, 3) := by decide +kernel
theorem dX6_winsWith_14 : decode cX6_winsWith 14 = .ok (.iand, 1) := by decide +kernel
theorem dX6_winsWith_15 : decode cX6_winsWith 15 = .ok (.aload_n 0, 1) := by decide +kernel
theorem dX6_winsWith_16 : decode cX6_winsWith 16 = .ok (.getfield 80, 3) := by decide +kernel
theorem dX6_winsWith_19 : decode cX6_winsWith 19 = .ok (.if_icmp .ne 7, 3) := by decide +kernel
theorem dX6_winsWith_22 : decode cX6_winsWith 22 = .ok (.iconst 1, 1) := by decide +kernel
theorem dX6_winsWith_23 : decode cX6_winsWith 23 = .ok (.goto 4, 3) := by decide +kernel
theorem dX6_winsWith_26 : decode cX6_winsWith 26 = .ok (.iconst 0, 1) := by decide +kernel
theorem dX6_winsWith_27 : decode cX6_winsWith 27 = .ok (.ireturn, 1) := by decide +kernel
theorem dX6_find_0 : decode cX6_find 0 = .ok (.aload_n 0, 1) := by decide +kernel
theorem dX6_find_1 : decode cX6_find 1 = .ok (.invokevirtual 93, 3) := by decide +kernel
theorem dX6_find_4 : decode cX6_find 4 = .ok (.iconst 0, 1) := by decide +kernel
theorem dX6_find_5 : decode cX6_find 5 = .ok (.istore_n 2, 1) := by decide +kernel
theorem dX6_find_6 : decode cX6_find 6 = .ok (.iload_n 2, 1) := by decide +kernel
theorem dX6_find_7 : decode cX6_find 7 = .ok (.iconst 1, 1) := by decide +kernel
theorem dX6_find_8 : decode cX6_find 8 = .ok (.aload_n 0, 1) := by decide +kernel
theorem dX6_find_9 : decode cX6_find 9 = .ok (.getfield 77, 3) := by decide +kernel
theorem dX6_find_12 : decode cX6_find 12 = .ok (.ishl, 1) := by decide +kernel
theorem dX6_find_13 : decode cX6_find 13 = .ok (.if_icmp .ge 21, 3) := by decide +kernel
theorem dX6_find_16 : decode cX6_find 16 = .ok (.aload_n 0, 1) := by decide +kernel
theorem dX6_find_17 : decode cX6_find 17 = .ok (.getfield 32, 3) := by decide +kernel
theorem dX6_find_20 : decode cX6_find 20 = .ok (.iload_n 2, 1) := by decide +kernel
theorem dX6_find_21 : decode cX6_find 21 = .ok (.aload_n 0, 1) := by decide +kernel
theorem dX6_find_22 : decode cX6_find 22 = .ok (.iload_n 2, 1) := by decide +kernel
theorem dX6_find_23 : decode cX6_find 23 = .ok (.iload_n 1, 1) := by decide +kernel
theorem dX6_find_24 : decode cX6_find 24 = .ok (.invokevirtual 96, 3) := by decide +kernel
theorem dX6_find_27 : decode cX6_find 27 = .ok (.bastore, 1) := by decide +kernel
theorem dX6_find_28 : decode cX6_find 28 = .ok (.iinc 2 1, 3) := by decide +kernel
theorem dX6_find_31 : decode cX6_find 31 = .ok (.goto (-25), 3) := by decide +kernel
theorem dX6_find_34 : decode cX6_find 34 = .ok (.aload_n 0, 1) := by decide +kernel
theorem dX6_find_35 : decode cX6_find 35 = .ok (.iconst 0, 1) := by decide +kernel
theorem dX6_find_36 : decode cX6_find 36 = .ok (.putfield 99, 3) := by decide +kernel
theorem dX6_find_39 : decode cX6_find 39 = .ok (.iconst 0, 1) := by decide +kernel
theorem dX6_find_40 : decode cX6_find 40 = .ok (.istore_n 2, 1) := by decide +kernel
theorem dX6_find_41 : decode cX6_find 41 = .ok (.iload_n 2, 1) := by decide +kernel
theorem dX6_find_42 : decode cX6_find 42 = .ok (.aload_n 0, 1) := by decide +kernel
theorem dX6_find_43 : decode cX6_find 43 = .ok (.getfield 77, 3) := by decide +kernel
theorem dX6_find_46 : decode cX6_find 46 = .ok (.if_icmp .ge 93, 3) := by decide +kernel
theorem dX6_find_49 : decode cX6_find 49 = .ok (.aload_n 0, 1) := by decide +kernel
theorem dX6_find_50 : decode cX6_find 50 = .ok (.getfield 36, 3) := by decide +kernel
theorem dX6_find_53 : decode cX6_find 53 = .ok (.iload_n 2, 1) := by decide +kernel
theorem dX6_find_54 : decode cX6_find 54 = .ok (.iconst 0, 1) := by decide +kernel
theorem dX6_find_55 : decode cX6_find 55 = .ok (.iastore, 1) := by decide +kernel
theorem dX6_find_56 : decode cX6_find 56 = .ok (.iconst 0, 1) := by decide +kernel
theorem dX6_find_57 : decode cX6_find 57 = .ok (.istore_n 3, 1) := by decide +kernel
theorem dX6_find_58 : decode cX6_find 58 = .ok (.iload_n 3, 1) := by decide +kernel
theorem dX6_find_59 : decode cX6_find 59 = .ok (.iconst 1, 1) := by decide +kernel
theorem dX6_find_60 : decode cX6_find 60 = .ok (.aload_n 0, 1) := by decide +kernel
theorem dX6_find_61 : decode cX6_find 61 = .ok (.getfield 77, 3) := by decide +kernel
theorem dX6_find_64 : decode cX6_find 64 = .ok (.ishl, 1) := by decide +kernel
theorem dX6_find_65 : decode cX6_find 65 = .ok (.if_icmp .ge 53, 3) := by decide +kernel
theorem dX6_find_68 : decode cX6_find 68 = .ok (.aload_n 0, 1) := by decide +kernel
theorem dX6_find_69 : decode cX6_find 69 = .ok (.getfield 36, 3) := by decide +kernel
theorem dX6_find_72 : decode cX6_find 72 = .ok (.iload_n 2, 1) := by decide +kernel
theorem dX6_find_73 : decode cX6_find 73 = .ok (.dup2, 1) := by decide +kernel
theorem dX6_find_74 : decode cX6_find 74 = .ok (.iaload, 1) := by decide +kernel
theorem dX6_find_75 : decode cX6_find 75 = .ok (.iload_n 3, 1) := by decide +kernel
theorem dX6_find_76 : decode cX6_find 76 = .ok (.iload_n 2, 1) := by decide +kernel
theorem dX6_find_77 : decode cX6_find 77 = .ok (.invokestatic 86, 3) := by decide +kernel
theorem dX6_find_80 : decode cX6_find 80 = .ok (.ifCond .ne 29, 3) := by decide +kernel
theorem dX6_find_83 : decode cX6_find 83 = .ok (.aload_n 0, 1) := by decide +kernel
theorem dX6_find_84 : decode cX6_find 84 = .ok (.getfield 32, 3) := by decide +kernel
theorem dX6_find_87 : decode cX6_find 87 = .ok (.iload_n 3, 1) := by decide +kernel
theorem dX6_find_88 : decode cX6_find 88 = .ok (.baload, 1) := by decide +kernel
theorem dX6_find_89 : decode cX6_find 89 = .ok (.ifCond .ne 20, 3) := by decide +kernel
theorem dX6_find_92 : decode cX6_find 92 = .ok (.aload_n 0, 1) := by decide +kernel
theorem dX6_find_93 : decode cX6_find 93 = .ok (.getfield 32, 3) := by decide +kernel
theorem dX6_find_96 : decode cX6_find 96 = .ok (.iload_n 3, 1) := by decide +kernel
theorem dX6_find_97 : decode cX6_find 97 = .ok (.iconst 1, 1) := by decide +kernel
theorem dX6_find_98 : decode cX6_find 98 = .ok (.iload_n 2, 1) := by decide +kernel
theorem dX6_find_99 : decode cX6_find 99 = .ok (.ishl, 1) := by decide +kernel
theorem dX6_find_100 : decode cX6_find 100 = .ok (.ior, 1) := by decide +kernel
theorem dX6_find_101 : decode cX6_find 101 = .ok (.baload, 1) := by decide +kernel
theorem dX6_find_102 : decode cX6_find 102 = .ok (.ifCond .eq 7, 3) := by decide +kernel
theorem dX6_find_105 : decode cX6_find 105 = .ok (.iconst 1, 1) := by decide +kernel
theorem dX6_find_106 : decode cX6_find 106 = .ok (.goto 4, 3) := by decide +kernel
theorem dX6_find_109 : decode cX6_find 109 = .ok (.iconst 0, 1) := by decide +kernel
theorem dX6_find_110 : decode cX6_find 110 = .ok (.iadd, 1) := by decide +kernel
theorem dX6_find_111 : decode cX6_find 111 = .ok (.iastore, 1) := by decide +kernel
theorem dX6_find_112 : decode cX6_find 112 = .ok (.iinc 3 1, 3) := by decide +kernel
theorem dX6_find_115 : decode cX6_find 115 = .ok (.goto (-57), 3) := by decide +kernel
theorem dX6_find_118 : decode cX6_find 118 = .ok (.aload_n 0, 1) := by decide +kernel
theorem dX6_find_119 : decode cX6_find 119 = .ok (.dup, 1) := by decide +kernel
theorem dX6_find_120 : decode cX6_find 120 = .ok (.getfield 99, 3) := by decide +kernel
theorem dX6_find_123 : decode cX6_find 123 = .ok (.aload_n 0, 1) := by decide +kernel
theorem dX6_find_124 : decode cX6_find 124 = .ok (.getfield 36, 3) := by decide +kernel
theorem dX6_find_127 : decode cX6_find 127 = .ok (.iload_n 2, 1) := by decide +kernel
theorem dX6_find_128 : decode cX6_find 128 = .ok (.iaload, 1) := by decide +kernel
theorem dX6_find_129 : decode cX6_find 129 = .ok (.iadd, 1) := by decide +kernel
theorem dX6_find_130 : decode cX6_find 130 = .ok (.putfield 99, 3) := by decide +kernel
theorem dX6_find_133 : decode cX6_find 133 = .ok (.iinc 2 1, 3) := by decide +kernel
theorem dX6_find_136 : decode cX6_find 136 = .ok (.goto (-95), 3) := by decide +kernel
theorem dX6_find_139 : decode cX6_find 139 = .ok (.return_, 1) := by decide +kernel
theorem dX6_findNow_0 : decode cX6_findNow 0 = .ok (.aload_n 0, 1) := by decide +kernel
theorem dX6_findNow_1 : decode cX6_findNow 1 = .ok (.aload_n 0, 1) := by decide +kernel
theorem dX6_findNow_2 : decode cX6_findNow 2 = .ok (.getfield 7, 3) := by decide +kernel
theorem dX6_findNow_5 : decode cX6_findNow 5 = .ok (.iconst 1, 1) := by decide +kernel
theorem dX6_findNow_6 : decode cX6_findNow 6 = .ok (.iaload, 1) := by decide +kernel
theorem dX6_findNow_7 : decode cX6_findNow 7 = .ok (.invokevirtual 102, 3) := by decide +kernel
theorem dX6_findNow_10 : decode cX6_findNow 10 = .ok (.return_, 1) := by decide +kernel
theorem dX6_winning_0 : decode cX6_winning 0 = .ok (.iconst 0, 1) := by decide +kernel
theorem dX6_winning_1 : decode cX6_winning 1 = .ok (.istore_n 1, 1) := by decide +kernel
theorem dX6_winning_2 : decode cX6_winning 2 = .ok (.iconst 0, 1) := by decide +kernel
theorem dX6_winning_3 : decode cX6_winning 3 = .ok (.istore_n 2, 1) := by decide +kernel
theorem dX6_winning_4 : decode cX6_winning 4 = .ok (.iload_n 2, 1) := by decide +kernel
theorem dX6_winning_5 : decode cX6_winning 5 = .ok (.iconst 1, 1) := by decide +kernel
theorem dX6_winning_6 : decode cX6_winning 6 = .ok (.aload_n 0, 1) := by decide +kernel
theorem dX6_winning_7 : decode cX6_winning 7 = .ok (.getfield 77, 3) := by decide +kernel
theorem dX6_winning_10 : decode cX6_winning 10 = .ok (.ishl, 1) := by decide +kernel
theorem dX6_winning_11 : decode cX6_winning 11 = .ok (.if_icmp .ge 26, 3) := by decide +kernel
theorem dX6_winning_14 : decode cX6_winning 14 = .ok (.iload_n 1, 1) := by decide +kernel
theorem dX6_winning_15 : decode cX6_winning 15 = .ok (.aload_n 0, 1) := by decide +kernel
theorem dX6_winning_16 : decode cX6_winning 16 = .ok (.getfield 32, 3) := by decide +kernel
theorem dX6_winning_19 : decode cX6_winning 19 = .ok (.iload_n 2, 1) := by decide +kernel
theorem dX6_winning_20 : decode cX6_winning 20 = .ok (.baload, 1) := by decide +kernel
theorem dX6_winning_21 : decode cX6_winning 21 = .ok (.ifCond .eq 7, 3) := by decide +kernel
theorem dX6_winning_24 : decode cX6_winning 24 = .ok (.iconst 1, 1) := by decide +kernel
theorem dX6_winning_25 : decode cX6_winning 25 = .ok (.goto 4, 3) := by decide +kernel
theorem dX6_winning_28 : decode cX6_winning 28 = .ok (.iconst 0, 1) := by decide +kernel
theorem dX6_winning_29 : decode cX6_winning 29 = .ok (.iadd, 1) := by decide +kernel
theorem dX6_winning_30 : decode cX6_winning 30 = .ok (.istore_n 1, 1) := by decide +kernel
theorem dX6_winning_31 : decode cX6_winning 31 = .ok (.iinc 2 1, 3) := by decide +kernel
theorem dX6_winning_34 : decode cX6_winning 34 = .ok (.goto (-30), 3) := by decide +kernel
theorem dX6_winning_37 : decode cX6_winning 37 = .ok (.iload_n 1, 1) := by decide +kernel
theorem dX6_winning_38 : decode cX6_winning 38 = .ok (.ireturn, 1) := by decide +kernel
theorem dX6_factorial_0 : decode cX6_factorial 0 = .ok (.iconst 1, 1) := by decide +kernel
theorem dX6_factorial_1 : decode cX6_factorial 1 = .ok (.istore_n 1, 1) := by decide +kernel
theorem dX6_factorial_2 : decode cX6_factorial 2 = .ok (.iconst 2, 1) := by decide +kernel
theorem dX6_factorial_3 : decode cX6_factorial 3 = .ok (.istore_n 2, 1) := by decide +kernel
theorem dX6_factorial_4 : decode cX6_factorial 4 = .ok (.iload_n 2, 1) := by decide +kernel
theorem dX6_factorial_5 : decode cX6_factorial 5 = .ok (.iload_n 0, 1) := by decide +kernel
theorem dX6_factorial_6 : decode cX6_factorial 6 = .ok (.if_icmp .gt 13, 3) := by decide +kernel
theorem dX6_factorial_9 : decode cX6_factorial 9 = .ok (.iload_n 1, 1) := by decide +kernel
theorem dX6_factorial_10 : decode cX6_factorial 10 = .ok (.iload_n 2, 1) := by decide +kernel
theorem dX6_factorial_11 : decode cX6_factorial 11 = .ok (.imul, 1) := by decide +kernel
theorem dX6_factorial_12 : decode cX6_factorial 12 = .ok (.istore_n 1, 1) := by decide +kernel
theorem dX6_factorial_13 : decode cX6_factorial 13 = .ok (.iinc 2 1, 3) := by decide +kernel
theorem dX6_factorial_16 : decode cX6_factorial 16 = .ok (.goto (-12), 3) := by decide +kernel
theorem dX6_factorial_19 : decode cX6_factorial 19 = .ok (.iload_n 1, 1) := by decide +kernel
theorem dX6_factorial_20 : decode cX6_factorial 20 = .ok (.ireturn, 1) := by decide +kernel
theorem dX6_orders_0 : decode cX6_orders 0 = .ok (.iconst 0, 1) := by decide +kernel
theorem dX6_orders_1 : decode cX6_orders 1 = .ok (.istore_n 2, 1) := by decide +kernel
theorem dX6_orders_2 : decode cX6_orders 2 = .ok (.iconst 0, 1) := by decide +kernel
theorem dX6_orders_3 : decode cX6_orders 3 = .ok (.istore_n 3, 1) := by decide +kernel
theorem dX6_orders_4 : decode cX6_orders 4 = .ok (.iload_n 3, 1) := by decide +kernel
theorem dX6_orders_5 : decode cX6_orders 5 = .ok (.iconst 1, 1) := by decide +kernel
theorem dX6_orders_6 : decode cX6_orders 6 = .ok (.aload_n 0, 1) := by decide +kernel
theorem dX6_orders_7 : decode cX6_orders 7 = .ok (.getfield 77, 3) := by decide +kernel
theorem dX6_orders_10 : decode cX6_orders 10 = .ok (.ishl, 1) := by decide +kernel
theorem dX6_orders_11 : decode cX6_orders 11 = .ok (.if_icmp .ge 64, 3) := by decide +kernel
theorem dX6_orders_14 : decode cX6_orders 14 = .ok (.iload_n 3, 1) := by decide +kernel
theorem dX6_orders_15 : decode cX6_orders 15 = .ok (.iload_n 1, 1) := by decide +kernel
theorem dX6_orders_16 : decode cX6_orders 16 = .ok (.invokestatic 86, 3) := by decide +kernel
theorem dX6_orders_19 : decode cX6_orders 19 = .ok (.ifCond .ne 50, 3) := by decide +kernel
theorem dX6_orders_22 : decode cX6_orders 22 = .ok (.aload_n 0, 1) := by decide +kernel
theorem dX6_orders_23 : decode cX6_orders 23 = .ok (.getfield 32, 3) := by decide +kernel
theorem dX6_orders_26 : decode cX6_orders 26 = .ok (.iload_n 3, 1) := by decide +kernel
theorem dX6_orders_27 : decode cX6_orders 27 = .ok (.baload, 1) := by decide +kernel
theorem dX6_orders_28 : decode cX6_orders 28 = .ok (.ifCond .ne 41, 3) := by decide +kernel
theorem dX6_orders_31 : decode cX6_orders 31 = .ok (.aload_n 0, 1) := by decide +kernel
theorem dX6_orders_32 : decode cX6_orders 32 = .ok (.getfield 32, 3) := by decide +kernel
theorem dX6_orders_35 : decode cX6_orders 35 = .ok (.iload_n 3, 1) := by decide +kernel
theorem dX6_orders_36 : decode cX6_orders 36 = .ok (.iconst 1, 1) := by decide +kernel
theorem dX6_orders_37 : decode cX6_orders 37 = .ok (.iload_n 1, 1) := by decide +kernel
theorem dX6_orders_38 : decode cX6_orders 38 = .ok (.ishl, 1) := by decide +kernel
theorem dX6_orders_39 : decode cX6_orders 39 = .ok (.ior, 1) := by decide +kernel
theorem dX6_orders_40 : decode cX6_orders 40 = .ok (.baload, 1) := by decide +kernel
theorem dX6_orders_41 : decode cX6_orders 41 = .ok (.ifCond .eq 28, 3) := by decide +kernel
theorem dX6_orders_44 : decode cX6_orders 44 = .ok (.iload_n 2, 1) := by decide +kernel
theorem dX6_orders_45 : decode cX6_orders 45 = .ok (.iload_n 3, 1) := by decide +kernel
theorem dX6_orders_46 : decode cX6_orders 46 = .ok (.invokestatic 105, 3) := by decide +kernel
theorem dX6_orders_49 : decode cX6_orders 49 = .ok (.invokestatic 108, 3) := by decide +kernel
theorem dX6_orders_52 : decode cX6_orders 52 = .ok (.aload_n 0, 1) := by decide +kernel
theorem dX6_orders_53 : decode cX6_orders 53 = .ok (.getfield 77, 3) := by decide +kernel
theorem dX6_orders_56 : decode cX6_orders 56 = .ok (.iconst 1, 1) := by decide +kernel
theorem dX6_orders_57 : decode cX6_orders 57 = .ok (.isub, 1) := by decide +kernel
theorem dX6_orders_58 : decode cX6_orders 58 = .ok (.iload_n 3, 1) := by decide +kernel
theorem dX6_orders_59 : decode cX6_orders 59 = .ok (.invokestatic 105, 3) := by decide +kernel
theorem dX6_orders_62 : decode cX6_orders 62 = .ok (.isub, 1) := by decide +kernel
theorem dX6_orders_63 : decode cX6_orders 63 = .ok (.invokestatic 108, 3) := by decide +kernel
theorem dX6_orders_66 : decode cX6_orders 66 = .ok (.imul, 1) := by decide +kernel
theorem dX6_orders_67 : decode cX6_orders 67 = .ok (.iadd, 1) := by decide +kernel
theorem dX6_orders_68 : decode cX6_orders 68 = .ok (.istore_n 2, 1) := by decide +kernel
theorem dX6_orders_69 : decode cX6_orders 69 = .ok (.iinc 3 1, 3) := by decide +kernel
theorem dX6_orders_72 : decode cX6_orders 72 = .ok (.goto (-68), 3) := by decide +kernel
theorem dX6_orders_75 : decode cX6_orders 75 = .ok (.iload_n 2, 1) := by decide +kernel
theorem dX6_orders_76 : decode cX6_orders 76 = .ok (.ireturn, 1) := by decide +kernel
theorem dX6_isBlocker_0 : decode cX6_isBlocker 0 = .ok (.iconst 1, 1) := by decide +kernel
theorem dX6_isBlocker_1 : decode cX6_isBlocker 1 = .ok (.aload_n 0, 1) := by decide +kernel
theorem dX6_isBlocker_2 : decode cX6_isBlocker 2 = .ok (.getfield 77, 3) := by decide +kernel
theorem dX6_isBlocker_5 : decode cX6_isBlocker 5 = .ok (.ishl, 1) := by decide +kernel
theorem dX6_isBlocker_6 : decode cX6_isBlocker 6 = .ok (.iconst 1, 1) := by decide +kernel
theorem dX6_isBlocker_7 : decode cX6_isBlocker 7 = .ok (.isub, 1) := by decide +kernel
theorem dX6_isBlocker_8 : decode cX6_isBlocker 8 = .ok (.istore_n 2, 1) := by decide +kernel
theorem dX6_isBlocker_9 : decode cX6_isBlocker 9 = .ok (.aload_n 0, 1) := by decide +kernel
theorem dX6_isBlocker_10 : decode cX6_isBlocker 10 = .ok (.getfield 32, 3) := by decide +kernel
theorem dX6_isBlocker_13 : decode cX6_isBlocker 13 = .ok (.iload_n 2, 1) := by decide +kernel
theorem dX6_isBlocker_14 : decode cX6_isBlocker 14 = .ok (.baload, 1) := by decide +kernel
theorem dX6_isBlocker_15 : decode cX6_isBlocker 15 = .ok (.ifCond .eq 22, 3) := by decide +kernel
theorem dX6_isBlocker_18 : decode cX6_isBlocker 18 = .ok (.aload_n 0, 1) := by decide +kernel
theorem dX6_isBlocker_19 : decode cX6_isBlocker 19 = .ok (.getfield 32, 3) := by decide +kernel
theorem dX6_isBlocker_22 : decode cX6_isBlocker 22 = .ok (.iload_n 2, 1) := by decide +kernel
theorem dX6_isBlocker_23 : decode cX6_isBlocker 23 = .ok (.iconst 1, 1) := by decide +kernel
theorem dX6_isBlocker_24 : decode cX6_isBlocker 24 = .ok (.iload_n 1, 1) := by decide +kernel
theorem dX6_isBlocker_25 : decode cX6_isBlocker 25 = .ok (.ishl, 1) := by decide +kernel
theorem dX6_isBlocker_26 : decode cX6_isBlocker 26 = .ok (.iconst (-1), 1) := by decide +kernel
theorem dX6_isBlocker_27 : decode cX6_isBlocker 27 = .ok (.ixor, 1) := by decide +kernel
theorem dX6_isBlocker_28 : decode cX6_isBlocker 28 = .ok (.iand, 1) := by decide +kernel
theorem dX6_isBlocker_29 : decode cX6_isBlocker 29 = .ok (.baload, 1) := by decide +kernel
theorem dX6_isBlocker_30 : decode cX6_isBlocker 30 = .ok (.ifCond .ne 7, 3) := by decide +kernel
theorem dX6_isBlocker_33 : decode cX6_isBlocker 33 = .ok (.iconst 1, 1) := by decide +kernel
theorem dX6_isBlocker_34 : decode cX6_isBlocker 34 = .ok (.goto 4, 3) := by decide +kernel
theorem dX6_isBlocker_37 : decode cX6_isBlocker 37 = .ok (.iconst 0, 1) := by decide +kernel
theorem dX6_isBlocker_38 : decode cX6_isBlocker 38 = .ok (.ireturn, 1) := by decide +kernel
theorem dX6_isDictator_0 : decode cX6_isDictator 0 = .ok (.aload_n 0, 1) := by decide +kernel
theorem dX6_isDictator_1 : decode cX6_isDictator 1 = .ok (.getfield 32, 3) := by decide +kernel
theorem dX6_isDictator_4 : decode cX6_isDictator 4 = .ok (.iconst 1, 1) := by decide +kernel
theorem dX6_isDictator_5 : decode cX6_isDictator 5 = .ok (.iload_n 1, 1) := by decide +kernel
theorem dX6_isDictator_6 : decode cX6_isDictator 6 = .ok (.ishl, 1) := by decide +kernel
theorem dX6_isDictator_7 : decode cX6_isDictator 7 = .ok (.baload, 1) := by decide +kernel
theorem dX6_isDictator_8 : decode cX6_isDictator 8 = .ok (.istore_n 2, 1) := by decide +kernel
theorem dX6_isDictator_9 : decode cX6_isDictator 9 = .ok (.iconst 0, 1) := by decide +kernel
theorem dX6_isDictator_10 : decode cX6_isDictator 10 = .ok (.istore_n 3, 1) := by decide +kernel
theorem dX6_isDictator_11 : decode cX6_isDictator 11 = .ok (.iload_n 3, 1) := by decide +kernel
theorem dX6_isDictator_12 : decode cX6_isDictator 12 = .ok (.aload_n 0, 1) := by decide +kernel
theorem dX6_isDictator_13 : decode cX6_isDictator 13 = .ok (.getfield 77, 3) := by decide +kernel
theorem dX6_isDictator_16 : decode cX6_isDictator 16 = .ok (.if_icmp .ge 33, 3) := by decide +kernel
theorem dX6_isDictator_19 : decode cX6_isDictator 19 = .ok (.iload_n 2, 1) := by decide +kernel
theorem dX6_isDictator_20 : decode cX6_isDictator 20 = .ok (.ifCond .eq 21, 3) := by decide +kernel
theorem dX6_isDictator_23 : decode cX6_isDictator 23 = .ok (.iload_n 3, 1) := by decide +kernel
theorem dX6_isDictator_24 : decode cX6_isDictator 24 = .ok (.iload_n 1, 1) := by decide +kernel
theorem dX6_isDictator_25 : decode cX6_isDictator 25 = .ok (.if_icmp .eq 12, 3) := by decide +kernel
theorem dX6_isDictator_28 : decode cX6_isDictator 28 = .ok (.aload_n 0, 1) := by decide +kernel
theorem dX6_isDictator_29 : decode cX6_isDictator 29 = .ok (.getfield 36, 3) := by decide +kernel
theorem dX6_isDictator_32 : decode cX6_isDictator 32 = .ok (.iload_n 3, 1) := by decide +kernel
theorem dX6_isDictator_33 : decode cX6_isDictator 33 = .ok (.iaload, 1) := by decide +kernel
theorem dX6_isDictator_34 : decode cX6_isDictator 34 = .ok (.ifCond .ne 7, 3) := by decide +kernel
theorem dX6_isDictator_37 : decode cX6_isDictator 37 = .ok (.iconst 1, 1) := by decide +kernel
theorem dX6_isDictator_38 : decode cX6_isDictator 38 = .ok (.goto 4, 3) := by decide +kernel
theorem dX6_isDictator_41 : decode cX6_isDictator 41 = .ok (.iconst 0, 1) := by decide +kernel
theorem dX6_isDictator_42 : decode cX6_isDictator 42 = .ok (.istore_n 2, 1) := by decide +kernel
theorem dX6_isDictator_43 : decode cX6_isDictator 43 = .ok (.iinc 3 1, 3) := by decide +kernel
theorem dX6_isDictator_46 : decode cX6_isDictator 46 = .ok (.goto (-35), 3) := by decide +kernel
theorem dX6_isDictator_49 : decode cX6_isDictator 49 = .ok (.iload_n 2, 1) := by decide +kernel
theorem dX6_isDictator_50 : decode cX6_isDictator 50 = .ok (.ireturn, 1) := by decide +kernel
theorem dX6_membersOf_0 : decode cX6_membersOf 0 = .ok (.iconst 0, 1) := by decide +kernel
theorem dX6_membersOf_1 : decode cX6_membersOf 1 = .ok (.istore_n 2, 1) := by decide +kernel
theorem dX6_membersOf_2 : decode cX6_membersOf 2 = .ok (.iconst 0, 1) := by decide +kernel
theorem dX6_membersOf_3 : decode cX6_membersOf 3 = .ok (.istore_n 3, 1) := by decide +kernel
theorem dX6_membersOf_4 : decode cX6_membersOf 4 = .ok (.iload_n 3, 1) := by decide +kernel
theorem dX6_membersOf_5 : decode cX6_membersOf 5 = .ok (.aload_n 0, 1) := by decide +kernel
theorem dX6_membersOf_6 : decode cX6_membersOf 6 = .ok (.getfield 77, 3) := by decide +kernel
theorem dX6_membersOf_9 : decode cX6_membersOf 9 = .ok (.if_icmp .ge 30, 3) := by decide +kernel
theorem dX6_membersOf_12 : decode cX6_membersOf 12 = .ok (.iload_n 2, 1) := by decide +kernel
theorem dX6_membersOf_13 : decode cX6_membersOf 13 = .ok (.iload_n 1, 1) := by decide +kernel
theorem dX6_membersOf_14 : decode cX6_membersOf 14 = .ok (.iload_n 3, 1) := by decide +kernel
theorem dX6_membersOf_15 : decode cX6_membersOf 15 = .ok (.invokestatic 86, 3) := by decide +kernel
theorem dX6_membersOf_18 : decode cX6_membersOf 18 = .ok (.ifCond .eq 12, 3) := by decide +kernel
theorem dX6_membersOf_21 : decode cX6_membersOf 21 = .ok (.aload_n 0, 1) := by decide +kernel
theorem dX6_membersOf_22 : decode cX6_membersOf 22 = .ok (.getfield 29, 3) := by decide +kernel
theorem dX6_membersOf_25 : decode cX6_membersOf 25 = .ok (.iload_n 3, 1) := by decide +kernel
theorem dX6_membersOf_26 : decode cX6_membersOf 26 = .ok (.iaload, 1) := by decide +kernel
theorem dX6_membersOf_27 : decode cX6_membersOf 27 = .ok (.goto 4, 3) := by decide +kernel
theorem dX6_membersOf_30 : decode cX6_membersOf 30 = .ok (.iconst 0, 1) := by decide +kernel
theorem dX6_membersOf_31 : decode cX6_membersOf 31 = .ok (.ior, 1) := by decide +kernel
theorem dX6_membersOf_32 : decode cX6_membersOf 32 = .ok (.istore_n 2, 1) := by decide +kernel
theorem dX6_membersOf_33 : decode cX6_membersOf 33 = .ok (.iinc 3 1, 3) := by decide +kernel
theorem dX6_membersOf_36 : decode cX6_membersOf 36 = .ok (.goto (-32), 3) := by decide +kernel
theorem dX6_membersOf_39 : decode cX6_membersOf 39 = .ok (.iload_n 2, 1) := by decide +kernel
theorem dX6_membersOf_40 : decode cX6_membersOf 40 = .ok (.ireturn, 1) := by decide +kernel
theorem dX6_isLeast_0 : decode cX6_isLeast 0 = .ok (.aload_n 0, 1) := by decide +kernel
theorem dX6_isLeast_1 : decode cX6_isLeast 1 = .ok (.getfield 32, 3) := by decide +kernel
theorem dX6_isLeast_4 : decode cX6_isLeast 4 = .ok (.iload_n 1, 1) := by decide +kernel
theorem dX6_isLeast_5 : decode cX6_isLeast 5 = .ok (.baload, 1) := by decide +kernel
theorem dX6_isLeast_6 : decode cX6_isLeast 6 = .ok (.istore_n 2, 1) := by decide +kernel
theorem dX6_isLeast_7 : decode cX6_isLeast 7 = .ok (.iconst 0, 1) := by decide +kernel
theorem dX6_isLeast_8 : decode cX6_isLeast 8 = .ok (.istore_n 3, 1) := by decide +kernel
theorem dX6_isLeast_9 : decode cX6_isLeast 9 = .ok (.iload_n 3, 1) := by decide +kernel
theorem dX6_isLeast_10 : decode cX6_isLeast 10 = .ok (.aload_n 0, 1) := by decide +kernel
theorem dX6_isLeast_11 : decode cX6_isLeast 11 = .ok (.getfield 77, 3) := by decide +kernel
theorem dX6_isLeast_14 : decode cX6_isLeast 14 = .ok (.if_icmp .ge 42, 3) := by decide +kernel
theorem dX6_isLeast_17 : decode cX6_isLeast 17 = .ok (.iload_n 2, 1) := by decide +kernel
theorem dX6_isLeast_18 : decode cX6_isLeast 18 = .ok (.ifCond .eq 30, 3) := by decide +kernel
theorem dX6_isLeast_21 : decode cX6_isLeast 21 = .ok (.iload_n 1, 1) := by decide +kernel
theorem dX6_isLeast_22 : decode cX6_isLeast 22 = .ok (.iload_n 3, 1) := by decide +kernel
theorem dX6_isLeast_23 : decode cX6_isLeast 23 = .ok (.invokestatic 86, 3) := by decide +kernel
theorem dX6_isLeast_26 : decode cX6_isLeast 26 = .ok (.ifCond .eq 18, 3) := by decide +kernel
theorem dX6_isLeast_29 : decode cX6_isLeast 29 = .ok (.aload_n 0, 1) := by decide +kernel
theorem dX6_isLeast_30 : decode cX6_isLeast 30 = .ok (.getfield 32, 3) := by decide +kernel
theorem dX6_isLeast_33 : decode cX6_isLeast 33 = .ok (.iload_n 1, 1) := by decide +kernel
theorem dX6_isLeast_34 : decode cX6_isLeast 34 = .ok (.iconst 1, 1) := by decide +kernel
theorem dX6_isLeast_35 : decode cX6_isLeast 35 = .ok (.iload_n 3, 1) := by decide +kernel
theorem dX6_isLeast_36 : decode cX6_isLeast 36 = .ok (.ishl, 1) := by decide +kernel
theorem dX6_isLeast_37 : decode cX6_isLeast 37 = .ok (.iconst (-1), 1) := by decide +kernel
theorem dX6_isLeast_38 : decode cX6_isLeast 38 = .ok (.ixor, 1) := by decide +kernel
theorem dX6_isLeast_39 : decode cX6_isLeast 39 = .ok (.iand, 1) := by decide +kernel
theorem dX6_isLeast_40 : decode cX6_isLeast 40 = .ok (.baload, 1) := by decide +kernel
theorem dX6_isLeast_41 : decode cX6_isLeast 41 = .ok (.ifCond .ne 7, 3) := by decide +kernel
theorem dX6_isLeast_44 : decode cX6_isLeast 44 = .ok (.iconst 1, 1) := by decide +kernel
theorem dX6_isLeast_45 : decode cX6_isLeast 45 = .ok (.goto 4, 3) := by decide +kernel
theorem dX6_isLeast_48 : decode cX6_isLeast 48 = .ok (.iconst 0, 1) := by decide +kernel
theorem dX6_isLeast_49 : decode cX6_isLeast 49 = .ok (.istore_n 2, 1) := by decide +kernel
theorem dX6_isLeast_50 : decode cX6_isLeast 50 = .ok (.iinc 3 1, 3) := by decide +kernel
theorem dX6_isLeast_53 : decode cX6_isLeast 53 = .ok (.goto (-44), 3) := by decide +kernel
theorem dX6_isLeast_56 : decode cX6_isLeast 56 = .ok (.iload_n 2, 1) := by decide +kernel
theorem dX6_isLeast_57 : decode cX6_isLeast 57 = .ok (.ireturn, 1) := by decide +kernel
theorem dX6_isAhead_0 : decode cX6_isAhead 0 = .ok (.iload_n 1, 1) := by decide +kernel
theorem dX6_isAhead_1 : decode cX6_isAhead 1 = .ok (.invokestatic 105, 3) := by decide +kernel
theorem dX6_isAhead_4 : decode cX6_isAhead 4 = .ok (.iload_n 2, 1) := by decide +kernel
theorem dX6_isAhead_5 : decode cX6_isAhead 5 = .ok (.invokestatic 105, 3) := by decide +kernel
theorem dX6_isAhead_8 : decode cX6_isAhead 8 = .ok (.if_icmp .eq 20, 3) := by decide +kernel
theorem dX6_isAhead_11 : decode cX6_isAhead 11 = .ok (.iload_n 1, 1) := by decide +kernel
theorem dX6_isAhead_12 : decode cX6_isAhead 12 = .ok (.invokestatic 105, 3) := by decide +kernel
theorem dX6_isAhead_15 : decode cX6_isAhead 15 = .ok (.iload_n 2, 1) := by decide +kernel
theorem dX6_isAhead_16 : decode cX6_isAhead 16 = .ok (.invokestatic 105, 3) := by decide +kernel
theorem dX6_isAhead_19 : decode cX6_isAhead 19 = .ok (.if_icmp .ge 7, 3) := by decide +kernel
theorem dX6_isAhead_22 : decode cX6_isAhead 22 = .ok (.iconst 1, 1) := by decide +kernel
theorem dX6_isAhead_23 : decode cX6_isAhead 23 = .ok (.goto 4, 3) := by decide +kernel
theorem dX6_isAhead_26 : decode cX6_isAhead 26 = .ok (.iconst 0, 1) := by decide +kernel
theorem dX6_isAhead_27 : decode cX6_isAhead 27 = .ok (.ireturn, 1) := by decide +kernel
theorem dX6_isAhead_28 : decode cX6_isAhead 28 = .ok (.aload_n 0, 1) := by decide +kernel
theorem dX6_isAhead_29 : decode cX6_isAhead 29 = .ok (.iload_n 1, 1) := by decide +kernel
theorem dX6_isAhead_30 : decode cX6_isAhead 30 = .ok (.invokevirtual 90, 3) := by decide +kernel
theorem dX6_isAhead_33 : decode cX6_isAhead 33 = .ok (.aload_n 0, 1) := by decide +kernel
theorem dX6_isAhead_34 : decode cX6_isAhead 34 = .ok (.iload_n 2, 1) := by decide +kernel
theorem dX6_isAhead_35 : decode cX6_isAhead 35 = .ok (.invokevirtual 90, 3) := by decide +kernel
theorem dX6_isAhead_38 : decode cX6_isAhead 38 = .ok (.if_icmp .eq 22, 3) := by decide +kernel
theorem dX6_isAhead_41 : decode cX6_isAhead 41 = .ok (.aload_n 0, 1) := by decide +kernel
theorem dX6_isAhead_42 : decode cX6_isAhead 42 = .ok (.iload_n 1, 1) := by decide +kernel
theorem dX6_isAhead_43 : decode cX6_isAhead 43 = .ok (.invokevirtual 90, 3) := by decide +kernel
theorem dX6_isAhead_46 : decode cX6_isAhead 46 = .ok (.aload_n 0, 1) := by decide +kernel
theorem dX6_isAhead_47 : decode cX6_isAhead 47 = .ok (.iload_n 2, 1) := by decide +kernel
theorem dX6_isAhead_48 : decode cX6_isAhead 48 = .ok (.invokevirtual 90, 3) := by decide +kernel
theorem dX6_isAhead_51 : decode cX6_isAhead 51 = .ok (.if_icmp .ge 7, 3) := by decide +kernel
theorem dX6_isAhead_54 : decode cX6_isAhead 54 = .ok (.iconst 1, 1) := by decide +kernel
theorem dX6_isAhead_55 : decode cX6_isAhead 55 = .ok (.goto 4, 3) := by decide +kernel
theorem dX6_isAhead_58 : decode cX6_isAhead 58 = .ok (.iconst 0, 1) := by decide +kernel
theorem dX6_isAhead_59 : decode cX6_isAhead 59 = .ok (.ireturn, 1) := by decide +kernel
theorem dX6_isAhead_60 : decode cX6_isAhead 60 = .ok (.aload_n 0, 1) := by decide +kernel
theorem dX6_isAhead_61 : decode cX6_isAhead 61 = .ok (.iload_n 1, 1) := by decide +kernel
theorem dX6_isAhead_62 : decode cX6_isAhead 62 = .ok (.invokevirtual 111, 3) := by decide +kernel
theorem dX6_isAhead_65 : decode cX6_isAhead 65 = .ok (.aload_n 0, 1) := by decide +kernel
theorem dX6_isAhead_66 : decode cX6_isAhead 66 = .ok (.iload_n 2, 1) := by decide +kernel
theorem dX6_isAhead_67 : decode cX6_isAhead 67 = .ok (.invokevirtual 111, 3) := by decide +kernel
theorem dX6_isAhead_70 : decode cX6_isAhead 70 = .ok (.if_icmp .ge 7, 3) := by decide +kernel
theorem dX6_isAhead_73 : decode cX6_isAhead 73 = .ok (.iconst 1, 1) := by decide +kernel
theorem dX6_isAhead_74 : decode cX6_isAhead 74 = .ok (.goto 4, 3) := by decide +kernel
theorem dX6_isAhead_77 : decode cX6_isAhead 77 = .ok (.iconst 0, 1) := by decide +kernel
theorem dX6_isAhead_78 : decode cX6_isAhead 78 = .ok (.ireturn, 1) := by decide +kernel
theorem dX6_findLeast_0 : decode cX6_findLeast 0 = .ok (.aload_n 0, 1) := by decide +kernel
theorem dX6_findLeast_1 : decode cX6_findLeast 1 = .ok (.invokevirtual 114, 3) := by decide +kernel
theorem dX6_findLeast_4 : decode cX6_findLeast 4 = .ok (.aload_n 0, 1) := by decide +kernel
theorem dX6_findLeast_5 : decode cX6_findLeast 5 = .ok (.iconst 0, 1) := by decide +kernel
theorem dX6_findLeast_6 : decode cX6_findLeast 6 = .ok (.putfield 117, 3) := by decide +kernel
theorem dX6_findLeast_9 : decode cX6_findLeast 9 = .ok (.iconst 0, 1) := by decide +kernel
theorem dX6_findLeast_10 : decode cX6_findLeast 10 = .ok (.istore_n 1, 1) := by decide +kernel
theorem dX6_findLeast_11 : decode cX6_findLeast 11 = .ok (.iload_n 1, 1) := by decide +kernel
theorem dX6_findLeast_12 : decode cX6_findLeast 12 = .ok (.iconst 1, 1) := by decide +kernel
theorem dX6_findLeast_13 : decode cX6_findLeast 13 = .ok (.aload_n 0, 1) := by decide +kernel
theorem dX6_findLeast_14 : decode cX6_findLeast 14 = .ok (.getfield 77, 3) := by decide +kernel
theorem dX6_findLeast_17 : decode cX6_findLeast 17 = .ok (.ishl, 1) := by decide +kernel
theorem dX6_findLeast_18 : decode cX6_findLeast 18 = .ok (.if_icmp .ge 79, 3) := by decide +kernel
theorem dX6_findLeast_21 : decode cX6_findLeast 21 = .ok (.aload_n 0, 1) := by decide +kernel
theorem dX6_findLeast_22 : decode cX6_findLeast 22 = .ok (.iload_n 1, 1) := by decide +kernel
theorem dX6_findLeast_23 : decode cX6_findLeast 23 = .ok (.invokevirtual 120, 3) := by decide +kernel
theorem dX6_findLeast_26 : decode cX6_findLeast 26 = .ok (.ifCond .eq 65, 3) := by decide +kernel
theorem dX6_findLeast_29 : decode cX6_findLeast 29 = .ok (.aload_n 0, 1) := by decide +kernel
theorem dX6_findLeast_30 : decode cX6_findLeast 30 = .ok (.getfield 117, 3) := by decide +kernel
theorem dX6_findLeast_33 : decode cX6_findLeast 33 = .ok (.istore_n 2, 1) := by decide +kernel
theorem dX6_findLeast_34 : decode cX6_findLeast 34 = .ok (.iload_n 2, 1) := by decide +kernel
theorem dX6_findLeast_35 : decode cX6_findLeast 35 = .ok (.ifCond .le 39, 3) := by decide +kernel
theorem dX6_findLeast_38 : decode cX6_findLeast 38 = .ok (.aload_n 0, 1) := by decide +kernel
theorem dX6_findLeast_39 : decode cX6_findLeast 39 = .ok (.iload_n 1, 1) := by decide +kernel
theorem dX6_findLeast_40 : decode cX6_findLeast 40 = .ok (.aload_n 0, 1) := by decide +kernel
theorem dX6_findLeast_41 : decode cX6_findLeast 41 = .ok (.getfield 39, 3) := by decide +kernel
theorem dX6_findLeast_44 : decode cX6_findLeast 44 = .ok (.iload_n 2, 1) := by decide +kernel
theorem dX6_findLeast_45 : decode cX6_findLeast 45 = .ok (.iconst 1, 1) := by decide +kernel
theorem dX6_findLeast_46 : decode cX6_findLeast 46 = .ok (.isub, 1) := by decide +kernel
theorem dX6_findLeast_47 : decode cX6_findLeast 47 = .ok (.iaload, 1) := by decide +kernel
theorem dX6_findLeast_48 : decode cX6_findLeast 48 = .ok (.invokevirtual 123, 3) := by decide +kernel
theorem dX6_findLeast_51 : decode cX6_findLeast 51 = .ok (.ifCond .eq 23, 3) := by decide +kernel
theorem dX6_findLeast_54 : decode cX6_findLeast 54 = .ok (.aload_n 0, 1) := by decide +kernel
theorem dX6_findLeast_55 : decode cX6_findLeast 55 = .ok (.getfield 39, 3) := by decide +kernel
theorem dX6_findLeast_58 : decode cX6_findLeast 58 = .ok (.iload_n 2, 1) := by decide +kernel
theorem dX6_findLeast_59 : decode cX6_findLeast 59 = .ok (.aload_n 0, 1) := by decide +kernel
theorem dX6_findLeast_60 : decode cX6_findLeast 60 = .ok (.getfield 39, 3) := by decide +kernel
theorem dX6_findLeast_63 : decode cX6_findLeast 63 = .ok (.iload_n 2, 1) := by decide +kernel
theorem dX6_findLeast_64 : decode cX6_findLeast 64 = .ok (.iconst 1, 1) := by decide +kernel
theorem dX6_findLeast_65 : decode cX6_findLeast 65 = .ok (.isub, 1) := by decide +kernel
theorem dX6_findLeast_66 : decode cX6_findLeast 66 = .ok (.iaload, 1) := by decide +kernel
theorem dX6_findLeast_67 : decode cX6_findLeast 67 = .ok (.iastore, 1) := by decide +kernel
theorem dX6_findLeast_68 : decode cX6_findLeast 68 = .ok (.iinc 2 (-1), 3) := by decide +kernel
theorem dX6_findLeast_71 : decode cX6_findLeast 71 = .ok (.goto (-37), 3) := by decide +kernel
theorem dX6_findLeast_74 : decode cX6_findLeast 74 = .ok (.aload_n 0, 1) := by decide +kernel
theorem dX6_findLeast_75 : decode cX6_findLeast 75 = .ok (.getfield 39, 3) := by decide +kernel
theorem dX6_findLeast_78 : decode cX6_findLeast 78 = .ok (.iload_n 2, 1) := by decide +kernel
theorem dX6_findLeast_79 : decode cX6_findLeast 79 = .ok (.iload_n 1, 1) := by decide +kernel
theorem dX6_findLeast_80 : decode cX6_findLeast 80 = .ok (.iastore, 1) := by decide +kernel
theorem dX6_findLeast_81 : decode cX6_findLeast 81 = .ok (.aload_n 0, 1) := by decide +kernel
theorem dX6_findLeast_82 : decode cX6_findLeast 82 = .ok (.dup, 1) := by decide +kernel
theorem dX6_findLeast_83 : decode cX6_findLeast 83 = .ok (.getfield 117, 3) := by decide +kernel
theorem dX6_findLeast_86 : decode cX6_findLeast 86 = .ok (.iconst 1, 1) := by decide +kernel
theorem dX6_findLeast_87 : decode cX6_findLeast 87 = .ok (.iadd, 1) := by decide +kernel
theorem dX6_findLeast_88 : decode cX6_findLeast 88 = .ok (.putfield 117, 3) := by decide +kernel
theorem dX6_findLeast_91 : decode cX6_findLeast 91 = .ok (.iinc 1 1, 3) := by decide +kernel
theorem dX6_findLeast_94 : decode cX6_findLeast 94 = .ok (.goto (-83), 3) := by decide +kernel
theorem dX6_findLeast_97 : decode cX6_findLeast 97 = .ok (.return_, 1) := by decide +kernel
theorem dX6_type_0 : decode cX6_type 0 = .ok (.aload_n 0, 1) := by decide +kernel
theorem dX6_type_1 : decode cX6_type 1 = .ok (.getfield 126, 3) := by decide +kernel
theorem dX6_type_4 : decode cX6_type 4 = .ok (.bipush 60, 2) := by decide +kernel
theorem dX6_type_6 : decode cX6_type 6 = .ok (.if_icmp .ne 6, 3) := by decide +kernel
theorem dX6_type_9 : decode cX6_type 9 = .ok (.bipush (-3), 2) := by decide +kernel
theorem dX6_type_11 : decode cX6_type 11 = .ok (.ireturn, 1) := by decide +kernel
theorem dX6_type_12 : decode cX6_type 12 = .ok (.aload_n 0, 1) := by decide +kernel
theorem dX6_type_13 : decode cX6_type 13 = .ok (.getfield 19, 3) := by decide +kernel
theorem dX6_type_16 : decode cX6_type 16 = .ok (.aload_n 0, 1) := by decide +kernel
theorem dX6_type_17 : decode cX6_type 17 = .ok (.getfield 126, 3) := by decide +kernel
theorem dX6_type_20 : decode cX6_type 20 = .ok (.iload_n 1, 1) := by decide +kernel
theorem dX6_type_21 : decode cX6_type 21 = .ok (.castore, 1) := by decide +kernel
theorem dX6_type_22 : decode cX6_type 22 = .ok (.aload_n 0, 1) := by decide +kernel
theorem dX6_type_23 : decode cX6_type 23 = .ok (.dup, 1) := by decide +kernel
theorem dX6_type_24 : decode cX6_type 24 = .ok (.getfield 126, 3) := by decide +kernel
theorem dX6_type_27 : decode cX6_type 27 = .ok (.iconst 1, 1) := by decide +kernel
theorem dX6_type_28 : decode cX6_type 28 = .ok (.iadd, 1) := by decide +kernel
theorem dX6_type_29 : decode cX6_type 29 = .ok (.putfield 126, 3) := by decide +kernel
theorem dX6_type_32 : decode cX6_type 32 = .ok (.aload_n 0, 1) := by decide +kernel
theorem dX6_type_33 : decode cX6_type 33 = .ok (.getfield 126, 3) := by decide +kernel
theorem dX6_type_36 : decode cX6_type 36 = .ok (.ireturn, 1) := by decide +kernel
theorem dX6_clearText_0 : decode cX6_clearText 0 = .ok (.aload_n 0, 1) := by decide +kernel
theorem dX6_clearText_1 : decode cX6_clearText 1 = .ok (.getfield 126, 3) := by decide +kernel
theorem dX6_clearText_4 : decode cX6_clearText 4 = .ok (.istore_n 1, 1) := by decide +kernel
theorem dX6_clearText_5 : decode cX6_clearText 5 = .ok (.aload_n 0, 1) := by decide +kernel
theorem dX6_clearText_6 : decode cX6_clearText 6 = .ok (.iconst 0, 1) := by decide +kernel
theorem dX6_clearText_7 : decode cX6_clearText 7 = .ok (.putfield 126, 3) := by decide +kernel
theorem dX6_clearText_10 : decode cX6_clearText 10 = .ok (.iload_n 1, 1) := by decide +kernel
theorem dX6_clearText_11 : decode cX6_clearText 11 = .ok (.ireturn, 1) := by decide +kernel
theorem dX6_ballots_0 : decode cX6_ballots 0 = .ok (.aload_n 0, 1) := by decide +kernel
theorem dX6_ballots_1 : decode cX6_ballots 1 = .ok (.iconst 0, 1) := by decide +kernel
theorem dX6_ballots_2 : decode cX6_ballots 2 = .ok (.putfield 129, 3) := by decide +kernel
theorem dX6_ballots_5 : decode cX6_ballots 5 = .ok (.iconst 0, 1) := by decide +kernel
theorem dX6_ballots_6 : decode cX6_ballots 6 = .ok (.istore_n 2, 1) := by decide +kernel
theorem dX6_ballots_7 : decode cX6_ballots 7 = .ok (.iconst 1, 1) := by decide +kernel
theorem dX6_ballots_8 : decode cX6_ballots 8 = .ok (.istore_n 3, 1) := by decide +kernel
theorem dX6_ballots_9 : decode cX6_ballots 9 = .ok (.iload_n 3, 1) := by decide +kernel
theorem dX6_ballots_10 : decode cX6_ballots 10 = .ok (.ifCond .eq 168, 3) := by decide +kernel
theorem dX6_ballots_13 : decode cX6_ballots 13 = .ok (.aload_n 0, 1) := by decide +kernel
theorem dX6_ballots_14 : decode cX6_ballots 14 = .ok (.getfield 129, 3) := by decide +kernel
theorem dX6_ballots_17 : decode cX6_ballots 17 = .ok (.istore 4, 2) := by decide +kernel
theorem dX6_ballots_19 : decode cX6_ballots 19 = .ok (.iconst 0, 1) := by decide +kernel
theorem dX6_ballots_20 : decode cX6_ballots 20 = .ok (.istore 5, 2) := by decide +kernel
theorem dX6_ballots_22 : decode cX6_ballots 22 = .ok (.iload 5, 2) := by decide +kernel
theorem dX6_ballots_24 : decode cX6_ballots 24 = .ok (.aload_n 0, 1) := by decide +kernel
theorem dX6_ballots_25 : decode cX6_ballots 25 = .ok (.getfield 7, 3) := by decide +kernel
theorem dX6_ballots_28 : decode cX6_ballots 28 = .ok (.iconst 0, 1) := by decide +kernel
theorem dX6_ballots_29 : decode cX6_ballots 29 = .ok (.iaload, 1) := by decide +kernel
theorem dX6_ballots_30 : decode cX6_ballots 30 = .ok (.if_icmp .ge 75, 3) := by decide +kernel
theorem dX6_ballots_33 : decode cX6_ballots 33 = .ok (.aload_n 0, 1) := by decide +kernel
theorem dX6_ballots_34 : decode cX6_ballots 34 = .ok (.getfield 129, 3) := by decide +kernel
theorem dX6_ballots_37 : decode cX6_ballots 37 = .ok (.aload_n 0, 1) := by decide +kernel
theorem dX6_ballots_38 : decode cX6_ballots 38 = .ok (.getfield 126, 3) := by decide +kernel
theorem dX6_ballots_41 : decode cX6_ballots 41 = .ok (.if_icmp .eq 45, 3) := by decide +kernel
theorem dX6_ballots_44 : decode cX6_ballots 44 = .ok (.aload_n 0, 1) := by decide +kernel
theorem dX6_ballots_45 : decode cX6_ballots 45 = .ok (.getfield 19, 3) := by decide +kernel
theorem dX6_ballots_48 : decode cX6_ballots 48 = .ok (.aload_n 0, 1) := by decide +kernel
theorem dX6_ballots_49 : decode cX6_ballots 49 = .ok (.getfield 129, 3) := by decide +kernel
theorem dX6_ballots_52 : decode cX6_ballots 52 = .ok (.caload, 1) := by decide +kernel
theorem dX6_ballots_53 : decode cX6_ballots 53 = .ok (.bipush 43, 2) := by decide +kernel
theorem dX6_ballots_55 : decode cX6_ballots 55 = .ok (.if_icmp .eq 34, 3) := by decide +kernel
theorem dX6_ballots_58 : decode cX6_ballots 58 = .ok (.aload_n 0, 1) := by decide +kernel
theorem dX6_ballots_59 : decode cX6_ballots 59 = .ok (.getfield 19, 3) := by decide +kernel
theorem dX6_ballots_62 : decode cX6_ballots 62 = .ok (.aload_n 0, 1) := by decide +kernel
theorem dX6_ballots_63 : decode cX6_ballots 63 = .ok (.getfield 129, 3) := by decide +kernel
theorem dX6_ballots_66 : decode cX6_ballots 66 = .ok (.caload, 1) := by decide +kernel
theorem dX6_ballots_67 : decode cX6_ballots 67 = .ok (.bipush 45, 2) := by decide +kernel
theorem dX6_ballots_69 : decode cX6_ballots 69 = .ok (.if_icmp .eq 20, 3) := by decide +kernel
theorem dX6_ballots_72 : decode cX6_ballots 72 = .ok (.aload_n 0, 1) := by decide +kernel
theorem dX6_ballots_73 : decode cX6_ballots 73 = .ok (.getfield 19, 3) := by decide +kernel
theorem dX6_ballots_76 : decode cX6_ballots 76 = .ok (.aload_n 0, 1) := by decide +kernel
theorem dX6_ballots_77 : decode cX6_ballots 77 = .ok (.getfield 129, 3) := by decide +kernel
theorem dX6_ballots_80 : decode cX6_ballots 80 = .ok (.caload, 1) := by decide +kernel
theorem dX6_ballots_81 : decode cX6_ballots 81 = .ok (.bipush 48, 2) := by decide +kernel
theorem dX6_ballots_83 : decode cX6_ballots 83 = .ok (.if_icmp .eq 6, 3) := by decide +kernel
theorem dX6_ballots_86 : decode cX6_ballots 86 = .ok (.bipush (-5), 2) := by decide +kernel
theorem dX6_ballots_88 : decode cX6_ballots 88 = .ok (.ireturn, 1) := by decide +kernel
theorem dX6_ballots_89 : decode cX6_ballots 89 = .ok (.aload_n 0, 1) := by decide +kernel
theorem dX6_ballots_90 : decode cX6_ballots 90 = .ok (.dup, 1) := by decide +kernel
theorem dX6_ballots_91 : decode cX6_ballots 91 = .ok (.getfield 129, 3) := by decide +kernel
theorem dX6_ballots_94 : decode cX6_ballots 94 = .ok (.iconst 1, 1) := by decide +kernel
theorem dX6_ballots_95 : decode cX6_ballots 95 = .ok (.iadd, 1) := by decide +kernel
theorem dX6_ballots_96 : decode cX6_ballots 96 = .ok (.putfield 129, 3) := by decide +kernel
theorem dX6_ballots_99 : decode cX6_ballots 99 = .ok (.iinc 5 1, 3) := by decide +kernel
theorem dX6_ballots_102 : decode cX6_ballots 102 = .ok (.goto (-80), 3) := by decide +kernel
theorem dX6_ballots_105 : decode cX6_ballots 105 = .ok (.iload_n 2, 1) := by decide +kernel
theorem dX6_ballots_106 : decode cX6_ballots 106 = .ok (.iload_n 1, 1) := by decide +kernel
theorem dX6_ballots_107 : decode cX6_ballots 107 = .ok (.ifCond .eq 16, 3) := by decide +kernel
theorem dX6_ballots_110 : decode cX6_ballots 110 = .ok (.aload_n 0, 1) := by decide +kernel
theorem dX6_ballots_111 : decode cX6_ballots 111 = .ok (.iload 4, 2) := by decide +kernel
theorem dX6_ballots_113 : decode cX6_ballots 113 = .ok (.invokevirtual 132, 3) := by decide +kernel
theorem dX6_ballots_116 : decode cX6_ballots 116 = .ok (.ifCond .eq 7, 3) := by decide +kernel
theorem dX6_ballots_119 : decode cX6_ballots 119 = .ok (.iconst 1, 1) := by decide +kernel
theorem dX6_ballots_120 : decode cX6_ballots 120 = .ok (.goto 4, 3) := by decide +kernel
theorem dX6_ballots_123 : decode cX6_ballots 123 = .ok (.iconst 0, 1) := by decide +kernel
theorem dX6_ballots_124 : decode cX6_ballots 124 = .ok (.iadd, 1) := by decide +kernel
theorem dX6_ballots_125 : decode cX6_ballots 125 = .ok (.istore_n 2, 1) := by decide +kernel
theorem dX6_ballots_126 : decode cX6_ballots 126 = .ok (.aload_n 0, 1) := by decide +kernel
theorem dX6_ballots_127 : decode cX6_ballots 127 = .ok (.getfield 129, 3) := by decide +kernel
theorem dX6_ballots_130 : decode cX6_ballots 130 = .ok (.aload_n 0, 1) := by decide +kernel
theorem dX6_ballots_131 : decode cX6_ballots 131 = .ok (.getfield 126, 3) := by decide +kernel
theorem dX6_ballots_134 : decode cX6_ballots 134 = .ok (.if_icmp .ge 21, 3) := by decide +kernel
theorem dX6_ballots_137 : decode cX6_ballots 137 = .ok (.aload_n 0, 1) := by decide +kernel
theorem dX6_ballots_138 : decode cX6_ballots 138 = .ok (.getfield 19, 3) := by decide +kernel
theorem dX6_ballots_141 : decode cX6_ballots 141 = .ok (.aload_n 0, 1) := by decide +kernel
theorem dX6_ballots_142 : decode cX6_ballots 142 = .ok (.getfield 129, 3) := by decide +kernel
theorem dX6_ballots_145 : decode cX6_ballots 145 = .ok (.caload, 1) := by decide +kernel
theorem dX6_ballots_146 : decode cX6_ballots 146 = .ok (.bipush 44, 2) := by decide +kernel
theorem dX6_ballots_148 : decode cX6_ballots 148 = .ok (.if_icmp .ne 7, 3) := by decide +kernel
theorem dX6_ballots_151 : decode cX6_ballots 151 = .ok (.iconst 1, 1) := by decide +kernel
theorem dX6_ballots_152 : decode cX6_ballots 152 = .ok (.goto 4, 3) := by decide +kernel
theorem dX6_ballots_155 : decode cX6_ballots 155 = .ok (.iconst 0, 1) := by decide +kernel
theorem dX6_ballots_156 : decode cX6_ballots 156 = .ok (.istore_n 3, 1) := by decide +kernel
theorem dX6_ballots_157 : decode cX6_ballots 157 = .ok (.aload_n 0, 1) := by decide +kernel
theorem dX6_ballots_158 : decode cX6_ballots 158 = .ok (.dup, 1) := by decide +kernel
theorem dX6_ballots_159 : decode cX6_ballots 159 = .ok (.getfield 129, 3) := by decide +kernel
theorem dX6_ballots_162 : decode cX6_ballots 162 = .ok (.iload_n 3, 1) := by decide +kernel
theorem dX6_ballots_163 : decode cX6_ballots 163 = .ok (.ifCond .eq 7, 3) := by decide +kernel
theorem dX6_ballots_166 : decode cX6_ballots 166 = .ok (.iconst 1, 1) := by decide +kernel
theorem dX6_ballots_167 : decode cX6_ballots 167 = .ok (.goto 4, 3) := by decide +kernel
theorem dX6_ballots_170 : decode cX6_ballots 170 = .ok (.iconst 0, 1) := by decide +kernel
theorem dX6_ballots_171 : decode cX6_ballots 171 = .ok (.iadd, 1) := by decide +kernel
theorem dX6_ballots_172 : decode cX6_ballots 172 = .ok (.putfield 129, 3) := by decide +kernel
theorem dX6_ballots_175 : decode cX6_ballots 175 = .ok (.goto (-166), 3) := by decide +kernel
theorem dX6_ballots_178 : decode cX6_ballots 178 = .ok (.aload_n 0, 1) := by decide +kernel
theorem dX6_ballots_179 : decode cX6_ballots 179 = .ok (.getfield 129, 3) := by decide +kernel
theorem dX6_ballots_182 : decode cX6_ballots 182 = .ok (.aload_n 0, 1) := by decide +kernel
theorem dX6_ballots_183 : decode cX6_ballots 183 = .ok (.getfield 126, 3) := by decide +kernel
theorem dX6_ballots_186 : decode cX6_ballots 186 = .ok (.if_icmp .ge 8, 3) := by decide +kernel
theorem dX6_ballots_189 : decode cX6_ballots 189 = .ok (.bipush (-5), 2) := by decide +kernel
theorem dX6_ballots_191 : decode cX6_ballots 191 = .ok (.goto 4, 3) := by decide +kernel
theorem dX6_ballots_194 : decode cX6_ballots 194 = .ok (.iload_n 2, 1) := by decide +kernel
theorem dX6_ballots_195 : decode cX6_ballots 195 = .ok (.ireturn, 1) := by decide +kernel
theorem dX6_leader_0 : decode cX6_leader 0 = .ok (.aload_n 0, 1) := by decide +kernel
theorem dX6_leader_1 : decode cX6_leader 1 = .ok (.getfield 7, 3) := by decide +kernel
theorem dX6_leader_4 : decode cX6_leader 4 = .ok (.bipush 49, 2) := by decide +kernel
theorem dX6_leader_6 : decode cX6_leader 6 = .ok (.iload_n 1, 1) := by decide +kernel
theorem dX6_leader_7 : decode cX6_leader 7 = .ok (.iadd, 1) := by decide +kernel
theorem dX6_leader_8 : decode cX6_leader 8 = .ok (.iaload, 1) := by decide +kernel
theorem dX6_leader_9 : decode cX6_leader 9 = .ok (.istore_n 2, 1) := by decide +kernel
theorem dX6_leader_10 : decode cX6_leader 10 = .ok (.iconst 0, 1) := by decide +kernel
theorem dX6_leader_11 : decode cX6_leader 11 = .ok (.istore_n 3, 1) := by decide +kernel
theorem dX6_leader_12 : decode cX6_leader 12 = .ok (.iload_n 3, 1) := by decide +kernel
theorem dX6_leader_13 : decode cX6_leader 13 = .ok (.aload_n 0, 1) := by decide +kernel
theorem dX6_leader_14 : decode cX6_leader 14 = .ok (.getfield 7, 3) := by decide +kernel
theorem dX6_leader_17 : decode cX6_leader 17 = .ok (.iconst 0, 1) := by decide +kernel
theorem dX6_leader_18 : decode cX6_leader 18 = .ok (.iaload, 1) := by decide +kernel
theorem dX6_leader_19 : decode cX6_leader 19 = .ok (.if_icmp .ge 57, 3) := by decide +kernel
theorem dX6_leader_22 : decode cX6_leader 22 = .ok (.aload_n 0, 1) := by decide +kernel
theorem dX6_leader_23 : decode cX6_leader 23 = .ok (.getfield 7, 3) := by decide +kernel
theorem dX6_leader_26 : decode cX6_leader 26 = .ok (.bipush 49, 2) := by decide +kernel
theorem dX6_leader_28 : decode cX6_leader 28 = .ok (.iload_n 3, 1) := by decide +kernel
theorem dX6_leader_29 : decode cX6_leader 29 = .ok (.iadd, 1) := by decide +kernel
theorem dX6_leader_30 : decode cX6_leader 30 = .ok (.iaload, 1) := by decide +kernel
theorem dX6_leader_31 : decode cX6_leader 31 = .ok (.aload_n 0, 1) := by decide +kernel
theorem dX6_leader_32 : decode cX6_leader 32 = .ok (.getfield 7, 3) := by decide +kernel
theorem dX6_leader_35 : decode cX6_leader 35 = .ok (.bipush 49, 2) := by decide +kernel
theorem dX6_leader_37 : decode cX6_leader 37 = .ok (.iload_n 1, 1) := by decide +kernel
theorem dX6_leader_38 : decode cX6_leader 38 = .ok (.iadd, 1) := by decide +kernel
theorem dX6_leader_39 : decode cX6_leader 39 = .ok (.iaload, 1) := by decide +kernel
theorem dX6_leader_40 : decode cX6_leader 40 = .ok (.if_icmp .ne 28, 3) := by decide +kernel
theorem dX6_leader_43 : decode cX6_leader 43 = .ok (.aload_n 0, 1) := by decide +kernel
theorem dX6_leader_44 : decode cX6_leader 44 = .ok (.getfield 7, 3) := by decide +kernel
theorem dX6_leader_47 : decode cX6_leader 47 = .ok (.bipush 29, 2) := by decide +kernel
theorem dX6_leader_49 : decode cX6_leader 49 = .ok (.iload_n 3, 1) := by decide +kernel
theorem dX6_leader_50 : decode cX6_leader 50 = .ok (.iadd, 1) := by decide +kernel
theorem dX6_leader_51 : decode cX6_leader 51 = .ok (.iaload, 1) := by decide +kernel
theorem dX6_leader_52 : decode cX6_leader 52 = .ok (.aload_n 0, 1) := by decide +kernel
theorem dX6_leader_53 : decode cX6_leader 53 = .ok (.getfield 7, 3) := by decide +kernel
theorem dX6_leader_56 : decode cX6_leader 56 = .ok (.bipush 29, 2) := by decide +kernel
theorem dX6_leader_58 : decode cX6_leader 58 = .ok (.iload_n 2, 1) := by decide +kernel
theorem dX6_leader_59 : decode cX6_leader 59 = .ok (.iadd, 1) := by decide +kernel
theorem dX6_leader_60 : decode cX6_leader 60 = .ok (.iaload, 1) := by decide +kernel
theorem dX6_leader_61 : decode cX6_leader 61 = .ok (.if_icmp .le 7, 3) := by decide +kernel
theorem dX6_leader_64 : decode cX6_leader 64 = .ok (.iload_n 3, 1) := by decide +kernel
theorem dX6_leader_65 : decode cX6_leader 65 = .ok (.goto 4, 3) := by decide +kernel
theorem dX6_leader_68 : decode cX6_leader 68 = .ok (.iload_n 2, 1) := by decide +kernel
theorem dX6_leader_69 : decode cX6_leader 69 = .ok (.istore_n 2, 1) := by decide +kernel
theorem dX6_leader_70 : decode cX6_leader 70 = .ok (.iinc 3 1, 3) := by decide +kernel
theorem dX6_leader_73 : decode cX6_leader 73 = .ok (.goto (-61), 3) := by decide +kernel
theorem dX6_leader_76 : decode cX6_leader 76 = .ok (.iload_n 2, 1) := by decide +kernel
theorem dX6_leader_77 : decode cX6_leader 77 = .ok (.ireturn, 1) := by decide +kernel
theorem dX6_holdBallot_0 : decode cX6_holdBallot 0 = .ok (.aload_n 0, 1) := by decide +kernel
theorem dX6_holdBallot_1 : decode cX6_holdBallot 1 = .ok (.invokevirtual 93, 3) := by decide +kernel
theorem dX6_holdBallot_4 : decode cX6_holdBallot 4 = .ok (.iconst 0, 1) := by decide +kernel
theorem dX6_holdBallot_5 : decode cX6_holdBallot 5 = .ok (.istore_n 2, 1) := by decide +kernel
theorem dX6_holdBallot_6 : decode cX6_holdBallot 6 = .ok (.iconst 0, 1) := by decide +kernel
theorem dX6_holdBallot_7 : decode cX6_holdBallot 7 = .ok (.istore_n 3, 1) := by decide +kernel
theorem dX6_holdBallot_8 : decode cX6_holdBallot 8 = .ok (.iconst 0, 1) := by decide +kernel
theorem dX6_holdBallot_9 : decode cX6_holdBallot 9 = .ok (.istore 4, 2) := by decide +kernel
theorem dX6_holdBallot_11 : decode cX6_holdBallot 11 = .ok (.iload 4, 2) := by decide +kernel
theorem dX6_holdBallot_13 : decode cX6_holdBallot 13 = .ok (.aload_n 0, 1) := by decide +kernel
theorem dX6_holdBallot_14 : decode cX6_holdBallot 14 = .ok (.getfield 7, 3) := by decide +kernel
theorem dX6_holdBallot_17 : decode cX6_holdBallot 17 = .ok (.iconst 0, 1) := by decide +kernel
theorem dX6_holdBallot_18 : decode cX6_holdBallot 18 = .ok (.iaload, 1) := by decide +kernel
theorem dX6_holdBallot_19 : decode cX6_holdBallot 19 = .ok (.if_icmp .ge 68, 3) := by decide +kernel
theorem dX6_holdBallot_22 : decode cX6_holdBallot 22 = .ok (.aload_n 0, 1) := by decide +kernel
theorem dX6_holdBallot_23 : decode cX6_holdBallot 23 = .ok (.getfield 19, 3) := by decide +kernel
theorem dX6_holdBallot_26 : decode cX6_holdBallot 26 = .ok (.iload_n 1, 1) := by decide +kernel
theorem dX6_holdBallot_27 : decode cX6_holdBallot 27 = .ok (.aload_n 0, 1) := by decide +kernel
theorem dX6_holdBallot_28 : decode cX6_holdBallot 28 = .ok (.iload 4, 2) := by decide +kernel
theorem dX6_holdBallot_30 : decode cX6_holdBallot 30 = .ok (.invokevirtual 135, 3) := by decide +kernel
theorem dX6_holdBallot_33 : decode cX6_holdBallot 33 = .ok (.iadd, 1) := by decide +kernel
theorem dX6_holdBallot_34 : decode cX6_holdBallot 34 = .ok (.caload, 1) := by decide +kernel
theorem dX6_holdBallot_35 : decode cX6_holdBallot 35 = .ok (.istore 5, 2) := by decide +kernel
theorem dX6_holdBallot_37 : decode cX6_holdBallot 37 = .ok (.iload_n 2, 1) := by decide +kernel
theorem dX6_holdBallot_38 : decode cX6_holdBallot 38 = .ok (.iload 5, 2) := by decide +kernel
theorem dX6_holdBallot_40 : decode cX6_holdBallot 40 = .ok (.bipush 43, 2) := by decide +kernel
theorem dX6_holdBallot_42 : decode cX6_holdBallot 42 = .ok (.if_icmp .ne 14, 3) := by decide +kernel
theorem dX6_holdBallot_45 : decode cX6_holdBallot 45 = .ok (.iconst 1, 1) := by decide +kernel
theorem dX6_holdBallot_46 : decode cX6_holdBallot 46 = .ok (.aload_n 0, 1) := by decide +kernel
theorem dX6_holdBallot_47 : decode cX6_holdBallot 47 = .ok (.iload 4, 2) := by decide +kernel
theorem dX6_holdBallot_49 : decode cX6_holdBallot 49 = .ok (.invokevirtual 83, 3) := by decide +kernel
theorem dX6_holdBallot_52 : decode cX6_holdBallot 52 = .ok (.ishl, 1) := by decide +kernel
theorem dX6_holdBallot_53 : decode cX6_holdBallot 53 = .ok (.goto 4, 3) := by decide +kernel
theorem dX6_holdBallot_56 : decode cX6_holdBallot 56 = .ok (.iconst 0, 1) := by decide +kernel
theorem dX6_holdBallot_57 : decode cX6_holdBallot 57 = .ok (.ior, 1) := by decide +kernel
theorem dX6_holdBallot_58 : decode cX6_holdBallot 58 = .ok (.istore_n 2, 1) := by decide +kernel
theorem dX6_holdBallot_59 : decode cX6_holdBallot 59 = .ok (.iload_n 3, 1) := by decide +kernel
theorem dX6_holdBallot_60 : decode cX6_holdBallot 60 = .ok (.aload_n 0, 1) := by decide +kernel
theorem dX6_holdBallot_61 : decode cX6_holdBallot 61 = .ok (.getfield 19, 3) := by decide +kernel
theorem dX6_holdBallot_64 : decode cX6_holdBallot 64 = .ok (.iload_n 1, 1) := by decide +kernel
theorem dX6_holdBallot_65 : decode cX6_holdBallot 65 = .ok (.iload 4, 2) := by decide +kernel
theorem dX6_holdBallot_67 : decode cX6_holdBallot 67 = .ok (.iadd, 1) := by decide +kernel
theorem dX6_holdBallot_68 : decode cX6_holdBallot 68 = .ok (.caload, 1) := by decide +kernel
theorem dX6_holdBallot_69 : decode cX6_holdBallot 69 = .ok (.iload 5, 2) := by decide +kernel
theorem dX6_holdBallot_71 : decode cX6_holdBallot 71 = .ok (.if_icmp .ne 7, 3) := by decide +kernel
theorem dX6_holdBallot_74 : decode cX6_holdBallot 74 = .ok (.iconst 0, 1) := by decide +kernel
theorem dX6_holdBallot_75 : decode cX6_holdBallot 75 = .ok (.goto 4, 3) := by decide +kernel
theorem dX6_holdBallot_78 : decode cX6_holdBallot 78 = .ok (.iconst 1, 1) := by decide +kernel
theorem dX6_holdBallot_79 : decode cX6_holdBallot 79 = .ok (.iadd, 1) := by decide +kernel
theorem dX6_holdBallot_80 : decode cX6_holdBallot 80 = .ok (.istore_n 3, 1) := by decide +kernel
theorem dX6_holdBallot_81 : decode cX6_holdBallot 81 = .ok (.iinc 4 1, 3) := by decide +kernel
theorem dX6_holdBallot_84 : decode cX6_holdBallot 84 = .ok (.goto (-73), 3) := by decide +kernel
theorem dX6_holdBallot_87 : decode cX6_holdBallot 87 = .ok (.aload_n 0, 1) := by decide +kernel
theorem dX6_holdBallot_88 : decode cX6_holdBallot 88 = .ok (.iload_n 2, 1) := by decide +kernel
theorem dX6_holdBallot_89 : decode cX6_holdBallot 89 = .ok (.aload_n 0, 1) := by decide +kernel
theorem dX6_holdBallot_90 : decode cX6_holdBallot 90 = .ok (.getfield 7, 3) := by decide +kernel
theorem dX6_holdBallot_93 : decode cX6_holdBallot 93 = .ok (.iconst 1, 1) := by decide +kernel
theorem dX6_holdBallot_94 : decode cX6_holdBallot 94 = .ok (.iaload, 1) := by decide +kernel
theorem dX6_holdBallot_95 : decode cX6_holdBallot 95 = .ok (.invokevirtual 96, 3) := by decide +kernel
theorem dX6_holdBallot_98 : decode cX6_holdBallot 98 = .ok (.istore 4, 2) := by decide +kernel
theorem dX6_holdBallot_100 : decode cX6_holdBallot 100 = .ok (.iconst 0, 1) := by decide +kernel
theorem dX6_holdBallot_101 : decode cX6_holdBallot 101 = .ok (.istore 5, 2) := by decide +kernel
theorem dX6_holdBallot_103 : decode cX6_holdBallot 103 = .ok (.iload 5, 2) := by decide +kernel
theorem dX6_holdBallot_105 : decode cX6_holdBallot 105 = .ok (.aload_n 0, 1) := by decide +kernel
theorem dX6_holdBallot_106 : decode cX6_holdBallot 106 = .ok (.getfield 7, 3) := by decide +kernel
theorem dX6_holdBallot_109 : decode cX6_holdBallot 109 = .ok (.iconst 0, 1) := by decide +kernel
theorem dX6_holdBallot_110 : decode cX6_holdBallot 110 = .ok (.iaload, 1) := by decide +kernel
theorem dX6_holdBallot_111 : decode cX6_holdBallot 111 = .ok (.if_icmp .ge 73, 3) := by decide +kernel
theorem dX6_holdBallot_114 : decode cX6_holdBallot 114 = .ok (.iconst 1, 1) := by decide +kernel
theorem dX6_holdBallot_115 : decode cX6_holdBallot 115 = .ok (.aload_n 0, 1) := by decide +kernel
theorem dX6_holdBallot_116 : decode cX6_holdBallot 116 = .ok (.iload 5, 2) := by decide +kernel
theorem dX6_holdBallot_118 : decode cX6_holdBallot 118 = .ok (.invokevirtual 83, 3) := by decide +kernel
end
section
theorem dX6_holdBallot_121 : decode cX6_holdBallot 121 = .ok (.ishl, 1) := by decide +kernel
theorem dX6_holdBallot_122 : decode cX6_holdBallot 122 = .ok (.istore 6, 2) := by decide +kernel
theorem dX6_holdBallot_124 : decode cX6_holdBallot 124 = .ok (.aload_n 0, 1) := by decide +kernel
theorem dX6_holdBallot_125 : decode cX6_holdBallot 125 = .ok (.getfield 7, 3) := by decide +kernel
theorem dX6_holdBallot_128 : decode cX6_holdBallot 128 = .ok (.bipush 59, 2) := by decide +kernel
theorem dX6_holdBallot_130 : decode cX6_holdBallot 130 = .ok (.iload 5, 2) := by decide +kernel
theorem dX6_holdBallot_132 : decode cX6_holdBallot 132 = .ok (.iadd, 1) := by decide +kernel
theorem dX6_holdBallot_133 : decode cX6_holdBallot 133 = .ok (.dup2, 1) := by decide +kernel
theorem dX6_holdBallot_134 : decode cX6_holdBallot 134 = .ok (.iaload, 1) := by decide +kernel
theorem dX6_holdBallot_135 : decode cX6_holdBallot 135 = .ok (.aload_n 0, 1) := by decide +kernel
theorem dX6_holdBallot_136 : decode cX6_holdBallot 136 = .ok (.iload_n 2, 1) := by decide +kernel
theorem dX6_holdBallot_137 : decode cX6_holdBallot 137 = .ok (.iload 6, 2) := by decide +kernel
theorem dX6_holdBallot_139 : decode cX6_holdBallot 139 = .ok (.ior, 1) := by decide +kernel
theorem dX6_holdBallot_140 : decode cX6_holdBallot 140 = .ok (.aload_n 0, 1) := by decide +kernel
theorem dX6_holdBallot_141 : decode cX6_holdBallot 141 = .ok (.getfield 7, 3) := by decide +kernel
theorem dX6_holdBallot_144 : decode cX6_holdBallot 144 = .ok (.iconst 1, 1) := by decide +kernel
theorem dX6_holdBallot_145 : decode cX6_holdBallot 145 = .ok (.iaload, 1) := by decide +kernel
theorem dX6_holdBallot_146 : decode cX6_holdBallot 146 = .ok (.invokevirtual 96, 3) := by decide +kernel
theorem dX6_holdBallot_149 : decode cX6_holdBallot 149 = .ok (.ifCond .eq 26, 3) := by decide +kernel
theorem dX6_holdBallot_152 : decode cX6_holdBallot 152 = .ok (.aload_n 0, 1) := by decide +kernel
theorem dX6_holdBallot_153 : decode cX6_holdBallot 153 = .ok (.iload_n 2, 1) := by decide +kernel
theorem dX6_holdBallot_154 : decode cX6_holdBallot 154 = .ok (.iload 6, 2) := by decide +kernel
theorem dX6_holdBallot_156 : decode cX6_holdBallot 156 = .ok (.iconst (-1), 1) := by decide +kernel
theorem dX6_holdBallot_157 : decode cX6_holdBallot 157 = .ok (.ixor, 1) := by decide +kernel
theorem dX6_holdBallot_158 : decode cX6_holdBallot 158 = .ok (.iand, 1) := by decide +kernel
theorem dX6_holdBallot_159 : decode cX6_holdBallot 159 = .ok (.aload_n 0, 1) := by decide +kernel
theorem dX6_holdBallot_160 : decode cX6_holdBallot 160 = .ok (.getfield 7, 3) := by decide +kernel
theorem dX6_holdBallot_163 : decode cX6_holdBallot 163 = .ok (.iconst 1, 1) := by decide +kernel
theorem dX6_holdBallot_164 : decode cX6_holdBallot 164 = .ok (.iaload, 1) := by decide +kernel
theorem dX6_holdBallot_165 : decode cX6_holdBallot 165 = .ok (.invokevirtual 96, 3) := by decide +kernel
theorem dX6_holdBallot_168 : decode cX6_holdBallot 168 = .ok (.ifCond .ne 7, 3) := by decide +kernel
theorem dX6_holdBallot_171 : decode cX6_holdBallot 171 = .ok (.iconst 1, 1) := by decide +kernel
theorem dX6_holdBallot_172 : decode cX6_holdBallot 172 = .ok (.goto 4, 3) := by decide +kernel
theorem dX6_holdBallot_175 : decode cX6_holdBallot 175 = .ok (.iconst 0, 1) := by decide +kernel
theorem dX6_holdBallot_176 : decode cX6_holdBallot 176 = .ok (.iadd, 1) := by decide +kernel
theorem dX6_holdBallot_177 : decode cX6_holdBallot 177 = .ok (.iastore, 1) := by decide +kernel
theorem dX6_holdBallot_178 : decode cX6_holdBallot 178 = .ok (.iinc 5 1, 3) := by decide +kernel
theorem dX6_holdBallot_181 : decode cX6_holdBallot 181 = .ok (.goto (-78), 3) := by decide +kernel
theorem dX6_holdBallot_184 : decode cX6_holdBallot 184 = .ok (.bipush 23, 2) := by decide +kernel
theorem dX6_holdBallot_186 : decode cX6_holdBallot 186 = .ok (.istore 5, 2) := by decide +kernel
theorem dX6_holdBallot_188 : decode cX6_holdBallot 188 = .ok (.iload 5, 2) := by decide +kernel
theorem dX6_holdBallot_190 : decode cX6_holdBallot 190 = .ok (.iconst 2, 1) := by decide +kernel
theorem dX6_holdBallot_191 : decode cX6_holdBallot 191 = .ok (.if_icmp .le 29, 3) := by decide +kernel
theorem dX6_holdBallot_194 : decode cX6_holdBallot 194 = .ok (.aload_n 0, 1) := by decide +kernel
theorem dX6_holdBallot_195 : decode cX6_holdBallot 195 = .ok (.getfield 7, 3) := by decide +kernel
theorem dX6_holdBallot_198 : decode cX6_holdBallot 198 = .ok (.iconst 5, 1) := by decide +kernel
theorem dX6_holdBallot_199 : decode cX6_holdBallot 199 = .ok (.iload 5, 2) := by decide +kernel
theorem dX6_holdBallot_201 : decode cX6_holdBallot 201 = .ok (.iadd, 1) := by decide +kernel
theorem dX6_holdBallot_202 : decode cX6_holdBallot 202 = .ok (.aload_n 0, 1) := by decide +kernel
theorem dX6_holdBallot_203 : decode cX6_holdBallot 203 = .ok (.getfield 7, 3) := by decide +kernel
theorem dX6_holdBallot_206 : decode cX6_holdBallot 206 = .ok (.iconst 5, 1) := by decide +kernel
theorem dX6_holdBallot_207 : decode cX6_holdBallot 207 = .ok (.iload 5, 2) := by decide +kernel
theorem dX6_holdBallot_209 : decode cX6_holdBallot 209 = .ok (.iadd, 1) := by decide +kernel
theorem dX6_holdBallot_210 : decode cX6_holdBallot 210 = .ok (.iconst 3, 1) := by decide +kernel
theorem dX6_holdBallot_211 : decode cX6_holdBallot 211 = .ok (.isub, 1) := by decide +kernel
theorem dX6_holdBallot_212 : decode cX6_holdBallot 212 = .ok (.iaload, 1) := by decide +kernel
theorem dX6_holdBallot_213 : decode cX6_holdBallot 213 = .ok (.iastore, 1) := by decide +kernel
theorem dX6_holdBallot_214 : decode cX6_holdBallot 214 = .ok (.iinc 5 (-1), 3) := by decide +kernel
theorem dX6_holdBallot_217 : decode cX6_holdBallot 217 = .ok (.goto (-29), 3) := by decide +kernel
theorem dX6_holdBallot_220 : decode cX6_holdBallot 220 = .ok (.aload_n 0, 1) := by decide +kernel
theorem dX6_holdBallot_221 : decode cX6_holdBallot 221 = .ok (.getfield 7, 3) := by decide +kernel
theorem dX6_holdBallot_224 : decode cX6_holdBallot 224 = .ok (.iconst 5, 1) := by decide +kernel
theorem dX6_holdBallot_225 : decode cX6_holdBallot 225 = .ok (.iload 4, 2) := by decide +kernel
theorem dX6_holdBallot_227 : decode cX6_holdBallot 227 = .ok (.ifCond .eq 7, 3) := by decide +kernel
theorem dX6_holdBallot_230 : decode cX6_holdBallot 230 = .ok (.iconst 1, 1) := by decide +kernel
theorem dX6_holdBallot_231 : decode cX6_holdBallot 231 = .ok (.goto 4, 3) := by decide +kernel
theorem dX6_holdBallot_234 : decode cX6_holdBallot 234 = .ok (.iconst 0, 1) := by decide +kernel
theorem dX6_holdBallot_235 : decode cX6_holdBallot 235 = .ok (.iastore, 1) := by decide +kernel
theorem dX6_holdBallot_236 : decode cX6_holdBallot 236 = .ok (.aload_n 0, 1) := by decide +kernel
theorem dX6_holdBallot_237 : decode cX6_holdBallot 237 = .ok (.getfield 7, 3) := by decide +kernel
theorem dX6_holdBallot_240 : decode cX6_holdBallot 240 = .ok (.bipush 6, 2) := by decide +kernel
theorem dX6_holdBallot_242 : decode cX6_holdBallot 242 = .ok (.aload_n 0, 1) := by decide +kernel
theorem dX6_holdBallot_243 : decode cX6_holdBallot 243 = .ok (.iload_n 2, 1) := by decide +kernel
theorem dX6_holdBallot_244 : decode cX6_holdBallot 244 = .ok (.invokevirtual 90, 3) := by decide +kernel
theorem dX6_holdBallot_247 : decode cX6_holdBallot 247 = .ok (.iastore, 1) := by decide +kernel
theorem dX6_holdBallot_248 : decode cX6_holdBallot 248 = .ok (.aload_n 0, 1) := by decide +kernel
theorem dX6_holdBallot_249 : decode cX6_holdBallot 249 = .ok (.getfield 7, 3) := by decide +kernel
theorem dX6_holdBallot_252 : decode cX6_holdBallot 252 = .ok (.bipush 7, 2) := by decide +kernel
theorem dX6_holdBallot_254 : decode cX6_holdBallot 254 = .ok (.iload_n 3, 1) := by decide +kernel
theorem dX6_holdBallot_255 : decode cX6_holdBallot 255 = .ok (.iastore, 1) := by decide +kernel
theorem dX6_holdBallot_256 : decode cX6_holdBallot 256 = .ok (.aload_n 0, 1) := by decide +kernel
theorem dX6_holdBallot_257 : decode cX6_holdBallot 257 = .ok (.getfield 7, 3) := by decide +kernel
theorem dX6_holdBallot_260 : decode cX6_holdBallot 260 = .ok (.iconst 4, 1) := by decide +kernel
theorem dX6_holdBallot_261 : decode cX6_holdBallot 261 = .ok (.aload_n 0, 1) := by decide +kernel
theorem dX6_holdBallot_262 : decode cX6_holdBallot 262 = .ok (.getfield 7, 3) := by decide +kernel
theorem dX6_holdBallot_265 : decode cX6_holdBallot 265 = .ok (.iconst 4, 1) := by decide +kernel
theorem dX6_holdBallot_266 : decode cX6_holdBallot 266 = .ok (.iaload, 1) := by decide +kernel
theorem dX6_holdBallot_267 : decode cX6_holdBallot 267 = .ok (.bipush 8, 2) := by decide +kernel
theorem dX6_holdBallot_269 : decode cX6_holdBallot 269 = .ok (.if_icmp .ge 14, 3) := by decide +kernel
theorem dX6_holdBallot_272 : decode cX6_holdBallot 272 = .ok (.aload_n 0, 1) := by decide +kernel
theorem dX6_holdBallot_273 : decode cX6_holdBallot 273 = .ok (.getfield 7, 3) := by decide +kernel
theorem dX6_holdBallot_276 : decode cX6_holdBallot 276 = .ok (.iconst 4, 1) := by decide +kernel
theorem dX6_holdBallot_277 : decode cX6_holdBallot 277 = .ok (.iaload, 1) := by decide +kernel
theorem dX6_holdBallot_278 : decode cX6_holdBallot 278 = .ok (.iconst 1, 1) := by decide +kernel
theorem dX6_holdBallot_279 : decode cX6_holdBallot 279 = .ok (.iadd, 1) := by decide +kernel
theorem dX6_holdBallot_280 : decode cX6_holdBallot 280 = .ok (.goto 5, 3) := by decide +kernel
theorem dX6_holdBallot_283 : decode cX6_holdBallot 283 = .ok (.bipush 8, 2) := by decide +kernel
theorem dX6_holdBallot_285 : decode cX6_holdBallot 285 = .ok (.iastore, 1) := by decide +kernel
theorem dX6_holdBallot_286 : decode cX6_holdBallot 286 = .ok (.aload_n 0, 1) := by decide +kernel
theorem dX6_holdBallot_287 : decode cX6_holdBallot 287 = .ok (.getfield 7, 3) := by decide +kernel
theorem dX6_holdBallot_290 : decode cX6_holdBallot 290 = .ok (.iconst 2, 1) := by decide +kernel
theorem dX6_holdBallot_291 : decode cX6_holdBallot 291 = .ok (.dup2, 1) := by decide +kernel
theorem dX6_holdBallot_292 : decode cX6_holdBallot 292 = .ok (.iaload, 1) := by decide +kernel
theorem dX6_holdBallot_293 : decode cX6_holdBallot 293 = .ok (.iconst 1, 1) := by decide +kernel
theorem dX6_holdBallot_294 : decode cX6_holdBallot 294 = .ok (.iadd, 1) := by decide +kernel
theorem dX6_holdBallot_295 : decode cX6_holdBallot 295 = .ok (.iastore, 1) := by decide +kernel
theorem dX6_holdBallot_296 : decode cX6_holdBallot 296 = .ok (.aload_n 0, 1) := by decide +kernel
theorem dX6_holdBallot_297 : decode cX6_holdBallot 297 = .ok (.getfield 7, 3) := by decide +kernel
theorem dX6_holdBallot_300 : decode cX6_holdBallot 300 = .ok (.iconst 3, 1) := by decide +kernel
theorem dX6_holdBallot_301 : decode cX6_holdBallot 301 = .ok (.dup2, 1) := by decide +kernel
theorem dX6_holdBallot_302 : decode cX6_holdBallot 302 = .ok (.iaload, 1) := by decide +kernel
theorem dX6_holdBallot_303 : decode cX6_holdBallot 303 = .ok (.iload 4, 2) := by decide +kernel
theorem dX6_holdBallot_305 : decode cX6_holdBallot 305 = .ok (.ifCond .eq 7, 3) := by decide +kernel
theorem dX6_holdBallot_308 : decode cX6_holdBallot 308 = .ok (.iconst 1, 1) := by decide +kernel
theorem dX6_holdBallot_309 : decode cX6_holdBallot 309 = .ok (.goto 4, 3) := by decide +kernel
theorem dX6_holdBallot_312 : decode cX6_holdBallot 312 = .ok (.iconst 0, 1) := by decide +kernel
theorem dX6_holdBallot_313 : decode cX6_holdBallot 313 = .ok (.iadd, 1) := by decide +kernel
theorem dX6_holdBallot_314 : decode cX6_holdBallot 314 = .ok (.iastore, 1) := by decide +kernel
theorem dX6_holdBallot_315 : decode cX6_holdBallot 315 = .ok (.iload 4, 2) := by decide +kernel
theorem dX6_holdBallot_317 : decode cX6_holdBallot 317 = .ok (.ireturn, 1) := by decide +kernel
theorem dX6_vote_0 : decode cX6_vote 0 = .ok (.aload_n 0, 1) := by decide +kernel
theorem dX6_vote_1 : decode cX6_vote 1 = .ok (.getfield 7, 3) := by decide +kernel
theorem dX6_vote_4 : decode cX6_vote 4 = .ok (.iconst 0, 1) := by decide +kernel
theorem dX6_vote_5 : decode cX6_vote 5 = .ok (.iaload, 1) := by decide +kernel
theorem dX6_vote_6 : decode cX6_vote 6 = .ok (.ifCond .ne 6, 3) := by decide +kernel
theorem dX6_vote_9 : decode cX6_vote 9 = .ok (.bipush (-100), 2) := by decide +kernel
theorem dX6_vote_11 : decode cX6_vote 11 = .ok (.ireturn, 1) := by decide +kernel
theorem dX6_vote_12 : decode cX6_vote 12 = .ok (.aload_n 0, 1) := by decide +kernel
theorem dX6_vote_13 : decode cX6_vote 13 = .ok (.iconst 0, 1) := by decide +kernel
theorem dX6_vote_14 : decode cX6_vote 14 = .ok (.invokevirtual 138, 3) := by decide +kernel
theorem dX6_vote_17 : decode cX6_vote 17 = .ok (.ifCond .ge 11, 3) := by decide +kernel
theorem dX6_vote_20 : decode cX6_vote 20 = .ok (.bipush (-100), 2) := by decide +kernel
theorem dX6_vote_22 : decode cX6_vote 22 = .ok (.aload_n 0, 1) := by decide +kernel
theorem dX6_vote_23 : decode cX6_vote 23 = .ok (.getfield 129, 3) := by decide +kernel
theorem dX6_vote_26 : decode cX6_vote 26 = .ok (.isub, 1) := by decide +kernel
theorem dX6_vote_27 : decode cX6_vote 27 = .ok (.ireturn, 1) := by decide +kernel
theorem dX6_vote_28 : decode cX6_vote 28 = .ok (.aload_n 0, 1) := by decide +kernel
theorem dX6_vote_29 : decode cX6_vote 29 = .ok (.invokevirtual 50, 3) := by decide +kernel
theorem dX6_vote_32 : decode cX6_vote 32 = .ok (.aload_n 0, 1) := by decide +kernel
theorem dX6_vote_33 : decode cX6_vote 33 = .ok (.iconst 1, 1) := by decide +kernel
theorem dX6_vote_34 : decode cX6_vote 34 = .ok (.invokevirtual 138, 3) := by decide +kernel
theorem dX6_vote_37 : decode cX6_vote 37 = .ok (.ireturn, 1) := by decide +kernel
theorem dX6_rank_0 : decode cX6_rank 0 = .ok (.iconst 0, 1) := by decide +kernel
theorem dX6_rank_1 : decode cX6_rank 1 = .ok (.istore_n 2, 1) := by decide +kernel
theorem dX6_rank_2 : decode cX6_rank 2 = .ok (.iconst 0, 1) := by decide +kernel
theorem dX6_rank_3 : decode cX6_rank 3 = .ok (.istore_n 3, 1) := by decide +kernel
theorem dX6_rank_4 : decode cX6_rank 4 = .ok (.iload_n 3, 1) := by decide +kernel
theorem dX6_rank_5 : decode cX6_rank 5 = .ok (.aload_n 0, 1) := by decide +kernel
theorem dX6_rank_6 : decode cX6_rank 6 = .ok (.getfield 7, 3) := by decide +kernel
theorem dX6_rank_9 : decode cX6_rank 9 = .ok (.iconst 0, 1) := by decide +kernel
theorem dX6_rank_10 : decode cX6_rank 10 = .ok (.iaload, 1) := by decide +kernel
theorem dX6_rank_11 : decode cX6_rank 11 = .ok (.if_icmp .ge 86, 3) := by decide +kernel
theorem dX6_rank_14 : decode cX6_rank 14 = .ok (.aload_n 0, 1) := by decide +kernel
theorem dX6_rank_15 : decode cX6_rank 15 = .ok (.getfield 36, 3) := by decide +kernel
theorem dX6_rank_18 : decode cX6_rank 18 = .ok (.aload_n 0, 1) := by decide +kernel
theorem dX6_rank_19 : decode cX6_rank 19 = .ok (.iload_n 3, 1) := by decide +kernel
theorem dX6_rank_20 : decode cX6_rank 20 = .ok (.invokevirtual 83, 3) := by decide +kernel
theorem dX6_rank_23 : decode cX6_rank 23 = .ok (.iaload, 1) := by decide +kernel
theorem dX6_rank_24 : decode cX6_rank 24 = .ok (.aload_n 0, 1) := by decide +kernel
theorem dX6_rank_25 : decode cX6_rank 25 = .ok (.getfield 36, 3) := by decide +kernel
theorem dX6_rank_28 : decode cX6_rank 28 = .ok (.aload_n 0, 1) := by decide +kernel
theorem dX6_rank_29 : decode cX6_rank 29 = .ok (.iload_n 1, 1) := by decide +kernel
theorem dX6_rank_30 : decode cX6_rank 30 = .ok (.invokevirtual 83, 3) := by decide +kernel
theorem dX6_rank_33 : decode cX6_rank 33 = .ok (.iaload, 1) := by decide +kernel
theorem dX6_rank_34 : decode cX6_rank 34 = .ok (.isub, 1) := by decide +kernel
theorem dX6_rank_35 : decode cX6_rank 35 = .ok (.istore 4, 2) := by decide +kernel
theorem dX6_rank_37 : decode cX6_rank 37 = .ok (.iload 4, 2) := by decide +kernel
theorem dX6_rank_39 : decode cX6_rank 39 = .ok (.ifCond .ne 25, 3) := by decide +kernel
theorem dX6_rank_42 : decode cX6_rank 42 = .ok (.aload_n 0, 1) := by decide +kernel
theorem dX6_rank_43 : decode cX6_rank 43 = .ok (.getfield 7, 3) := by decide +kernel
theorem dX6_rank_46 : decode cX6_rank 46 = .ok (.bipush 29, 2) := by decide +kernel
theorem dX6_rank_48 : decode cX6_rank 48 = .ok (.iload_n 3, 1) := by decide +kernel
theorem dX6_rank_49 : decode cX6_rank 49 = .ok (.iadd, 1) := by decide +kernel
theorem dX6_rank_50 : decode cX6_rank 50 = .ok (.iaload, 1) := by decide +kernel
theorem dX6_rank_51 : decode cX6_rank 51 = .ok (.aload_n 0, 1) := by decide +kernel
theorem dX6_rank_52 : decode cX6_rank 52 = .ok (.getfield 7, 3) := by decide +kernel
theorem dX6_rank_55 : decode cX6_rank 55 = .ok (.bipush 29, 2) := by decide +kernel
theorem dX6_rank_57 : decode cX6_rank 57 = .ok (.iload_n 1, 1) := by decide +kernel
theorem dX6_rank_58 : decode cX6_rank 58 = .ok (.iadd, 1) := by decide +kernel
theorem dX6_rank_59 : decode cX6_rank 59 = .ok (.iaload, 1) := by decide +kernel
theorem dX6_rank_60 : decode cX6_rank 60 = .ok (.isub, 1) := by decide +kernel
theorem dX6_rank_61 : decode cX6_rank 61 = .ok (.goto 5, 3) := by decide +kernel
theorem dX6_rank_64 : decode cX6_rank 64 = .ok (.iload 4, 2) := by decide +kernel
theorem dX6_rank_66 : decode cX6_rank 66 = .ok (.istore 4, 2) := by decide +kernel
theorem dX6_rank_68 : decode cX6_rank 68 = .ok (.iload_n 2, 1) := by decide +kernel
theorem dX6_rank_69 : decode cX6_rank 69 = .ok (.iload 4, 2) := by decide +kernel
theorem dX6_rank_71 : decode cX6_rank 71 = .ok (.ifCond .gt 13, 3) := by decide +kernel
theorem dX6_rank_74 : decode cX6_rank 74 = .ok (.iload 4, 2) := by decide +kernel
theorem dX6_rank_76 : decode cX6_rank 76 = .ok (.ifCond .ne 12, 3) := by decide +kernel
theorem dX6_rank_79 : decode cX6_rank 79 = .ok (.iload_n 3, 1) := by decide +kernel
theorem dX6_rank_80 : decode cX6_rank 80 = .ok (.iload_n 1, 1) := by decide +kernel
theorem dX6_rank_81 : decode cX6_rank 81 = .ok (.if_icmp .ge 7, 3) := by decide +kernel
theorem dX6_rank_84 : decode cX6_rank 84 = .ok (.iconst 1, 1) := by decide +kernel
theorem dX6_rank_85 : decode cX6_rank 85 = .ok (.goto 4, 3) := by decide +kernel
theorem dX6_rank_88 : decode cX6_rank 88 = .ok (.iconst 0, 1) := by decide +kernel
theorem dX6_rank_89 : decode cX6_rank 89 = .ok (.iadd, 1) := by decide +kernel
theorem dX6_rank_90 : decode cX6_rank 90 = .ok (.istore_n 2, 1) := by decide +kernel
theorem dX6_rank_91 : decode cX6_rank 91 = .ok (.iinc 3 1, 3) := by decide +kernel
theorem dX6_rank_94 : decode cX6_rank 94 = .ok (.goto (-90), 3) := by decide +kernel
theorem dX6_rank_97 : decode cX6_rank 97 = .ok (.iload_n 2, 1) := by decide +kernel
theorem dX6_rank_98 : decode cX6_rank 98 = .ok (.ireturn, 1) := by decide +kernel
theorem dX6_member_0 : decode cX6_member 0 = .ok (.aload_n 0, 1) := by decide +kernel
theorem dX6_member_1 : decode cX6_member 1 = .ok (.iload_n 1, 1) := by decide +kernel
theorem dX6_member_2 : decode cX6_member 2 = .ok (.invokevirtual 57, 3) := by decide +kernel
theorem dX6_member_5 : decode cX6_member 5 = .ok (.ifCond .eq 5, 3) := by decide +kernel
theorem dX6_member_8 : decode cX6_member 8 = .ok (.iconst (-1), 1) := by decide +kernel
theorem dX6_member_9 : decode cX6_member 9 = .ok (.ireturn, 1) := by decide +kernel
theorem dX6_member_10 : decode cX6_member 10 = .ok (.aload_n 0, 1) := by decide +kernel
theorem dX6_member_11 : decode cX6_member 11 = .ok (.invokevirtual 114, 3) := by decide +kernel
theorem dX6_member_14 : decode cX6_member 14 = .ok (.aload_n 0, 1) := by decide +kernel
theorem dX6_member_15 : decode cX6_member 15 = .ok (.iload_n 1, 1) := by decide +kernel
theorem dX6_member_16 : decode cX6_member 16 = .ok (.invokevirtual 83, 3) := by decide +kernel
theorem dX6_member_19 : decode cX6_member 19 = .ok (.istore_n 3, 1) := by decide +kernel
theorem dX6_member_20 : decode cX6_member 20 = .ok (.iload_n 2, 1) := by decide +kernel
theorem dX6_member_21 : decode cX6_member 21 = .ok (.tableswitch 178 0 11 #[63, 73, 83, 93, 100, 106, 113, 119, 134, 148, 162, 168], 63) := by decide +kernel
theorem dX6_member_84 : decode cX6_member 84 = .ok (.aload_n 0, 1) := by decide +kernel
theorem dX6_member_85 : decode cX6_member 85 = .ok (.getfield 7, 3) := by decide +kernel
theorem dX6_member_88 : decode cX6_member 88 = .ok (.bipush 29, 2) := by decide +kernel
theorem dX6_member_90 : decode cX6_member 90 = .ok (.iload_n 1, 1) := by decide +kernel
theorem dX6_member_91 : decode cX6_member 91 = .ok (.iadd, 1) := by decide +kernel
theorem dX6_member_92 : decode cX6_member 92 = .ok (.iaload, 1) := by decide +kernel
theorem dX6_member_93 : decode cX6_member 93 = .ok (.ireturn, 1) := by decide +kernel
theorem dX6_member_94 : decode cX6_member 94 = .ok (.aload_n 0, 1) := by decide +kernel
theorem dX6_member_95 : decode cX6_member 95 = .ok (.getfield 7, 3) := by decide +kernel
theorem dX6_member_98 : decode cX6_member 98 = .ok (.bipush 39, 2) := by decide +kernel
theorem dX6_member_100 : decode cX6_member 100 = .ok (.iload_n 1, 1) := by decide +kernel
theorem dX6_member_101 : decode cX6_member 101 = .ok (.iadd, 1) := by decide +kernel
theorem dX6_member_102 : decode cX6_member 102 = .ok (.iaload, 1) := by decide +kernel
theorem dX6_member_103 : decode cX6_member 103 = .ok (.ireturn, 1) := by decide +kernel
theorem dX6_member_104 : decode cX6_member 104 = .ok (.aload_n 0, 1) := by decide +kernel
theorem dX6_member_105 : decode cX6_member 105 = .ok (.getfield 7, 3) := by decide +kernel
theorem dX6_member_108 : decode cX6_member 108 = .ok (.bipush 49, 2) := by decide +kernel
theorem dX6_member_110 : decode cX6_member 110 = .ok (.iload_n 1, 1) := by decide +kernel
theorem dX6_member_111 : decode cX6_member 111 = .ok (.iadd, 1) := by decide +kernel
theorem dX6_member_112 : decode cX6_member 112 = .ok (.iaload, 1) := by decide +kernel
theorem dX6_member_113 : decode cX6_member 113 = .ok (.ireturn, 1) := by decide +kernel
theorem dX6_member_114 : decode cX6_member 114 = .ok (.aload_n 0, 1) := by decide +kernel
theorem dX6_member_115 : decode cX6_member 115 = .ok (.getfield 26, 3) := by decide +kernel
theorem dX6_member_118 : decode cX6_member 118 = .ok (.iload_n 3, 1) := by decide +kernel
theorem dX6_member_119 : decode cX6_member 119 = .ok (.iaload, 1) := by decide +kernel
theorem dX6_member_120 : decode cX6_member 120 = .ok (.ireturn, 1) := by decide +kernel
theorem dX6_member_121 : decode cX6_member 121 = .ok (.aload_n 0, 1) := by decide +kernel
theorem dX6_member_122 : decode cX6_member 122 = .ok (.iload_n 1, 1) := by decide +kernel
theorem dX6_member_123 : decode cX6_member 123 = .ok (.invokevirtual 135, 3) := by decide +kernel
theorem dX6_member_126 : decode cX6_member 126 = .ok (.ireturn, 1) := by decide +kernel
theorem dX6_member_127 : decode cX6_member 127 = .ok (.aload_n 0, 1) := by decide +kernel
theorem dX6_member_128 : decode cX6_member 128 = .ok (.getfield 36, 3) := by decide +kernel
theorem dX6_member_131 : decode cX6_member 131 = .ok (.iload_n 3, 1) := by decide +kernel
theorem dX6_member_132 : decode cX6_member 132 = .ok (.iaload, 1) := by decide +kernel
theorem dX6_member_133 : decode cX6_member 133 = .ok (.ireturn, 1) := by decide +kernel
theorem dX6_member_134 : decode cX6_member 134 = .ok (.aload_n 0, 1) := by decide +kernel
theorem dX6_member_135 : decode cX6_member 135 = .ok (.iload_n 3, 1) := by decide +kernel
theorem dX6_member_136 : decode cX6_member 136 = .ok (.invokevirtual 142, 3) := by decide +kernel
theorem dX6_member_139 : decode cX6_member 139 = .ok (.ireturn, 1) := by decide +kernel
theorem dX6_member_140 : decode cX6_member 140 = .ok (.aload_n 0, 1) := by decide +kernel
theorem dX6_member_141 : decode cX6_member 141 = .ok (.getfield 36, 3) := by decide +kernel
theorem dX6_member_144 : decode cX6_member 144 = .ok (.iload_n 3, 1) := by decide +kernel
theorem dX6_member_145 : decode cX6_member 145 = .ok (.iaload, 1) := by decide +kernel
theorem dX6_member_146 : decode cX6_member 146 = .ok (.ifCond .ne 7, 3) := by decide +kernel
theorem dX6_member_149 : decode cX6_member 149 = .ok (.iconst 1, 1) := by decide +kernel
theorem dX6_member_150 : decode cX6_member 150 = .ok (.goto 4, 3) := by decide +kernel
theorem dX6_member_153 : decode cX6_member 153 = .ok (.iconst 0, 1) := by decide +kernel
theorem dX6_member_154 : decode cX6_member 154 = .ok (.ireturn, 1) := by decide +kernel
theorem dX6_member_155 : decode cX6_member 155 = .ok (.aload_n 0, 1) := by decide +kernel
theorem dX6_member_156 : decode cX6_member 156 = .ok (.iload_n 3, 1) := by decide +kernel
theorem dX6_member_157 : decode cX6_member 157 = .ok (.invokevirtual 145, 3) := by decide +kernel
theorem dX6_member_160 : decode cX6_member 160 = .ok (.ifCond .eq 7, 3) := by decide +kernel
theorem dX6_member_163 : decode cX6_member 163 = .ok (.iconst 1, 1) := by decide +kernel
theorem dX6_member_164 : decode cX6_member 164 = .ok (.goto 4, 3) := by decide +kernel
theorem dX6_member_167 : decode cX6_member 167 = .ok (.iconst 0, 1) := by decide +kernel
theorem dX6_member_168 : decode cX6_member 168 = .ok (.ireturn, 1) := by decide +kernel
theorem dX6_member_169 : decode cX6_member 169 = .ok (.aload_n 0, 1) := by decide +kernel
theorem dX6_member_170 : decode cX6_member 170 = .ok (.iload_n 3, 1) := by decide +kernel
theorem dX6_member_171 : decode cX6_member 171 = .ok (.invokevirtual 148, 3) := by decide +kernel
theorem dX6_member_174 : decode cX6_member 174 = .ok (.ifCond .eq 7, 3) := by decide +kernel
theorem dX6_member_177 : decode cX6_member 177 = .ok (.iconst 1, 1) := by decide +kernel
theorem dX6_member_178 : decode cX6_member 178 = .ok (.goto 4, 3) := by decide +kernel
theorem dX6_member_181 : decode cX6_member 181 = .ok (.iconst 0, 1) := by decide +kernel
theorem dX6_member_182 : decode cX6_member 182 = .ok (.ireturn, 1) := by decide +kernel
theorem dX6_member_183 : decode cX6_member 183 = .ok (.aload_n 0, 1) := by decide +kernel
theorem dX6_member_184 : decode cX6_member 184 = .ok (.iload_n 1, 1) := by decide +kernel
theorem dX6_member_185 : decode cX6_member 185 = .ok (.invokevirtual 151, 3) := by decide +kernel
theorem dX6_member_188 : decode cX6_member 188 = .ok (.ireturn, 1) := by decide +kernel
theorem dX6_member_189 : decode cX6_member 189 = .ok (.aload_n 0, 1) := by decide +kernel
theorem dX6_member_190 : decode cX6_member 190 = .ok (.getfield 7, 3) := by decide +kernel
theorem dX6_member_193 : decode cX6_member 193 = .ok (.bipush 59, 2) := by decide +kernel
theorem dX6_member_195 : decode cX6_member 195 = .ok (.iload_n 1, 1) := by decide +kernel
theorem dX6_member_196 : decode cX6_member 196 = .ok (.iadd, 1) := by decide +kernel
theorem dX6_member_197 : decode cX6_member 197 = .ok (.iaload, 1) := by decide +kernel
theorem dX6_member_198 : decode cX6_member 198 = .ok (.ireturn, 1) := by decide +kernel
theorem dX6_member_199 : decode cX6_member 199 = .ok (.bipush (-2), 2) := by decide +kernel
theorem dX6_member_201 : decode cX6_member 201 = .ok (.ireturn, 1) := by decide +kernel
theorem dX6_common_0 : decode cX6_common 0 = .ok (.iload_n 0, 1) := by decide +kernel
theorem dX6_common_1 : decode cX6_common 1 = .ok (.istore_n 2, 1) := by decide +kernel
theorem dX6_common_2 : decode cX6_common 2 = .ok (.iload_n 1, 1) := by decide +kernel
theorem dX6_common_3 : decode cX6_common 3 = .ok (.istore_n 3, 1) := by decide +kernel
theorem dX6_common_4 : decode cX6_common 4 = .ok (.iload_n 3, 1) := by decide +kernel
theorem dX6_common_5 : decode cX6_common 5 = .ok (.ifCond .eq 16, 3) := by decide +kernel
theorem dX6_common_8 : decode cX6_common 8 = .ok (.iload_n 2, 1) := by decide +kernel
theorem dX6_common_9 : decode cX6_common 9 = .ok (.iload_n 3, 1) := by decide +kernel
theorem dX6_common_10 : decode cX6_common 10 = .ok (.irem, 1) := by decide +kernel
theorem dX6_common_11 : decode cX6_common 11 = .ok (.istore 4, 2) := by decide +kernel
theorem dX6_common_13 : decode cX6_common 13 = .ok (.iload_n 3, 1) := by decide +kernel
theorem dX6_common_14 : decode cX6_common 14 = .ok (.istore_n 2, 1) := by decide +kernel
theorem dX6_common_15 : decode cX6_common 15 = .ok (.iload 4, 2) := by decide +kernel
theorem dX6_common_17 : decode cX6_common 17 = .ok (.istore_n 3, 1) := by decide +kernel
theorem dX6_common_18 : decode cX6_common 18 = .ok (.goto (-14), 3) := by decide +kernel
theorem dX6_common_21 : decode cX6_common 21 = .ok (.iload_n 2, 1) := by decide +kernel
theorem dX6_common_22 : decode cX6_common 22 = .ok (.ireturn, 1) := by decide +kernel
theorem dX6_share_0 : decode cX6_share 0 = .ok (.aload_n 0, 1) := by decide +kernel
theorem dX6_share_1 : decode cX6_share 1 = .ok (.iload_n 1, 1) := by decide +kernel
theorem dX6_share_2 : decode cX6_share 2 = .ok (.invokevirtual 57, 3) := by decide +kernel
theorem dX6_share_5 : decode cX6_share 5 = .ok (.ifCond .eq 5, 3) := by decide +kernel
theorem dX6_share_8 : decode cX6_share 8 = .ok (.iconst (-1), 1) := by decide +kernel
theorem dX6_share_9 : decode cX6_share 9 = .ok (.ireturn, 1) := by decide +kernel
theorem dX6_share_10 : decode cX6_share 10 = .ok (.iload_n 2, 1) := by decide +kernel
theorem dX6_share_11 : decode cX6_share 11 = .ok (.iconst 0, 1) := by decide +kernel
theorem dX6_share_12 : decode cX6_share 12 = .ok (.iconst 3, 1) := by decide +kernel
theorem dX6_share_13 : decode cX6_share 13 = .ok (.invokestatic 53, 3) := by decide +kernel
theorem dX6_share_16 : decode cX6_share 16 = .ok (.ifCond .ne 6, 3) := by decide +kernel
theorem dX6_share_19 : decode cX6_share 19 = .ok (.bipush (-2), 2) := by decide +kernel
theorem dX6_share_21 : decode cX6_share 21 = .ok (.ireturn, 1) := by decide +kernel
theorem dX6_share_22 : decode cX6_share 22 = .ok (.aload_n 0, 1) := by decide +kernel
theorem dX6_share_23 : decode cX6_share 23 = .ok (.invokevirtual 114, 3) := by decide +kernel
theorem dX6_share_26 : decode cX6_share 26 = .ok (.aload_n 0, 1) := by decide +kernel
theorem dX6_share_27 : decode cX6_share 27 = .ok (.invokevirtual 154, 3) := by decide +kernel
theorem dX6_share_30 : decode cX6_share 30 = .ok (.ifCond .ne 6, 3) := by decide +kernel
theorem dX6_share_33 : decode cX6_share 33 = .ok (.bipush (-5), 2) := by decide +kernel
theorem dX6_share_35 : decode cX6_share 35 = .ok (.ireturn, 1) := by decide +kernel
theorem dX6_share_36 : decode cX6_share 36 = .ok (.aload_n 0, 1) := by decide +kernel
theorem dX6_share_37 : decode cX6_share 37 = .ok (.iload_n 1, 1) := by decide +kernel
theorem dX6_share_38 : decode cX6_share 38 = .ok (.invokevirtual 83, 3) := by decide +kernel
theorem dX6_share_41 : decode cX6_share 41 = .ok (.istore_n 3, 1) := by decide +kernel
theorem dX6_share_42 : decode cX6_share 42 = .ok (.iload_n 2, 1) := by decide +kernel
theorem dX6_share_43 : decode cX6_share 43 = .ok (.iconst 2, 1) := by decide +kernel
theorem dX6_share_44 : decode cX6_share 44 = .ok (.if_icmp .ge 12, 3) := by decide +kernel
theorem dX6_share_47 : decode cX6_share 47 = .ok (.aload_n 0, 1) := by decide +kernel
theorem dX6_share_48 : decode cX6_share 48 = .ok (.getfield 36, 3) := by decide +kernel
theorem dX6_share_51 : decode cX6_share 51 = .ok (.iload_n 3, 1) := by decide +kernel
theorem dX6_share_52 : decode cX6_share 52 = .ok (.iaload, 1) := by decide +kernel
theorem dX6_share_53 : decode cX6_share 53 = .ok (.goto 8, 3) := by decide +kernel
theorem dX6_share_56 : decode cX6_share 56 = .ok (.aload_n 0, 1) := by decide +kernel
theorem dX6_share_57 : decode cX6_share 57 = .ok (.iload_n 3, 1) := by decide +kernel
theorem dX6_share_58 : decode cX6_share 58 = .ok (.invokevirtual 142, 3) := by decide +kernel
theorem dX6_share_61 : decode cX6_share 61 = .ok (.istore 4, 2) := by decide +kernel
theorem dX6_share_63 : decode cX6_share 63 = .ok (.iload_n 2, 1) := by decide +kernel
theorem dX6_share_64 : decode cX6_share 64 = .ok (.iconst 2, 1) := by decide +kernel
theorem dX6_share_65 : decode cX6_share 65 = .ok (.if_icmp .ge 10, 3) := by decide +kernel
theorem dX6_share_68 : decode cX6_share 68 = .ok (.aload_n 0, 1) := by decide +kernel
theorem dX6_share_69 : decode cX6_share 69 = .ok (.getfield 99, 3) := by decide +kernel
theorem dX6_share_72 : decode cX6_share 72 = .ok (.goto 10, 3) := by decide +kernel
theorem dX6_share_75 : decode cX6_share 75 = .ok (.aload_n 0, 1) := by decide +kernel
theorem dX6_share_76 : decode cX6_share 76 = .ok (.getfield 77, 3) := by decide +kernel
theorem dX6_share_79 : decode cX6_share 79 = .ok (.invokestatic 108, 3) := by decide +kernel
theorem dX6_share_82 : decode cX6_share 82 = .ok (.istore 5, 2) := by decide +kernel
theorem dX6_share_84 : decode cX6_share 84 = .ok (.iload 5, 2) := by decide +kernel
theorem dX6_share_86 : decode cX6_share 86 = .ok (.iload 4, 2) := by decide +kernel
theorem dX6_share_88 : decode cX6_share 88 = .ok (.invokestatic 157, 3) := by decide +kernel
theorem dX6_share_91 : decode cX6_share 91 = .ok (.istore 6, 2) := by decide +kernel
theorem dX6_share_93 : decode cX6_share 93 = .ok (.iload_n 2, 1) := by decide +kernel
theorem dX6_share_94 : decode cX6_share 94 = .ok (.iconst 2, 1) := by decide +kernel
theorem dX6_share_95 : decode cX6_share 95 = .ok (.irem, 1) := by decide +kernel
theorem dX6_share_96 : decode cX6_share 96 = .ok (.ifCond .ne 11, 3) := by decide +kernel
theorem dX6_share_99 : decode cX6_share 99 = .ok (.iload 4, 2) := by decide +kernel
theorem dX6_share_101 : decode cX6_share 101 = .ok (.iload 6, 2) := by decide +kernel
theorem dX6_share_103 : decode cX6_share 103 = .ok (.idiv, 1) := by decide +kernel
theorem dX6_share_104 : decode cX6_share 104 = .ok (.goto 8, 3) := by decide +kernel
theorem dX6_share_107 : decode cX6_share 107 = .ok (.iload 5, 2) := by decide +kernel
theorem dX6_share_109 : decode cX6_share 109 = .ok (.iload 6, 2) := by decide +kernel
theorem dX6_share_111 : decode cX6_share 111 = .ok (.idiv, 1) := by decide +kernel
theorem dX6_share_112 : decode cX6_share 112 = .ok (.ireturn, 1) := by decide +kernel
theorem dX6_wins_0 : decode cX6_wins 0 = .ok (.iload_n 1, 1) := by decide +kernel
theorem dX6_wins_1 : decode cX6_wins 1 = .ok (.iconst 0, 1) := by decide +kernel
theorem dX6_wins_2 : decode cX6_wins 2 = .ok (.iconst 1, 1) := by decide +kernel
theorem dX6_wins_3 : decode cX6_wins 3 = .ok (.aload_n 0, 1) := by decide +kernel
theorem dX6_wins_4 : decode cX6_wins 4 = .ok (.getfield 7, 3) := by decide +kernel
theorem dX6_wins_7 : decode cX6_wins 7 = .ok (.iconst 0, 1) := by decide +kernel
theorem dX6_wins_8 : decode cX6_wins 8 = .ok (.iaload, 1) := by decide +kernel
theorem dX6_wins_9 : decode cX6_wins 9 = .ok (.ishl, 1) := by decide +kernel
theorem dX6_wins_10 : decode cX6_wins 10 = .ok (.iconst 1, 1) := by decide +kernel
theorem dX6_wins_11 : decode cX6_wins 11 = .ok (.isub, 1) := by decide +kernel
theorem dX6_wins_12 : decode cX6_wins 12 = .ok (.invokestatic 53, 3) := by decide +kernel
theorem dX6_wins_15 : decode cX6_wins 15 = .ok (.ifCond .ne 6, 3) := by decide +kernel
theorem dX6_wins_18 : decode cX6_wins 18 = .ok (.bipush (-2), 2) := by decide +kernel
theorem dX6_wins_20 : decode cX6_wins 20 = .ok (.ireturn, 1) := by decide +kernel
theorem dX6_wins_21 : decode cX6_wins 21 = .ok (.aload_n 0, 1) := by decide +kernel
theorem dX6_wins_22 : decode cX6_wins 22 = .ok (.invokevirtual 114, 3) := by decide +kernel
theorem dX6_wins_25 : decode cX6_wins 25 = .ok (.iconst 0, 1) := by decide +kernel
theorem dX6_wins_26 : decode cX6_wins 26 = .ok (.istore_n 2, 1) := by decide +kernel
theorem dX6_wins_27 : decode cX6_wins 27 = .ok (.iconst 0, 1) := by decide +kernel
theorem dX6_wins_28 : decode cX6_wins 28 = .ok (.istore_n 3, 1) := by decide +kernel
theorem dX6_wins_29 : decode cX6_wins 29 = .ok (.iload_n 3, 1) := by decide +kernel
theorem dX6_wins_30 : decode cX6_wins 30 = .ok (.aload_n 0, 1) := by decide +kernel
theorem dX6_wins_31 : decode cX6_wins 31 = .ok (.getfield 77, 3) := by decide +kernel
theorem dX6_wins_34 : decode cX6_wins 34 = .ok (.if_icmp .ge 32, 3) := by decide +kernel
theorem dX6_wins_37 : decode cX6_wins 37 = .ok (.iload_n 2, 1) := by decide +kernel
theorem dX6_wins_38 : decode cX6_wins 38 = .ok (.aload_n 0, 1) := by decide +kernel
theorem dX6_wins_39 : decode cX6_wins 39 = .ok (.getfield 29, 3) := by decide +kernel
theorem dX6_wins_42 : decode cX6_wins 42 = .ok (.iload_n 3, 1) := by decide +kernel
theorem dX6_wins_43 : decode cX6_wins 43 = .ok (.iaload, 1) := by decide +kernel
theorem dX6_wins_44 : decode cX6_wins 44 = .ok (.iload_n 1, 1) := by decide +kernel
theorem dX6_wins_45 : decode cX6_wins 45 = .ok (.iconst (-1), 1) := by decide +kernel
theorem dX6_wins_46 : decode cX6_wins 46 = .ok (.ixor, 1) := by decide +kernel
theorem dX6_wins_47 : decode cX6_wins 47 = .ok (.iand, 1) := by decide +kernel
theorem dX6_wins_48 : decode cX6_wins 48 = .ok (.ifCond .ne 9, 3) := by decide +kernel
theorem dX6_wins_51 : decode cX6_wins 51 = .ok (.iconst 1, 1) := by decide +kernel
theorem dX6_wins_52 : decode cX6_wins 52 = .ok (.iload_n 3, 1) := by decide +kernel
theorem dX6_wins_53 : decode cX6_wins 53 = .ok (.ishl, 1) := by decide +kernel
theorem dX6_wins_54 : decode cX6_wins 54 = .ok (.goto 4, 3) := by decide +kernel
theorem dX6_wins_57 : decode cX6_wins 57 = .ok (.iconst 0, 1) := by decide +kernel
theorem dX6_wins_58 : decode cX6_wins 58 = .ok (.ior, 1) := by decide +kernel
theorem dX6_wins_59 : decode cX6_wins 59 = .ok (.istore_n 2, 1) := by decide +kernel
theorem dX6_wins_60 : decode cX6_wins 60 = .ok (.iinc 3 1, 3) := by decide +kernel
theorem dX6_wins_63 : decode cX6_wins 63 = .ok (.goto (-34), 3) := by decide +kernel
theorem dX6_wins_66 : decode cX6_wins 66 = .ok (.aload_n 0, 1) := by decide +kernel
theorem dX6_wins_67 : decode cX6_wins 67 = .ok (.getfield 32, 3) := by decide +kernel
theorem dX6_wins_70 : decode cX6_wins 70 = .ok (.iload_n 2, 1) := by decide +kernel
theorem dX6_wins_71 : decode cX6_wins 71 = .ok (.baload, 1) := by decide +kernel
theorem dX6_wins_72 : decode cX6_wins 72 = .ok (.ifCond .eq 7, 3) := by decide +kernel
theorem dX6_wins_75 : decode cX6_wins 75 = .ok (.iconst 1, 1) := by decide +kernel
theorem dX6_wins_76 : decode cX6_wins 76 = .ok (.goto 4, 3) := by decide +kernel
theorem dX6_wins_79 : decode cX6_wins 79 = .ok (.iconst 0, 1) := by decide +kernel
theorem dX6_wins_80 : decode cX6_wins 80 = .ok (.ireturn, 1) := by decide +kernel
theorem dX6_leastCoalition_0 : decode cX6_leastCoalition 0 = .ok (.iload_n 1, 1) := by decide +kernel
theorem dX6_leastCoalition_1 : decode cX6_leastCoalition 1 = .ok (.ifCond .lt 12, 3) := by decide +kernel
theorem dX6_leastCoalition_4 : decode cX6_leastCoalition 4 = .ok (.iload_n 2, 1) := by decide +kernel
theorem dX6_leastCoalition_5 : decode cX6_leastCoalition 5 = .ok (.iconst 0, 1) := by decide +kernel
theorem dX6_leastCoalition_6 : decode cX6_leastCoalition 6 = .ok (.iconst 2, 1) := by decide +kernel
theorem dX6_leastCoalition_7 : decode cX6_leastCoalition 7 = .ok (.invokestatic 53, 3) := by decide +kernel
theorem dX6_leastCoalition_10 : decode cX6_leastCoalition 10 = .ok (.ifCond .ne 6, 3) := by decide +kernel
theorem dX6_leastCoalition_13 : decode cX6_leastCoalition 13 = .ok (.bipush (-2), 2) := by decide +kernel
theorem dX6_leastCoalition_15 : decode cX6_leastCoalition 15 = .ok (.ireturn, 1) := by decide +kernel
theorem dX6_leastCoalition_16 : decode cX6_leastCoalition 16 = .ok (.aload_n 0, 1) := by decide +kernel
theorem dX6_leastCoalition_17 : decode cX6_leastCoalition 17 = .ok (.invokevirtual 160, 3) := by decide +kernel
theorem dX6_leastCoalition_20 : decode cX6_leastCoalition 20 = .ok (.iload_n 1, 1) := by decide +kernel
theorem dX6_leastCoalition_21 : decode cX6_leastCoalition 21 = .ok (.aload_n 0, 1) := by decide +kernel
theorem dX6_leastCoalition_22 : decode cX6_leastCoalition 22 = .ok (.getfield 117, 3) := by decide +kernel
theorem dX6_leastCoalition_25 : decode cX6_leastCoalition 25 = .ok (.if_icmp .lt 6, 3) := by decide +kernel
theorem dX6_leastCoalition_28 : decode cX6_leastCoalition 28 = .ok (.bipush (-5), 2) := by decide +kernel
theorem dX6_leastCoalition_30 : decode cX6_leastCoalition 30 = .ok (.ireturn, 1) := by decide +kernel
theorem dX6_leastCoalition_31 : decode cX6_leastCoalition 31 = .ok (.aload_n 0, 1) := by decide +kernel
theorem dX6_leastCoalition_32 : decode cX6_leastCoalition 32 = .ok (.getfield 39, 3) := by decide +kernel
theorem dX6_leastCoalition_35 : decode cX6_leastCoalition 35 = .ok (.iload_n 1, 1) := by decide +kernel
theorem dX6_leastCoalition_36 : decode cX6_leastCoalition 36 = .ok (.iaload, 1) := by decide +kernel
theorem dX6_leastCoalition_37 : decode cX6_leastCoalition 37 = .ok (.istore_n 3, 1) := by decide +kernel
theorem dX6_leastCoalition_38 : decode cX6_leastCoalition 38 = .ok (.iload_n 2, 1) := by decide +kernel
theorem dX6_leastCoalition_39 : decode cX6_leastCoalition 39 = .ok (.ifCond .ne 11, 3) := by decide +kernel
theorem dX6_leastCoalition_42 : decode cX6_leastCoalition 42 = .ok (.aload_n 0, 1) := by decide +kernel
theorem dX6_leastCoalition_43 : decode cX6_leastCoalition 43 = .ok (.iload_n 3, 1) := by decide +kernel
theorem dX6_leastCoalition_44 : decode cX6_leastCoalition 44 = .ok (.invokevirtual 111, 3) := by decide +kernel
theorem dX6_leastCoalition_47 : decode cX6_leastCoalition 47 = .ok (.goto 20, 3) := by decide +kernel
theorem dX6_leastCoalition_50 : decode cX6_leastCoalition 50 = .ok (.iload_n 2, 1) := by decide +kernel
theorem dX6_leastCoalition_51 : decode cX6_leastCoalition 51 = .ok (.iconst 1, 1) := by decide +kernel
theorem dX6_leastCoalition_52 : decode cX6_leastCoalition 52 = .ok (.if_icmp .ne 10, 3) := by decide +kernel
theorem dX6_leastCoalition_55 : decode cX6_leastCoalition 55 = .ok (.iload_n 3, 1) := by decide +kernel
theorem dX6_leastCoalition_56 : decode cX6_leastCoalition 56 = .ok (.invokestatic 105, 3) := by decide +kernel
theorem dX6_leastCoalition_59 : decode cX6_leastCoalition 59 = .ok (.goto 8, 3) := by decide +kernel
theorem dX6_leastCoalition_62 : decode cX6_leastCoalition 62 = .ok (.aload_n 0, 1) := by decide +kernel
theorem dX6_leastCoalition_63 : decode cX6_leastCoalition 63 = .ok (.iload_n 3, 1) := by decide +kernel
theorem dX6_leastCoalition_64 : decode cX6_leastCoalition 64 = .ok (.invokevirtual 90, 3) := by decide +kernel
theorem dX6_leastCoalition_67 : decode cX6_leastCoalition 67 = .ok (.ireturn, 1) := by decide +kernel
theorem dX6_ranked_0 : decode cX6_ranked 0 = .ok (.iload_n 1, 1) := by decide +kernel
theorem dX6_ranked_1 : decode cX6_ranked 1 = .ok (.ifCond .ge 6, 3) := by decide +kernel
theorem dX6_ranked_4 : decode cX6_ranked 4 = .ok (.bipush (-2), 2) := by decide +kernel
theorem dX6_ranked_6 : decode cX6_ranked 6 = .ok (.ireturn, 1) := by decide +kernel
theorem dX6_ranked_7 : decode cX6_ranked 7 = .ok (.aload_n 0, 1) := by decide +kernel
theorem dX6_ranked_8 : decode cX6_ranked 8 = .ok (.invokevirtual 114, 3) := by decide +kernel
theorem dX6_ranked_11 : decode cX6_ranked 11 = .ok (.iconst 0, 1) := by decide +kernel
theorem dX6_ranked_12 : decode cX6_ranked 12 = .ok (.istore_n 2, 1) := by decide +kernel
theorem dX6_ranked_13 : decode cX6_ranked 13 = .ok (.iload_n 2, 1) := by decide +kernel
theorem dX6_ranked_14 : decode cX6_ranked 14 = .ok (.aload_n 0, 1) := by decide +kernel
theorem dX6_ranked_15 : decode cX6_ranked 15 = .ok (.getfield 7, 3) := by decide +kernel
theorem dX6_ranked_18 : decode cX6_ranked 18 = .ok (.iconst 0, 1) := by decide +kernel
theorem dX6_ranked_19 : decode cX6_ranked 19 = .ok (.iaload, 1) := by decide +kernel
theorem dX6_ranked_20 : decode cX6_ranked 20 = .ok (.if_icmp .ge 20, 3) := by decide +kernel
theorem dX6_ranked_23 : decode cX6_ranked 23 = .ok (.aload_n 0, 1) := by decide +kernel
theorem dX6_ranked_24 : decode cX6_ranked 24 = .ok (.iload_n 2, 1) := by decide +kernel
theorem dX6_ranked_25 : decode cX6_ranked 25 = .ok (.invokevirtual 151, 3) := by decide +kernel
theorem dX6_ranked_28 : decode cX6_ranked 28 = .ok (.iload_n 1, 1) := by decide +kernel
theorem dX6_ranked_29 : decode cX6_ranked 29 = .ok (.if_icmp .ne 5, 3) := by decide +kernel
theorem dX6_ranked_32 : decode cX6_ranked 32 = .ok (.iload_n 2, 1) := by decide +kernel
theorem dX6_ranked_33 : decode cX6_ranked 33 = .ok (.ireturn, 1) := by decide +kernel
theorem dX6_ranked_34 : decode cX6_ranked 34 = .ok (.iinc 2 1, 3) := by decide +kernel
theorem dX6_ranked_37 : decode cX6_ranked 37 = .ok (.goto (-24), 3) := by decide +kernel
theorem dX6_ranked_40 : decode cX6_ranked 40 = .ok (.bipush (-5), 2) := by decide +kernel
theorem dX6_ranked_42 : decode cX6_ranked 42 = .ok (.ireturn, 1) := by decide +kernel
theorem dX6_dummies_0 : decode cX6_dummies 0 = .ok (.iconst 0, 1) := by decide +kernel
theorem dX6_dummies_1 : decode cX6_dummies 1 = .ok (.istore_n 1, 1) := by decide +kernel
theorem dX6_dummies_2 : decode cX6_dummies 2 = .ok (.iconst 0, 1) := by decide +kernel
theorem dX6_dummies_3 : decode cX6_dummies 3 = .ok (.istore_n 2, 1) := by decide +kernel
theorem dX6_dummies_4 : decode cX6_dummies 4 = .ok (.iload_n 2, 1) := by decide +kernel
theorem dX6_dummies_5 : decode cX6_dummies 5 = .ok (.aload_n 0, 1) := by decide +kernel
theorem dX6_dummies_6 : decode cX6_dummies 6 = .ok (.getfield 77, 3) := by decide +kernel
theorem dX6_dummies_9 : decode cX6_dummies 9 = .ok (.if_icmp .ge 26, 3) := by decide +kernel
theorem dX6_dummies_12 : decode cX6_dummies 12 = .ok (.iload_n 1, 1) := by decide +kernel
theorem dX6_dummies_13 : decode cX6_dummies 13 = .ok (.aload_n 0, 1) := by decide +kernel
theorem dX6_dummies_14 : decode cX6_dummies 14 = .ok (.getfield 36, 3) := by decide +kernel
theorem dX6_dummies_17 : decode cX6_dummies 17 = .ok (.iload_n 2, 1) := by decide +kernel
theorem dX6_dummies_18 : decode cX6_dummies 18 = .ok (.iaload, 1) := by decide +kernel
theorem dX6_dummies_19 : decode cX6_dummies 19 = .ok (.ifCond .ne 7, 3) := by decide +kernel
theorem dX6_dummies_22 : decode cX6_dummies 22 = .ok (.iconst 1, 1) := by decide +kernel
theorem dX6_dummies_23 : decode cX6_dummies 23 = .ok (.goto 4, 3) := by decide +kernel
theorem dX6_dummies_26 : decode cX6_dummies 26 = .ok (.iconst 0, 1) := by decide +kernel
theorem dX6_dummies_27 : decode cX6_dummies 27 = .ok (.iadd, 1) := by decide +kernel
theorem dX6_dummies_28 : decode cX6_dummies 28 = .ok (.istore_n 1, 1) := by decide +kernel
theorem dX6_dummies_29 : decode cX6_dummies 29 = .ok (.iinc 2 1, 3) := by decide +kernel
theorem dX6_dummies_32 : decode cX6_dummies 32 = .ok (.goto (-28), 3) := by decide +kernel
theorem dX6_dummies_35 : decode cX6_dummies 35 = .ok (.iload_n 1, 1) := by decide +kernel
theorem dX6_dummies_36 : decode cX6_dummies 36 = .ok (.ireturn, 1) := by decide +kernel
theorem dX6_blockers_0 : decode cX6_blockers 0 = .ok (.iconst 0, 1) := by decide +kernel
theorem dX6_blockers_1 : decode cX6_blockers 1 = .ok (.istore_n 1, 1) := by decide +kernel
theorem dX6_blockers_2 : decode cX6_blockers 2 = .ok (.iconst 0, 1) := by decide +kernel
theorem dX6_blockers_3 : decode cX6_blockers 3 = .ok (.istore_n 2, 1) := by decide +kernel
theorem dX6_blockers_4 : decode cX6_blockers 4 = .ok (.iload_n 2, 1) := by decide +kernel
theorem dX6_blockers_5 : decode cX6_blockers 5 = .ok (.aload_n 0, 1) := by decide +kernel
theorem dX6_blockers_6 : decode cX6_blockers 6 = .ok (.getfield 77, 3) := by decide +kernel
theorem dX6_blockers_9 : decode cX6_blockers 9 = .ok (.if_icmp .ge 25, 3) := by decide +kernel
theorem dX6_blockers_12 : decode cX6_blockers 12 = .ok (.iload_n 1, 1) := by decide +kernel
theorem dX6_blockers_13 : decode cX6_blockers 13 = .ok (.aload_n 0, 1) := by decide +kernel
theorem dX6_blockers_14 : decode cX6_blockers 14 = .ok (.iload_n 2, 1) := by decide +kernel
theorem dX6_blockers_15 : decode cX6_blockers 15 = .ok (.invokevirtual 145, 3) := by decide +kernel
theorem dX6_blockers_18 : decode cX6_blockers 18 = .ok (.ifCond .eq 7, 3) := by decide +kernel
theorem dX6_blockers_21 : decode cX6_blockers 21 = .ok (.iconst 1, 1) := by decide +kernel
theorem dX6_blockers_22 : decode cX6_blockers 22 = .ok (.goto 4, 3) := by decide +kernel
theorem dX6_blockers_25 : decode cX6_blockers 25 = .ok (.iconst 0, 1) := by decide +kernel
theorem dX6_blockers_26 : decode cX6_blockers 26 = .ok (.iadd, 1) := by decide +kernel
theorem dX6_blockers_27 : decode cX6_blockers 27 = .ok (.istore_n 1, 1) := by decide +kernel
theorem dX6_blockers_28 : decode cX6_blockers 28 = .ok (.iinc 2 1, 3) := by decide +kernel
theorem dX6_blockers_31 : decode cX6_blockers 31 = .ok (.goto (-27), 3) := by decide +kernel
theorem dX6_blockers_34 : decode cX6_blockers 34 = .ok (.iload_n 1, 1) := by decide +kernel
theorem dX6_blockers_35 : decode cX6_blockers 35 = .ok (.ireturn, 1) := by decide +kernel
theorem dX6_withQuota_0 : decode cX6_withQuota 0 = .ok (.iload_n 1, 1) := by decide +kernel
theorem dX6_withQuota_1 : decode cX6_withQuota 1 = .ok (.iconst 1, 1) := by decide +kernel
theorem dX6_withQuota_2 : decode cX6_withQuota 2 = .ok (.sipush 500, 3) := by decide +kernel
theorem dX6_withQuota_5 : decode cX6_withQuota 5 = .ok (.invokestatic 53, 3) := by decide +kernel
theorem dX6_withQuota_8 : decode cX6_withQuota 8 = .ok (.ifCond .eq 12, 3) := by decide +kernel
theorem dX6_withQuota_11 : decode cX6_withQuota 11 = .ok (.iload_n 2, 1) := by decide +kernel
theorem dX6_withQuota_12 : decode cX6_withQuota 12 = .ok (.iconst 0, 1) := by decide +kernel
theorem dX6_withQuota_13 : decode cX6_withQuota 13 = .ok (.iconst 3, 1) := by decide +kernel
theorem dX6_withQuota_14 : decode cX6_withQuota 14 = .ok (.invokestatic 53, 3) := by decide +kernel
theorem dX6_withQuota_17 : decode cX6_withQuota 17 = .ok (.ifCond .ne 6, 3) := by decide +kernel
theorem dX6_withQuota_20 : decode cX6_withQuota 20 = .ok (.bipush (-2), 2) := by decide +kernel
theorem dX6_withQuota_22 : decode cX6_withQuota 22 = .ok (.ireturn, 1) := by decide +kernel
theorem dX6_withQuota_23 : decode cX6_withQuota 23 = .ok (.aload_n 0, 1) := by decide +kernel
theorem dX6_withQuota_24 : decode cX6_withQuota 24 = .ok (.iload_n 1, 1) := by decide +kernel
theorem dX6_withQuota_25 : decode cX6_withQuota 25 = .ok (.invokevirtual 102, 3) := by decide +kernel
theorem dX6_withQuota_28 : decode cX6_withQuota 28 = .ok (.iload_n 2, 1) := by decide +kernel
theorem dX6_withQuota_29 : decode cX6_withQuota 29 = .ok (.ifCond .ne 10, 3) := by decide +kernel
theorem dX6_withQuota_32 : decode cX6_withQuota 32 = .ok (.aload_n 0, 1) := by decide +kernel
theorem dX6_withQuota_33 : decode cX6_withQuota 33 = .ok (.invokevirtual 163, 3) := by decide +kernel
theorem dX6_withQuota_36 : decode cX6_withQuota 36 = .ok (.goto 31, 3) := by decide +kernel
theorem dX6_withQuota_39 : decode cX6_withQuota 39 = .ok (.iload_n 2, 1) := by decide +kernel
theorem dX6_withQuota_40 : decode cX6_withQuota 40 = .ok (.iconst 1, 1) := by decide +kernel
theorem dX6_withQuota_41 : decode cX6_withQuota 41 = .ok (.if_icmp .ne 10, 3) := by decide +kernel
theorem dX6_withQuota_44 : decode cX6_withQuota 44 = .ok (.aload_n 0, 1) := by decide +kernel
theorem dX6_withQuota_45 : decode cX6_withQuota 45 = .ok (.invokevirtual 166, 3) := by decide +kernel
theorem dX6_withQuota_48 : decode cX6_withQuota 48 = .ok (.goto 19, 3) := by decide +kernel
theorem dX6_withQuota_51 : decode cX6_withQuota 51 = .ok (.iload_n 2, 1) := by decide +kernel
theorem dX6_withQuota_52 : decode cX6_withQuota 52 = .ok (.iconst 2, 1) := by decide +kernel
theorem dX6_withQuota_53 : decode cX6_withQuota 53 = .ok (.if_icmp .ne 10, 3) := by decide +kernel
theorem dX6_withQuota_56 : decode cX6_withQuota 56 = .ok (.aload_n 0, 1) := by decide +kernel
theorem dX6_withQuota_57 : decode cX6_withQuota 57 = .ok (.getfield 99, 3) := by decide +kernel
theorem dX6_withQuota_60 : decode cX6_withQuota 60 = .ok (.goto 7, 3) := by decide +kernel
theorem dX6_withQuota_63 : decode cX6_withQuota 63 = .ok (.aload_n 0, 1) := by decide +kernel
theorem dX6_withQuota_64 : decode cX6_withQuota 64 = .ok (.invokevirtual 154, 3) := by decide +kernel
theorem dX6_withQuota_67 : decode cX6_withQuota 67 = .ok (.ireturn, 1) := by decide +kernel
theorem dX6_allWeights_0 : decode cX6_allWeights 0 = .ok (.iconst 0, 1) := by decide +kernel
theorem dX6_allWeights_1 : decode cX6_allWeights 1 = .ok (.istore_n 1, 1) := by decide +kernel
theorem dX6_allWeights_2 : decode cX6_allWeights 2 = .ok (.iconst 0, 1) := by decide +kernel
theorem dX6_allWeights_3 : decode cX6_allWeights 3 = .ok (.istore_n 2, 1) := by decide +kernel
theorem dX6_allWeights_4 : decode cX6_allWeights 4 = .ok (.iload_n 2, 1) := by decide +kernel
theorem dX6_allWeights_5 : decode cX6_allWeights 5 = .ok (.aload_n 0, 1) := by decide +kernel
theorem dX6_allWeights_6 : decode cX6_allWeights 6 = .ok (.getfield 7, 3) := by decide +kernel
theorem dX6_allWeights_9 : decode cX6_allWeights 9 = .ok (.iconst 0, 1) := by decide +kernel
theorem dX6_allWeights_10 : decode cX6_allWeights 10 = .ok (.iaload, 1) := by decide +kernel
theorem dX6_allWeights_11 : decode cX6_allWeights 11 = .ok (.if_icmp .ge 21, 3) := by decide +kernel
theorem dX6_allWeights_14 : decode cX6_allWeights 14 = .ok (.iload_n 1, 1) := by decide +kernel
theorem dX6_allWeights_15 : decode cX6_allWeights 15 = .ok (.aload_n 0, 1) := by decide +kernel
theorem dX6_allWeights_16 : decode cX6_allWeights 16 = .ok (.getfield 7, 3) := by decide +kernel
theorem dX6_allWeights_19 : decode cX6_allWeights 19 = .ok (.bipush 29, 2) := by decide +kernel
theorem dX6_allWeights_21 : decode cX6_allWeights 21 = .ok (.iload_n 2, 1) := by decide +kernel
theorem dX6_allWeights_22 : decode cX6_allWeights 22 = .ok (.iadd, 1) := by decide +kernel
theorem dX6_allWeights_23 : decode cX6_allWeights 23 = .ok (.iaload, 1) := by decide +kernel
theorem dX6_allWeights_24 : decode cX6_allWeights 24 = .ok (.iadd, 1) := by decide +kernel
theorem dX6_allWeights_25 : decode cX6_allWeights 25 = .ok (.istore_n 1, 1) := by decide +kernel
theorem dX6_allWeights_26 : decode cX6_allWeights 26 = .ok (.iinc 2 1, 3) := by decide +kernel
theorem dX6_allWeights_29 : decode cX6_allWeights 29 = .ok (.goto (-25), 3) := by decide +kernel
theorem dX6_allWeights_32 : decode cX6_allWeights 32 = .ok (.iload_n 1, 1) := by decide +kernel
theorem dX6_allWeights_33 : decode cX6_allWeights 33 = .ok (.ireturn, 1) := by decide +kernel
theorem dX6_leavesOut_0 : decode cX6_leavesOut 0 = .ok (.aload_n 0, 1) := by decide +kernel
theorem dX6_leavesOut_1 : decode cX6_leavesOut 1 = .ok (.iload_n 1, 1) := by decide +kernel
theorem dX6_leavesOut_2 : decode cX6_leavesOut 2 = .ok (.invokevirtual 57, 3) := by decide +kernel
theorem dX6_leavesOut_5 : decode cX6_leavesOut 5 = .ok (.ifCond .eq 5, 3) := by decide +kernel
theorem dX6_leavesOut_8 : decode cX6_leavesOut 8 = .ok (.iconst (-1), 1) := by decide +kernel
theorem dX6_leavesOut_9 : decode cX6_leavesOut 9 = .ok (.ireturn, 1) := by decide +kernel
theorem dX6_leavesOut_10 : decode cX6_leavesOut 10 = .ok (.iload_n 2, 1) := by decide +kernel
theorem dX6_leavesOut_11 : decode cX6_leavesOut 11 = .ok (.iconst 1, 1) := by decide +kernel
theorem dX6_leavesOut_12 : decode cX6_leavesOut 12 = .ok (.sipush 500, 3) := by decide +kernel
theorem dX6_leavesOut_15 : decode cX6_leavesOut 15 = .ok (.invokestatic 53, 3) := by decide +kernel
theorem dX6_leavesOut_18 : decode cX6_leavesOut 18 = .ok (.ifCond .ne 6, 3) := by decide +kernel
theorem dX6_leavesOut_21 : decode cX6_leavesOut 21 = .ok (.bipush (-2), 2) := by decide +kernel
theorem dX6_leavesOut_23 : decode cX6_leavesOut 23 = .ok (.ireturn, 1) := by decide +kernel
theorem dX6_leavesOut_24 : decode cX6_leavesOut 24 = .ok (.aload_n 0, 1) := by decide +kernel
theorem dX6_leavesOut_25 : decode cX6_leavesOut 25 = .ok (.invokevirtual 169, 3) := by decide +kernel
theorem dX6_leavesOut_28 : decode cX6_leavesOut 28 = .ok (.istore_n 3, 1) := by decide +kernel
theorem dX6_leavesOut_29 : decode cX6_leavesOut 29 = .ok (.iload_n 2, 1) := by decide +kernel
theorem dX6_leavesOut_30 : decode cX6_leavesOut 30 = .ok (.istore 4, 2) := by decide +kernel
theorem dX6_leavesOut_32 : decode cX6_leavesOut 32 = .ok (.iload 4, 2) := by decide +kernel
theorem dX6_leavesOut_34 : decode cX6_leavesOut 34 = .ok (.iload_n 3, 1) := by decide +kernel
theorem dX6_leavesOut_35 : decode cX6_leavesOut 35 = .ok (.if_icmp .gt 31, 3) := by decide +kernel
theorem dX6_leavesOut_38 : decode cX6_leavesOut 38 = .ok (.aload_n 0, 1) := by decide +kernel
theorem dX6_leavesOut_39 : decode cX6_leavesOut 39 = .ok (.iload 4, 2) := by decide +kernel
theorem dX6_leavesOut_41 : decode cX6_leavesOut 41 = .ok (.invokevirtual 102, 3) := by decide +kernel
theorem dX6_leavesOut_44 : decode cX6_leavesOut 44 = .ok (.aload_n 0, 1) := by decide +kernel
theorem dX6_leavesOut_45 : decode cX6_leavesOut 45 = .ok (.getfield 36, 3) := by decide +kernel
theorem dX6_leavesOut_48 : decode cX6_leavesOut 48 = .ok (.aload_n 0, 1) := by decide +kernel
theorem dX6_leavesOut_49 : decode cX6_leavesOut 49 = .ok (.iload_n 1, 1) := by decide +kernel
theorem dX6_leavesOut_50 : decode cX6_leavesOut 50 = .ok (.invokevirtual 83, 3) := by decide +kernel
theorem dX6_leavesOut_53 : decode cX6_leavesOut 53 = .ok (.iaload, 1) := by decide +kernel
theorem dX6_leavesOut_54 : decode cX6_leavesOut 54 = .ok (.ifCond .ne 6, 3) := by decide +kernel
theorem dX6_leavesOut_57 : decode cX6_leavesOut 57 = .ok (.iload 4, 2) := by decide +kernel
theorem dX6_leavesOut_59 : decode cX6_leavesOut 59 = .ok (.ireturn, 1) := by decide +kernel
theorem dX6_leavesOut_60 : decode cX6_leavesOut 60 = .ok (.iinc 4 1, 3) := by decide +kernel
theorem dX6_leavesOut_63 : decode cX6_leavesOut 63 = .ok (.goto (-31), 3) := by decide +kernel
theorem dX6_leavesOut_66 : decode cX6_leavesOut 66 = .ok (.bipush (-5), 2) := by decide +kernel
theorem dX6_leavesOut_68 : decode cX6_leavesOut 68 = .ok (.ireturn, 1) := by decide +kernel
theorem dX6_apart_0 : decode cX6_apart 0 = .ok (.lconst 0, 1) := by decide +kernel
theorem dX6_apart_1 : decode cX6_apart 1 = .ok (.lstore_n 2, 1) := by decide +kernel
theorem dX6_apart_2 : decode cX6_apart 2 = .ok (.iconst 0, 1) := by decide +kernel
theorem dX6_apart_3 : decode cX6_apart 3 = .ok (.istore 4, 2) := by decide +kernel
theorem dX6_apart_5 : decode cX6_apart 5 = .ok (.iload 4, 2) := by decide +kernel
theorem dX6_apart_7 : decode cX6_apart 7 = .ok (.aload_n 0, 1) := by decide +kernel
theorem dX6_apart_8 : decode cX6_apart 8 = .ok (.getfield 77, 3) := by decide +kernel
theorem dX6_apart_11 : decode cX6_apart 11 = .ok (.if_icmp .ge 55, 3) := by decide +kernel
theorem dX6_apart_14 : decode cX6_apart 14 = .ok (.aload_n 0, 1) := by decide +kernel
theorem dX6_apart_15 : decode cX6_apart 15 = .ok (.getfield 36, 3) := by decide +kernel
theorem dX6_apart_18 : decode cX6_apart 18 = .ok (.iload 4, 2) := by decide +kernel
theorem dX6_apart_20 : decode cX6_apart 20 = .ok (.iaload, 1) := by decide +kernel
theorem dX6_apart_21 : decode cX6_apart 21 = .ok (.i2l, 1) := by decide +kernel
theorem dX6_apart_22 : decode cX6_apart 22 = .ok (.iload_n 1, 1) := by decide +kernel
theorem dX6_apart_23 : decode cX6_apart 23 = .ok (.i2l, 1) := by decide +kernel
theorem dX6_apart_24 : decode cX6_apart 24 = .ok (.lmul, 1) := by decide +kernel
theorem dX6_apart_25 : decode cX6_apart 25 = .ok (.aload_n 0, 1) := by decide +kernel
theorem dX6_apart_26 : decode cX6_apart 26 = .ok (.getfield 26, 3) := by decide +kernel
theorem dX6_apart_29 : decode cX6_apart 29 = .ok (.iload 4, 2) := by decide +kernel
theorem dX6_apart_31 : decode cX6_apart 31 = .ok (.iaload, 1) := by decide +kernel
theorem dX6_apart_32 : decode cX6_apart 32 = .ok (.i2l, 1) := by decide +kernel
theorem dX6_apart_33 : decode cX6_apart 33 = .ok (.aload_n 0, 1) := by decide +kernel
theorem dX6_apart_34 : decode cX6_apart 34 = .ok (.getfield 99, 3) := by decide +kernel
theorem dX6_apart_37 : decode cX6_apart 37 = .ok (.i2l, 1) := by decide +kernel
theorem dX6_apart_38 : decode cX6_apart 38 = .ok (.lmul, 1) := by decide +kernel
theorem dX6_apart_39 : decode cX6_apart 39 = .ok (.lsub, 1) := by decide +kernel
theorem dX6_apart_40 : decode cX6_apart 40 = .ok (.lstore 5, 2) := by decide +kernel
theorem dX6_apart_42 : decode cX6_apart 42 = .ok (.lload_n 2, 1) := by decide +kernel
theorem dX6_apart_43 : decode cX6_apart 43 = .ok (.lload 5, 2) := by decide +kernel
theorem dX6_apart_45 : decode cX6_apart 45 = .ok (.lconst 0, 1) := by decide +kernel
theorem dX6_apart_46 : decode cX6_apart 46 = .ok (.lcmp, 1) := by decide +kernel
theorem dX6_apart_47 : decode cX6_apart 47 = .ok (.ifCond .ge 9, 3) := by decide +kernel
theorem dX6_apart_50 : decode cX6_apart 50 = .ok (.lload 5, 2) := by decide +kernel
theorem dX6_apart_52 : decode cX6_apart 52 = .ok (.lneg, 1) := by decide +kernel
theorem dX6_apart_53 : decode cX6_apart 53 = .ok (.goto 5, 3) := by decide +kernel
theorem dX6_apart_56 : decode cX6_apart 56 = .ok (.lload 5, 2) := by decide +kernel
theorem dX6_apart_58 : decode cX6_apart 58 = .ok (.ladd, 1) := by decide +kernel
theorem dX6_apart_59 : decode cX6_apart 59 = .ok (.lstore_n 2, 1) := by decide +kernel
theorem dX6_apart_60 : decode cX6_apart 60 = .ok (.iinc 4 1, 3) := by decide +kernel
theorem dX6_apart_63 : decode cX6_apart 63 = .ok (.goto (-58), 3) := by decide +kernel
theorem dX6_apart_66 : decode cX6_apart 66 = .ok (.lload_n 2, 1) := by decide +kernel
theorem dX6_apart_67 : decode cX6_apart 67 = .ok (.lreturn, 1) := by decide +kernel
theorem dX6_fairest_0 : decode cX6_fairest 0 = .ok (.aload_n 0, 1) := by decide +kernel
theorem dX6_fairest_1 : decode cX6_fairest 1 = .ok (.invokevirtual 169, 3) := by decide +kernel
theorem dX6_fairest_4 : decode cX6_fairest 4 = .ok (.istore_n 1, 1) := by decide +kernel
theorem dX6_fairest_5 : decode cX6_fairest 5 = .ok (.bipush (-5), 2) := by decide +kernel
theorem dX6_fairest_7 : decode cX6_fairest 7 = .ok (.istore_n 2, 1) := by decide +kernel
theorem dX6_fairest_8 : decode cX6_fairest 8 = .ok (.lconst 0, 1) := by decide +kernel
theorem dX6_fairest_9 : decode cX6_fairest 9 = .ok (.lstore_n 3, 1) := by decide +kernel
theorem dX6_fairest_10 : decode cX6_fairest 10 = .ok (.lconst 1, 1) := by decide +kernel
theorem dX6_fairest_11 : decode cX6_fairest 11 = .ok (.lstore 5, 2) := by decide +kernel
theorem dX6_fairest_13 : decode cX6_fairest 13 = .ok (.iconst 1, 1) := by decide +kernel
theorem dX6_fairest_14 : decode cX6_fairest 14 = .ok (.istore 7, 2) := by decide +kernel
theorem dX6_fairest_16 : decode cX6_fairest 16 = .ok (.iload 7, 2) := by decide +kernel
theorem dX6_fairest_18 : decode cX6_fairest 18 = .ok (.iload_n 1, 1) := by decide +kernel
theorem dX6_fairest_19 : decode cX6_fairest 19 = .ok (.if_icmp .gt 55, 3) := by decide +kernel
theorem dX6_fairest_22 : decode cX6_fairest 22 = .ok (.aload_n 0, 1) := by decide +kernel
theorem dX6_fairest_23 : decode cX6_fairest 23 = .ok (.iload 7, 2) := by decide +kernel
theorem dX6_fairest_25 : decode cX6_fairest 25 = .ok (.invokevirtual 102, 3) := by decide +kernel
theorem dX6_fairest_28 : decode cX6_fairest 28 = .ok (.aload_n 0, 1) := by decide +kernel
theorem dX6_fairest_29 : decode cX6_fairest 29 = .ok (.iload_n 1, 1) := by decide +kernel
theorem dX6_fairest_30 : decode cX6_fairest 30 = .ok (.invokevirtual 172, 3) := by decide +kernel
theorem dX6_fairest_33 : decode cX6_fairest 33 = .ok (.lstore 8, 2) := by decide +kernel
theorem dX6_fairest_35 : decode cX6_fairest 35 = .ok (.iload_n 2, 1) := by decide +kernel
theorem dX6_fairest_36 : decode cX6_fairest 36 = .ok (.ifCond .lt 19, 3) := by decide +kernel
theorem dX6_fairest_39 : decode cX6_fairest 39 = .ok (.lload 8, 2) := by decide +kernel
theorem dX6_fairest_41 : decode cX6_fairest 41 = .ok (.lload 5, 2) := by decide +kernel
theorem dX6_fairest_43 : decode cX6_fairest 43 = .ok (.lmul, 1) := by decide +kernel
theorem dX6_fairest_44 : decode cX6_fairest 44 = .ok (.lload_n 3, 1) := by decide +kernel
theorem dX6_fairest_45 : decode cX6_fairest 45 = .ok (.aload_n 0, 1) := by decide +kernel
theorem dX6_fairest_46 : decode cX6_fairest 46 = .ok (.getfield 99, 3) := by decide +kernel
theorem dX6_fairest_49 : decode cX6_fairest 49 = .ok (.i2l, 1) := by decide +kernel
theorem dX6_fairest_50 : decode cX6_fairest 50 = .ok (.lmul, 1) := by decide +kernel
theorem dX6_fairest_51 : decode cX6_fairest 51 = .ok (.lcmp, 1) := by decide +kernel
theorem dX6_fairest_52 : decode cX6_fairest 52 = .ok (.ifCond .ge 16, 3) := by decide +kernel
theorem dX6_fairest_55 : decode cX6_fairest 55 = .ok (.iload 7, 2) := by decide +kernel
theorem dX6_fairest_57 : decode cX6_fairest 57 = .ok (.istore_n 2, 1) := by decide +kernel
theorem dX6_fairest_58 : decode cX6_fairest 58 = .ok (.lload 8, 2) := by decide +kernel
theorem dX6_fairest_60 : decode cX6_fairest 60 = .ok (.lstore_n 3, 1) := by decide +kernel
theorem dX6_fairest_61 : decode cX6_fairest 61 = .ok (.aload_n 0, 1) := by decide +kernel
theorem dX6_fairest_62 : decode cX6_fairest 62 = .ok (.getfield 99, 3) := by decide +kernel
theorem dX6_fairest_65 : decode cX6_fairest 65 = .ok (.i2l, 1) := by decide +kernel
theorem dX6_fairest_66 : decode cX6_fairest 66 = .ok (.lstore 5, 2) := by decide +kernel
theorem dX6_fairest_68 : decode cX6_fairest 68 = .ok (.iinc 7 1, 3) := by decide +kernel
theorem dX6_fairest_71 : decode cX6_fairest 71 = .ok (.goto (-55), 3) := by decide +kernel
theorem dX6_fairest_74 : decode cX6_fairest 74 = .ok (.iload_n 2, 1) := by decide +kernel
theorem dX6_fairest_75 : decode cX6_fairest 75 = .ok (.ireturn, 1) := by decide +kernel
theorem dX6_ballot_0 : decode cX6_ballot 0 = .ok (.iload_n 1, 1) := by decide +kernel
theorem dX6_ballot_1 : decode cX6_ballot 1 = .ok (.ifCond .lt 12, 3) := by decide +kernel
theorem dX6_ballot_4 : decode cX6_ballot 4 = .ok (.iload_n 2, 1) := by decide +kernel
theorem dX6_ballot_5 : decode cX6_ballot 5 = .ok (.iconst 0, 1) := by decide +kernel
theorem dX6_ballot_6 : decode cX6_ballot 6 = .ok (.iconst 2, 1) := by decide +kernel
theorem dX6_ballot_7 : decode cX6_ballot 7 = .ok (.invokestatic 53, 3) := by decide +kernel
theorem dX6_ballot_10 : decode cX6_ballot 10 = .ok (.ifCond .ne 6, 3) := by decide +kernel
theorem dX6_ballot_13 : decode cX6_ballot 13 = .ok (.bipush (-2), 2) := by decide +kernel
theorem dX6_ballot_15 : decode cX6_ballot 15 = .ok (.ireturn, 1) := by decide +kernel
theorem dX6_ballot_16 : decode cX6_ballot 16 = .ok (.iload_n 1, 1) := by decide +kernel
theorem dX6_ballot_17 : decode cX6_ballot 17 = .ok (.aload_n 0, 1) := by decide +kernel
theorem dX6_ballot_18 : decode cX6_ballot 18 = .ok (.getfield 7, 3) := by decide +kernel
theorem dX6_ballot_21 : decode cX6_ballot 21 = .ok (.iconst 4, 1) := by decide +kernel
theorem dX6_ballot_22 : decode cX6_ballot 22 = .ok (.iaload, 1) := by decide +kernel
theorem dX6_ballot_23 : decode cX6_ballot 23 = .ok (.if_icmp .ge 18, 3) := by decide +kernel
theorem dX6_ballot_26 : decode cX6_ballot 26 = .ok (.aload_n 0, 1) := by decide +kernel
theorem dX6_ballot_27 : decode cX6_ballot 27 = .ok (.getfield 7, 3) := by decide +kernel
theorem dX6_ballot_30 : decode cX6_ballot 30 = .ok (.iconst 5, 1) := by decide +kernel
theorem dX6_ballot_31 : decode cX6_ballot 31 = .ok (.iconst 3, 1) := by decide +kernel
theorem dX6_ballot_32 : decode cX6_ballot 32 = .ok (.iload_n 1, 1) := by decide +kernel
theorem dX6_ballot_33 : decode cX6_ballot 33 = .ok (.imul, 1) := by decide +kernel
theorem dX6_ballot_34 : decode cX6_ballot 34 = .ok (.iadd, 1) := by decide +kernel
theorem dX6_ballot_35 : decode cX6_ballot 35 = .ok (.iload_n 2, 1) := by decide +kernel
theorem dX6_ballot_36 : decode cX6_ballot 36 = .ok (.iadd, 1) := by decide +kernel
theorem dX6_ballot_37 : decode cX6_ballot 37 = .ok (.iaload, 1) := by decide +kernel
theorem dX6_ballot_38 : decode cX6_ballot 38 = .ok (.goto 5, 3) := by decide +kernel
theorem dX6_ballot_41 : decode cX6_ballot 41 = .ok (.bipush (-5), 2) := by decide +kernel
theorem dX6_ballot_43 : decode cX6_ballot 43 = .ok (.ireturn, 1) := by decide +kernel
theorem dX6_count_0 : decode cX6_count 0 = .ok (.aload_n 0, 1) := by decide +kernel
theorem dX6_count_1 : decode cX6_count 1 = .ok (.invokevirtual 160, 3) := by decide +kernel
theorem dX6_count_4 : decode cX6_count 4 = .ok (.iload_n 1, 1) := by decide +kernel
theorem dX6_count_5 : decode cX6_count 5 = .ok (.tableswitch 140 0 12 #[67, 74, 79, 86, 91, 96, 101, 106, 111, 116, 123, 130, 135], 67) := by decide +kernel
theorem dX6_count_72 : decode cX6_count 72 = .ok (.aload_n 0, 1) := by decide +kernel
theorem dX6_count_73 : decode cX6_count 73 = .ok (.getfield 7, 3) := by decide +kernel
theorem dX6_count_76 : decode cX6_count 76 = .ok (.iconst 0, 1) := by decide +kernel
theorem dX6_count_77 : decode cX6_count 77 = .ok (.iaload, 1) := by decide +kernel
theorem dX6_count_78 : decode cX6_count 78 = .ok (.ireturn, 1) := by decide +kernel
theorem dX6_count_79 : decode cX6_count 79 = .ok (.aload_n 0, 1) := by decide +kernel
theorem dX6_count_80 : decode cX6_count 80 = .ok (.getfield 77, 3) := by decide +kernel
theorem dX6_count_83 : decode cX6_count 83 = .ok (.ireturn, 1) := by decide +kernel
theorem dX6_count_84 : decode cX6_count 84 = .ok (.aload_n 0, 1) := by decide +kernel
theorem dX6_count_85 : decode cX6_count 85 = .ok (.getfield 7, 3) := by decide +kernel
theorem dX6_count_88 : decode cX6_count 88 = .ok (.iconst 1, 1) := by decide +kernel
theorem dX6_count_89 : decode cX6_count 89 = .ok (.iaload, 1) := by decide +kernel
theorem dX6_count_90 : decode cX6_count 90 = .ok (.ireturn, 1) := by decide +kernel
theorem dX6_count_91 : decode cX6_count 91 = .ok (.aload_n 0, 1) := by decide +kernel
theorem dX6_count_92 : decode cX6_count 92 = .ok (.invokevirtual 169, 3) := by decide +kernel
theorem dX6_count_95 : decode cX6_count 95 = .ok (.ireturn, 1) := by decide +kernel
theorem dX6_count_96 : decode cX6_count 96 = .ok (.aload_n 0, 1) := by decide +kernel
theorem dX6_count_97 : decode cX6_count 97 = .ok (.invokevirtual 154, 3) := by decide +kernel
theorem dX6_count_100 : decode cX6_count 100 = .ok (.ireturn, 1) := by decide +kernel
theorem dX6_count_101 : decode cX6_count 101 = .ok (.aload_n 0, 1) := by decide +kernel
theorem dX6_count_102 : decode cX6_count 102 = .ok (.getfield 117, 3) := by decide +kernel
theorem dX6_count_105 : decode cX6_count 105 = .ok (.ireturn, 1) := by decide +kernel
theorem dX6_count_106 : decode cX6_count 106 = .ok (.aload_n 0, 1) := by decide +kernel
theorem dX6_count_107 : decode cX6_count 107 = .ok (.getfield 99, 3) := by decide +kernel
theorem dX6_count_110 : decode cX6_count 110 = .ok (.ireturn, 1) := by decide +kernel
theorem dX6_count_111 : decode cX6_count 111 = .ok (.aload_n 0, 1) := by decide +kernel
theorem dX6_count_112 : decode cX6_count 112 = .ok (.invokevirtual 163, 3) := by decide +kernel
theorem dX6_count_115 : decode cX6_count 115 = .ok (.ireturn, 1) := by decide +kernel
theorem dX6_count_116 : decode cX6_count 116 = .ok (.aload_n 0, 1) := by decide +kernel
theorem dX6_count_117 : decode cX6_count 117 = .ok (.invokevirtual 69, 3) := by decide +kernel
theorem dX6_count_120 : decode cX6_count 120 = .ok (.ireturn, 1) := by decide +kernel
theorem dX6_count_121 : decode cX6_count 121 = .ok (.aload_n 0, 1) := by decide +kernel
theorem dX6_count_122 : decode cX6_count 122 = .ok (.getfield 7, 3) := by decide +kernel
theorem dX6_count_125 : decode cX6_count 125 = .ok (.iconst 2, 1) := by decide +kernel
theorem dX6_count_126 : decode cX6_count 126 = .ok (.iaload, 1) := by decide +kernel
theorem dX6_count_127 : decode cX6_count 127 = .ok (.ireturn, 1) := by decide +kernel
theorem dX6_count_128 : decode cX6_count 128 = .ok (.aload_n 0, 1) := by decide +kernel
theorem dX6_count_129 : decode cX6_count 129 = .ok (.getfield 7, 3) := by decide +kernel
theorem dX6_count_132 : decode cX6_count 132 = .ok (.iconst 3, 1) := by decide +kernel
theorem dX6_count_133 : decode cX6_count 133 = .ok (.iaload, 1) := by decide +kernel
theorem dX6_count_134 : decode cX6_count 134 = .ok (.ireturn, 1) := by decide +kernel
theorem dX6_count_135 : decode cX6_count 135 = .ok (.aload_n 0, 1) := by decide +kernel
theorem dX6_count_136 : decode cX6_count 136 = .ok (.getfield 42, 3) := by decide +kernel
theorem dX6_count_139 : decode cX6_count 139 = .ok (.ireturn, 1) := by decide +kernel
theorem dX6_count_140 : decode cX6_count 140 = .ok (.aload_n 0, 1) := by decide +kernel
theorem dX6_count_141 : decode cX6_count 141 = .ok (.getfield 126, 3) := by decide +kernel
theorem dX6_count_144 : decode cX6_count 144 = .ok (.ireturn, 1) := by decide +kernel
theorem dX6_count_145 : decode cX6_count 145 = .ok (.bipush (-2), 2) := by decide +kernel
theorem dX6_count_147 : decode cX6_count 147 = .ok (.ireturn, 1) := by decide +kernel
theorem dJ6_compare_7cf53_0 : decode cJ6_compare_7cf53 0 = .ok (.iload_n 0, 1) := by decide +kernel
theorem dJ6_compare_7cf53_1 : decode cJ6_compare_7cf53 1 = .ok (.iload_n 1, 1) := by decide +kernel
theorem dJ6_compare_7cf53_2 : decode cJ6_compare_7cf53 2 = .ok (.if_icmp .ge 7, 3) := by decide +kernel
theorem dJ6_compare_7cf53_5 : decode cJ6_compare_7cf53 5 = .ok (.iconst (-1), 1) := by decide +kernel
theorem dJ6_compare_7cf53_6 : decode cJ6_compare_7cf53 6 = .ok (.goto 13, 3) := by decide +kernel
theorem dJ6_compare_7cf53_9 : decode cJ6_compare_7cf53 9 = .ok (.iload_n 0, 1) := by decide +kernel
theorem dJ6_compare_7cf53_10 : decode cJ6_compare_7cf53 10 = .ok (.iload_n 1, 1) := by decide +kernel
theorem dJ6_compare_7cf53_11 : decode cJ6_compare_7cf53 11 = .ok (.if_icmp .ne 7, 3) := by decide +kernel
theorem dJ6_compare_7cf53_14 : decode cJ6_compare_7cf53 14 = .ok (.iconst 0, 1) := by decide +kernel
theorem dJ6_compare_7cf53_15 : decode cJ6_compare_7cf53 15 = .ok (.goto 4, 3) := by decide +kernel
theorem dJ6_compare_7cf53_18 : decode cJ6_compare_7cf53 18 = .ok (.iconst 1, 1) := by decide +kernel
theorem dJ6_compare_7cf53_19 : decode cJ6_compare_7cf53 19 = .ok (.ireturn, 1) := by decide +kernel
theorem dJ6_bitCount_0f7a4_0 : decode cJ6_bitCount_0f7a4 0 = .ok (.iload_n 0, 1) := by decide +kernel
theorem dJ6_bitCount_0f7a4_1 : decode cJ6_bitCount_0f7a4 1 = .ok (.iload_n 0, 1) := by decide +kernel
theorem dJ6_bitCount_0f7a4_2 : decode cJ6_bitCount_0f7a4 2 = .ok (.iconst 1, 1) := by decide +kernel
theorem dJ6_bitCount_0f7a4_3 : decode cJ6_bitCount_0f7a4 3 = .ok (.iushr, 1) := by decide +kernel
theorem dJ6_bitCount_0f7a4_4 : decode cJ6_bitCount_0f7a4 4 = .ok (.ldc_w 265, 3) := by decide +kernel
theorem dJ6_bitCount_0f7a4_7 : decode cJ6_bitCount_0f7a4 7 = .ok (.iand, 1) := by decide +kernel
theorem dJ6_bitCount_0f7a4_8 : decode cJ6_bitCount_0f7a4 8 = .ok (.isub, 1) := by decide +kernel
theorem dJ6_bitCount_0f7a4_9 : decode cJ6_bitCount_0f7a4 9 = .ok (.istore_n 0, 1) := by decide +kernel
theorem dJ6_bitCount_0f7a4_10 : decode cJ6_bitCount_0f7a4 10 = .ok (.iload_n 0, 1) := by decide +kernel
theorem dJ6_bitCount_0f7a4_11 : decode cJ6_bitCount_0f7a4 11 = .ok (.ldc_w 266, 3) := by decide +kernel
theorem dJ6_bitCount_0f7a4_14 : decode cJ6_bitCount_0f7a4 14 = .ok (.iand, 1) := by decide +kernel
theorem dJ6_bitCount_0f7a4_15 : decode cJ6_bitCount_0f7a4 15 = .ok (.iload_n 0, 1) := by decide +kernel
theorem dJ6_bitCount_0f7a4_16 : decode cJ6_bitCount_0f7a4 16 = .ok (.iconst 2, 1) := by decide +kernel
theorem dJ6_bitCount_0f7a4_17 : decode cJ6_bitCount_0f7a4 17 = .ok (.iushr, 1) := by decide +kernel
theorem dJ6_bitCount_0f7a4_18 : decode cJ6_bitCount_0f7a4 18 = .ok (.ldc_w 266, 3) := by decide +kernel
theorem dJ6_bitCount_0f7a4_21 : decode cJ6_bitCount_0f7a4 21 = .ok (.iand, 1) := by decide +kernel
theorem dJ6_bitCount_0f7a4_22 : decode cJ6_bitCount_0f7a4 22 = .ok (.iadd, 1) := by decide +kernel
theorem dJ6_bitCount_0f7a4_23 : decode cJ6_bitCount_0f7a4 23 = .ok (.istore_n 0, 1) := by decide +kernel
theorem dJ6_bitCount_0f7a4_24 : decode cJ6_bitCount_0f7a4 24 = .ok (.iload_n 0, 1) := by decide +kernel
theorem dJ6_bitCount_0f7a4_25 : decode cJ6_bitCount_0f7a4 25 = .ok (.iload_n 0, 1) := by decide +kernel
theorem dJ6_bitCount_0f7a4_26 : decode cJ6_bitCount_0f7a4 26 = .ok (.iconst 4, 1) := by decide +kernel
theorem dJ6_bitCount_0f7a4_27 : decode cJ6_bitCount_0f7a4 27 = .ok (.iushr, 1) := by decide +kernel
theorem dJ6_bitCount_0f7a4_28 : decode cJ6_bitCount_0f7a4 28 = .ok (.iadd, 1) := by decide +kernel
theorem dJ6_bitCount_0f7a4_29 : decode cJ6_bitCount_0f7a4 29 = .ok (.ldc_w 267, 3) := by decide +kernel
theorem dJ6_bitCount_0f7a4_32 : decode cJ6_bitCount_0f7a4 32 = .ok (.iand, 1) := by decide +kernel
theorem dJ6_bitCount_0f7a4_33 : decode cJ6_bitCount_0f7a4 33 = .ok (.istore_n 0, 1) := by decide +kernel
theorem dJ6_bitCount_0f7a4_34 : decode cJ6_bitCount_0f7a4 34 = .ok (.iload_n 0, 1) := by decide +kernel
theorem dJ6_bitCount_0f7a4_35 : decode cJ6_bitCount_0f7a4 35 = .ok (.iload_n 0, 1) := by decide +kernel
theorem dJ6_bitCount_0f7a4_36 : decode cJ6_bitCount_0f7a4 36 = .ok (.bipush 8, 2) := by decide +kernel
theorem dJ6_bitCount_0f7a4_38 : decode cJ6_bitCount_0f7a4 38 = .ok (.iushr, 1) := by decide +kernel
theorem dJ6_bitCount_0f7a4_39 : decode cJ6_bitCount_0f7a4 39 = .ok (.iadd, 1) := by decide +kernel
theorem dJ6_bitCount_0f7a4_40 : decode cJ6_bitCount_0f7a4 40 = .ok (.istore_n 0, 1) := by decide +kernel
theorem dJ6_bitCount_0f7a4_41 : decode cJ6_bitCount_0f7a4 41 = .ok (.iload_n 0, 1) := by decide +kernel
theorem dJ6_bitCount_0f7a4_42 : decode cJ6_bitCount_0f7a4 42 = .ok (.iload_n 0, 1) := by decide +kernel
theorem dJ6_bitCount_0f7a4_43 : decode cJ6_bitCount_0f7a4 43 = .ok (.bipush 16, 2) := by decide +kernel
theorem dJ6_bitCount_0f7a4_45 : decode cJ6_bitCount_0f7a4 45 = .ok (.iushr, 1) := by decide +kernel
theorem dJ6_bitCount_0f7a4_46 : decode cJ6_bitCount_0f7a4 46 = .ok (.iadd, 1) := by decide +kernel
theorem dJ6_bitCount_0f7a4_47 : decode cJ6_bitCount_0f7a4 47 = .ok (.istore_n 0, 1) := by decide +kernel
theorem dJ6_bitCount_0f7a4_48 : decode cJ6_bitCount_0f7a4 48 = .ok (.iload_n 0, 1) := by decide +kernel
theorem dJ6_bitCount_0f7a4_49 : decode cJ6_bitCount_0f7a4 49 = .ok (.bipush 63, 2) := by decide +kernel
theorem dJ6_bitCount_0f7a4_51 : decode cJ6_bitCount_0f7a4 51 = .ok (.iand, 1) := by decide +kernel
theorem dJ6_bitCount_0f7a4_52 : decode cJ6_bitCount_0f7a4 52 = .ok (.ireturn, 1) := by decide +kernel
theorem dJ9_abs_0f7a4_0 : decode cJ9_abs_0f7a4 0 = .ok (.iload_n 0, 1) := by decide +kernel
theorem dJ9_abs_0f7a4_1 : decode cJ9_abs_0f7a4 1 = .ok (.ifCond .ge 8, 3) := by decide +kernel
theorem dJ9_abs_0f7a4_4 : decode cJ9_abs_0f7a4 4 = .ok (.iload_n 0, 1) := by decide +kernel
theorem dJ9_abs_0f7a4_5 : decode cJ9_abs_0f7a4 5 = .ok (.ineg, 1) := by decide +kernel
theorem dJ9_abs_0f7a4_6 : decode cJ9_abs_0f7a4 6 = .ok (.goto 4, 3) := by decide +kernel
theorem dJ9_abs_0f7a4_9 : decode cJ9_abs_0f7a4 9 = .ok (.iload_n 0, 1) := by decide +kernel
theorem dJ9_abs_0f7a4_10 : decode cJ9_abs_0f7a4 10 = .ok (.ireturn, 1) := by decide +kernel
theorem dJ9_max_7cf53_0 : decode cJ9_max_7cf53 0 = .ok (.iload_n 0, 1) := by decide +kernel
theorem dJ9_max_7cf53_1 : decode cJ9_max_7cf53 1 = .ok (.iload_n 1, 1) := by decide +kernel
theorem dJ9_max_7cf53_2 : decode cJ9_max_7cf53 2 = .ok (.if_icmp .lt 7, 3) := by decide +kernel
theorem dJ9_max_7cf53_5 : decode cJ9_max_7cf53 5 = .ok (.iload_n 0, 1) := by decide +kernel
theorem dJ9_max_7cf53_6 : decode cJ9_max_7cf53 6 = .ok (.goto 4, 3) := by decide +kernel
theorem dJ9_max_7cf53_9 : decode cJ9_max_7cf53 9 = .ok (.iload_n 1, 1) := by decide +kernel
theorem dJ9_max_7cf53_10 : decode cJ9_max_7cf53 10 = .ok (.ireturn, 1) := by decide +kernel
theorem dJ7_fill_53178_0 : decode cJ7_fill_53178 0 = .ok (.iconst 0, 1) := by decide +kernel
theorem dJ7_fill_53178_1 : decode cJ7_fill_53178 1 = .ok (.istore_n 2, 1) := by decide +kernel
theorem dJ7_fill_53178_2 : decode cJ7_fill_53178 2 = .ok (.aload_n 0, 1) := by decide +kernel
theorem dJ7_fill_53178_3 : decode cJ7_fill_53178 3 = .ok (.arraylength, 1) := by decide +kernel
theorem dJ7_fill_53178_4 : decode cJ7_fill_53178 4 = .ok (.istore_n 3, 1) := by decide +kernel
theorem dJ7_fill_53178_5 : decode cJ7_fill_53178 5 = .ok (.iload_n 2, 1) := by decide +kernel
theorem dJ7_fill_53178_6 : decode cJ7_fill_53178 6 = .ok (.iload_n 3, 1) := by decide +kernel
theorem dJ7_fill_53178_7 : decode cJ7_fill_53178 7 = .ok (.if_icmp .ge 13, 3) := by decide +kernel
theorem dJ7_fill_53178_10 : decode cJ7_fill_53178 10 = .ok (.aload_n 0, 1) := by decide +kernel
theorem dJ7_fill_53178_11 : decode cJ7_fill_53178 11 = .ok (.iload_n 2, 1) := by decide +kernel
theorem dJ7_fill_53178_12 : decode cJ7_fill_53178 12 = .ok (.iload_n 1, 1) := by decide +kernel
theorem dJ7_fill_53178_13 : decode cJ7_fill_53178 13 = .ok (.iastore, 1) := by decide +kernel
theorem dJ7_fill_53178_14 : decode cJ7_fill_53178 14 = .ok (.iinc 2 1, 3) := by decide +kernel
theorem dJ7_fill_53178_17 : decode cJ7_fill_53178 17 = .ok (.goto (-12), 3) := by decide +kernel
theorem dJ7_fill_53178_20 : decode cJ7_fill_53178 20 = .ok (.return_, 1) := by decide +kernel
theorem dL_law_0 : decode cL_law 0 = .ok (.new 7, 3) := by decide +kernel
theorem dL_law_3 : decode cL_law 3 = .ok (.dup, 1) := by decide +kernel
theorem dL_law_4 : decode cL_law 4 = .ok (.invokespecial 9, 3) := by decide +kernel
theorem dL_law_7 : decode cL_law 7 = .ok (.astore_n 1, 1) := by decide +kernel
theorem dL_law_8 : decode cL_law 8 = .ok (.new 10, 3) := by decide +kernel
theorem dL_law_11 : decode cL_law 11 = .ok (.dup, 1) := by decide +kernel
theorem dL_law_12 : decode cL_law 12 = .ok (.invokespecial 12, 3) := by decide +kernel
theorem dL_law_15 : decode cL_law 15 = .ok (.astore_n 2, 1) := by decide +kernel
theorem dL_law_16 : decode cL_law 16 = .ok (.iconst 0, 1) := by decide +kernel
theorem dL_law_17 : decode cL_law 17 = .ok (.istore_n 3, 1) := by decide +kernel
theorem dL_law_18 : decode cL_law 18 = .ok (.iload_n 3, 1) := by decide +kernel
theorem dL_law_19 : decode cL_law 19 = .ok (.aload_n 0, 1) := by decide +kernel
theorem dL_law_20 : decode cL_law 20 = .ok (.arraylength, 1) := by decide +kernel
theorem dL_law_21 : decode cL_law 21 = .ok (.iconst 3, 1) := by decide +kernel
theorem dL_law_22 : decode cL_law 22 = .ok (.isub, 1) := by decide +kernel
theorem dL_law_23 : decode cL_law 23 = .ok (.if_icmp .gt 700, 3) := by decide +kernel
theorem dL_law_26 : decode cL_law 26 = .ok (.aload_n 0, 1) := by decide +kernel
theorem dL_law_27 : decode cL_law 27 = .ok (.iload_n 3, 1) := by decide +kernel
theorem dL_law_28 : decode cL_law 28 = .ok (.iaload, 1) := by decide +kernel
theorem dL_law_29 : decode cL_law 29 = .ok (.bipush 31, 2) := by decide +kernel
theorem dL_law_31 : decode cL_law 31 = .ok (.iand, 1) := by decide +kernel
theorem dL_law_32 : decode cL_law 32 = .ok (.tableswitch 685 0 22 #[108, 131, 154, 187, 236, 259, 292, 315, 340, 353, 366, 379, 392, 405, 438, 471, 494, 527, 550, 583, 616, 629, 662], 108) := by decide +kernel
theorem dL_law_140 : decode cL_law 140 = .ok (.aload_n 1, 1) := by decide +kernel
theorem dL_law_141 : decode cL_law 141 = .ok (.aload_n 0, 1) := by decide +kernel
theorem dL_law_142 : decode cL_law 142 = .ok (.iload_n 3, 1) := by decide +kernel
theorem dL_law_143 : decode cL_law 143 = .ok (.iconst 1, 1) := by decide +kernel
theorem dL_law_144 : decode cL_law 144 = .ok (.iadd, 1) := by decide +kernel
theorem dL_law_145 : decode cL_law 145 = .ok (.iaload, 1) := by decide +kernel
theorem dL_law_146 : decode cL_law 146 = .ok (.invokevirtual 13, 3) := by decide +kernel
theorem dL_law_149 : decode cL_law 149 = .ok (.aload_n 2, 1) := by decide +kernel
theorem dL_law_150 : decode cL_law 150 = .ok (.aload_n 0, 1) := by decide +kernel
theorem dL_law_151 : decode cL_law 151 = .ok (.iload_n 3, 1) := by decide +kernel
theorem dL_law_152 : decode cL_law 152 = .ok (.iconst 1, 1) := by decide +kernel
theorem dL_law_153 : decode cL_law 153 = .ok (.iadd, 1) := by decide +kernel
theorem dL_law_154 : decode cL_law 154 = .ok (.iaload, 1) := by decide +kernel
theorem dL_law_155 : decode cL_law 155 = .ok (.invokevirtual 17, 3) := by decide +kernel
theorem dL_law_158 : decode cL_law 158 = .ok (.if_icmp .eq 559, 3) := by decide +kernel
theorem dL_law_161 : decode cL_law 161 = .ok (.iconst 0, 1) := by decide +kernel
theorem dL_law_162 : decode cL_law 162 = .ok (.ireturn, 1) := by decide +kernel
theorem dL_law_163 : decode cL_law 163 = .ok (.aload_n 1, 1) := by decide +kernel
theorem dL_law_164 : decode cL_law 164 = .ok (.aload_n 0, 1) := by decide +kernel
theorem dL_law_165 : decode cL_law 165 = .ok (.iload_n 3, 1) := by decide +kernel
theorem dL_law_166 : decode cL_law 166 = .ok (.iconst 1, 1) := by decide +kernel
theorem dL_law_167 : decode cL_law 167 = .ok (.iadd, 1) := by decide +kernel
theorem dL_law_168 : decode cL_law 168 = .ok (.iaload, 1) := by decide +kernel
theorem dL_law_169 : decode cL_law 169 = .ok (.invokevirtual 18, 3) := by decide +kernel
theorem dL_law_172 : decode cL_law 172 = .ok (.aload_n 2, 1) := by decide +kernel
theorem dL_law_173 : decode cL_law 173 = .ok (.aload_n 0, 1) := by decide +kernel
theorem dL_law_174 : decode cL_law 174 = .ok (.iload_n 3, 1) := by decide +kernel
theorem dL_law_175 : decode cL_law 175 = .ok (.iconst 1, 1) := by decide +kernel
theorem dL_law_176 : decode cL_law 176 = .ok (.iadd, 1) := by decide +kernel
theorem dL_law_177 : decode cL_law 177 = .ok (.iaload, 1) := by decide +kernel
theorem dL_law_178 : decode cL_law 178 = .ok (.invokevirtual 21, 3) := by decide +kernel
theorem dL_law_181 : decode cL_law 181 = .ok (.if_icmp .eq 536, 3) := by decide +kernel
theorem dL_law_184 : decode cL_law 184 = .ok (.iconst 0, 1) := by decide +kernel
theorem dL_law_185 : decode cL_law 185 = .ok (.ireturn, 1) := by decide +kernel
theorem dL_law_186 : decode cL_law 186 = .ok (.aload_n 1, 1) := by decide +kernel
theorem dL_law_187 : decode cL_law 187 = .ok (.aload_n 0, 1) := by decide +kernel
theorem dL_law_188 : decode cL_law 188 = .ok (.iload_n 3, 1) := by decide +kernel
theorem dL_law_189 : decode cL_law 189 = .ok (.iconst 1, 1) := by decide +kernel
theorem dL_law_190 : decode cL_law 190 = .ok (.iadd, 1) := by decide +kernel
theorem dL_law_191 : decode cL_law 191 = .ok (.iaload, 1) := by decide +kernel
theorem dL_law_192 : decode cL_law 192 = .ok (.aload_n 0, 1) := by decide +kernel
theorem dL_law_193 : decode cL_law 193 = .ok (.iload_n 3, 1) := by decide +kernel
theorem dL_law_194 : decode cL_law 194 = .ok (.iconst 2, 1) := by decide +kernel
theorem dL_law_195 : decode cL_law 195 = .ok (.iadd, 1) := by decide +kernel
theorem dL_law_196 : decode cL_law 196 = .ok (.iaload, 1) := by decide +kernel
theorem dL_law_197 : decode cL_law 197 = .ok (.invokevirtual 22, 3) := by decide +kernel
theorem dL_law_200 : decode cL_law 200 = .ok (.aload_n 2, 1) := by decide +kernel
theorem dL_law_201 : decode cL_law 201 = .ok (.aload_n 0, 1) := by decide +kernel
theorem dL_law_202 : decode cL_law 202 = .ok (.iload_n 3, 1) := by decide +kernel
theorem dL_law_203 : decode cL_law 203 = .ok (.iconst 1, 1) := by decide +kernel
theorem dL_law_204 : decode cL_law 204 = .ok (.iadd, 1) := by decide +kernel
theorem dL_law_205 : decode cL_law 205 = .ok (.iaload, 1) := by decide +kernel
theorem dL_law_206 : decode cL_law 206 = .ok (.aload_n 0, 1) := by decide +kernel
theorem dL_law_207 : decode cL_law 207 = .ok (.iload_n 3, 1) := by decide +kernel
theorem dL_law_208 : decode cL_law 208 = .ok (.iconst 2, 1) := by decide +kernel
theorem dL_law_209 : decode cL_law 209 = .ok (.iadd, 1) := by decide +kernel
theorem dL_law_210 : decode cL_law 210 = .ok (.iaload, 1) := by decide +kernel
theorem dL_law_211 : decode cL_law 211 = .ok (.invokevirtual 26, 3) := by decide +kernel
theorem dL_law_214 : decode cL_law 214 = .ok (.if_icmp .eq 503, 3) := by decide +kernel
theorem dL_law_217 : decode cL_law 217 = .ok (.iconst 0, 1) := by decide +kernel
theorem dL_law_218 : decode cL_law 218 = .ok (.ireturn, 1) := by decide +kernel
theorem dL_law_219 : decode cL_law 219 = .ok (.aload_n 1, 1) := by decide +kernel
theorem dL_law_220 : decode cL_law 220 = .ok (.aload_n 0, 1) := by decide +kernel
theorem dL_law_221 : decode cL_law 221 = .ok (.iload_n 3, 1) := by decide +kernel
theorem dL_law_222 : decode cL_law 222 = .ok (.iconst 1, 1) := by decide +kernel
theorem dL_law_223 : decode cL_law 223 = .ok (.iadd, 1) := by decide +kernel
theorem dL_law_224 : decode cL_law 224 = .ok (.iaload, 1) := by decide +kernel
theorem dL_law_225 : decode cL_law 225 = .ok (.aload_n 0, 1) := by decide +kernel
theorem dL_law_226 : decode cL_law 226 = .ok (.iload_n 3, 1) := by decide +kernel
theorem dL_law_227 : decode cL_law 227 = .ok (.iconst 2, 1) := by decide +kernel
theorem dL_law_228 : decode cL_law 228 = .ok (.iadd, 1) := by decide +kernel
theorem dL_law_229 : decode cL_law 229 = .ok (.iaload, 1) := by decide +kernel
theorem dL_law_230 : decode cL_law 230 = .ok (.ifCond .eq 7, 3) := by decide +kernel
theorem dL_law_233 : decode cL_law 233 = .ok (.iconst 1, 1) := by decide +kernel
theorem dL_law_234 : decode cL_law 234 = .ok (.goto 4, 3) := by decide +kernel
theorem dL_law_237 : decode cL_law 237 = .ok (.iconst 0, 1) := by decide +kernel
theorem dL_law_238 : decode cL_law 238 = .ok (.invokevirtual 27, 3) := by decide +kernel
theorem dL_law_241 : decode cL_law 241 = .ok (.aload_n 2, 1) := by decide +kernel
theorem dL_law_242 : decode cL_law 242 = .ok (.aload_n 0, 1) := by decide +kernel
theorem dL_law_243 : decode cL_law 243 = .ok (.iload_n 3, 1) := by decide +kernel
theorem dL_law_244 : decode cL_law 244 = .ok (.iconst 1, 1) := by decide +kernel
theorem dL_law_245 : decode cL_law 245 = .ok (.iadd, 1) := by decide +kernel
theorem dL_law_246 : decode cL_law 246 = .ok (.iaload, 1) := by decide +kernel
theorem dL_law_247 : decode cL_law 247 = .ok (.aload_n 0, 1) := by decide +kernel
theorem dL_law_248 : decode cL_law 248 = .ok (.iload_n 3, 1) := by decide +kernel
theorem dL_law_249 : decode cL_law 249 = .ok (.iconst 2, 1) := by decide +kernel
theorem dL_law_250 : decode cL_law 250 = .ok (.iadd, 1) := by decide +kernel
theorem dL_law_251 : decode cL_law 251 = .ok (.iaload, 1) := by decide +kernel
theorem dL_law_252 : decode cL_law 252 = .ok (.ifCond .eq 7, 3) := by decide +kernel
theorem dL_law_255 : decode cL_law 255 = .ok (.iconst 1, 1) := by decide +kernel
theorem dL_law_256 : decode cL_law 256 = .ok (.goto 4, 3) := by decide +kernel
theorem dL_law_259 : decode cL_law 259 = .ok (.iconst 0, 1) := by decide +kernel
theorem dL_law_260 : decode cL_law 260 = .ok (.invokevirtual 31, 3) := by decide +kernel
theorem dL_law_263 : decode cL_law 263 = .ok (.if_icmp .eq 454, 3) := by decide +kernel
theorem dL_law_266 : decode cL_law 266 = .ok (.iconst 0, 1) := by decide +kernel
theorem dL_law_267 : decode cL_law 267 = .ok (.ireturn, 1) := by decide +kernel
theorem dL_law_268 : decode cL_law 268 = .ok (.aload_n 1, 1) := by decide +kernel
theorem dL_law_269 : decode cL_law 269 = .ok (.aload_n 0, 1) := by decide +kernel
theorem dL_law_270 : decode cL_law 270 = .ok (.iload_n 3, 1) := by decide +kernel
theorem dL_law_271 : decode cL_law 271 = .ok (.iconst 1, 1) := by decide +kernel
theorem dL_law_272 : decode cL_law 272 = .ok (.iadd, 1) := by decide +kernel
theorem dL_law_273 : decode cL_law 273 = .ok (.iaload, 1) := by decide +kernel
theorem dL_law_274 : decode cL_law 274 = .ok (.invokevirtual 32, 3) := by decide +kernel
theorem dL_law_277 : decode cL_law 277 = .ok (.aload_n 2, 1) := by decide +kernel
theorem dL_law_278 : decode cL_law 278 = .ok (.aload_n 0, 1) := by decide +kernel
theorem dL_law_279 : decode cL_law 279 = .ok (.iload_n 3, 1) := by decide +kernel
theorem dL_law_280 : decode cL_law 280 = .ok (.iconst 1, 1) := by decide +kernel
theorem dL_law_281 : decode cL_law 281 = .ok (.iadd, 1) := by decide +kernel
theorem dL_law_282 : decode cL_law 282 = .ok (.iaload, 1) := by decide +kernel
theorem dL_law_283 : decode cL_law 283 = .ok (.invokevirtual 35, 3) := by decide +kernel
theorem dL_law_286 : decode cL_law 286 = .ok (.if_icmp .eq 431, 3) := by decide +kernel
theorem dL_law_289 : decode cL_law 289 = .ok (.iconst 0, 1) := by decide +kernel
theorem dL_law_290 : decode cL_law 290 = .ok (.ireturn, 1) := by decide +kernel
theorem dL_law_291 : decode cL_law 291 = .ok (.aload_n 1, 1) := by decide +kernel
theorem dL_law_292 : decode cL_law 292 = .ok (.aload_n 0, 1) := by decide +kernel
theorem dL_law_293 : decode cL_law 293 = .ok (.iload_n 3, 1) := by decide +kernel
theorem dL_law_294 : decode cL_law 294 = .ok (.iconst 1, 1) := by decide +kernel
theorem dL_law_295 : decode cL_law 295 = .ok (.iadd, 1) := by decide +kernel
theorem dL_law_296 : decode cL_law 296 = .ok (.iaload, 1) := by decide +kernel
theorem dL_law_297 : decode cL_law 297 = .ok (.aload_n 0, 1) := by decide +kernel
theorem dL_law_298 : decode cL_law 298 = .ok (.iload_n 3, 1) := by decide +kernel
theorem dL_law_299 : decode cL_law 299 = .ok (.iconst 2, 1) := by decide +kernel
theorem dL_law_300 : decode cL_law 300 = .ok (.iadd, 1) := by decide +kernel
theorem dL_law_301 : decode cL_law 301 = .ok (.iaload, 1) := by decide +kernel
theorem dL_law_302 : decode cL_law 302 = .ok (.invokevirtual 36, 3) := by decide +kernel
theorem dL_law_305 : decode cL_law 305 = .ok (.aload_n 2, 1) := by decide +kernel
theorem dL_law_306 : decode cL_law 306 = .ok (.aload_n 0, 1) := by decide +kernel
theorem dL_law_307 : decode cL_law 307 = .ok (.iload_n 3, 1) := by decide +kernel
theorem dL_law_308 : decode cL_law 308 = .ok (.iconst 1, 1) := by decide +kernel
theorem dL_law_309 : decode cL_law 309 = .ok (.iadd, 1) := by decide +kernel
theorem dL_law_310 : decode cL_law 310 = .ok (.iaload, 1) := by decide +kernel
theorem dL_law_311 : decode cL_law 311 = .ok (.aload_n 0, 1) := by decide +kernel
theorem dL_law_312 : decode cL_law 312 = .ok (.iload_n 3, 1) := by decide +kernel
theorem dL_law_313 : decode cL_law 313 = .ok (.iconst 2, 1) := by decide +kernel
theorem dL_law_314 : decode cL_law 314 = .ok (.iadd, 1) := by decide +kernel
theorem dL_law_315 : decode cL_law 315 = .ok (.iaload, 1) := by decide +kernel
theorem dL_law_316 : decode cL_law 316 = .ok (.invokevirtual 39, 3) := by decide +kernel
theorem dL_law_319 : decode cL_law 319 = .ok (.if_icmp .eq 398, 3) := by decide +kernel
theorem dL_law_322 : decode cL_law 322 = .ok (.iconst 0, 1) := by decide +kernel
theorem dL_law_323 : decode cL_law 323 = .ok (.ireturn, 1) := by decide +kernel
theorem dL_law_324 : decode cL_law 324 = .ok (.aload_n 1, 1) := by decide +kernel
theorem dL_law_325 : decode cL_law 325 = .ok (.aload_n 0, 1) := by decide +kernel
theorem dL_law_326 : decode cL_law 326 = .ok (.iload_n 3, 1) := by decide +kernel
theorem dL_law_327 : decode cL_law 327 = .ok (.iconst 1, 1) := by decide +kernel
theorem dL_law_328 : decode cL_law 328 = .ok (.iadd, 1) := by decide +kernel
theorem dL_law_329 : decode cL_law 329 = .ok (.iaload, 1) := by decide +kernel
theorem dL_law_330 : decode cL_law 330 = .ok (.invokevirtual 40, 3) := by decide +kernel
theorem dL_law_333 : decode cL_law 333 = .ok (.aload_n 2, 1) := by decide +kernel
theorem dL_law_334 : decode cL_law 334 = .ok (.aload_n 0, 1) := by decide +kernel
theorem dL_law_335 : decode cL_law 335 = .ok (.iload_n 3, 1) := by decide +kernel
theorem dL_law_336 : decode cL_law 336 = .ok (.iconst 1, 1) := by decide +kernel
theorem dL_law_337 : decode cL_law 337 = .ok (.iadd, 1) := by decide +kernel
theorem dL_law_338 : decode cL_law 338 = .ok (.iaload, 1) := by decide +kernel
theorem dL_law_339 : decode cL_law 339 = .ok (.invokevirtual 43, 3) := by decide +kernel
theorem dL_law_342 : decode cL_law 342 = .ok (.if_icmp .eq 375, 3) := by decide +kernel
theorem dL_law_345 : decode cL_law 345 = .ok (.iconst 0, 1) := by decide +kernel
theorem dL_law_346 : decode cL_law 346 = .ok (.ireturn, 1) := by decide +kernel
theorem dL_law_347 : decode cL_law 347 = .ok (.aload_n 1, 1) := by decide +kernel
theorem dL_law_348 : decode cL_law 348 = .ok (.aload_n 0, 1) := by decide +kernel
theorem dL_law_349 : decode cL_law 349 = .ok (.iload_n 3, 1) := by decide +kernel
theorem dL_law_350 : decode cL_law 350 = .ok (.iconst 1, 1) := by decide +kernel
theorem dL_law_351 : decode cL_law 351 = .ok (.iadd, 1) := by decide +kernel
theorem dL_law_352 : decode cL_law 352 = .ok (.iaload, 1) := by decide +kernel
theorem dL_law_353 : decode cL_law 353 = .ok (.i2c, 1) := by decide +kernel
theorem dL_law_354 : decode cL_law 354 = .ok (.invokevirtual 44, 3) := by decide +kernel
theorem dL_law_357 : decode cL_law 357 = .ok (.aload_n 2, 1) := by decide +kernel
theorem dL_law_358 : decode cL_law 358 = .ok (.aload_n 0, 1) := by decide +kernel
theorem dL_law_359 : decode cL_law 359 = .ok (.iload_n 3, 1) := by decide +kernel
theorem dL_law_360 : decode cL_law 360 = .ok (.iconst 1, 1) := by decide +kernel
theorem dL_law_361 : decode cL_law 361 = .ok (.iadd, 1) := by decide +kernel
theorem dL_law_362 : decode cL_law 362 = .ok (.iaload, 1) := by decide +kernel
theorem dL_law_363 : decode cL_law 363 = .ok (.i2c, 1) := by decide +kernel
theorem dL_law_364 : decode cL_law 364 = .ok (.invokevirtual 48, 3) := by decide +kernel
theorem dL_law_367 : decode cL_law 367 = .ok (.if_icmp .eq 350, 3) := by decide +kernel
theorem dL_law_370 : decode cL_law 370 = .ok (.iconst 0, 1) := by decide +kernel
theorem dL_law_371 : decode cL_law 371 = .ok (.ireturn, 1) := by decide +kernel
theorem dL_law_372 : decode cL_law 372 = .ok (.aload_n 1, 1) := by decide +kernel
theorem dL_law_373 : decode cL_law 373 = .ok (.invokevirtual 49, 3) := by decide +kernel
theorem dL_law_376 : decode cL_law 376 = .ok (.aload_n 2, 1) := by decide +kernel
theorem dL_law_377 : decode cL_law 377 = .ok (.invokevirtual 53, 3) := by decide +kernel
theorem dL_law_380 : decode cL_law 380 = .ok (.if_icmp .eq 337, 3) := by decide +kernel
theorem dL_law_383 : decode cL_law 383 = .ok (.iconst 0, 1) := by decide +kernel
theorem dL_law_384 : decode cL_law 384 = .ok (.ireturn, 1) := by decide +kernel
theorem dL_law_385 : decode cL_law 385 = .ok (.aload_n 1, 1) := by decide +kernel
theorem dL_law_386 : decode cL_law 386 = .ok (.invokevirtual 54, 3) := by decide +kernel
theorem dL_law_389 : decode cL_law 389 = .ok (.aload_n 2, 1) := by decide +kernel
theorem dL_law_390 : decode cL_law 390 = .ok (.invokevirtual 57, 3) := by decide +kernel
theorem dL_law_393 : decode cL_law 393 = .ok (.if_icmp .eq 324, 3) := by decide +kernel
theorem dL_law_396 : decode cL_law 396 = .ok (.iconst 0, 1) := by decide +kernel
theorem dL_law_397 : decode cL_law 397 = .ok (.ireturn, 1) := by decide +kernel
theorem dL_law_398 : decode cL_law 398 = .ok (.aload_n 1, 1) := by decide +kernel
theorem dL_law_399 : decode cL_law 399 = .ok (.invokevirtual 58, 3) := by decide +kernel
theorem dL_law_402 : decode cL_law 402 = .ok (.aload_n 2, 1) := by decide +kernel
theorem dL_law_403 : decode cL_law 403 = .ok (.invokevirtual 61, 3) := by decide +kernel
theorem dL_law_406 : decode cL_law 406 = .ok (.if_icmp .eq 311, 3) := by decide +kernel
theorem dL_law_409 : decode cL_law 409 = .ok (.iconst 0, 1) := by decide +kernel
theorem dL_law_410 : decode cL_law 410 = .ok (.ireturn, 1) := by decide +kernel
theorem dL_law_411 : decode cL_law 411 = .ok (.aload_n 1, 1) := by decide +kernel
theorem dL_law_412 : decode cL_law 412 = .ok (.invokevirtual 62, 3) := by decide +kernel
theorem dL_law_415 : decode cL_law 415 = .ok (.aload_n 2, 1) := by decide +kernel
theorem dL_law_416 : decode cL_law 416 = .ok (.invokevirtual 65, 3) := by decide +kernel
theorem dL_law_419 : decode cL_law 419 = .ok (.if_icmp .eq 298, 3) := by decide +kernel
theorem dL_law_422 : decode cL_law 422 = .ok (.iconst 0, 1) := by decide +kernel
theorem dL_law_423 : decode cL_law 423 = .ok (.ireturn, 1) := by decide +kernel
theorem dL_law_424 : decode cL_law 424 = .ok (.aload_n 1, 1) := by decide +kernel
theorem dL_law_425 : decode cL_law 425 = .ok (.invokevirtual 66, 3) := by decide +kernel
theorem dL_law_428 : decode cL_law 428 = .ok (.aload_n 2, 1) := by decide +kernel
theorem dL_law_429 : decode cL_law 429 = .ok (.invokevirtual 69, 3) := by decide +kernel
theorem dL_law_432 : decode cL_law 432 = .ok (.if_icmp .eq 285, 3) := by decide +kernel
theorem dL_law_435 : decode cL_law 435 = .ok (.iconst 0, 1) := by decide +kernel
theorem dL_law_436 : decode cL_law 436 = .ok (.ireturn, 1) := by decide +kernel
theorem dL_law_437 : decode cL_law 437 = .ok (.aload_n 1, 1) := by decide +kernel
theorem dL_law_438 : decode cL_law 438 = .ok (.aload_n 0, 1) := by decide +kernel
theorem dL_law_439 : decode cL_law 439 = .ok (.iload_n 3, 1) := by decide +kernel
theorem dL_law_440 : decode cL_law 440 = .ok (.iconst 1, 1) := by decide +kernel
theorem dL_law_441 : decode cL_law 441 = .ok (.iadd, 1) := by decide +kernel
theorem dL_law_442 : decode cL_law 442 = .ok (.iaload, 1) := by decide +kernel
theorem dL_law_443 : decode cL_law 443 = .ok (.aload_n 0, 1) := by decide +kernel
theorem dL_law_444 : decode cL_law 444 = .ok (.iload_n 3, 1) := by decide +kernel
theorem dL_law_445 : decode cL_law 445 = .ok (.iconst 2, 1) := by decide +kernel
theorem dL_law_446 : decode cL_law 446 = .ok (.iadd, 1) := by decide +kernel
theorem dL_law_447 : decode cL_law 447 = .ok (.iaload, 1) := by decide +kernel
theorem dL_law_448 : decode cL_law 448 = .ok (.invokevirtual 70, 3) := by decide +kernel
theorem dL_law_451 : decode cL_law 451 = .ok (.aload_n 2, 1) := by decide +kernel
theorem dL_law_452 : decode cL_law 452 = .ok (.aload_n 0, 1) := by decide +kernel
theorem dL_law_453 : decode cL_law 453 = .ok (.iload_n 3, 1) := by decide +kernel
theorem dL_law_454 : decode cL_law 454 = .ok (.iconst 1, 1) := by decide +kernel
theorem dL_law_455 : decode cL_law 455 = .ok (.iadd, 1) := by decide +kernel
theorem dL_law_456 : decode cL_law 456 = .ok (.iaload, 1) := by decide +kernel
theorem dL_law_457 : decode cL_law 457 = .ok (.aload_n 0, 1) := by decide +kernel
theorem dL_law_458 : decode cL_law 458 = .ok (.iload_n 3, 1) := by decide +kernel
theorem dL_law_459 : decode cL_law 459 = .ok (.iconst 2, 1) := by decide +kernel
theorem dL_law_460 : decode cL_law 460 = .ok (.iadd, 1) := by decide +kernel
theorem dL_law_461 : decode cL_law 461 = .ok (.iaload, 1) := by decide +kernel
theorem dL_law_462 : decode cL_law 462 = .ok (.invokevirtual 73, 3) := by decide +kernel
theorem dL_law_465 : decode cL_law 465 = .ok (.if_icmp .eq 252, 3) := by decide +kernel
theorem dL_law_468 : decode cL_law 468 = .ok (.iconst 0, 1) := by decide +kernel
theorem dL_law_469 : decode cL_law 469 = .ok (.ireturn, 1) := by decide +kernel
theorem dL_law_470 : decode cL_law 470 = .ok (.aload_n 1, 1) := by decide +kernel
theorem dL_law_471 : decode cL_law 471 = .ok (.aload_n 0, 1) := by decide +kernel
theorem dL_law_472 : decode cL_law 472 = .ok (.iload_n 3, 1) := by decide +kernel
theorem dL_law_473 : decode cL_law 473 = .ok (.iconst 1, 1) := by decide +kernel
theorem dL_law_474 : decode cL_law 474 = .ok (.iadd, 1) := by decide +kernel
theorem dL_law_475 : decode cL_law 475 = .ok (.iaload, 1) := by decide +kernel
theorem dL_law_476 : decode cL_law 476 = .ok (.aload_n 0, 1) := by decide +kernel
theorem dL_law_477 : decode cL_law 477 = .ok (.iload_n 3, 1) := by decide +kernel
theorem dL_law_478 : decode cL_law 478 = .ok (.iconst 2, 1) := by decide +kernel
theorem dL_law_479 : decode cL_law 479 = .ok (.iadd, 1) := by decide +kernel
theorem dL_law_480 : decode cL_law 480 = .ok (.iaload, 1) := by decide +kernel
theorem dL_law_481 : decode cL_law 481 = .ok (.invokevirtual 74, 3) := by decide +kernel
theorem dL_law_484 : decode cL_law 484 = .ok (.aload_n 2, 1) := by decide +kernel
theorem dL_law_485 : decode cL_law 485 = .ok (.aload_n 0, 1) := by decide +kernel
theorem dL_law_486 : decode cL_law 486 = .ok (.iload_n 3, 1) := by decide +kernel
theorem dL_law_487 : decode cL_law 487 = .ok (.iconst 1, 1) := by decide +kernel
theorem dL_law_488 : decode cL_law 488 = .ok (.iadd, 1) := by decide +kernel
theorem dL_law_489 : decode cL_law 489 = .ok (.iaload, 1) := by decide +kernel
theorem dL_law_490 : decode cL_law 490 = .ok (.aload_n 0, 1) := by decide +kernel
theorem dL_law_491 : decode cL_law 491 = .ok (.iload_n 3, 1) := by decide +kernel
theorem dL_law_492 : decode cL_law 492 = .ok (.iconst 2, 1) := by decide +kernel
theorem dL_law_493 : decode cL_law 493 = .ok (.iadd, 1) := by decide +kernel
theorem dL_law_494 : decode cL_law 494 = .ok (.iaload, 1) := by decide +kernel
theorem dL_law_495 : decode cL_law 495 = .ok (.invokevirtual 77, 3) := by decide +kernel
theorem dL_law_498 : decode cL_law 498 = .ok (.if_icmp .eq 219, 3) := by decide +kernel
theorem dL_law_501 : decode cL_law 501 = .ok (.iconst 0, 1) := by decide +kernel
theorem dL_law_502 : decode cL_law 502 = .ok (.ireturn, 1) := by decide +kernel
theorem dL_law_503 : decode cL_law 503 = .ok (.aload_n 1, 1) := by decide +kernel
theorem dL_law_504 : decode cL_law 504 = .ok (.aload_n 0, 1) := by decide +kernel
theorem dL_law_505 : decode cL_law 505 = .ok (.iload_n 3, 1) := by decide +kernel
theorem dL_law_506 : decode cL_law 506 = .ok (.iconst 1, 1) := by decide +kernel
theorem dL_law_507 : decode cL_law 507 = .ok (.iadd, 1) := by decide +kernel
theorem dL_law_508 : decode cL_law 508 = .ok (.iaload, 1) := by decide +kernel
theorem dL_law_509 : decode cL_law 509 = .ok (.invokevirtual 78, 3) := by decide +kernel
theorem dL_law_512 : decode cL_law 512 = .ok (.aload_n 2, 1) := by decide +kernel
theorem dL_law_513 : decode cL_law 513 = .ok (.aload_n 0, 1) := by decide +kernel
theorem dL_law_514 : decode cL_law 514 = .ok (.iload_n 3, 1) := by decide +kernel
theorem dL_law_515 : decode cL_law 515 = .ok (.iconst 1, 1) := by decide +kernel
theorem dL_law_516 : decode cL_law 516 = .ok (.iadd, 1) := by decide +kernel
theorem dL_law_517 : decode cL_law 517 = .ok (.iaload, 1) := by decide +kernel
theorem dL_law_518 : decode cL_law 518 = .ok (.invokevirtual 81, 3) := by decide +kernel
theorem dL_law_521 : decode cL_law 521 = .ok (.if_icmp .eq 196, 3) := by decide +kernel
theorem dL_law_524 : decode cL_law 524 = .ok (.iconst 0, 1) := by decide +kernel
theorem dL_law_525 : decode cL_law 525 = .ok (.ireturn, 1) := by decide +kernel
theorem dL_law_526 : decode cL_law 526 = .ok (.aload_n 1, 1) := by decide +kernel
theorem dL_law_527 : decode cL_law 527 = .ok (.aload_n 0, 1) := by decide +kernel
theorem dL_law_528 : decode cL_law 528 = .ok (.iload_n 3, 1) := by decide +kernel
theorem dL_law_529 : decode cL_law 529 = .ok (.iconst 1, 1) := by decide +kernel
theorem dL_law_530 : decode cL_law 530 = .ok (.iadd, 1) := by decide +kernel
theorem dL_law_531 : decode cL_law 531 = .ok (.iaload, 1) := by decide +kernel
theorem dL_law_532 : decode cL_law 532 = .ok (.aload_n 0, 1) := by decide +kernel
theorem dL_law_533 : decode cL_law 533 = .ok (.iload_n 3, 1) := by decide +kernel
theorem dL_law_534 : decode cL_law 534 = .ok (.iconst 2, 1) := by decide +kernel
theorem dL_law_535 : decode cL_law 535 = .ok (.iadd, 1) := by decide +kernel
theorem dL_law_536 : decode cL_law 536 = .ok (.iaload, 1) := by decide +kernel
theorem dL_law_537 : decode cL_law 537 = .ok (.invokevirtual 82, 3) := by decide +kernel
theorem dL_law_540 : decode cL_law 540 = .ok (.aload_n 2, 1) := by decide +kernel
theorem dL_law_541 : decode cL_law 541 = .ok (.aload_n 0, 1) := by decide +kernel
theorem dL_law_542 : decode cL_law 542 = .ok (.iload_n 3, 1) := by decide +kernel
theorem dL_law_543 : decode cL_law 543 = .ok (.iconst 1, 1) := by decide +kernel
theorem dL_law_544 : decode cL_law 544 = .ok (.iadd, 1) := by decide +kernel
theorem dL_law_545 : decode cL_law 545 = .ok (.iaload, 1) := by decide +kernel
theorem dL_law_546 : decode cL_law 546 = .ok (.aload_n 0, 1) := by decide +kernel
theorem dL_law_547 : decode cL_law 547 = .ok (.iload_n 3, 1) := by decide +kernel
theorem dL_law_548 : decode cL_law 548 = .ok (.iconst 2, 1) := by decide +kernel
theorem dL_law_549 : decode cL_law 549 = .ok (.iadd, 1) := by decide +kernel
theorem dL_law_550 : decode cL_law 550 = .ok (.iaload, 1) := by decide +kernel
theorem dL_law_551 : decode cL_law 551 = .ok (.invokevirtual 85, 3) := by decide +kernel
theorem dL_law_554 : decode cL_law 554 = .ok (.if_icmp .eq 163, 3) := by decide +kernel
theorem dL_law_557 : decode cL_law 557 = .ok (.iconst 0, 1) := by decide +kernel
theorem dL_law_558 : decode cL_law 558 = .ok (.ireturn, 1) := by decide +kernel
theorem dL_law_559 : decode cL_law 559 = .ok (.aload_n 1, 1) := by decide +kernel
theorem dL_law_560 : decode cL_law 560 = .ok (.aload_n 0, 1) := by decide +kernel
theorem dL_law_561 : decode cL_law 561 = .ok (.iload_n 3, 1) := by decide +kernel
theorem dL_law_562 : decode cL_law 562 = .ok (.iconst 1, 1) := by decide +kernel
theorem dL_law_563 : decode cL_law 563 = .ok (.iadd, 1) := by decide +kernel
theorem dL_law_564 : decode cL_law 564 = .ok (.iaload, 1) := by decide +kernel
theorem dL_law_565 : decode cL_law 565 = .ok (.invokevirtual 86, 3) := by decide +kernel
theorem dL_law_568 : decode cL_law 568 = .ok (.aload_n 2, 1) := by decide +kernel
theorem dL_law_569 : decode cL_law 569 = .ok (.aload_n 0, 1) := by decide +kernel
theorem dL_law_570 : decode cL_law 570 = .ok (.iload_n 3, 1) := by decide +kernel
theorem dL_law_571 : decode cL_law 571 = .ok (.iconst 1, 1) := by decide +kernel
theorem dL_law_572 : decode cL_law 572 = .ok (.iadd, 1) := by decide +kernel
theorem dL_law_573 : decode cL_law 573 = .ok (.iaload, 1) := by decide +kernel
theorem dL_law_574 : decode cL_law 574 = .ok (.invokevirtual 89, 3) := by decide +kernel
theorem dL_law_577 : decode cL_law 577 = .ok (.if_icmp .eq 140, 3) := by decide +kernel
theorem dL_law_580 : decode cL_law 580 = .ok (.iconst 0, 1) := by decide +kernel
theorem dL_law_581 : decode cL_law 581 = .ok (.ireturn, 1) := by decide +kernel
theorem dL_law_582 : decode cL_law 582 = .ok (.aload_n 1, 1) := by decide +kernel
theorem dL_law_583 : decode cL_law 583 = .ok (.aload_n 0, 1) := by decide +kernel
theorem dL_law_584 : decode cL_law 584 = .ok (.iload_n 3, 1) := by decide +kernel
theorem dL_law_585 : decode cL_law 585 = .ok (.iconst 1, 1) := by decide +kernel
theorem dL_law_586 : decode cL_law 586 = .ok (.iadd, 1) := by decide +kernel
theorem dL_law_587 : decode cL_law 587 = .ok (.iaload, 1) := by decide +kernel
theorem dL_law_588 : decode cL_law 588 = .ok (.aload_n 0, 1) := by decide +kernel
theorem dL_law_589 : decode cL_law 589 = .ok (.iload_n 3, 1) := by decide +kernel
theorem dL_law_590 : decode cL_law 590 = .ok (.iconst 2, 1) := by decide +kernel
theorem dL_law_591 : decode cL_law 591 = .ok (.iadd, 1) := by decide +kernel
theorem dL_law_592 : decode cL_law 592 = .ok (.iaload, 1) := by decide +kernel
theorem dL_law_593 : decode cL_law 593 = .ok (.invokevirtual 90, 3) := by decide +kernel
theorem dL_law_596 : decode cL_law 596 = .ok (.aload_n 2, 1) := by decide +kernel
theorem dL_law_597 : decode cL_law 597 = .ok (.aload_n 0, 1) := by decide +kernel
theorem dL_law_598 : decode cL_law 598 = .ok (.iload_n 3, 1) := by decide +kernel
theorem dL_law_599 : decode cL_law 599 = .ok (.iconst 1, 1) := by decide +kernel
theorem dL_law_600 : decode cL_law 600 = .ok (.iadd, 1) := by decide +kernel
theorem dL_law_601 : decode cL_law 601 = .ok (.iaload, 1) := by decide +kernel
theorem dL_law_602 : decode cL_law 602 = .ok (.aload_n 0, 1) := by decide +kernel
theorem dL_law_603 : decode cL_law 603 = .ok (.iload_n 3, 1) := by decide +kernel
theorem dL_law_604 : decode cL_law 604 = .ok (.iconst 2, 1) := by decide +kernel
theorem dL_law_605 : decode cL_law 605 = .ok (.iadd, 1) := by decide +kernel
theorem dL_law_606 : decode cL_law 606 = .ok (.iaload, 1) := by decide +kernel
theorem dL_law_607 : decode cL_law 607 = .ok (.invokevirtual 93, 3) := by decide +kernel
theorem dL_law_610 : decode cL_law 610 = .ok (.if_icmp .eq 107, 3) := by decide +kernel
theorem dL_law_613 : decode cL_law 613 = .ok (.iconst 0, 1) := by decide +kernel
theorem dL_law_614 : decode cL_law 614 = .ok (.ireturn, 1) := by decide +kernel
theorem dL_law_615 : decode cL_law 615 = .ok (.aload_n 1, 1) := by decide +kernel
theorem dL_law_616 : decode cL_law 616 = .ok (.aload_n 0, 1) := by decide +kernel
theorem dL_law_617 : decode cL_law 617 = .ok (.iload_n 3, 1) := by decide +kernel
theorem dL_law_618 : decode cL_law 618 = .ok (.iconst 1, 1) := by decide +kernel
theorem dL_law_619 : decode cL_law 619 = .ok (.iadd, 1) := by decide +kernel
theorem dL_law_620 : decode cL_law 620 = .ok (.iaload, 1) := by decide +kernel
theorem dL_law_621 : decode cL_law 621 = .ok (.aload_n 0, 1) := by decide +kernel
theorem dL_law_622 : decode cL_law 622 = .ok (.iload_n 3, 1) := by decide +kernel
theorem dL_law_623 : decode cL_law 623 = .ok (.iconst 2, 1) := by decide +kernel
theorem dL_law_624 : decode cL_law 624 = .ok (.iadd, 1) := by decide +kernel
theorem dL_law_625 : decode cL_law 625 = .ok (.iaload, 1) := by decide +kernel
theorem dL_law_626 : decode cL_law 626 = .ok (.invokevirtual 94, 3) := by decide +kernel
theorem dL_law_629 : decode cL_law 629 = .ok (.aload_n 2, 1) := by decide +kernel
theorem dL_law_630 : decode cL_law 630 = .ok (.aload_n 0, 1) := by decide +kernel
theorem dL_law_631 : decode cL_law 631 = .ok (.iload_n 3, 1) := by decide +kernel
theorem dL_law_632 : decode cL_law 632 = .ok (.iconst 1, 1) := by decide +kernel
theorem dL_law_633 : decode cL_law 633 = .ok (.iadd, 1) := by decide +kernel
theorem dL_law_634 : decode cL_law 634 = .ok (.iaload, 1) := by decide +kernel
theorem dL_law_635 : decode cL_law 635 = .ok (.aload_n 0, 1) := by decide +kernel
theorem dL_law_636 : decode cL_law 636 = .ok (.iload_n 3, 1) := by decide +kernel
theorem dL_law_637 : decode cL_law 637 = .ok (.iconst 2, 1) := by decide +kernel
theorem dL_law_638 : decode cL_law 638 = .ok (.iadd, 1) := by decide +kernel
theorem dL_law_639 : decode cL_law 639 = .ok (.iaload, 1) := by decide +kernel
theorem dL_law_640 : decode cL_law 640 = .ok (.invokevirtual 97, 3) := by decide +kernel
theorem dL_law_643 : decode cL_law 643 = .ok (.if_icmp .eq 74, 3) := by decide +kernel
theorem dL_law_646 : decode cL_law 646 = .ok (.iconst 0, 1) := by decide +kernel
theorem dL_law_647 : decode cL_law 647 = .ok (.ireturn, 1) := by decide +kernel
theorem dL_law_648 : decode cL_law 648 = .ok (.aload_n 1, 1) := by decide +kernel
theorem dL_law_649 : decode cL_law 649 = .ok (.invokevirtual 98, 3) := by decide +kernel
theorem dL_law_652 : decode cL_law 652 = .ok (.aload_n 2, 1) := by decide +kernel
theorem dL_law_653 : decode cL_law 653 = .ok (.invokevirtual 101, 3) := by decide +kernel
theorem dL_law_656 : decode cL_law 656 = .ok (.if_icmp .eq 61, 3) := by decide +kernel
theorem dL_law_659 : decode cL_law 659 = .ok (.iconst 0, 1) := by decide +kernel
theorem dL_law_660 : decode cL_law 660 = .ok (.ireturn, 1) := by decide +kernel
theorem dL_law_661 : decode cL_law 661 = .ok (.aload_n 1, 1) := by decide +kernel
theorem dL_law_662 : decode cL_law 662 = .ok (.aload_n 0, 1) := by decide +kernel
theorem dL_law_663 : decode cL_law 663 = .ok (.iload_n 3, 1) := by decide +kernel
theorem dL_law_664 : decode cL_law 664 = .ok (.iconst 1, 1) := by decide +kernel
theorem dL_law_665 : decode cL_law 665 = .ok (.iadd, 1) := by decide +kernel
theorem dL_law_666 : decode cL_law 666 = .ok (.iaload, 1) := by decide +kernel
theorem dL_law_667 : decode cL_law 667 = .ok (.aload_n 0, 1) := by decide +kernel
theorem dL_law_668 : decode cL_law 668 = .ok (.iload_n 3, 1) := by decide +kernel
theorem dL_law_669 : decode cL_law 669 = .ok (.iconst 2, 1) := by decide +kernel
theorem dL_law_670 : decode cL_law 670 = .ok (.iadd, 1) := by decide +kernel
theorem dL_law_671 : decode cL_law 671 = .ok (.iaload, 1) := by decide +kernel
theorem dL_law_672 : decode cL_law 672 = .ok (.invokevirtual 102, 3) := by decide +kernel
theorem dL_law_675 : decode cL_law 675 = .ok (.aload_n 2, 1) := by decide +kernel
theorem dL_law_676 : decode cL_law 676 = .ok (.aload_n 0, 1) := by decide +kernel
theorem dL_law_677 : decode cL_law 677 = .ok (.iload_n 3, 1) := by decide +kernel
theorem dL_law_678 : decode cL_law 678 = .ok (.iconst 1, 1) := by decide +kernel
theorem dL_law_679 : decode cL_law 679 = .ok (.iadd, 1) := by decide +kernel
theorem dL_law_680 : decode cL_law 680 = .ok (.iaload, 1) := by decide +kernel
theorem dL_law_681 : decode cL_law 681 = .ok (.aload_n 0, 1) := by decide +kernel
theorem dL_law_682 : decode cL_law 682 = .ok (.iload_n 3, 1) := by decide +kernel
theorem dL_law_683 : decode cL_law 683 = .ok (.iconst 2, 1) := by decide +kernel
theorem dL_law_684 : decode cL_law 684 = .ok (.iadd, 1) := by decide +kernel
theorem dL_law_685 : decode cL_law 685 = .ok (.iaload, 1) := by decide +kernel
theorem dL_law_686 : decode cL_law 686 = .ok (.invokevirtual 105, 3) := by decide +kernel
theorem dL_law_689 : decode cL_law 689 = .ok (.if_icmp .eq 28, 3) := by decide +kernel
theorem dL_law_692 : decode cL_law 692 = .ok (.iconst 0, 1) := by decide +kernel
theorem dL_law_693 : decode cL_law 693 = .ok (.ireturn, 1) := by decide +kernel
theorem dL_law_694 : decode cL_law 694 = .ok (.aload_n 1, 1) := by decide +kernel
theorem dL_law_695 : decode cL_law 695 = .ok (.aload_n 0, 1) := by decide +kernel
theorem dL_law_696 : decode cL_law 696 = .ok (.iload_n 3, 1) := by decide +kernel
theorem dL_law_697 : decode cL_law 697 = .ok (.iconst 1, 1) := by decide +kernel
theorem dL_law_698 : decode cL_law 698 = .ok (.iadd, 1) := by decide +kernel
theorem dL_law_699 : decode cL_law 699 = .ok (.iaload, 1) := by decide +kernel
theorem dL_law_700 : decode cL_law 700 = .ok (.invokevirtual 106, 3) := by decide +kernel
theorem dL_law_703 : decode cL_law 703 = .ok (.aload_n 2, 1) := by decide +kernel
theorem dL_law_704 : decode cL_law 704 = .ok (.aload_n 0, 1) := by decide +kernel
theorem dL_law_705 : decode cL_law 705 = .ok (.iload_n 3, 1) := by decide +kernel
theorem dL_law_706 : decode cL_law 706 = .ok (.iconst 1, 1) := by decide +kernel
theorem dL_law_707 : decode cL_law 707 = .ok (.iadd, 1) := by decide +kernel
theorem dL_law_708 : decode cL_law 708 = .ok (.iaload, 1) := by decide +kernel
theorem dL_law_709 : decode cL_law 709 = .ok (.invokevirtual 109, 3) := by decide +kernel
theorem dL_law_712 : decode cL_law 712 = .ok (.if_icmp .eq 5, 3) := by decide +kernel
theorem dL_law_715 : decode cL_law 715 = .ok (.iconst 0, 1) := by decide +kernel
theorem dL_law_716 : decode cL_law 716 = .ok (.ireturn, 1) := by decide +kernel
theorem dL_law_717 : decode cL_law 717 = .ok (.iinc 3 3, 3) := by decide +kernel
theorem dL_law_720 : decode cL_law 720 = .ok (.goto (-702), 3) := by decide +kernel
theorem dL_law_723 : decode cL_law 723 = .ok (.iconst 1, 1) := by decide +kernel
theorem dL_law_724 : decode cL_law 724 = .ok (.ireturn, 1) := by decide +kernel
end
section
/-! THE WORLD: 82 cells, numbered; what they hold is one table of ints (Mem). Cells 8s..8s+7: State s (s < 6: 0 the state, 1 the snapshot, 2..5 those of the history) with its rows, its Ballots and their rows; 48 SwingWeights, 49 History, 50 its row (holds numbers of states), 51 Text, 52 its row, 53 Power, 54..59 its rows, 60..70 the rows of winning; 71 the reference, 72..81 its rows. -/
abbrev Mem : Type := Nat → Nat → Int32
def upr (I : Mem) (a : Nat) (f : Nat → Int32) : Mem := fun k => if k = a then f else I k
def up2 (I : Mem) (a i : Nat) (x : Int32) : Mem := upr I a (upd (I a) i x)
/-- tables, addresses, numbers of array kinds (0 int, 1 char, 2 boolean, 3 State, 4 int rows) and at 5 the address of the static table -/
abbrev EN : Type := va_G × (Nat → Nat) × (Nat → Nat)
def cel (ad cc : Nat → Nat) (k : Nat) (f : Nat → Int32) : va_E :=
  if k < 48 then
    (if k % 8 = 0 then .inr (3, [.int (f 0), .int (f 1), .int (f 2), .ref (ad (k + 1)), .ref (ad (k + 2)), .ref (ad (k + 3)), .ref (ad (k + 4))])
     else if k % 8 = 4 then .inr (0, [.int (f 0), .int (f 1), .ref (ad (k + 1)), .ref (ad (k + 2)), .ref (ad (k + 3))])
     else if k % 8 < 4 then .inl (cc 0, 10, .inl f) else .inl (cc 0, 8, .inl f))
  else if k < 60 then
    (match k with
     | 48 => .inr (5, [.ref (ad (8 * 0)), .ref (ad (8 * 1)), .int (f 2), .ref (ad 49), .ref (ad 51), .ref (ad 53), .int (f 6)])
     | 49 => .inr (1, [.ref (ad 50), .int (f 1)])
     | 50 => .inl (cc 3, 4, .inr (.inr (.inr (.inr (fun i => some (ad (8 * (f i).toNatClampNeg)))))))
     | 51 => .inr (4, [.ref (ad 52), .int (f 1)])
     | 52 => .inl (cc 1, 60, .inl f)
     | 53 => .inr (2, [.int (f 0), .int (f 1), .int (f 2), .int (f 3), .int (f 4), .ref (ad 54), .ref (ad 55), .ref (ad 56), .ref (ad 57), .int (f 9), .ref (ad 58), .ref (ad 59), .int (f 12)])
     | 54 => .inl (cc 0, 10, .inl f)
     | 55 => .inl (cc 0, 10, .inl f)
     | 56 => .inl (cc 0, 1024, .inl f)
     | 57 => .inl (cc 0, 1024, .inl f)
     | 58 => .inl (cc 4, 11, .inr (.inr (.inr (.inr (fun i => some (ad (60 + i)))))))
     | _ => .inl (cc 0, 252, .inl f))
  else if k < 71 then .inl (cc 0, 501, .inl f)
  else
    (match k with
     | 71 => .inr (6, [.ref (ad 72), .ref (ad 73), .ref (ad 74), .int (f 3), .int (f 4), .ref (ad 75), .int (f 6), .int (f 7), .int (f 8), .ref (ad 76), .ref (ad 77), .ref (ad 78), .int (f 12), .ref (ad 79), .ref (ad 80), .int (f 15), .ref (ad 81), .int (f 17)])
     | 72 => .inl (cc 0, 69, .inl f)
     | 73 => .inl (cc 0, 276, .inl f)
     | 74 => .inl (cc 0, 69, .inl f)
     | 75 => .inl (cc 1, 60, .inl f)
     | 76 => .inl (cc 0, 10, .inl f)
     | 77 => .inl (cc 0, 10, .inl f)
     | 78 => .inl (cc 0, 10, .inl f)
     | 79 => .inl (cc 2, 1024, .inl f)
     | 80 => .inl (cc 0, 10, .inl f)
     | _ => .inl (cc 0, 1024, .inl f))
def mkW (E : EN) (I : Mem) : va_W := (List.range 82).map (fun k => (E.2.1 k, cel E.2.1 E.2.2 k (I k)))
def tyE (E : EN) : List (ClassId × FieldType) := [(E.2.2 0, .int), (E.2.2 1, .char), (E.2.2 2, .boolean), (E.2.2 3, .object "SwingWeights$State"), (E.2.2 4, .array .int)]
def Aw (E : EN) : Nat → Prop := fun q => ∃ k, k < 82 ∧ q = E.2.1 k
def EOk (E : EN) : Prop := ∀ i j, i < 82 → j < 82 → E.2.1 i = E.2.1 j → i = j
theorem mkW_get {E : EN} {I : Mem} {k : Nat} (h : k < 82) : (mkW E I)[k]? = some (E.2.1 k, cel E.2.1 E.2.2 k (I k)) := by
  unfold mkW
  rw [List.getElem?_map, List.getElem?_range h]
  rfl
theorem mkW_some {E : EN} {I : Mem} {k : Nat} {q : Nat × va_E} (h : (mkW E I)[k]? = some q) : k < 82 ∧ q = (E.2.1 k, cel E.2.1 E.2.2 k (I k)) := by
  rcases Nat.lt_or_ge k 82 with hk | hk
  · rw [mkW_get hk] at h
    exact ⟨hk, (Option.some.inj h).symm⟩
  · rw [List.getElem?_eq_none (by unfold mkW; rw [List.length_map, List.length_range]; exact hk)] at h
    cases h
theorem mkW_set {E : EN} {I : Mem} {a : Nat} (f : Nat → Int32) (ha : a < 82) : (mkW E I).set a (E.2.1 a, cel E.2.1 E.2.2 a f) = mkW E (upr I a f) := by
  apply List.ext_getElem?
  intro j
  have hlen : (mkW E I).length = 82 := by unfold mkW; rw [List.length_map, List.length_range]
  rcases Nat.lt_or_ge j 82 with hj | hj
  · rw [mkW_get hj, List.getElem?_set]
    by_cases h : a = j
    · subst h
      simp [hlen, ha, upr]
    · rw [if_neg h, mkW_get hj]
      unfold upr
      rw [if_neg (fun e => h e.symm)]
  · rw [List.getElem?_eq_none (by rw [List.length_set, hlen]; exact hj), List.getElem?_eq_none (by unfold mkW; rw [List.length_map, List.length_range]; exact hj)]
theorem mkW_D {E : EN} {I : Mem} (h : EOk E) : va_D (Aw E) (mkW E I) := by
  refine ⟨fun i j p q hi hj hpq => ?_, fun k q hk => ?_⟩
  · obtain ⟨h1, rfl⟩ := mkW_some hi
    obtain ⟨h2, rfl⟩ := mkW_some hj
    exact h i j h1 h2 hpq
  · obtain ⟨h1, rfl⟩ := mkW_some hk
    exact ⟨k, h1, rfl⟩
/-! the words of the tables that may be carried into a callee; the links between nest mates -/
def TB : List Cond := lw_tbl.filter goodWord
theorem tb_of {w : Cond} (h : w ∈ lw_tbl) (hg : goodWord w = true) : w ∈ TB := List.mem_filter.mpr ⟨h, hg⟩
theorem tb_at {w : Cond} (i : Nat) (h : tables_1[i]? = some w) (hg : goodWord w = true) : w ∈ TB := tb_of (List.mem_append_right _ (List.mem_of_getElem? h)) hg
theorem tb_sel {w : Cond} (i : Nat) (h : (k2_sels lw_privs)[i]? = some w) (hg : goodWord w = true) : w ∈ TB := tb_of (List.mem_append_left _ (List.mem_of_getElem? h)) hg
theorem gTB {l : List Cond} (h : ∀ w ∈ l, w ∈ TB) : GoodIn TB l := fun w hw => ⟨h w hw, good_of_word (List.mem_filter.mp (h w hw)).2⟩
def nestF : List (String × Nat × String × String × String × String) := [("SwingWeights", 213, "SwingWeights$Ballots", "held", "I", "SwingWeights"), ("SwingWeights", 106, "SwingWeights$Ballots", "passed", "I", "SwingWeights"), ("SwingWeights", 216, "SwingWeights$Ballots", "outcomes", "[I", "SwingWeights"), ("SwingWeights", 219, "SwingWeights$Ballots", "plusWeights", "[I", "SwingWeights"), ("SwingWeights", 222, "SwingWeights$Ballots", "dissenters", "[I", "SwingWeights"), ("SwingWeights$Power", 32, "SwingWeights$State", "members", "I", "SwingWeights"), ("SwingWeights", 44, "SwingWeights$State", "members", "I", "SwingWeights"), ("SwingWeights$Power", 39, "SwingWeights$State", "quota", "I", "SwingWeights"), ("SwingWeights", 80, "SwingWeights$State", "quota", "I", "SwingWeights"), ("SwingWeights$Power", 43, "SwingWeights$State", "vetoes", "I", "SwingWeights"), ("SwingWeights", 66, "SwingWeights$State", "vetoes", "I", "SwingWeights"), ("SwingWeights", 62, "SwingWeights$State", "weights", "[I", "SwingWeights"), ("SwingWeights$Power", 50, "SwingWeights$State", "blocs", "[I", "SwingWeights"), ("SwingWeights", 83, "SwingWeights$State", "blocs", "[I", "SwingWeights"), ("SwingWeights", 169, "SwingWeights$State", "swingBallots", "[I", "SwingWeights"), ("SwingWeights", 102, "SwingWeights$State", "ballots", "LSwingWeights$Ballots;", "SwingWeights"), ("SwingWeights", 115, "SwingWeights$History", "size", "I", "SwingWeights"), ("SwingWeights", 93, "SwingWeights$Text", "length", "I", "SwingWeights")]
def nestM : List (String × Nat × MethodName × String) := [("SwingWeights", 9, ⟨"SwingWeights$State", "<init>", "()V"⟩, "SwingWeights"), ("SwingWeights$State", 27, ⟨"SwingWeights$Ballots", "<init>", "()V"⟩, "SwingWeights"), ("SwingWeights$History", 17, ⟨"SwingWeights$State", "<init>", "()V"⟩, "SwingWeights"), ("SwingWeights", 28, ⟨"SwingWeights$Text", "<init>", "()V"⟩, "SwingWeights"), ("SwingWeights", 35, ⟨"SwingWeights$Power", "<init>", "()V"⟩, "SwingWeights"), ("SwingWeights$State", 48, ⟨"SwingWeights", "bit", "(I)I"⟩, "SwingWeights"), ("SwingWeights$State", 56, ⟨"SwingWeights", "holds", "(II)Z"⟩, "SwingWeights"), ("SwingWeights$Ballots", 34, ⟨"SwingWeights", "oneIf", "(Z)I"⟩, "SwingWeights"), ("SwingWeights$Power", 59, ⟨"SwingWeights", "bit", "(I)I"⟩, "SwingWeights"), ("SwingWeights$Power", 82, ⟨"SwingWeights", "holds", "(II)Z"⟩, "SwingWeights"), ("SwingWeights$Power", 119, ⟨"SwingWeights", "factorial", "(I)I"⟩, "SwingWeights")]
def nestWs : List Cond := nestF.map (fun q => .fieldLinkNest q.1 q.2.1 q.2.2.1 q.2.2.2.1 q.2.2.2.2.1 q.2.2.2.2.2) ++ nestM.map (fun q => .methodLinkNest q.1 q.2.1 q.2.2.1 q.2.2.2)
theorem nest_all {P : Cond → Prop} (hF : ∀ a i b n d h, P (.fieldLinkNest a i b n d h)) (hM : ∀ a i x h, P (.methodLinkNest a i x h)) : ∀ w ∈ nestWs, P w := by
  intro w hw
  rcases List.mem_append.mp hw with h | h
  · obtain ⟨q, -, rfl⟩ := List.mem_map.mp h
    exact hF _ _ _ _ _ _
  · obtain ⟨q, -, rfl⟩ := List.mem_map.mp h
    exact hM _ _ _ _
theorem nest_warm {s U : State} (hW : s.WarmedH U.vm) : ∀ w ∈ nestWs, va_Nw w s → va_Nw w U := nest_all (P := fun w => va_Nw w s → va_Nw w U) (fun _ _ _ _ _ _ h => va_Nw.warmF hW h) (fun _ _ _ _ h => va_Nw.warmM hW h)
theorem nest_same {u U : State} (h : u.vm = U.vm) : ∀ w ∈ nestWs, va_Nw w u → va_Nw w U := nest_all (P := fun w => va_Nw w u → va_Nw w U) (fun _ _ _ _ _ _ z => va_Nw.same rfl h z) (fun _ _ _ _ z => va_Nw.same rfl h z)
def facs : List Int32 := [1, 1, 2, 6, 24, 120, 720, 5040, 40320, 362880, 3628800]
def facI (j : Nat) : Int32 := facs.getD j 0
/-- what nobody writes: the static table, the links between nest mates -/
def Sx (E : EN) (U : State) : Prop := va_Z "SwingWeights" "FACTORIALS" "[I" (.ref (E.2.2 5)) (Aw E) U U.heap ∧ va_T .int (E.2.2 5) 11 (fun j => .int (facI j)) (Aw E) U U.heap ∧ ∀ w ∈ nestWs, va_Nw w U
theorem va_Z.at' {C n d : String} {v : Value} {A : Nat → Prop} {s U : State} {H1 : Heap} (h : va_Z C n d v A s s.heap) (hW : s.vm.Alike U.vm) (hk : ∀ a : Nat, a < s.heap.size → ¬ A a → H1[a]? = s.heap[a]?) : va_Z C n d v A U H1 := va_Z.moved hW (h.kept hk)
theorem va_T.at' {ty : FieldType} {t N : Nat} {f : Nat → Value} {A : Nat → Prop} {s U : State} {H1 : Heap} (h : va_T ty t N f A s s.heap) (hW : s.vm.Alike U.vm) (hk : ∀ a : Nat, a < s.heap.size → ¬ A a → H1[a]? = s.heap[a]?) : va_T ty t N f A U H1 := va_T.moved hW (h.kept hk)
theorem Sx.warm {E : EN} {s U : State} (h : Sx E s) (hW : s.WarmedH U.vm) (hk : ∀ a : Nat, a < s.heap.size → ¬ Aw E a → U.heap[a]? = s.heap[a]?) : Sx E U := ⟨h.1.at' hW.alike hk, h.2.1.at' hW.alike hk, fun w hw => nest_warm hW w hw (h.2.2 w hw)⟩
theorem Sx.same {E : EN} {u U : State} (h : Sx E u) (hv : u.vm = U.vm) (hh : U.heap = u.heap) : Sx E U := by
  have ha : u.vm.Alike U.vm := by rw [hv]; exact Vm.Alike.refl _
  have hk : ∀ a : Nat, a < u.heap.size → ¬ Aw E a → U.heap[a]? = u.heap[a]? := fun a _ _ => by rw [hh]
  exact ⟨h.1.at' ha hk, h.2.1.at' ha hk, fun w hw => nest_same hv w hw (h.2.2 w hw)⟩
def Wd (E : EN) (I : Mem) (U : State) : Prop := va_P E.1 vwCl (mkW E I) U.heap ∧ va_K E.1 vwCl (tyE E) U ∧ Sx E U
def QcOf (E : EN) (v : Option Value) (I' : Mem) : Array Value → State → Outcome → State → Prop := fun _ st oc t => oc = .returned v ∧ Wd E I' t ∧ va_F (Aw E) st t
/-- a method's contract: from the world I it returns v, the world is I' -/
def Ct (E : EN) (y : MethodName) (cc : ByteArray) (ml : Nat) (ret : Option FieldType) (fr lo : Nat) (As : List Value) (I : Mem) (v : Option Value) (I' : Mem) : Prop := ∀ l : Launch, EOk E → Met l y (.code y cc ml ret :: TB) { frames := fr, cells := 0, slots := 0, locals := lo } (va_Pc As (Wd E I)) (QcOf E v I') 0 0 (Aw E)
/-! where a walk stands -/
abbrev XT : Type := (Program × Launch × Env × Room) × (State × MethodId × Array Value × List Frame × Method × Code) × ((State → Prop) × (Nat → Prop) × Nat × Nat)
abbrev xp (X : XT) : Program := X.1.1
abbrev xl (X : XT) : Launch := X.1.2.1
abbrev xe (X : XT) : Env := X.1.2.2.1
abbrev xR (X : XT) : Room := X.1.2.2.2
abbrev xs (X : XT) : State := X.2.1.1
abbrev xm (X : XT) : MethodId := X.2.1.2.1
abbrev xa (X : XT) : Array Value := X.2.1.2.2.1
abbrev xb (X : XT) : List Frame := X.2.1.2.2.2.1
abbrev xM (X : XT) : Method := X.2.1.2.2.2.2.1
abbrev xc (X : XT) : Code := X.2.1.2.2.2.2.2
abbrev xQ (X : XT) : State → Prop := X.2.2.1
abbrev xA (X : XT) : Nat → Prop := X.2.2.2.1
abbrev xk (X : XT) : Nat := X.2.2.2.2.1
abbrev xn (X : XT) : Nat := X.2.2.2.2.2
def WX (X : XT) (H : Heap) (locs : List Loc) (g : JFrame) : Prop := W (xp X) (xl X) (xe X) (xR X) (xs X) (xm X) (xa X) (xb X) (xM X) (xc X) H locs (xk X) (xn X) (xQ X) g
def Cx (X : XT) (E : EN) (cc : ByteArray) (nL : Nat) (own : String) (fr lo : Nat) : Prop :=
  (xp X).tables.exec = Jvm.exec ∧ (xc X).code = cc ∧ (xc X).maxLocals = nL ∧ (xs X).vm.findClass own = some (xm X).cls ∧ (∀ w ∈ TB, w.before (xa X) (xs X) = true) ∧ va_K E.1 vwCl (tyE E) (xs X) ∧ Sx E (xs X) ∧ EOk E ∧ (∀ q, Aw E q → xA X q) ∧ (∀ q, q < (xs X).heap.size → xA X q → Aw E q) ∧ fr ≤ (xR X).frames ∧ lo ≤ (xR X).locals ∧ xk X ≤ (xR X).cells ∧ xn X ≤ (xR X).slots
def V (X : XT) (E : EN) (nL pc : Nat) (lv : List (Nat × Value)) (st : List Value) (I : Mem) : Prop := ∀ (H : Heap) (locs : List Loc) (ls : Array Slot), va_P E.1 vwCl (mkW E I) H → va_S (xA X) (xs X).heap H locs → lv_has ls nL lv → WX X H locs (F0 (xm X) pc ls st)
def retDec (cc : ByteArray) (pc : Nat) : Option Value → Prop
  | none => decode cc pc = .ok (.return_, 1)
  | some (.int _) => decode cc pc = .ok (.ireturn, 1)
  | some (.long _) => decode cc pc = .ok (.lreturn, 1)
  | some _ => decode cc pc = .ok (.areturn, 1)
def retOk : Option FieldType → Option Value → Prop
  | none, none => True
  | some ty, some (.int r) => narrow ty (.int r) = .int r
  | some ty, some (.long _) => ty = .long
  | some ty, some (.ref _) => ∃ n, ty = .object n
  | _, _ => False
def Rt (X : XT) (E : EN) (cc : ByteArray) (ret : Option FieldType) (v : Option Value) (I' : Mem) : Prop := ∀ (pc : Nat) (ls : Array Slot) (H : Heap) (locs : List Loc), va_P E.1 vwCl (mkW E I') H → va_S (xA X) (xs X).heap H locs → retOk ret v → retDec cc pc v → WX X H locs (F0 (xm X) pc ls v.toList)
set_option maxHeartbeats 4000000 in
set_option maxRecDepth 100000 in
theorem Ct_of {E : EN} {y : MethodName} {cc : ByteArray} {ml : Nat} {ret : Option FieldType} {fr lo : Nat} {As : List Value} {I : Mem} {v : Option Value} {I' : Mem} (hy : plainName y.cls = true) (hn : (lg_sl As).length ≤ ml)
    (body : ∀ X : XT, Cx X E cc ml y.cls fr lo → Rt X E cc ret v I' → V X E ml 0 (lv_args 0 As) [] I) : Ct E y cc ml ret fr lo As I v I' := by
  intro l hE
  refine Met.ofW (cc := cc) (maxL := ml) (ret := ret) hy rfl ?_
  intro p e s m args below meth c s₁ B hml hv
  obtain ⟨rfl, hP, hK, hSx⟩ := hv
  have hx := B.exec
  have hb := B.bytes
  have hr := B.returns
  have hlocks := B.notSynchronized
  have hts := atoms_spec (ws := .code y cc ml ret :: TB) B.pre
  have hown : s.vm.findClass y.cls = some m.cls := findClass_of_methodNamed B.named
  have hl := lv_entry As (n := ml) hn
  rw [lg_entry_eq]
  generalize (lg_sl As ++ List.replicate (ml - (lg_sl As).length) Slot.unset).toArray = ls at hl ⊢
  refine body ((p, l, e, (headSpec (.code y cc ml ret :: TB) { frames := fr, cells := 0, slots := 0, locals := lo }).room), (s, m, As.toArray, below, meth, c), (MQ below (QcOf E v I') As.toArray s 0 0 (Aw E), Aw E, 0, 0))
    ⟨hx, hb, hml, hown, fun w hw => hts w (List.mem_cons_of_mem _ hw), hK, hSx, hE, fun _ h => h, fun _ _ h => h, Nat.le_refl _, Nat.le_refl _, Nat.le_refl _, Nat.le_refl _⟩ ?_ s.heap [] ls hP va_S.rf hl
  intro pc ls H locs hP hS hret hd
  have fin : ∀ t : State, t.heap = H → s.WarmedH t.vm → QcOf E v I' As.toArray s (.returned v) t := fun t ht hW => ⟨rfl, ⟨by rw [ht]; exact hP, va_K.moved hW.alike hK, hSx.warm hW (fun a h1 h2 => by rw [ht]; exact hS.2.1 a h1 h2)⟩, hS.F ht⟩
  cases v with
  | none =>
    cases ret with
    | none => exact W.vret hx hb hr fin hS.2.2 hd hlocks
    | some ty => exact hret.elim
  | some w =>
    cases ret with
    | none => cases w <;> exact hret.elim
    | some ty =>
      cases w with
      | int r => exact W.zret hx hb hr hret fin hS.2.2 hd hlocks
      | long r =>
        cases hret
        exact W.lret hx hb hr fin hS.2.2 hd hlocks
      | ref a => exact W.aret hx hb hr (Or.inl hret) (Or.inr ⟨a, rfl⟩) fin hS.2.2 hd hlocks
      | _ => exact hret.elim
end
section
/-! rows over V: one a kind of instruction -/
section RV
variable {X : XT} {E : EN} {cc : ByteArray} {nL : Nat} {own : String} {fr lo pc : Nat} {lv : List (Nat × Value)} {st rest : List Value} {I : Mem}
theorem V_iconst (hC : Cx X E cc nL own fr lo) {n : Int} {v : Int32} (hd : decode cc pc = .ok (.iconst n, 1)) (hv : Int32.ofInt n = v) (k : V X E nL (pc + 1) lv (.int v :: st) I) : V X E nL pc lv st I :=
  fun H locs ls hP hS hl => lv_iconst hC.1 hC.2.1 hd hv (k H locs ls hP hS hl)
theorem V_bipush (hC : Cx X E cc nL own fr lo) {n : Int} {v : Int32} (hd : decode cc pc = .ok (.bipush n, 2)) (hv : (Int8.ofInt n).toInt32 = v) (k : V X E nL (pc + 2) lv (.int v :: st) I) : V X E nL pc lv st I :=
  fun H locs ls hP hS hl => lv_bipush hC.1 hC.2.1 hd hv (k H locs ls hP hS hl)
theorem V_sipush (hC : Cx X E cc nL own fr lo) {n : Int} {v : Int32} (hd : decode cc pc = .ok (.sipush n, 3)) (hv : (Int16.ofInt n).toInt32 = v) (k : V X E nL (pc + 3) lv (.int v :: st) I) : V X E nL pc lv st I :=
  fun H locs ls hP hS hl => lv_sipush hC.1 hC.2.1 hd hv (k H locs ls hP hS hl)
theorem V_lconst (hC : Cx X E cc nL own fr lo) {n : Fin 2} {v : Int64} (hd : decode cc pc = .ok (.lconst n, 1)) (hv : Int64.ofNat (n : Nat) = v) (k : V X E nL (pc + 1) lv (.long v :: st) I) : V X E nL pc lv st I :=
  fun H locs ls hP hS hl => lv_lconst hC.1 hC.2.1 hd hv (k H locs ls hP hS hl)
theorem V_ldcw (hC : Cx X E cc nL own fr lo) {index : Nat} {v : Int32} (hc : Cond.constant own index v ∈ TB) (hd : decode cc pc = .ok (.ldc_w index, 3)) (k : V X E nL (pc + 3) lv (.int v :: st) I) : V X E nL pc lv st I := by
  obtain ⟨hx, hb, -, hown, hts, -⟩ := hC
  exact fun H locs ls hP hS hl => lv_ldcw hx hb hown (hts _ hc) hd (k H locs ls hP hS hl)
theorem V_iload_n (hC : Cx X E cc nL own fr lo) {n : Fin 4} {i : Nat} {x : Int32} (j : Nat) (hd : decode cc pc = .ok (.iload_n n, 1)) (hi : (n : Nat) = i) (hk : lv[j]? = some (i, .int x)) (k : V X E nL (pc + 1) lv (.int x :: st) I) : V X E nL pc lv st I :=
  fun H locs ls hP hS hl => lv_iload_n hC.1 hC.2.1 hd hi (lv_at hl j hk) (k H locs ls hP hS hl)
theorem V_iload (hC : Cx X E cc nL own fr lo) {i : Nat} {x : Int32} (j : Nat) (hd : decode cc pc = .ok (.iload i, 2)) (hk : lv[j]? = some (i, .int x)) (k : V X E nL (pc + 2) lv (.int x :: st) I) : V X E nL pc lv st I :=
  fun H locs ls hP hS hl => lv_iload hC.1 hC.2.1 hd (lv_at hl j hk) (k H locs ls hP hS hl)
theorem V_lload_n (hC : Cx X E cc nL own fr lo) {n : Fin 4} {i : Nat} {x : Int64} (j : Nat) (hd : decode cc pc = .ok (.lload_n n, 1)) (hi : (n : Nat) = i) (hk : lv[j]? = some (i, .long x)) (k : V X E nL (pc + 1) lv (.long x :: st) I) : V X E nL pc lv st I :=
  fun H locs ls hP hS hl => lv_lload_n hC.1 hC.2.1 hd hi (lv_at hl j hk) (k H locs ls hP hS hl)
theorem V_lload (hC : Cx X E cc nL own fr lo) {i : Nat} {x : Int64} (j : Nat) (hd : decode cc pc = .ok (.lload i, 2)) (hk : lv[j]? = some (i, .long x)) (k : V X E nL (pc + 2) lv (.long x :: st) I) : V X E nL pc lv st I :=
  fun H locs ls hP hS hl => lv_lload hC.1 hC.2.1 hd (lv_at hl j hk) (k H locs ls hP hS hl)
theorem V_aload_n (hC : Cx X E cc nL own fr lo) {n : Fin 4} {i x : Nat} (j : Nat) (hd : decode cc pc = .ok (.aload_n n, 1)) (hi : (n : Nat) = i) (hk : lv[j]? = some (i, .ref x)) (k : V X E nL (pc + 1) lv (.ref x :: st) I) : V X E nL pc lv st I :=
  fun H locs ls hP hS hl => lv_aload_n hC.1 hC.2.1 hd hi (lv_at hl j hk) (k H locs ls hP hS hl)
theorem V_aload (hC : Cx X E cc nL own fr lo) {i x : Nat} (j : Nat) (hd : decode cc pc = .ok (.aload i, 2)) (hk : lv[j]? = some (i, .ref x)) (k : V X E nL (pc + 2) lv (.ref x :: st) I) : V X E nL pc lv st I :=
  fun H locs ls hP hS hl => lv_aload hC.1 hC.2.1 hd (lv_at hl j hk) (k H locs ls hP hS hl)
theorem V_istore_n (hC : Cx X E cc nL own fr lo) {n : Fin 4} {i : Nat} {x : Int32} {lv' : List (Nat × Value)} (hd : decode cc pc = .ok (.istore_n n, 1)) (hi : (n : Nat) = i) (hn : i < nL) (hl' : (i, Value.int x) :: lv.filter (fun q => !(q.1 == i) && !(q.1 + 1 == i && q.2.category == 2)) = lv') (k : V X E nL (pc + 1) lv' st I) : V X E nL pc lv (.int x :: st) I :=
  fun H locs _ hP hS hl => lv_istore_n hC.1 hC.2.1 hd hi hl hn hl' (fun ls' h' => k H locs ls' hP hS h')
theorem V_istore (hC : Cx X E cc nL own fr lo) {i : Nat} {x : Int32} {lv' : List (Nat × Value)} (hd : decode cc pc = .ok (.istore i, 2)) (hn : i < nL) (hl' : (i, Value.int x) :: lv.filter (fun q => !(q.1 == i) && !(q.1 + 1 == i && q.2.category == 2)) = lv') (k : V X E nL (pc + 2) lv' st I) : V X E nL pc lv (.int x :: st) I :=
  fun H locs _ hP hS hl => lv_istore hC.1 hC.2.1 hd hl hn hl' (fun ls' h' => k H locs ls' hP hS h')
theorem V_lstore_n (hC : Cx X E cc nL own fr lo) {n : Fin 4} {i : Nat} {x : Int64} {lv' : List (Nat × Value)} (hd : decode cc pc = .ok (.lstore_n n, 1)) (hi : (n : Nat) = i) (hn : i + 1 < nL) (hl' : (i, Value.long x) :: lv.filter (fun q => !(q.1 == i) && (!(q.1 == i + 1) && !(q.1 + 1 == i && q.2.category == 2))) = lv') (k : V X E nL (pc + 1) lv' st I) : V X E nL pc lv (.long x :: st) I :=
  fun H locs _ hP hS hl => lv_lstore_n hC.1 hC.2.1 hd hi hl hn hl' (fun ls' h' => k H locs ls' hP hS h')
theorem V_lstore (hC : Cx X E cc nL own fr lo) {i : Nat} {x : Int64} {lv' : List (Nat × Value)} (hd : decode cc pc = .ok (.lstore i, 2)) (hn : i + 1 < nL) (hl' : (i, Value.long x) :: lv.filter (fun q => !(q.1 == i) && (!(q.1 == i + 1) && !(q.1 + 1 == i && q.2.category == 2))) = lv') (k : V X E nL (pc + 2) lv' st I) : V X E nL pc lv (.long x :: st) I :=
  fun H locs _ hP hS hl => lv_lstore hC.1 hC.2.1 hd hl hn hl' (fun ls' h' => k H locs ls' hP hS h')
theorem V_astore_n (hC : Cx X E cc nL own fr lo) {n : Fin 4} {i x : Nat} {lv' : List (Nat × Value)} (hd : decode cc pc = .ok (.astore_n n, 1)) (hi : (n : Nat) = i) (hn : i < nL) (hl' : (i, Value.ref x) :: lv.filter (fun q => !(q.1 == i) && !(q.1 + 1 == i && q.2.category == 2)) = lv') (k : V X E nL (pc + 1) lv' st I) : V X E nL pc lv (.ref x :: st) I :=
  fun H locs _ hP hS hl => lv_astore_n hC.1 hC.2.1 hd hi hl hn hl' (fun ls' h' => k H locs ls' hP hS h')
theorem V_iinc (hC : Cx X E cc nL own fr lo) {i : Nat} {n : Int} {x : Int32} (c : Int32) {lv' : List (Nat × Value)} (j : Nat) (hd : decode cc pc = .ok (.iinc i n, 3)) (hk : lv[j]? = some (i, .int x)) (hv : Int32.ofInt n = c) (hn : i < nL) (hl' : (i, Value.int (x + c)) :: lv.filter (fun q => !(q.1 == i) && !(q.1 + 1 == i && q.2.category == 2)) = lv') (k : V X E nL (pc + 3) lv' st I) : V X E nL pc lv st I :=
  fun H locs _ hP hS hl => lv_iinc (v := x + c) hC.1 hC.2.1 hd hl hk (by rw [hv]) hn hl' (fun ls' h' => k H locs ls' hP hS h')
theorem V_sub (is : List Nat) {lv' : List (Nat × Value)} (h : lv_pick lv is = lv') (k : V X E nL pc lv' st I) : V X E nL pc lv st I :=
  fun H locs ls hP hS hl => k H locs ls hP hS (lv_sub hl is h)
theorem V_iadd (hC : Cx X E cc nL own fr lo) {x y : Int32} (hd : decode cc pc = .ok (.iadd, 1)) (k : V X E nL (pc + 1) lv (.int (x + y) :: st) I) : V X E nL pc lv (.int y :: .int x :: st) I := fun H locs ls hP hS hl => lv_iadd hC.1 hC.2.1 hd (k H locs ls hP hS hl)
theorem V_isub (hC : Cx X E cc nL own fr lo) {x y : Int32} (hd : decode cc pc = .ok (.isub, 1)) (k : V X E nL (pc + 1) lv (.int (x - y) :: st) I) : V X E nL pc lv (.int y :: .int x :: st) I := fun H locs ls hP hS hl => lv_isub hC.1 hC.2.1 hd (k H locs ls hP hS hl)
theorem V_imul (hC : Cx X E cc nL own fr lo) {x y : Int32} (hd : decode cc pc = .ok (.imul, 1)) (k : V X E nL (pc + 1) lv (.int (x * y) :: st) I) : V X E nL pc lv (.int y :: .int x :: st) I := fun H locs ls hP hS hl => lv_imul hC.1 hC.2.1 hd (k H locs ls hP hS hl)
theorem V_iand (hC : Cx X E cc nL own fr lo) {x y : Int32} (hd : decode cc pc = .ok (.iand, 1)) (k : V X E nL (pc + 1) lv (.int (x &&& y) :: st) I) : V X E nL pc lv (.int y :: .int x :: st) I := fun H locs ls hP hS hl => lv_iand hC.1 hC.2.1 hd (k H locs ls hP hS hl)
theorem V_ior (hC : Cx X E cc nL own fr lo) {x y : Int32} (hd : decode cc pc = .ok (.ior, 1)) (k : V X E nL (pc + 1) lv (.int (x ||| y) :: st) I) : V X E nL pc lv (.int y :: .int x :: st) I := fun H locs ls hP hS hl => lv_ior hC.1 hC.2.1 hd (k H locs ls hP hS hl)
theorem V_ixor (hC : Cx X E cc nL own fr lo) {x y : Int32} (hd : decode cc pc = .ok (.ixor, 1)) (k : V X E nL (pc + 1) lv (.int (x ^^^ y) :: st) I) : V X E nL pc lv (.int y :: .int x :: st) I := fun H locs ls hP hS hl => lv_ixor hC.1 hC.2.1 hd (k H locs ls hP hS hl)
theorem V_idiv (hC : Cx X E cc nL own fr lo) {x y : Int32} (hne : ¬ y = 0) (hd : decode cc pc = .ok (.idiv, 1)) (k : V X E nL (pc + 1) lv (.int (x / y) :: st) I) : V X E nL pc lv (.int y :: .int x :: st) I := fun H locs ls hP hS hl => lv_idiv hC.1 hC.2.1 hd hne (k H locs ls hP hS hl)
theorem V_irem (hC : Cx X E cc nL own fr lo) {x y : Int32} (hne : ¬ y = 0) (hd : decode cc pc = .ok (.irem, 1)) (k : V X E nL (pc + 1) lv (.int (x - x / y * y) :: st) I) : V X E nL pc lv (.int y :: .int x :: st) I := fun H locs ls hP hS hl => lv_irem hC.1 hC.2.1 hd hne (k H locs ls hP hS hl)
theorem V_ineg (hC : Cx X E cc nL own fr lo) {x : Int32} (hd : decode cc pc = .ok (.ineg, 1)) (k : V X E nL (pc + 1) lv (.int (-x) :: st) I) : V X E nL pc lv (.int x :: st) I := fun H locs ls hP hS hl => lv_ineg hC.1 hC.2.1 hd (k H locs ls hP hS hl)
theorem V_ishl (hC : Cx X E cc nL own fr lo) {x y : Int32} (hd : decode cc pc = .ok (.ishl, 1)) (k : V X E nL (pc + 1) lv (.int (x <<< (y &&& 31)) :: st) I) : V X E nL pc lv (.int y :: .int x :: st) I := fun H locs ls hP hS hl => lv_ishl hC.1 hC.2.1 hd (k H locs ls hP hS hl)
theorem V_ishr (hC : Cx X E cc nL own fr lo) {x y : Int32} (hd : decode cc pc = .ok (.ishr, 1)) (k : V X E nL (pc + 1) lv (.int (x >>> (y &&& 31)) :: st) I) : V X E nL pc lv (.int y :: .int x :: st) I := fun H locs ls hP hS hl => lv_ishr hC.1 hC.2.1 hd (k H locs ls hP hS hl)
def iushr (x y : Int32) : Int32 := (x.toUInt32 >>> (y.toUInt32 &&& Int32.toUInt32 31)).toInt32
theorem V_iushr (hC : Cx X E cc nL own fr lo) {x y : Int32} (hd : decode cc pc = .ok (.iushr, 1)) (k : V X E nL (pc + 1) lv (.int (iushr x y) :: st) I) : V X E nL pc lv (.int y :: .int x :: st) I := fun H locs ls hP hS hl => lv_iushr hC.1 hC.2.1 hd rfl (k H locs ls hP hS hl)
theorem V_ladd (hC : Cx X E cc nL own fr lo) {x y : Int64} (hd : decode cc pc = .ok (.ladd, 1)) (k : V X E nL (pc + 1) lv (.long (x + y) :: st) I) : V X E nL pc lv (.long y :: .long x :: st) I := fun H locs ls hP hS hl => lv_ladd hC.1 hC.2.1 hd (k H locs ls hP hS hl)
theorem V_lsub (hC : Cx X E cc nL own fr lo) {x y : Int64} (hd : decode cc pc = .ok (.lsub, 1)) (k : V X E nL (pc + 1) lv (.long (x - y) :: st) I) : V X E nL pc lv (.long y :: .long x :: st) I := fun H locs ls hP hS hl => lv_lsub hC.1 hC.2.1 hd (k H locs ls hP hS hl)
theorem V_lmul (hC : Cx X E cc nL own fr lo) {x y : Int64} (hd : decode cc pc = .ok (.lmul, 1)) (k : V X E nL (pc + 1) lv (.long (x * y) :: st) I) : V X E nL pc lv (.long y :: .long x :: st) I := fun H locs ls hP hS hl => lv_lmul hC.1 hC.2.1 hd (k H locs ls hP hS hl)
theorem V_lneg (hC : Cx X E cc nL own fr lo) {x : Int64} (hd : decode cc pc = .ok (.lneg, 1)) (k : V X E nL (pc + 1) lv (.long (-x) :: st) I) : V X E nL pc lv (.long x :: st) I := fun H locs ls hP hS hl => lv_lneg hC.1 hC.2.1 hd (k H locs ls hP hS hl)
theorem V_lcmp (hC : Cx X E cc nL own fr lo) {x y : Int64} (hd : decode cc pc = .ok (.lcmp, 1)) (k : V X E nL (pc + 1) lv (.int (lg_cmp x y) :: st) I) : V X E nL pc lv (.long y :: .long x :: st) I := fun H locs ls hP hS hl => W.lcmp hC.1 hC.2.1 hd (k H locs ls hP hS hl)
theorem V_i2l (hC : Cx X E cc nL own fr lo) {x : Int32} (hd : decode cc pc = .ok (.i2l, 1)) (k : V X E nL (pc + 1) lv (.long x.toInt64 :: st) I) : V X E nL pc lv (.int x :: st) I := fun H locs ls hP hS hl => lv_i2l hC.1 hC.2.1 hd rfl (k H locs ls hP hS hl)
def i2c (x : Int32) : Int32 := (x.toUInt32 % 65536).toInt32
theorem V_i2c (hC : Cx X E cc nL own fr lo) {x : Int32} (hd : decode cc pc = .ok (.i2c, 1)) (k : V X E nL (pc + 1) lv (.int (i2c x) :: st) I) : V X E nL pc lv (.int x :: st) I := fun H locs ls hP hS hl => lv_i2c hC.1 hC.2.1 hd rfl (k H locs ls hP hS hl)
theorem V_dup (hC : Cx X E cc nL own fr lo) {va : Value} (hd : decode cc pc = .ok (.dup, 1)) (hva : va.category = 1) (k : V X E nL (pc + 1) lv (va :: va :: st) I) : V X E nL pc lv (va :: st) I := fun H locs ls hP hS hl => lv_dup hC.1 hC.2.1 hd hva (k H locs ls hP hS hl)
theorem V_dup2 (hC : Cx X E cc nL own fr lo) {va vb : Value} (hd : decode cc pc = .ok (.dup2, 1)) (hva : va.category = 1) (hvb : vb.category = 1) (k : V X E nL (pc + 1) lv (va :: vb :: va :: vb :: st) I) : V X E nL pc lv (va :: vb :: st) I := fun H locs ls hP hS hl => lv_dup2_11 hC.1 hC.2.1 hd hva hvb (k H locs ls hP hS hl)
theorem V_goto (hC : Cx X E cc nL own fr lo) {off : Int} {tgt : Nat} (hd : decode cc pc = .ok (.goto off, 3)) (ht : (pc : Int) + off = (tgt : Int)) (k : V X E nL tgt lv st I) : V X E nL pc lv st I := fun H locs ls hP hS hl => lv_goto hC.1 hC.2.1 hd ht (k H locs ls hP hS hl)
theorem V_if_eq (hC : Cx X E cc nL own fr lo) {x : Int32} {off : Int} {tgt : Nat} (hd : decode cc pc = .ok (.ifCond .eq off, 3)) (ht : (pc : Int) + off = (tgt : Int)) (kt : x = 0 → V X E nL tgt lv st I) (kf : ¬ x = 0 → V X E nL (pc + 3) lv st I) : V X E nL pc lv (.int x :: st) I := fun H locs ls hP hS hl => lv_if_eq hC.1 hC.2.1 hd ht (fun c => kt c H locs ls hP hS hl) (fun c => kf c H locs ls hP hS hl)
theorem V_if_ne (hC : Cx X E cc nL own fr lo) {x : Int32} {off : Int} {tgt : Nat} (hd : decode cc pc = .ok (.ifCond .ne off, 3)) (ht : (pc : Int) + off = (tgt : Int)) (kt : ¬ x = 0 → V X E nL tgt lv st I) (kf : x = 0 → V X E nL (pc + 3) lv st I) : V X E nL pc lv (.int x :: st) I := fun H locs ls hP hS hl => lv_if_ne hC.1 hC.2.1 hd ht (fun c => kt c H locs ls hP hS hl) (fun c => kf c H locs ls hP hS hl)
theorem V_if_lt (hC : Cx X E cc nL own fr lo) {x : Int32} {off : Int} {tgt : Nat} (hd : decode cc pc = .ok (.ifCond .lt off, 3)) (ht : (pc : Int) + off = (tgt : Int)) (kt : x < 0 → V X E nL tgt lv st I) (kf : ¬ x < 0 → V X E nL (pc + 3) lv st I) : V X E nL pc lv (.int x :: st) I := fun H locs ls hP hS hl => lv_if_lt hC.1 hC.2.1 hd ht (fun c => kt c H locs ls hP hS hl) (fun c => kf c H locs ls hP hS hl)
theorem V_if_ge (hC : Cx X E cc nL own fr lo) {x : Int32} {off : Int} {tgt : Nat} (hd : decode cc pc = .ok (.ifCond .ge off, 3)) (ht : (pc : Int) + off = (tgt : Int)) (kt : 0 ≤ x → V X E nL tgt lv st I) (kf : ¬ 0 ≤ x → V X E nL (pc + 3) lv st I) : V X E nL pc lv (.int x :: st) I := fun H locs ls hP hS hl => lv_if_ge hC.1 hC.2.1 hd ht (fun c => kt c H locs ls hP hS hl) (fun c => kf c H locs ls hP hS hl)
theorem V_if_gt (hC : Cx X E cc nL own fr lo) {x : Int32} {off : Int} {tgt : Nat} (hd : decode cc pc = .ok (.ifCond .gt off, 3)) (ht : (pc : Int) + off = (tgt : Int)) (kt : 0 < x → V X E nL tgt lv st I) (kf : ¬ 0 < x → V X E nL (pc + 3) lv st I) : V X E nL pc lv (.int x :: st) I := fun H locs ls hP hS hl => lv_if_gt hC.1 hC.2.1 hd ht (fun c => kt c H locs ls hP hS hl) (fun c => kf c H locs ls hP hS hl)
theorem V_if_le (hC : Cx X E cc nL own fr lo) {x : Int32} {off : Int} {tgt : Nat} (hd : decode cc pc = .ok (.ifCond .le off, 3)) (ht : (pc : Int) + off = (tgt : Int)) (kt : x ≤ 0 → V X E nL tgt lv st I) (kf : ¬ x ≤ 0 → V X E nL (pc + 3) lv st I) : V X E nL pc lv (.int x :: st) I := fun H locs ls hP hS hl => lv_if_le hC.1 hC.2.1 hd ht (fun c => kt c H locs ls hP hS hl) (fun c => kf c H locs ls hP hS hl)
theorem V_icmp_eq (hC : Cx X E cc nL own fr lo) {x y : Int32} {off : Int} {tgt : Nat} (hd : decode cc pc = .ok (.if_icmp .eq off, 3)) (ht : (pc : Int) + off = (tgt : Int)) (kt : x = y → V X E nL tgt lv st I) (kf : ¬ x = y → V X E nL (pc + 3) lv st I) : V X E nL pc lv (.int y :: .int x :: st) I := fun H locs ls hP hS hl => lv_icmp_eq hC.1 hC.2.1 hd ht (fun c => kt c H locs ls hP hS hl) (fun c => kf c H locs ls hP hS hl)
theorem V_icmp_ne (hC : Cx X E cc nL own fr lo) {x y : Int32} {off : Int} {tgt : Nat} (hd : decode cc pc = .ok (.if_icmp .ne off, 3)) (ht : (pc : Int) + off = (tgt : Int)) (kt : ¬ x = y → V X E nL tgt lv st I) (kf : x = y → V X E nL (pc + 3) lv st I) : V X E nL pc lv (.int y :: .int x :: st) I := fun H locs ls hP hS hl => lv_icmp_ne hC.1 hC.2.1 hd ht (fun c => kt c H locs ls hP hS hl) (fun c => kf c H locs ls hP hS hl)
theorem V_icmp_lt (hC : Cx X E cc nL own fr lo) {x y : Int32} {off : Int} {tgt : Nat} (hd : decode cc pc = .ok (.if_icmp .lt off, 3)) (ht : (pc : Int) + off = (tgt : Int)) (kt : x < y → V X E nL tgt lv st I) (kf : ¬ x < y → V X E nL (pc + 3) lv st I) : V X E nL pc lv (.int y :: .int x :: st) I := fun H locs ls hP hS hl => lv_icmp_lt hC.1 hC.2.1 hd ht (fun c => kt c H locs ls hP hS hl) (fun c => kf c H locs ls hP hS hl)
theorem V_icmp_ge (hC : Cx X E cc nL own fr lo) {x y : Int32} {off : Int} {tgt : Nat} (hd : decode cc pc = .ok (.if_icmp .ge off, 3)) (ht : (pc : Int) + off = (tgt : Int)) (kt : y ≤ x → V X E nL tgt lv st I) (kf : ¬ y ≤ x → V X E nL (pc + 3) lv st I) : V X E nL pc lv (.int y :: .int x :: st) I := fun H locs ls hP hS hl => lv_icmp_ge hC.1 hC.2.1 hd ht (fun c => kt c H locs ls hP hS hl) (fun c => kf c H locs ls hP hS hl)
theorem V_icmp_gt (hC : Cx X E cc nL own fr lo) {x y : Int32} {off : Int} {tgt : Nat} (hd : decode cc pc = .ok (.if_icmp .gt off, 3)) (ht : (pc : Int) + off = (tgt : Int)) (kt : y < x → V X E nL tgt lv st I) (kf : ¬ y < x → V X E nL (pc + 3) lv st I) : V X E nL pc lv (.int y :: .int x :: st) I := fun H locs ls hP hS hl => lv_icmp_gt hC.1 hC.2.1 hd ht (fun c => kt c H locs ls hP hS hl) (fun c => kf c H locs ls hP hS hl)
theorem V_icmp_le (hC : Cx X E cc nL own fr lo) {x y : Int32} {off : Int} {tgt : Nat} (hd : decode cc pc = .ok (.if_icmp .le off, 3)) (ht : (pc : Int) + off = (tgt : Int)) (kt : x ≤ y → V X E nL tgt lv st I) (kf : ¬ x ≤ y → V X E nL (pc + 3) lv st I) : V X E nL pc lv (.int y :: .int x :: st) I := fun H locs ls hP hS hl => lv_icmp_le hC.1 hC.2.1 hd ht (fun c => kt c H locs ls hP hS hl) (fun c => kf c H locs ls hP hS hl)
theorem V_lookup (hC : Cx X E cc nL own fr lo) {dflt : Int} {ps : Array (Int × Int)} {len : Nat} {x : Int32} {off : Int} {tgt : Nat} (hd : decode cc pc = .ok (.lookupswitch dflt ps, len)) (hp : (ps.toList.zip (ps.toList.drop 1)).all (fun (a, next) => a.1 < next.1) = true) (ho : Op.lookupswitch.offset ps.toList dflt x.toInt = off) (ht : (pc : Int) + off = (tgt : Int)) (k : V X E nL tgt lv st I) : V X E nL pc lv (.int x :: st) I := fun H locs ls hP hS hl => lv_lookup hC.1 hC.2.1 hd hp ho ht (k H locs ls hP hS hl)
theorem V_tableOut (hC : Cx X E cc nL own fr lo) {dflt l0 hi : Int} {offs : Array Int} {len : Nat} {x : Int32} {tgt : Nat} (hd : decode cc pc = .ok (.tableswitch dflt l0 hi offs, len)) (h : x.toInt < l0 ∨ hi < x.toInt) (ht : (pc : Int) + dflt = (tgt : Int)) (k : V X E nL tgt lv st I) : V X E nL pc lv (.int x :: st) I := fun H locs ls hP hS hl => lv_tableOut hC.1 hC.2.1 hd h ht (k H locs ls hP hS hl)
theorem V_tableIn (hC : Cx X E cc nL own fr lo) {dflt l0 hi : Int} {offs : Array Int} {len : Nat} {x : Int32} {off : Int} {tgt : Nat} (hd : decode cc pc = .ok (.tableswitch dflt l0 hi offs, len)) (h1 : ¬ x.toInt < l0) (h2 : ¬ hi < x.toInt) (ho : offs[(x.toInt - l0).toNat]? = some off) (ht : (pc : Int) + off = (tgt : Int)) (k : V X E nL tgt lv st I) : V X E nL pc lv (.int x :: st) I := fun H locs ls hP hS hl => lv_tableIn hC.1 hC.2.1 hd h1 h2 ho ht (k H locs ls hP hS hl)
theorem V_ireturn {r : Int32} {ret : Option FieldType} (hR : Rt X E cc ret (some (.int r)) I) (hn : retOk ret (some (.int r))) (hd : decode cc pc = .ok (.ireturn, 1)) : V X E nL pc lv [.int r] I := fun H locs ls hP hS _ => hR pc ls H locs hP hS hn hd
theorem V_lreturn {r : Int64} {ret : Option FieldType} (hR : Rt X E cc ret (some (.long r)) I) (hn : retOk ret (some (.long r))) (hd : decode cc pc = .ok (.lreturn, 1)) : V X E nL pc lv [.long r] I := fun H locs ls hP hS _ => hR pc ls H locs hP hS hn hd
theorem V_areturn {r : Nat} {ret : Option FieldType} (hR : Rt X E cc ret (some (.ref r)) I) (hn : retOk ret (some (.ref r))) (hd : decode cc pc = .ok (.areturn, 1)) : V X E nL pc lv [.ref r] I := fun H locs ls hP hS _ => hR pc ls H locs hP hS hn hd
theorem V_return {ret : Option FieldType} (hR : Rt X E cc ret none I) (hn : retOk ret none) (hd : decode cc pc = .ok (.return_, 1)) : V X E nL pc lv [] I := fun H locs ls hP hS _ => hR pc ls H locs hP hS hn hd
theorem nar_z {x : Int32} (h : vp_nar .boolean x = x) : retOk (some .boolean) (some (.int x)) := congrArg Value.int h
theorem nar_c {x : Int32} (h : vp_nar .char x = x) : retOk (some .char) (some (.int x)) := congrArg Value.int h
def inB (i : Int32) (n : Nat) : Bool := decide (0 ≤ i.toInt ∧ i.toInt < n)
theorem inB_of {i : Int32} {n : Nat} (h : inB i n = true) : vp_in i n := vp_in_iff.mpr (of_decide_eq_true h)
theorem if_some {α : Type} {c : Prop} {hc : Decidable c} {a : Option α} {o : α} (h : (if c then a else none) = some o) : c ∧ a = some o := by
  by_cases z : c
  · rw [if_pos z] at h
    exact ⟨z, h⟩
  · rw [if_neg z] at h
    cases h
theorem ite_t {α : Type} {c : Prop} {hc : Decidable c} {a b o : α} (h : (if c then a else b) = o) (z : c) : a = o := by rw [if_pos z] at h; exact h
theorem ite_f {α : Type} {c : Prop} {hc : Decidable c} {a b o : α} (h : (if c then a else b) = o) (z : ¬ c) : b = o := by rw [if_neg z] at h; exact h
theorem bind_some {α β : Type} {x : Option α} {f : α → Option β} {o : β} (h : Option.bind x f = some o) : ∃ r, x = some r ∧ f r = some o := Option.bind_eq_some_iff.mp h
/-! fields -/
theorem V_get (hC : Cx X E cc nL own fr lo) {id ci k index : Nat} {fs : List Value} {C : String} {T : u_T} {N : Nat} {v : Value} (hid : id < 82) (hcel : cel E.2.1 E.2.2 id (I id) = .inr (ci, fs)) (hc : vwCl[ci]? = some (C, T, N)) (hin : ∀ w ∈ u_ws C T N, w ∈ TB) (hk : k < N) (hlink : Cond.fieldLink own index C (T k).2.1 (T k).2.2.1 ∈ TB) (hT : (T k).1 = C) (hv : fs[k]? = some v) (hd : decode cc pc = .ok (.getfield index, 3)) (kk : V X E nL (pc + 3) lv (v :: st) I) : V X E nL pc lv (.ref (E.2.1 id) :: st) I := by
  obtain ⟨hx, hb, hml, hown, hts, hK, -⟩ := hC
  intro H locs ls hP hS hl
  exact va_get (D := E.1) hx hb hts hin hown hK hP id (by rw [mkW_get hid, hcel]) hc k hk (hts _ hlink) (fun x h => by rw [hT] at h; exact h) hv hd (kk H locs ls hP hS hl)
theorem V_getN (hC : Cx X E cc nL own fr lo) {id ci k index : Nat} {fs : List Value} {C host : String} {T : u_T} {N : Nat} {v : Value} (hid : id < 82) (hcel : cel E.2.1 E.2.2 id (I id) = .inr (ci, fs)) (hc : vwCl[ci]? = some (C, T, N)) (hin : ∀ w ∈ u_ws C T N, w ∈ TB) (hk : k < N) (hlink : Cond.fieldLinkNest own index C (T k).2.1 (T k).2.2.1 host ∈ nestWs) (hT : (T k).1 = C) (hv : fs[k]? = some v) (hd : decode cc pc = .ok (.getfield index, 3)) (kk : V X E nL (pc + 3) lv (v :: st) I) : V X E nL pc lv (.ref (E.2.1 id) :: st) I := by
  obtain ⟨hx, hb, hml, hown, hts, hK, hSx, -⟩ := hC
  intro H locs ls hP hS hl
  exact va_getN (D := E.1) (host := host) hx hb hts hin hown hK hP id (by rw [mkW_get hid, hcel]) hc k hk (va_Nw.use rfl (hSx.2.2 _ hlink)) (fun x h => by rw [hT] at h; exact h) hv hd (kk H locs ls hP hS hl)
theorem V_put (hC : Cx X E cc nL own fr lo) {id ci k index : Nat} {fs : List Value} {C : String} {T : u_T} {N : Nat} (ty0 : Nat → FieldType) {ty : FieldType} {x : Int32} (hid : id < 82) (hcel : cel E.2.1 E.2.2 id (I id) = .inr (ci, fs)) (hcel' : cel E.2.1 E.2.2 id (upd (I id) k x) = .inr (ci, fs.set k (.int x))) (hc : vwCl[ci]? = some (C, T, N)) (hin : ∀ w ∈ u_ws C T N, w ∈ TB) (hty : ∀ k, k < N → parseFieldDescriptor (T k).2.2.1 = some (ty0 k)) (hnm : ∀ a, a < N → ∀ b, b < N → a ≠ b → (T a).2.1 ≠ (T b).2.1) (hk : k < N) (hlink : Cond.fieldLink own index C (T k).2.1 (T k).2.2.1 ∈ TB) (hT : (T k).1 = C) (hfin : (T k).2.2.2 = false) (hdd : parseFieldDescriptor (T k).2.2.1 = some ty) (hn : narrow ty (.int x) = .int x) (hfit : fits ty (.int x) = true) (hl0 : k < fs.length) (hd : decode cc pc = .ok (.putfield index, 3)) (kk : V X E nL (pc + 3) lv st (up2 I id k x)) : V X E nL pc lv (.int x :: .ref (E.2.1 id) :: st) I := by
  obtain ⟨hx, hb, hml, hown, hts, hK, hSx, hE, hA, -⟩ := hC
  intro H locs ls hP hS hl
  refine va_put (D := E.1) hx hb hts hin ty0 hty hnm hown hK hP ((mkW_D hE).weaken (fun _ q _ h => hA _ h)) hS id (by rw [mkW_get hid, hcel]) hc k hk (hts _ hlink) (fun x h => by rw [hT] at h; exact h) hfin hdd hn hfit hl0 hd (fun H1 locs1 hP1 _ hS1 => kk H1 locs1 ls ?_ hS1 hl)
  rw [← hcel', mkW_set _ hid] at hP1
  exact hP1
theorem V_putN (hC : Cx X E cc nL own fr lo) {id ci k index : Nat} {fs : List Value} {C host : String} {T : u_T} {N : Nat} (ty0 : Nat → FieldType) {ty : FieldType} {x : Int32} (hid : id < 82) (hcel : cel E.2.1 E.2.2 id (I id) = .inr (ci, fs)) (hcel' : cel E.2.1 E.2.2 id (upd (I id) k x) = .inr (ci, fs.set k (.int x))) (hc : vwCl[ci]? = some (C, T, N)) (hin : ∀ w ∈ u_ws C T N, w ∈ TB) (hty : ∀ k, k < N → parseFieldDescriptor (T k).2.2.1 = some (ty0 k)) (hnm : ∀ a, a < N → ∀ b, b < N → a ≠ b → (T a).2.1 ≠ (T b).2.1) (hk : k < N) (hlink : Cond.fieldLinkNest own index C (T k).2.1 (T k).2.2.1 host ∈ nestWs) (hT : (T k).1 = C) (hfin : (T k).2.2.2 = false) (hdd : parseFieldDescriptor (T k).2.2.1 = some ty) (hn : narrow ty (.int x) = .int x) (hfit : fits ty (.int x) = true) (hl0 : k < fs.length) (hd : decode cc pc = .ok (.putfield index, 3)) (kk : V X E nL (pc + 3) lv st (up2 I id k x)) : V X E nL pc lv (.int x :: .ref (E.2.1 id) :: st) I := by
  obtain ⟨hx, hb, hml, hown, hts, hK, hSx, hE, hA, -⟩ := hC
  intro H locs ls hP hS hl
  refine va_putN (D := E.1) (host := host) hx hb hts hin ty0 hty hnm hown hK hP ((mkW_D hE).weaken (fun _ q _ h => hA _ h)) hS id (by rw [mkW_get hid, hcel]) hc k hk (va_Nw.use rfl (hSx.2.2 _ hlink)) (fun x h => by rw [hT] at h; exact h) hfin hdd hn hfit hl0 hd (fun H1 locs1 hP1 _ hS1 => kk H1 locs1 ls ?_ hS1 hl)
  rw [← hcel', mkW_set _ hid] at hP1
  exact hP1
/-! arrays -/
def IA (a n : Nat) : Prop := a < 82 ∧ ∀ (ad cc : Nat → Nat) (f : Nat → Int32), cel ad cc a f = .inl (cc 0, n, .inl f)
def CA (a n : Nat) : Prop := a < 82 ∧ ∀ (ad cc : Nat → Nat) (f : Nat → Int32), cel ad cc a f = .inl (cc 1, n, .inl f)
def ZA (a n : Nat) : Prop := a < 82 ∧ ∀ (ad cc : Nat → Nat) (f : Nat → Int32), cel ad cc a f = .inl (cc 2, n, .inl f)
theorem V_iald (hC : Cx X E cc nL own fr lo) {a n : Nat} (ha : IA a n) {i : Int32} (hin : vp_in i n) (hd : decode cc pc = .ok (.iaload, 1)) (kk : V X E nL (pc + 1) lv (.int (I a i.toNatClampNeg) :: st) I) : V X E nL pc lv (.int i :: .ref (E.2.1 a) :: st) I := by
  obtain ⟨hx, hb, hml, hown, hts, hK, -⟩ := hC
  intro H locs ls hP hS hl
  exact va_iald (D := E.1) hx hb hK hP a 0 (by rw [mkW_get ha.1, ha.2]) rfl hin hd (kk H locs ls hP hS hl)
theorem V_cald (hC : Cx X E cc nL own fr lo) {a n : Nat} (ha : CA a n) {i : Int32} (hin : vp_in i n) (hd : decode cc pc = .ok (.caload, 1)) (kk : V X E nL (pc + 1) lv (.int (I a i.toNatClampNeg) :: st) I) : V X E nL pc lv (.int i :: .ref (E.2.1 a) :: st) I := by
  obtain ⟨hx, hb, hml, hown, hts, hK, -⟩ := hC
  intro H locs ls hP hS hl
  exact va_cald (D := E.1) hx hb hK hP a 1 (by rw [mkW_get ha.1, ha.2]) rfl hin hd (kk H locs ls hP hS hl)
theorem V_zald (hC : Cx X E cc nL own fr lo) {a n : Nat} (ha : ZA a n) {i : Int32} (hin : vp_in i n) (hd : decode cc pc = .ok (.baload, 1)) (kk : V X E nL (pc + 1) lv (.int (I a i.toNatClampNeg) :: st) I) : V X E nL pc lv (.int i :: .ref (E.2.1 a) :: st) I := by
  obtain ⟨hx, hb, hml, hown, hts, hK, -⟩ := hC
  intro H locs ls hP hS hl
  exact va_zald (D := E.1) hx hb hK hP a 2 (by rw [mkW_get ha.1, ha.2]) rfl hin hd (kk H locs ls hP hS hl)
theorem V_iast (hC : Cx X E cc nL own fr lo) {a n : Nat} (ha : IA a n) {i x : Int32} (hin : vp_in i n) (hd : decode cc pc = .ok (.iastore, 1)) (kk : V X E nL (pc + 1) lv st (up2 I a i.toNatClampNeg x)) : V X E nL pc lv (.int x :: .int i :: .ref (E.2.1 a) :: st) I := by
  obtain ⟨hx, hb, hml, hown, hts, hK, hSx, hE, hA, -⟩ := hC
  intro H locs ls hP hS hl
  refine va_iast (D := E.1) hx hb hK hP ((mkW_D hE).weaken (fun _ q _ h => hA _ h)) hS a 0 (by rw [mkW_get ha.1, ha.2]) rfl hin hd (fun H1 locs1 hP1 _ hS1 => kk H1 locs1 ls ?_ hS1 hl)
  rw [← ha.2 E.2.1 E.2.2, mkW_set _ ha.1] at hP1
  exact hP1
theorem V_cast (hC : Cx X E cc nL own fr lo) {a n : Nat} (ha : CA a n) {i x : Int32} (hin : vp_in i n) (hd : decode cc pc = .ok (.castore, 1)) (kk : V X E nL (pc + 1) lv st (up2 I a i.toNatClampNeg (vp_nar .char x))) : V X E nL pc lv (.int x :: .int i :: .ref (E.2.1 a) :: st) I := by
  obtain ⟨hx, hb, hml, hown, hts, hK, hSx, hE, hA, -⟩ := hC
  intro H locs ls hP hS hl
  refine va_cast (D := E.1) hx hb hK hP ((mkW_D hE).weaken (fun _ q _ h => hA _ h)) hS a 1 (by rw [mkW_get ha.1, ha.2]) rfl hin hd (fun H1 locs1 hP1 _ hS1 => kk H1 locs1 ls ?_ hS1 hl)
  rw [← ha.2 E.2.1 E.2.2, mkW_set _ ha.1] at hP1
  exact hP1
theorem V_zast (hC : Cx X E cc nL own fr lo) {a n : Nat} (ha : ZA a n) {i x : Int32} (hin : vp_in i n) (hd : decode cc pc = .ok (.bastore, 1)) (kk : V X E nL (pc + 1) lv st (up2 I a i.toNatClampNeg (vp_nar .boolean x))) : V X E nL pc lv (.int x :: .int i :: .ref (E.2.1 a) :: st) I := by
  obtain ⟨hx, hb, hml, hown, hts, hK, hSx, hE, hA, -⟩ := hC
  intro H locs ls hP hS hl
  refine va_zast (D := E.1) hx hb hK hP ((mkW_D hE).weaken (fun _ q _ h => hA _ h)) hS a 2 (by rw [mkW_get ha.1, ha.2]) rfl hin hd (fun H1 locs1 hP1 _ hS1 => kk H1 locs1 ls ?_ hS1 hl)
  rw [← ha.2 E.2.1 E.2.2, mkW_set _ ha.1] at hP1
  exact hP1
theorem V_ialen (hC : Cx X E cc nL own fr lo) {a n : Nat} (ha : IA a n) {v : Int32} (hv : Int32.ofNat n = v) (hd : decode cc pc = .ok (.arraylength, 1)) (kk : V X E nL (pc + 1) lv (.int v :: st) I) : V X E nL pc lv (.ref (E.2.1 a) :: st) I := by
  obtain ⟨hx, hb, hml, hown, hts, hK, -⟩ := hC
  intro H locs ls hP hS hl
  exact va_alen (D := E.1) hx hb hK hP a 0 (by rw [mkW_get ha.1, ha.2]) (ty := .int) rfl hv hd (kk H locs ls hP hS hl)
/-- the row of states: it holds numbers of states -/
theorem V_ald50 (hC : Cx X E cc nL own fr lo) {i : Int32} (hin : vp_in i 4) (hd : decode cc pc = .ok (.aaload, 1)) (kk : V X E nL (pc + 1) lv (.ref (E.2.1 (8 * (I 50 i.toNatClampNeg).toNatClampNeg)) :: st) I) : V X E nL pc lv (.int i :: .ref (E.2.1 50) :: st) I := by
  obtain ⟨hx, hb, hml, hown, hts, hK, -⟩ := hC
  intro H locs ls hP hS hl
  exact va_aldq (D := E.1) (C := "SwingWeights$State") (f := fun i => some (E.2.1 (8 * (I 50 i).toNatClampNeg))) hx hb hK hP 50 3 (mkW_get (by decide)) rfl hin hd (kk H locs ls hP hS hl)
theorem V_ast50 (hC : Cx X E cc nL own fr lo) {i : Int32} {s : Nat} (hs : s < 6) (hin : vp_in i 4) (hd : decode cc pc = .ok (.aastore, 1)) (kk : V X E nL (pc + 1) lv st (up2 I 50 i.toNatClampNeg (nI s))) : V X E nL pc lv (.ref (E.2.1 (8 * s)) :: .int i :: .ref (E.2.1 50) :: st) I := by
  obtain ⟨hx, hb, hml, hown, hts, hK, hSx, hE, hA, -⟩ := hC
  intro H locs ls hP hS hl
  have hce : cel E.2.1 E.2.2 (8 * s) (I (8 * s)) = .inr (3, [.int (I (8 * s) 0), .int (I (8 * s) 1), .int (I (8 * s) 2), .ref (E.2.1 (8 * s + 1)), .ref (E.2.1 (8 * s + 2)), .ref (E.2.1 (8 * s + 3)), .ref (E.2.1 (8 * s + 4))]) := by
    unfold cel
    rw [if_pos (by omega), if_pos (by omega)]
  refine va_astq (D := E.1) (r := (RX3, TX3, 7)) (f := fun i => some (E.2.1 (8 * (I 50 i).toNatClampNeg))) hx hb hK hP ((mkW_D hE).weaken (fun _ q _ h => hA _ h)) hS 50 3 (8 * s) 3 (mkW_get (by decide)) rfl (by rw [mkW_get (by omega), hce]) rfl hin hd (fun H1 locs1 hP1 _ hS1 => kk H1 locs1 ls ?_ hS1 hl)
  have e : (fun j => some (E.2.1 (8 * (upd (I 50) i.toNatClampNeg (nI s) j).toNatClampNeg))) = va_up (fun i => some (E.2.1 (8 * (I 50 i).toNatClampNeg))) i.toNatClampNeg (some (E.2.1 (8 * s))) := by
    funext j
    by_cases h : j = i.toNatClampNeg
    · subst h
      simp only [upd, va_up, if_true]
      rw [nI_clamp (by omega)]
    · simp [upd, va_up, h]
  rw [← e] at hP1
  have h2 := mkW_set (E := E) (I := I) (a := 50) (upd (I 50) i.toNatClampNeg (nI s)) (by decide)
  rw [show mkW E (up2 I 50 i.toNatClampNeg (nI s)) = _ from h2.symm]
  exact hP1
/-- the rows of winning -/
theorem V_ald58 (hC : Cx X E cc nL own fr lo) {i : Int32} (hin : vp_in i 11) (hd : decode cc pc = .ok (.aaload, 1)) (kk : V X E nL (pc + 1) lv (.ref (E.2.1 (60 + i.toNatClampNeg)) :: st) I) : V X E nL pc lv (.int i :: .ref (E.2.1 58) :: st) I := by
  obtain ⟨hx, hb, hml, hown, hts, hK, -⟩ := hC
  intro H locs ls hP hS hl
  have hlt : i.toNatClampNeg < 11 := Nat.not_le.mp fun q => hin (Or.inr q)
  have ha : (mkW E I)[58]? = some (E.2.1 58, .inl (E.2.2 4, 11, .inr (.inr (.inr (.inr (fun i => some (E.2.1 (60 + i)))))))) := mkW_get (by decide)
  exact W.aald (v := .ref (E.2.1 (60 + i.toNatClampNeg))) (ty := .array .int) hx hb (hP 58 _ ha) ((hK.2 4 _ rfl).1 11 (fun j => va_rf (some (E.2.1 (60 + j))))) rfl (fun q => by cases q) (by show ¬ (i < 0 ∨ (arrV _ _ _).slots.size ≤ _); rw [arrV_size]; exact hin) (by show (arrV _ _ _).slots[_]? = _; rw [arrV_read _ _ hlt]; rfl) rfl rfl hd (kk H locs ls hP hS hl)
/-- the static table -/
theorem V_gets (hC : Cx X E cc nL own fr lo) {index : Nat} (hlink : Cond.fieldLink own index "SwingWeights" "FACTORIALS" "[I" ∈ TB) (hd : decode cc pc = .ok (.getstatic index, 3)) (kk : V X E nL (pc + 3) lv (.ref (E.2.2 5) :: st) I) : V X E nL pc lv st I := by
  obtain ⟨hx, hb, hml, hown, hts, hK, hSx, hE, hA, hA2, -⟩ := hC
  intro H locs ls hP hS hl
  have hS2 : va_S (fun q => Aw E q ∨ (xs X).heap.size ≤ q) (xs X).heap H (locs.filter (fun _ => false)) := ⟨hS.1, fun q h1 h2 => hS.2.1 q h1 (fun z => h2 (Or.inl (hA2 q h1 z))), fun q hq => by simp at hq⟩
  have hZ2 : va_Z "SwingWeights" "FACTORIALS" "[I" (.ref (E.2.2 5)) (fun q => Aw E q ∨ (xs X).heap.size ≤ q) (xs X) (xs X).heap := by
    obtain ⟨cf, kf, fi, f, a, cell, h1, h2, h3, h4, h5, h6, h7, h8⟩ := hSx.1
    exact ⟨cf, kf, fi, f, a, cell, h1, h2, h3, h4, h5, h6, h7, fun z => z.elim h8 (fun q => absurd (Array.getElem?_eq_some_iff.mp h5).1 (Nat.not_lt.mpr q))⟩
  obtain ⟨cf, kf, fi, f, a, cell, h1, h2, h3, h4, h5, h6, h7, h8⟩ := hZ2
  exact W.gets hx hb hown (hts _ hlink) h1 h2 h3 h4 (by rw [hS2.2.1 a (Array.getElem?_eq_some_iff.mp h5).1 h8]; exact h5) (fun e => by rw [e] at h6; cases h6) h7 rfl hd (kk H locs ls hP hS hl)
theorem V_tld (hC : Cx X E cc nL own fr lo) {i : Int32} (hin : vp_in i 11) (hd : decode cc pc = .ok (.iaload, 1)) (kk : V X E nL (pc + 1) lv (.int (facI i.toNatClampNeg) :: st) I) : V X E nL pc lv (.int i :: .ref (E.2.2 5) :: st) I := by
  obtain ⟨hx, hb, hml, hown, hts, hK, hSx, hE, hA, hA2, -⟩ := hC
  intro H locs ls hP hS hl
  obtain ⟨cell, h1, h2, h3, h4, h5, h6, h7⟩ := hSx.2.1
  have hlt : i.toNatClampNeg < 11 := Nat.not_le.mp fun q => hin (Or.inr q)
  have hh : H[E.2.2 5]? = some cell := by rw [hS.2.1 _ (Array.getElem?_eq_some_iff.mp h1).1 (fun z => h7 (hA2 _ (Array.getElem?_eq_some_iff.mp h1).1 z))]; exact h1
  exact W.iald (v := .int (facI i.toNatClampNeg)) hx hb hh h2 h3 (by intro q; rcases q with q | q; exact hin (Or.inl q); omega) (h6 _ hlt) rfl rfl hd (kk H locs ls hP hS hl)
theorem V_tlen (hC : Cx X E cc nL own fr lo) (hd : decode cc pc = .ok (.arraylength, 1)) (kk : V X E nL (pc + 1) lv (.int 11 :: st) I) : V X E nL pc lv (.ref (E.2.2 5) :: st) I := by
  obtain ⟨hx, hb, hml, hown, hts, hK, hSx, hE, hA, hA2, -⟩ := hC
  intro H locs ls hP hS hl
  obtain ⟨cell, h1, h2, h3, h4, h5, h6, h7⟩ := hSx.2.1
  have hh : H[E.2.2 5]? = some cell := by rw [hS.2.1 _ (Array.getElem?_eq_some_iff.mp h1).1 (fun z => h7 (hA2 _ (Array.getElem?_eq_some_iff.mp h1).1 z))]; exact h1
  exact W.alen (n := Int32.ofNat 11) hx hb hh h2 h5 rfl rfl hd (kk H locs ls hP hS hl)
/-! the JDK's -/
def arrcpy (I : Mem) (a b : Nat) (sp dp n : Int32) : Mem := upr I b (va_cpy (I a) (I b) sp.toNatClampNeg dp.toNatClampNeg n.toNatClampNeg)
theorem V_copy (hC : Cx X E cc nL own fr lo) {index a b n0 n1 : Nat} (ha : IA a n0) (hb1 : IA b n1) {sp dp n : Int32} (hl1 : Cond.methodLink own index arraycopyName ∈ TB) (hl2 : Cond.native arraycopyName ∈ lw_tbl) (hl3 : Cond.static arraycopyName ∈ TB) (hl4 : Cond.initialized "java/lang/System" ∈ TB) (hq : (Cond.native arraycopyName).before (xa X) (xs X) = true)
    (h1 : ¬ sp < 0) (h2 : ¬ dp < 0) (h3 : ¬ n < 0) (h4 : sp.toNatClampNeg + n.toNatClampNeg ≤ n0) (h5 : dp.toNatClampNeg + n.toNatClampNeg ≤ n1) (hfr : 1 ≤ fr) (hlo : (st.map fun v => v.category).sum + (nativeFrameWords "java/lang/System" "arraycopy" 5 + 11) ≤ lo) (hd : decode cc pc = .ok (.invokestatic index, 3)) (kk : V X E nL (pc + 3) lv st (arrcpy I a b sp dp n)) : V X E nL pc lv (.int n :: .int dp :: .ref (E.2.1 b) :: .int sp :: .ref (E.2.1 a) :: st) I := by
  obtain ⟨hx, hb, hml, hown, hts, hK, hSx, hE, hA, hA2, g1, g2, g3, g4⟩ := hC
  intro H locs ls hP hS hl
  refine va_copyi (D := E.1) (c0 := E.2.2 0) (c1 := E.2.2 0) (ty := .int) hx hb (hml.trans hl.1.symm) hown (hts _ hl1) hq (hts _ hl3) (hts _ hl4) hK hP ((mkW_D hE).weaken (fun _ q _ h => hA _ h)) hS a b 0 0 (by rw [mkW_get ha.1, ha.2]) (by rw [mkW_get hb1.1, hb1.2]) rfl rfl rfl h1 h2 h3 h4 h5 (fun _ _ => rfl) (Nat.le_trans hfr g1) (Nat.le_trans hlo g2) hd (fun H1 locs1 hP1 _ hS1 => kk H1 locs1 ls ?_ hS1 hl)
  rw [← hb1.2 E.2.1 E.2.2, mkW_set _ hb1.1] at hP1
  exact hP1
theorem V_max (hC : Cx X E cc nL own fr lo) {index : Nat} {x y : Int32} (hl1 : Cond.methodLink own index Lib.Math.max.name ∈ TB) (hl2 : Cond.static Lib.Math.max.name ∈ TB) (hl3 : Cond.initialized "java/lang/Math" ∈ TB) (hl4 : Cond.code Lib.Math.max.name Lib.Math.max.code 2 (some .int) ∈ TB) (hfr : 1 ≤ fr) (hlo : (st.map fun v => v.category).sum + 13 ≤ lo) (hd : decode cc pc = .ok (.invokestatic index, 3)) (kk : V X E nL (pc + 3) lv (.int (if x < y then y else x) :: st) I) : V X E nL pc lv (.int y :: .int x :: st) I := by
  obtain ⟨hx, hb, hml, hown, hts, hK, hSx, hE, hA, hA2, g1, g2, g3, g4⟩ := hC
  intro H locs ls hP hS hl
  exact va_mmax hx hb (hml.trans hl.1.symm) hown (hts _ hl1) (hts _ hl2) (hts _ hl3) (hts _ hl4) (Nat.le_trans hfr g1) (Nat.le_trans hlo g2) g3 g4 hd (kk H locs ls hP hS hl)
theorem V_abs (hC : Cx X E cc nL own fr lo) {index : Nat} {x : Int32} (hl1 : Cond.methodLink own index Lib.Math.abs.name ∈ TB) (hl2 : Cond.static Lib.Math.abs.name ∈ TB) (hl3 : Cond.initialized "java/lang/Math" ∈ TB) (hl4 : Cond.code Lib.Math.abs.name Lib.Math.abs.code 1 (some .int) ∈ TB) (hfr : 1 ≤ fr) (hlo : (st.map fun v => v.category).sum + 13 ≤ lo) (hd : decode cc pc = .ok (.invokestatic index, 3)) (kk : V X E nL (pc + 3) lv (.int (if 0 ≤ x then x else 0 - x) :: st) I) : V X E nL pc lv (.int x :: st) I := by
  obtain ⟨hx, hb, hml, hown, hts, hK, hSx, hE, hA, hA2, g1, g2, g3, g4⟩ := hC
  intro H locs ls hP hS hl
  exact va_mabs hx hb (hml.trans hl.1.symm) hown (hts _ hl1) (hts _ hl2) (hts _ hl3) (hts _ hl4) (Nat.le_trans hfr g1) (Nat.le_trans hlo g2) g3 g4 hd (kk H locs ls hP hS hl)
/-! calls -/
theorem V_run (hC : Cx X E cc nL own fr lo) {v : Option Value} {I' : Mem} {a : Array Value} (hr : ∀ (H : Heap) (locs : List Loc) (ls : Array Slot), va_P E.1 vwCl (mkW E I) H → va_S (xA X) (xs X).heap H locs → lv_has ls nL lv → va_Run (xp X) (xl X) (xe X) (xR X) (xs X) (xm X) (xa X) (xb X) (xM X) (xc X) H locs (xk X) (xn X) 0 0 (F0 (xm X) pc ls st) rest (QcOf E v I' a) (Aw E))
    (kk : V X E nL (pc + 3) lv (v.toList ++ rest) I') : V X E nL pc lv st I := by
  obtain ⟨hx, hb, hml, hown, hts, hK, hSx, hE, hA, hA2, -⟩ := hC
  intro H locs ls hP hS hl T hT X9
  obtain ⟨v', st₀, t, T', L, h0, X', hL, e1, e2, ⟨hv, hW, hF⟩, stp⟩ := hr H locs ls hP hS hl T hT X9
  cases hv
  obtain ⟨t2, a1, b1⟩ := kk T'.heap (locs ++ L) ls (by rw [e1]; exact hW.1) ⟨Nat.le_trans hS.1 (by rw [e1, ← h0]; exact hF.1), fun q h1 h2 => by
      rw [e1, hF.2 q (by rw [h0]; exact Nat.lt_of_lt_of_le h1 hS.1) (fun z => h2 (hA q z)), h0]
      exact hS.2.1 q h1 h2, fun q hq => by
      rcases List.mem_append.mp hq with h | h
      · exact hS.2.2 q h
      · exact hA _ (hL q h)⟩ hl T' rfl X'
  exact ⟨t2, stp t2 a1, b1⟩
theorem Wd_blind {As : List Value} : FrameBlind (va_Pc As (Wd E I)) := fun a U g mk q => ⟨q.1, q.2.1, va_K.moved (u := U) (U := U.calling g mk a) (Vm.Alike.refl U.vm) q.2.2.1, q.2.2.2.same rfl rfl⟩
theorem Wd_at (hC : Cx X E cc nL own fr lo) {H : Heap} {locs : List Loc} (hP : va_P E.1 vwCl (mkW E I) H) (hS : va_S (xA X) (xs X).heap H locs) : ∀ U : State, U.heap = H → (xs X).WarmedH U.vm → Wd E I U := by
  obtain ⟨hx, hb, hml, hown, hts, hK, hSx, hE, hA, hA2, -⟩ := hC
  intro U hU hW
  exact ⟨by rw [hU]; exact hP, va_K.moved hW.alike hK, hSx.warm hW (fun a h1 h2 => by rw [hU]; exact hS.2.1 a h1 (fun z => h2 (hA2 a h1 z)))⟩
/-- the links of an instance call, of a static one, of a static one to a nest mate -/
def LkV (own : String) (index : Nat) (C : String) (y : MethodName) (cc : ByteArray) (ml : Nat) (ret : Option FieldType) (n : Nat) : Prop := (Cond.methodLink own index y ∈ TB ∧ Cond.instanceMethod y ∈ TB ∧ Cond.selects C y y ∈ TB ∧ Cond.initialized C ∈ TB ∧ Cond.code y cc ml ret ∈ TB) ∧ y.cls = C ∧ y.cls ≠ "java/lang/invoke/MethodHandle" ∧ y.cls ≠ "java/lang/invoke/VarHandle" ∧ (parseMethodDescriptor y.desc).map (fun d => d.parameters.length) = some n
def LkS (own : String) (index : Nat) (y : MethodName) (cc : ByteArray) (ml : Nat) (ret : Option FieldType) (n : Nat) : Prop := (Cond.methodLink own index y ∈ TB ∧ Cond.static y ∈ TB ∧ Cond.initialized y.cls ∈ TB ∧ Cond.code y cc ml ret ∈ TB) ∧ y.cls ≠ "java/lang/invoke/MethodHandle" ∧ y.cls ≠ "java/lang/invoke/VarHandle" ∧ (parseMethodDescriptor y.desc).map (fun d => d.parameters.length) = some n
def LkN (own : String) (index : Nat) (host : String) (y : MethodName) (cc : ByteArray) (ml : Nat) (ret : Option FieldType) (n : Nat) : Prop := (Cond.methodLinkNest own index y host ∈ nestWs ∧ Cond.static y ∈ TB ∧ Cond.initialized y.cls ∈ TB ∧ Cond.code y cc ml ret ∈ TB) ∧ y.cls ≠ "java/lang/invoke/MethodHandle" ∧ y.cls ≠ "java/lang/invoke/VarHandle" ∧ (parseMethodDescriptor y.desc).map (fun d => d.parameters.length) = some n
theorem gTB_code {y : MethodName} {bytes : ByteArray} {ml : Nat} {ret : Option FieldType} (h : Cond.code y bytes ml ret ∈ TB) : GoodIn TB (.code y bytes ml ret :: TB) := gTB (fun w hw => (List.mem_cons.mp hw).elim (fun e => e ▸ h) id)
set_option maxHeartbeats 1000000 in
theorem V_callV (hC : Cx X E cc nL own fr lo) {index n id ci ml fr' lo' : Nat} {C : String} {T : u_T} {N : Nat} {y : MethodName} {bytes : ByteArray} {ret : Option FieldType} {As fs : List Value} {v : Option Value} {I' : Mem} (hk : LkV own index C y bytes ml ret n) (hid : id < 82) (hcel : cel E.2.1 E.2.2 id (I id) = .inr (ci, fs)) (hc : vwCl[ci]? = some (C, T, N)) (hct : Ct E y bytes ml ret fr' lo' (.ref (E.2.1 id) :: As) I v I') (hn : As.length = n) (hst : st = As.reverse ++ .ref (E.2.1 id) :: rest) (hw : (rest.map fun v => v.category).sum ≤ 8) (hR : fr' + 1 ≤ fr ∧ 8 + (ml + 11) + lo' ≤ lo) (hd : decode cc pc = .ok (.invokevirtual index, 3)) (kk : V X E nL (pc + 3) lv (v.toList ++ rest) I') : V X E nL pc lv st I := by
  have hC0 := hC
  obtain ⟨hx, hb, hml, hown, hts, hK, hSx, hE, hA, hA2, g1, g2, g3, g4⟩ := hC
  refine V_run hC0 (a := (Value.ref (E.2.1 id) :: As).toArray) (fun H locs ls hP hS hl => ?_) kk
  obtain ⟨⟨k1, k2, k3, k4, k5⟩, k6⟩ := hk
  refine va_runV (As := As) (rest := rest) (C := C) ⟨hx, hb, hml, hown, hts⟩ (hct (xl X) hE) (cwV n hts (gTB (fun w hw => ?_)) rfl rfl rfl k6 ⟨Nat.le_trans hR.1 g1, Nat.le_trans hR.2 g2⟩) ⟨Wd_blind, va_recv hK hP (ci := ci) (q0 := id) hc (by rw [mkW_get hid, hcel]), fun U hU hW => ⟨rfl, Wd_at hC0 hP hS U hU hW⟩⟩ rfl hn hl.1 hst (lv_room hw) hd ⟨g3, g4⟩
  simp only [wsV, List.cons_append, List.nil_append, List.mem_cons] at hw
  rcases hw with rfl | rfl | rfl | rfl | rfl | hw
  · exact k1
  · exact k2
  · exact k3
  · exact k4
  · exact k5
  · exact hw
set_option maxHeartbeats 1000000 in
theorem V_callS (hC : Cx X E cc nL own fr lo) {index n ml fr' lo' : Nat} {y : MethodName} {bytes : ByteArray} {ret : Option FieldType} {As : List Value} {v : Option Value} {I' : Mem} (hk : LkS own index y bytes ml ret n) (hct : Ct E y bytes ml ret fr' lo' As I v I') (hn : As.length = n) (hst : st = As.reverse ++ rest) (hw : (rest.map fun v => v.category).sum ≤ 8) (hR : fr' + 1 ≤ fr ∧ 8 + (ml + 11) + lo' ≤ lo) (hd : decode cc pc = .ok (.invokestatic index, 3)) (kk : V X E nL (pc + 3) lv (v.toList ++ rest) I') : V X E nL pc lv st I := by
  have hC0 := hC
  obtain ⟨hx, hb, hml, hown, hts, hK, hSx, hE, hA, hA2, g1, g2, g3, g4⟩ := hC
  refine V_run hC0 (a := As.toArray) (fun H locs ls hP hS hl => ?_) kk
  obtain ⟨⟨k1, k2, k3, k4⟩, k6⟩ := hk
  refine va_runS (As := As) (rest := rest) ⟨hx, hb, hml, hown, hts⟩ (hct (xl X) hE) (va_cwS n hts (gTB (fun w hw => ?_)) rfl rfl rfl k6 ⟨Nat.le_trans hR.1 g1, Nat.le_trans hR.2 g2⟩) ⟨Wd_blind, fun U hU hW => ⟨rfl, Wd_at hC0 hP hS U hU hW⟩⟩ rfl hn hl.1 hst (lv_room hw) hd ⟨g3, g4⟩
  simp only [va_wsS, List.cons_append, List.nil_append, List.mem_cons] at hw
  rcases hw with rfl | rfl | rfl | rfl | hw
  · exact k1
  · exact k2
  · exact k3
  · exact k4
  · exact hw
set_option maxHeartbeats 1000000 in
theorem V_callN (hC : Cx X E cc nL own fr lo) {index n ml fr' lo' : Nat} {host : String} {y : MethodName} {bytes : ByteArray} {ret : Option FieldType} {As : List Value} {v : Option Value} {I' : Mem} (hk : LkN own index host y bytes ml ret n) (hct : Ct E y bytes ml ret fr' lo' As I v I') (hn : As.length = n) (hst : st = As.reverse ++ rest) (hw : (rest.map fun v => v.category).sum ≤ 8) (hR : fr' + 1 ≤ fr ∧ 8 + (ml + 11) + lo' ≤ lo) (hd : decode cc pc = .ok (.invokestatic index, 3)) (kk : V X E nL (pc + 3) lv (v.toList ++ rest) I') : V X E nL pc lv st I := by
  have hC0 := hC
  obtain ⟨hx, hb, hml, hown, hts, hK, hSx, hE, hA, hA2, g1, g2, g3, g4⟩ := hC
  refine V_run hC0 (a := As.toArray) (fun H locs ls hP hS hl => ?_) kk
  obtain ⟨⟨k1, k2, k3, k4⟩, k6⟩ := hk
  exact va_runSN (As := As) (rest := rest) (host := host) ⟨hx, hb, hml, hown, hts⟩ (hct (xl X) hE) ⟨va_cnB n hts (gTB_code k4) rfl rfl rfl (hSx.2.2 _ k1) (hts _ k3) k6 ⟨Nat.le_trans hR.1 g1, Nat.le_trans hR.2 g2⟩, hts _ k2, trivial⟩ ⟨Wd_blind, fun U hU hW => ⟨rfl, Wd_at hC0 hP hS U hU hW⟩⟩ rfl hn hl.1 hst (lv_room hw) hd ⟨g3, g4⟩
end RV
end
section
/-! cells by kind; field rows, a row a field reference; links of calls -/
theorem cel_State {s : Nat} (hs : s < 6) {ad cc : Nat → Nat} {f : Nat → Int32} : cel ad cc (8 * s) f = .inr (3, [.int (f 0), .int (f 1), .int (f 2), .ref (ad (8 * s + 1)), .ref (ad (8 * s + 2)), .ref (ad (8 * s + 3)), .ref (ad (8 * s + 4))]) := by
  unfold cel
  rw [if_pos (by omega), if_pos (by omega)]
theorem cel_Ballots {s : Nat} (hs : s < 6) {ad cc : Nat → Nat} {f : Nat → Int32} : cel ad cc (8 * s + 4) f = .inr (0, [.int (f 0), .int (f 1), .ref (ad (8 * s + 5)), .ref (ad (8 * s + 6)), .ref (ad (8 * s + 7))]) := by
  unfold cel
  rw [if_pos (by omega), if_neg (by omega), if_pos (by omega)]
theorem ia_st {s j : Nat} (hs : s < 6) (h0 : 0 < j) (h4 : j < 4) : IA (8 * s + j) 10 := by
  refine ⟨by omega, fun ad cc f => ?_⟩
  unfold cel
  rw [if_pos (by omega), if_neg (by omega), if_neg (by omega), if_pos (by omega)]
theorem ia_ba {s j : Nat} (hs : s < 6) (h0 : 4 < j) (h4 : j < 8) : IA (8 * s + j) 8 := by
  refine ⟨by omega, fun ad cc f => ?_⟩
  unfold cel
  rw [if_pos (by omega), if_neg (by omega), if_neg (by omega), if_neg (by omega)]
theorem ia_win {i : Nat} (hi : i < 11) : IA (60 + i) 501 := by
  refine ⟨by omega, fun ad cc f => ?_⟩
  unfold cel
  rw [if_neg (by omega), if_neg (by omega), if_pos (by omega)]
theorem ia_winI {i : Int32} (h : vp_in i 11) : IA (60 + i.toNatClampNeg) 501 := ia_win (Nat.not_le.mp fun q => h (Or.inr q))
theorem ia_54 : IA 54 10 := ⟨by decide, fun _ _ _ => rfl⟩
theorem ia_55 : IA 55 10 := ⟨by decide, fun _ _ _ => rfl⟩
theorem ia_56 : IA 56 1024 := ⟨by decide, fun _ _ _ => rfl⟩
theorem ia_57 : IA 57 1024 := ⟨by decide, fun _ _ _ => rfl⟩
theorem ia_59 : IA 59 252 := ⟨by decide, fun _ _ _ => rfl⟩
theorem ia_72 : IA 72 69 := ⟨by decide, fun _ _ _ => rfl⟩
theorem ia_73 : IA 73 276 := ⟨by decide, fun _ _ _ => rfl⟩
theorem ia_74 : IA 74 69 := ⟨by decide, fun _ _ _ => rfl⟩
theorem ia_76 : IA 76 10 := ⟨by decide, fun _ _ _ => rfl⟩
theorem ia_77 : IA 77 10 := ⟨by decide, fun _ _ _ => rfl⟩
theorem ia_78 : IA 78 10 := ⟨by decide, fun _ _ _ => rfl⟩
theorem ia_80 : IA 80 10 := ⟨by decide, fun _ _ _ => rfl⟩
theorem ia_81 : IA 81 1024 := ⟨by decide, fun _ _ _ => rfl⟩
theorem ca_52 : CA 52 60 := ⟨by decide, fun _ _ _ => rfl⟩
theorem ca_75 : CA 75 60 := ⟨by decide, fun _ _ _ => rfl⟩
theorem za_79 : ZA 79 1024 := ⟨by decide, fun _ _ _ => rfl⟩
theorem inTB_X0 : ∀ w ∈ u_ws RX0 TX0 5, w ∈ TB := by
  intro w hw
  have h : (u_ws RX0 TX0 5).all (fun w => decide (w ∈ lw_tbl) && goodWord w) = true := by decide +kernel
  have h1 := List.all_eq_true.mp h w hw
  rw [Bool.and_eq_true, decide_eq_true_eq] at h1
  exact tb_of h1.1 h1.2
theorem inTB_X1 : ∀ w ∈ u_ws RX1 TX1 2, w ∈ TB := by
  intro w hw
  have h : (u_ws RX1 TX1 2).all (fun w => decide (w ∈ lw_tbl) && goodWord w) = true := by decide +kernel
  have h1 := List.all_eq_true.mp h w hw
  rw [Bool.and_eq_true, decide_eq_true_eq] at h1
  exact tb_of h1.1 h1.2
theorem inTB_X2 : ∀ w ∈ u_ws RX2 TX2 13, w ∈ TB := by
  intro w hw
  have h : (u_ws RX2 TX2 13).all (fun w => decide (w ∈ lw_tbl) && goodWord w) = true := by decide +kernel
  have h1 := List.all_eq_true.mp h w hw
  rw [Bool.and_eq_true, decide_eq_true_eq] at h1
  exact tb_of h1.1 h1.2
theorem inTB_X3 : ∀ w ∈ u_ws RX3 TX3 7, w ∈ TB := by
  intro w hw
  have h : (u_ws RX3 TX3 7).all (fun w => decide (w ∈ lw_tbl) && goodWord w) = true := by decide +kernel
  have h1 := List.all_eq_true.mp h w hw
  rw [Bool.and_eq_true, decide_eq_true_eq] at h1
  exact tb_of h1.1 h1.2
theorem inTB_X4 : ∀ w ∈ u_ws RX4 TX4 2, w ∈ TB := by
  intro w hw
  have h : (u_ws RX4 TX4 2).all (fun w => decide (w ∈ lw_tbl) && goodWord w) = true := by decide +kernel
  have h1 := List.all_eq_true.mp h w hw
  rw [Bool.and_eq_true, decide_eq_true_eq] at h1
  exact tb_of h1.1 h1.2
theorem inTB_X5 : ∀ w ∈ u_ws RX5 TX5 7, w ∈ TB := by
  intro w hw
  have h : (u_ws RX5 TX5 7).all (fun w => decide (w ∈ lw_tbl) && goodWord w) = true := by decide +kernel
  have h1 := List.all_eq_true.mp h w hw
  rw [Bool.and_eq_true, decide_eq_true_eq] at h1
  exact tb_of h1.1 h1.2
theorem inTB_X6 : ∀ w ∈ u_ws RX6 TX6 18, w ∈ TB := by
  intro w hw
  have h : (u_ws RX6 TX6 18).all (fun w => decide (w ∈ lw_tbl) && goodWord w) = true := by decide +kernel
  have h1 := List.all_eq_true.mp h w hw
  rw [Bool.and_eq_true, decide_eq_true_eq] at h1
  exact tb_of h1.1 h1.2
theorem gf_X0_21 {X : XT} {E : EN} {cc : ByteArray} {nL fr lo pc : Nat} {lv : List (Nat × Value)} {st : List Value} {I : Mem} {s : Nat} (hs : s < 6) (hC : Cx X E cc nL RX0 fr lo) (hd : decode cc pc = .ok (.getfield 21, 3)) (kk : V X E nL (pc + 3) lv (.int (I (8 * s + 4) 0) :: st) I) : V X E nL pc lv (.ref (E.2.1 (8 * s + 4)) :: st) I :=
  V_get hC (C := RX0) (T := TX0) (N := 5) (k := 0) (by omega) (cel_Ballots hs) rfl inTB_X0 (by decide) (tb_at 32 (by decide +kernel) (by decide +kernel)) rfl rfl hd kk
theorem pf_X0_21 {X : XT} {E : EN} {cc : ByteArray} {nL fr lo pc : Nat} {lv : List (Nat × Value)} {st : List Value} {I : Mem} {x : Int32} {s : Nat} (hs : s < 6) (hC : Cx X E cc nL RX0 fr lo) (hd : decode cc pc = .ok (.putfield 21, 3)) (kk : V X E nL (pc + 3) lv st (up2 I (8 * s + 4) 0 x)) : V X E nL pc lv (.int x :: .ref (E.2.1 (8 * s + 4)) :: st) I :=
  V_put hC (C := RX0) (T := TX0) (N := 5) (k := 0) tyX0 (ty := .int) (by omega) (cel_Ballots hs) ((cel_Ballots hs).trans (by rfl)) rfl inTB_X0 tyX0_ok nmX0 (by decide) (tb_at 32 (by decide +kernel) (by decide +kernel)) rfl rfl (by decide +kernel) rfl rfl (by simp) hd kk
theorem gf_X5_213 {X : XT} {E : EN} {cc : ByteArray} {nL fr lo pc : Nat} {lv : List (Nat × Value)} {st : List Value} {I : Mem} {s : Nat} (hs : s < 6) (hC : Cx X E cc nL RX5 fr lo) (hd : decode cc pc = .ok (.getfield 213, 3)) (kk : V X E nL (pc + 3) lv (.int (I (8 * s + 4) 0) :: st) I) : V X E nL pc lv (.ref (E.2.1 (8 * s + 4)) :: st) I :=
  V_getN hC (C := RX0) (T := TX0) (N := 5) (k := 0) (host := "SwingWeights") (by omega) (cel_Ballots hs) rfl inTB_X0 (by decide) (List.mem_of_getElem? (i := 0) (by decide +kernel)) rfl rfl hd kk
theorem pf_X5_213 {X : XT} {E : EN} {cc : ByteArray} {nL fr lo pc : Nat} {lv : List (Nat × Value)} {st : List Value} {I : Mem} {x : Int32} {s : Nat} (hs : s < 6) (hC : Cx X E cc nL RX5 fr lo) (hd : decode cc pc = .ok (.putfield 213, 3)) (kk : V X E nL (pc + 3) lv st (up2 I (8 * s + 4) 0 x)) : V X E nL pc lv (.int x :: .ref (E.2.1 (8 * s + 4)) :: st) I :=
  V_putN hC (C := RX0) (T := TX0) (N := 5) (k := 0) (host := "SwingWeights") tyX0 (ty := .int) (by omega) (cel_Ballots hs) ((cel_Ballots hs).trans (by rfl)) rfl inTB_X0 tyX0_ok nmX0 (by decide) (List.mem_of_getElem? (i := 0) (by decide +kernel)) rfl rfl (by decide +kernel) rfl rfl (by simp) hd kk
theorem gf_X0_25 {X : XT} {E : EN} {cc : ByteArray} {nL fr lo pc : Nat} {lv : List (Nat × Value)} {st : List Value} {I : Mem} {s : Nat} (hs : s < 6) (hC : Cx X E cc nL RX0 fr lo) (hd : decode cc pc = .ok (.getfield 25, 3)) (kk : V X E nL (pc + 3) lv (.int (I (8 * s + 4) 1) :: st) I) : V X E nL pc lv (.ref (E.2.1 (8 * s + 4)) :: st) I :=
  V_get hC (C := RX0) (T := TX0) (N := 5) (k := 1) (by omega) (cel_Ballots hs) rfl inTB_X0 (by decide) (tb_at 34 (by decide +kernel) (by decide +kernel)) rfl rfl hd kk
theorem pf_X0_25 {X : XT} {E : EN} {cc : ByteArray} {nL fr lo pc : Nat} {lv : List (Nat × Value)} {st : List Value} {I : Mem} {x : Int32} {s : Nat} (hs : s < 6) (hC : Cx X E cc nL RX0 fr lo) (hd : decode cc pc = .ok (.putfield 25, 3)) (kk : V X E nL (pc + 3) lv st (up2 I (8 * s + 4) 1 x)) : V X E nL pc lv (.int x :: .ref (E.2.1 (8 * s + 4)) :: st) I :=
  V_put hC (C := RX0) (T := TX0) (N := 5) (k := 1) tyX0 (ty := .int) (by omega) (cel_Ballots hs) ((cel_Ballots hs).trans (by rfl)) rfl inTB_X0 tyX0_ok nmX0 (by decide) (tb_at 34 (by decide +kernel) (by decide +kernel)) rfl rfl (by decide +kernel) rfl rfl (by simp) hd kk
theorem gf_X5_106 {X : XT} {E : EN} {cc : ByteArray} {nL fr lo pc : Nat} {lv : List (Nat × Value)} {st : List Value} {I : Mem} {s : Nat} (hs : s < 6) (hC : Cx X E cc nL RX5 fr lo) (hd : decode cc pc = .ok (.getfield 106, 3)) (kk : V X E nL (pc + 3) lv (.int (I (8 * s + 4) 1) :: st) I) : V X E nL pc lv (.ref (E.2.1 (8 * s + 4)) :: st) I :=
  V_getN hC (C := RX0) (T := TX0) (N := 5) (k := 1) (host := "SwingWeights") (by omega) (cel_Ballots hs) rfl inTB_X0 (by decide) (List.mem_of_getElem? (i := 1) (by decide +kernel)) rfl rfl hd kk
theorem pf_X5_106 {X : XT} {E : EN} {cc : ByteArray} {nL fr lo pc : Nat} {lv : List (Nat × Value)} {st : List Value} {I : Mem} {x : Int32} {s : Nat} (hs : s < 6) (hC : Cx X E cc nL RX5 fr lo) (hd : decode cc pc = .ok (.putfield 106, 3)) (kk : V X E nL (pc + 3) lv st (up2 I (8 * s + 4) 1 x)) : V X E nL pc lv (.int x :: .ref (E.2.1 (8 * s + 4)) :: st) I :=
  V_putN hC (C := RX0) (T := TX0) (N := 5) (k := 1) (host := "SwingWeights") tyX0 (ty := .int) (by omega) (cel_Ballots hs) ((cel_Ballots hs).trans (by rfl)) rfl inTB_X0 tyX0_ok nmX0 (by decide) (List.mem_of_getElem? (i := 1) (by decide +kernel)) rfl rfl (by decide +kernel) rfl rfl (by simp) hd kk
theorem gf_X0_9 {X : XT} {E : EN} {cc : ByteArray} {nL fr lo pc : Nat} {lv : List (Nat × Value)} {st : List Value} {I : Mem} {s : Nat} (hs : s < 6) (hC : Cx X E cc nL RX0 fr lo) (hd : decode cc pc = .ok (.getfield 9, 3)) (kk : V X E nL (pc + 3) lv (.ref (E.2.1 (8 * s + 5)) :: st) I) : V X E nL pc lv (.ref (E.2.1 (8 * s + 4)) :: st) I :=
  V_get hC (C := RX0) (T := TX0) (N := 5) (k := 2) (by omega) (cel_Ballots hs) rfl inTB_X0 (by decide) (tb_at 36 (by decide +kernel) (by decide +kernel)) rfl rfl hd kk
theorem gf_X5_216 {X : XT} {E : EN} {cc : ByteArray} {nL fr lo pc : Nat} {lv : List (Nat × Value)} {st : List Value} {I : Mem} {s : Nat} (hs : s < 6) (hC : Cx X E cc nL RX5 fr lo) (hd : decode cc pc = .ok (.getfield 216, 3)) (kk : V X E nL (pc + 3) lv (.ref (E.2.1 (8 * s + 5)) :: st) I) : V X E nL pc lv (.ref (E.2.1 (8 * s + 4)) :: st) I :=
  V_getN hC (C := RX0) (T := TX0) (N := 5) (k := 2) (host := "SwingWeights") (by omega) (cel_Ballots hs) rfl inTB_X0 (by decide) (List.mem_of_getElem? (i := 2) (by decide +kernel)) rfl rfl hd kk
theorem gf_X0_15 {X : XT} {E : EN} {cc : ByteArray} {nL fr lo pc : Nat} {lv : List (Nat × Value)} {st : List Value} {I : Mem} {s : Nat} (hs : s < 6) (hC : Cx X E cc nL RX0 fr lo) (hd : decode cc pc = .ok (.getfield 15, 3)) (kk : V X E nL (pc + 3) lv (.ref (E.2.1 (8 * s + 6)) :: st) I) : V X E nL pc lv (.ref (E.2.1 (8 * s + 4)) :: st) I :=
  V_get hC (C := RX0) (T := TX0) (N := 5) (k := 3) (by omega) (cel_Ballots hs) rfl inTB_X0 (by decide) (tb_at 38 (by decide +kernel) (by decide +kernel)) rfl rfl hd kk
theorem gf_X5_219 {X : XT} {E : EN} {cc : ByteArray} {nL fr lo pc : Nat} {lv : List (Nat × Value)} {st : List Value} {I : Mem} {s : Nat} (hs : s < 6) (hC : Cx X E cc nL RX5 fr lo) (hd : decode cc pc = .ok (.getfield 219, 3)) (kk : V X E nL (pc + 3) lv (.ref (E.2.1 (8 * s + 6)) :: st) I) : V X E nL pc lv (.ref (E.2.1 (8 * s + 4)) :: st) I :=
  V_getN hC (C := RX0) (T := TX0) (N := 5) (k := 3) (host := "SwingWeights") (by omega) (cel_Ballots hs) rfl inTB_X0 (by decide) (List.mem_of_getElem? (i := 3) (by decide +kernel)) rfl rfl hd kk
theorem gf_X0_18 {X : XT} {E : EN} {cc : ByteArray} {nL fr lo pc : Nat} {lv : List (Nat × Value)} {st : List Value} {I : Mem} {s : Nat} (hs : s < 6) (hC : Cx X E cc nL RX0 fr lo) (hd : decode cc pc = .ok (.getfield 18, 3)) (kk : V X E nL (pc + 3) lv (.ref (E.2.1 (8 * s + 7)) :: st) I) : V X E nL pc lv (.ref (E.2.1 (8 * s + 4)) :: st) I :=
  V_get hC (C := RX0) (T := TX0) (N := 5) (k := 4) (by omega) (cel_Ballots hs) rfl inTB_X0 (by decide) (tb_at 40 (by decide +kernel) (by decide +kernel)) rfl rfl hd kk
theorem gf_X5_222 {X : XT} {E : EN} {cc : ByteArray} {nL fr lo pc : Nat} {lv : List (Nat × Value)} {st : List Value} {I : Mem} {s : Nat} (hs : s < 6) (hC : Cx X E cc nL RX5 fr lo) (hd : decode cc pc = .ok (.getfield 222, 3)) (kk : V X E nL (pc + 3) lv (.ref (E.2.1 (8 * s + 7)) :: st) I) : V X E nL pc lv (.ref (E.2.1 (8 * s + 4)) :: st) I :=
  V_getN hC (C := RX0) (T := TX0) (N := 5) (k := 4) (host := "SwingWeights") (by omega) (cel_Ballots hs) rfl inTB_X0 (by decide) (List.mem_of_getElem? (i := 4) (by decide +kernel)) rfl rfl hd kk
theorem gf_X3_32 {X : XT} {E : EN} {cc : ByteArray} {nL fr lo pc : Nat} {lv : List (Nat × Value)} {st : List Value} {I : Mem} {s : Nat} (hs : s < 6) (hC : Cx X E cc nL RX3 fr lo) (hd : decode cc pc = .ok (.getfield 32, 3)) (kk : V X E nL (pc + 3) lv (.int (I (8 * s) 0) :: st) I) : V X E nL pc lv (.ref (E.2.1 (8 * s)) :: st) I :=
  V_get hC (C := RX3) (T := TX3) (N := 7) (k := 0) (by omega) (cel_State hs) rfl inTB_X3 (by decide) (tb_at 54 (by decide +kernel) (by decide +kernel)) rfl rfl hd kk
theorem pf_X3_32 {X : XT} {E : EN} {cc : ByteArray} {nL fr lo pc : Nat} {lv : List (Nat × Value)} {st : List Value} {I : Mem} {x : Int32} {s : Nat} (hs : s < 6) (hC : Cx X E cc nL RX3 fr lo) (hd : decode cc pc = .ok (.putfield 32, 3)) (kk : V X E nL (pc + 3) lv st (up2 I (8 * s) 0 x)) : V X E nL pc lv (.int x :: .ref (E.2.1 (8 * s)) :: st) I :=
  V_put hC (C := RX3) (T := TX3) (N := 7) (k := 0) tyX3 (ty := .int) (by omega) (cel_State hs) ((cel_State hs).trans (by rfl)) rfl inTB_X3 tyX3_ok nmX3 (by decide) (tb_at 54 (by decide +kernel) (by decide +kernel)) rfl rfl (by decide +kernel) rfl rfl (by simp) hd kk
theorem gf_X2_32 {X : XT} {E : EN} {cc : ByteArray} {nL fr lo pc : Nat} {lv : List (Nat × Value)} {st : List Value} {I : Mem} {s : Nat} (hs : s < 6) (hC : Cx X E cc nL RX2 fr lo) (hd : decode cc pc = .ok (.getfield 32, 3)) (kk : V X E nL (pc + 3) lv (.int (I (8 * s) 0) :: st) I) : V X E nL pc lv (.ref (E.2.1 (8 * s)) :: st) I :=
  V_getN hC (C := RX3) (T := TX3) (N := 7) (k := 0) (host := "SwingWeights") (by omega) (cel_State hs) rfl inTB_X3 (by decide) (List.mem_of_getElem? (i := 5) (by decide +kernel)) rfl rfl hd kk
theorem pf_X2_32 {X : XT} {E : EN} {cc : ByteArray} {nL fr lo pc : Nat} {lv : List (Nat × Value)} {st : List Value} {I : Mem} {x : Int32} {s : Nat} (hs : s < 6) (hC : Cx X E cc nL RX2 fr lo) (hd : decode cc pc = .ok (.putfield 32, 3)) (kk : V X E nL (pc + 3) lv st (up2 I (8 * s) 0 x)) : V X E nL pc lv (.int x :: .ref (E.2.1 (8 * s)) :: st) I :=
  V_putN hC (C := RX3) (T := TX3) (N := 7) (k := 0) (host := "SwingWeights") tyX3 (ty := .int) (by omega) (cel_State hs) ((cel_State hs).trans (by rfl)) rfl inTB_X3 tyX3_ok nmX3 (by decide) (List.mem_of_getElem? (i := 5) (by decide +kernel)) rfl rfl (by decide +kernel) rfl rfl (by simp) hd kk
theorem gf_X5_44 {X : XT} {E : EN} {cc : ByteArray} {nL fr lo pc : Nat} {lv : List (Nat × Value)} {st : List Value} {I : Mem} {s : Nat} (hs : s < 6) (hC : Cx X E cc nL RX5 fr lo) (hd : decode cc pc = .ok (.getfield 44, 3)) (kk : V X E nL (pc + 3) lv (.int (I (8 * s) 0) :: st) I) : V X E nL pc lv (.ref (E.2.1 (8 * s)) :: st) I :=
  V_getN hC (C := RX3) (T := TX3) (N := 7) (k := 0) (host := "SwingWeights") (by omega) (cel_State hs) rfl inTB_X3 (by decide) (List.mem_of_getElem? (i := 6) (by decide +kernel)) rfl rfl hd kk
theorem pf_X5_44 {X : XT} {E : EN} {cc : ByteArray} {nL fr lo pc : Nat} {lv : List (Nat × Value)} {st : List Value} {I : Mem} {x : Int32} {s : Nat} (hs : s < 6) (hC : Cx X E cc nL RX5 fr lo) (hd : decode cc pc = .ok (.putfield 44, 3)) (kk : V X E nL (pc + 3) lv st (up2 I (8 * s) 0 x)) : V X E nL pc lv (.int x :: .ref (E.2.1 (8 * s)) :: st) I :=
  V_putN hC (C := RX3) (T := TX3) (N := 7) (k := 0) (host := "SwingWeights") tyX3 (ty := .int) (by omega) (cel_State hs) ((cel_State hs).trans (by rfl)) rfl inTB_X3 tyX3_ok nmX3 (by decide) (List.mem_of_getElem? (i := 6) (by decide +kernel)) rfl rfl (by decide +kernel) rfl rfl (by simp) hd kk
theorem gf_X3_9 {X : XT} {E : EN} {cc : ByteArray} {nL fr lo pc : Nat} {lv : List (Nat × Value)} {st : List Value} {I : Mem} {s : Nat} (hs : s < 6) (hC : Cx X E cc nL RX3 fr lo) (hd : decode cc pc = .ok (.getfield 9, 3)) (kk : V X E nL (pc + 3) lv (.int (I (8 * s) 1) :: st) I) : V X E nL pc lv (.ref (E.2.1 (8 * s)) :: st) I :=
  V_get hC (C := RX3) (T := TX3) (N := 7) (k := 1) (by omega) (cel_State hs) rfl inTB_X3 (by decide) (tb_at 57 (by decide +kernel) (by decide +kernel)) rfl rfl hd kk
theorem pf_X3_9 {X : XT} {E : EN} {cc : ByteArray} {nL fr lo pc : Nat} {lv : List (Nat × Value)} {st : List Value} {I : Mem} {x : Int32} {s : Nat} (hs : s < 6) (hC : Cx X E cc nL RX3 fr lo) (hd : decode cc pc = .ok (.putfield 9, 3)) (kk : V X E nL (pc + 3) lv st (up2 I (8 * s) 1 x)) : V X E nL pc lv (.int x :: .ref (E.2.1 (8 * s)) :: st) I :=
  V_put hC (C := RX3) (T := TX3) (N := 7) (k := 1) tyX3 (ty := .int) (by omega) (cel_State hs) ((cel_State hs).trans (by rfl)) rfl inTB_X3 tyX3_ok nmX3 (by decide) (tb_at 57 (by decide +kernel) (by decide +kernel)) rfl rfl (by decide +kernel) rfl rfl (by simp) hd kk
theorem gf_X2_39 {X : XT} {E : EN} {cc : ByteArray} {nL fr lo pc : Nat} {lv : List (Nat × Value)} {st : List Value} {I : Mem} {s : Nat} (hs : s < 6) (hC : Cx X E cc nL RX2 fr lo) (hd : decode cc pc = .ok (.getfield 39, 3)) (kk : V X E nL (pc + 3) lv (.int (I (8 * s) 1) :: st) I) : V X E nL pc lv (.ref (E.2.1 (8 * s)) :: st) I :=
  V_getN hC (C := RX3) (T := TX3) (N := 7) (k := 1) (host := "SwingWeights") (by omega) (cel_State hs) rfl inTB_X3 (by decide) (List.mem_of_getElem? (i := 7) (by decide +kernel)) rfl rfl hd kk
theorem pf_X2_39 {X : XT} {E : EN} {cc : ByteArray} {nL fr lo pc : Nat} {lv : List (Nat × Value)} {st : List Value} {I : Mem} {x : Int32} {s : Nat} (hs : s < 6) (hC : Cx X E cc nL RX2 fr lo) (hd : decode cc pc = .ok (.putfield 39, 3)) (kk : V X E nL (pc + 3) lv st (up2 I (8 * s) 1 x)) : V X E nL pc lv (.int x :: .ref (E.2.1 (8 * s)) :: st) I :=
  V_putN hC (C := RX3) (T := TX3) (N := 7) (k := 1) (host := "SwingWeights") tyX3 (ty := .int) (by omega) (cel_State hs) ((cel_State hs).trans (by rfl)) rfl inTB_X3 tyX3_ok nmX3 (by decide) (List.mem_of_getElem? (i := 7) (by decide +kernel)) rfl rfl (by decide +kernel) rfl rfl (by simp) hd kk
theorem gf_X5_80 {X : XT} {E : EN} {cc : ByteArray} {nL fr lo pc : Nat} {lv : List (Nat × Value)} {st : List Value} {I : Mem} {s : Nat} (hs : s < 6) (hC : Cx X E cc nL RX5 fr lo) (hd : decode cc pc = .ok (.getfield 80, 3)) (kk : V X E nL (pc + 3) lv (.int (I (8 * s) 1) :: st) I) : V X E nL pc lv (.ref (E.2.1 (8 * s)) :: st) I :=
  V_getN hC (C := RX3) (T := TX3) (N := 7) (k := 1) (host := "SwingWeights") (by omega) (cel_State hs) rfl inTB_X3 (by decide) (List.mem_of_getElem? (i := 8) (by decide +kernel)) rfl rfl hd kk
theorem pf_X5_80 {X : XT} {E : EN} {cc : ByteArray} {nL fr lo pc : Nat} {lv : List (Nat × Value)} {st : List Value} {I : Mem} {x : Int32} {s : Nat} (hs : s < 6) (hC : Cx X E cc nL RX5 fr lo) (hd : decode cc pc = .ok (.putfield 80, 3)) (kk : V X E nL (pc + 3) lv st (up2 I (8 * s) 1 x)) : V X E nL pc lv (.int x :: .ref (E.2.1 (8 * s)) :: st) I :=
  V_putN hC (C := RX3) (T := TX3) (N := 7) (k := 1) (host := "SwingWeights") tyX3 (ty := .int) (by omega) (cel_State hs) ((cel_State hs).trans (by rfl)) rfl inTB_X3 tyX3_ok nmX3 (by decide) (List.mem_of_getElem? (i := 8) (by decide +kernel)) rfl rfl (by decide +kernel) rfl rfl (by simp) hd kk
theorem gf_X3_35 {X : XT} {E : EN} {cc : ByteArray} {nL fr lo pc : Nat} {lv : List (Nat × Value)} {st : List Value} {I : Mem} {s : Nat} (hs : s < 6) (hC : Cx X E cc nL RX3 fr lo) (hd : decode cc pc = .ok (.getfield 35, 3)) (kk : V X E nL (pc + 3) lv (.int (I (8 * s) 2) :: st) I) : V X E nL pc lv (.ref (E.2.1 (8 * s)) :: st) I :=
  V_get hC (C := RX3) (T := TX3) (N := 7) (k := 2) (by omega) (cel_State hs) rfl inTB_X3 (by decide) (tb_at 60 (by decide +kernel) (by decide +kernel)) rfl rfl hd kk
theorem pf_X3_35 {X : XT} {E : EN} {cc : ByteArray} {nL fr lo pc : Nat} {lv : List (Nat × Value)} {st : List Value} {I : Mem} {x : Int32} {s : Nat} (hs : s < 6) (hC : Cx X E cc nL RX3 fr lo) (hd : decode cc pc = .ok (.putfield 35, 3)) (kk : V X E nL (pc + 3) lv st (up2 I (8 * s) 2 x)) : V X E nL pc lv (.int x :: .ref (E.2.1 (8 * s)) :: st) I :=
  V_put hC (C := RX3) (T := TX3) (N := 7) (k := 2) tyX3 (ty := .int) (by omega) (cel_State hs) ((cel_State hs).trans (by rfl)) rfl inTB_X3 tyX3_ok nmX3 (by decide) (tb_at 60 (by decide +kernel) (by decide +kernel)) rfl rfl (by decide +kernel) rfl rfl (by simp) hd kk
theorem gf_X2_43 {X : XT} {E : EN} {cc : ByteArray} {nL fr lo pc : Nat} {lv : List (Nat × Value)} {st : List Value} {I : Mem} {s : Nat} (hs : s < 6) (hC : Cx X E cc nL RX2 fr lo) (hd : decode cc pc = .ok (.getfield 43, 3)) (kk : V X E nL (pc + 3) lv (.int (I (8 * s) 2) :: st) I) : V X E nL pc lv (.ref (E.2.1 (8 * s)) :: st) I :=
  V_getN hC (C := RX3) (T := TX3) (N := 7) (k := 2) (host := "SwingWeights") (by omega) (cel_State hs) rfl inTB_X3 (by decide) (List.mem_of_getElem? (i := 9) (by decide +kernel)) rfl rfl hd kk
theorem pf_X2_43 {X : XT} {E : EN} {cc : ByteArray} {nL fr lo pc : Nat} {lv : List (Nat × Value)} {st : List Value} {I : Mem} {x : Int32} {s : Nat} (hs : s < 6) (hC : Cx X E cc nL RX2 fr lo) (hd : decode cc pc = .ok (.putfield 43, 3)) (kk : V X E nL (pc + 3) lv st (up2 I (8 * s) 2 x)) : V X E nL pc lv (.int x :: .ref (E.2.1 (8 * s)) :: st) I :=
  V_putN hC (C := RX3) (T := TX3) (N := 7) (k := 2) (host := "SwingWeights") tyX3 (ty := .int) (by omega) (cel_State hs) ((cel_State hs).trans (by rfl)) rfl inTB_X3 tyX3_ok nmX3 (by decide) (List.mem_of_getElem? (i := 9) (by decide +kernel)) rfl rfl (by decide +kernel) rfl rfl (by simp) hd kk
theorem gf_X5_66 {X : XT} {E : EN} {cc : ByteArray} {nL fr lo pc : Nat} {lv : List (Nat × Value)} {st : List Value} {I : Mem} {s : Nat} (hs : s < 6) (hC : Cx X E cc nL RX5 fr lo) (hd : decode cc pc = .ok (.getfield 66, 3)) (kk : V X E nL (pc + 3) lv (.int (I (8 * s) 2) :: st) I) : V X E nL pc lv (.ref (E.2.1 (8 * s)) :: st) I :=
  V_getN hC (C := RX3) (T := TX3) (N := 7) (k := 2) (host := "SwingWeights") (by omega) (cel_State hs) rfl inTB_X3 (by decide) (List.mem_of_getElem? (i := 10) (by decide +kernel)) rfl rfl hd kk
theorem pf_X5_66 {X : XT} {E : EN} {cc : ByteArray} {nL fr lo pc : Nat} {lv : List (Nat × Value)} {st : List Value} {I : Mem} {x : Int32} {s : Nat} (hs : s < 6) (hC : Cx X E cc nL RX5 fr lo) (hd : decode cc pc = .ok (.putfield 66, 3)) (kk : V X E nL (pc + 3) lv st (up2 I (8 * s) 2 x)) : V X E nL pc lv (.int x :: .ref (E.2.1 (8 * s)) :: st) I :=
  V_putN hC (C := RX3) (T := TX3) (N := 7) (k := 2) (host := "SwingWeights") tyX3 (ty := .int) (by omega) (cel_State hs) ((cel_State hs).trans (by rfl)) rfl inTB_X3 tyX3_ok nmX3 (by decide) (List.mem_of_getElem? (i := 10) (by decide +kernel)) rfl rfl (by decide +kernel) rfl rfl (by simp) hd kk
theorem gf_X3_15 {X : XT} {E : EN} {cc : ByteArray} {nL fr lo pc : Nat} {lv : List (Nat × Value)} {st : List Value} {I : Mem} {s : Nat} (hs : s < 6) (hC : Cx X E cc nL RX3 fr lo) (hd : decode cc pc = .ok (.getfield 15, 3)) (kk : V X E nL (pc + 3) lv (.ref (E.2.1 (8 * s + 1)) :: st) I) : V X E nL pc lv (.ref (E.2.1 (8 * s)) :: st) I :=
  V_get hC (C := RX3) (T := TX3) (N := 7) (k := 3) (by omega) (cel_State hs) rfl inTB_X3 (by decide) (tb_at 63 (by decide +kernel) (by decide +kernel)) rfl rfl hd kk
theorem gf_X5_62 {X : XT} {E : EN} {cc : ByteArray} {nL fr lo pc : Nat} {lv : List (Nat × Value)} {st : List Value} {I : Mem} {s : Nat} (hs : s < 6) (hC : Cx X E cc nL RX5 fr lo) (hd : decode cc pc = .ok (.getfield 62, 3)) (kk : V X E nL (pc + 3) lv (.ref (E.2.1 (8 * s + 1)) :: st) I) : V X E nL pc lv (.ref (E.2.1 (8 * s)) :: st) I :=
  V_getN hC (C := RX3) (T := TX3) (N := 7) (k := 3) (host := "SwingWeights") (by omega) (cel_State hs) rfl inTB_X3 (by decide) (List.mem_of_getElem? (i := 11) (by decide +kernel)) rfl rfl hd kk
theorem gf_X3_19 {X : XT} {E : EN} {cc : ByteArray} {nL fr lo pc : Nat} {lv : List (Nat × Value)} {st : List Value} {I : Mem} {s : Nat} (hs : s < 6) (hC : Cx X E cc nL RX3 fr lo) (hd : decode cc pc = .ok (.getfield 19, 3)) (kk : V X E nL (pc + 3) lv (.ref (E.2.1 (8 * s + 2)) :: st) I) : V X E nL pc lv (.ref (E.2.1 (8 * s)) :: st) I :=
  V_get hC (C := RX3) (T := TX3) (N := 7) (k := 4) (by omega) (cel_State hs) rfl inTB_X3 (by decide) (tb_at 65 (by decide +kernel) (by decide +kernel)) rfl rfl hd kk
theorem gf_X2_50 {X : XT} {E : EN} {cc : ByteArray} {nL fr lo pc : Nat} {lv : List (Nat × Value)} {st : List Value} {I : Mem} {s : Nat} (hs : s < 6) (hC : Cx X E cc nL RX2 fr lo) (hd : decode cc pc = .ok (.getfield 50, 3)) (kk : V X E nL (pc + 3) lv (.ref (E.2.1 (8 * s + 2)) :: st) I) : V X E nL pc lv (.ref (E.2.1 (8 * s)) :: st) I :=
  V_getN hC (C := RX3) (T := TX3) (N := 7) (k := 4) (host := "SwingWeights") (by omega) (cel_State hs) rfl inTB_X3 (by decide) (List.mem_of_getElem? (i := 12) (by decide +kernel)) rfl rfl hd kk
theorem gf_X5_83 {X : XT} {E : EN} {cc : ByteArray} {nL fr lo pc : Nat} {lv : List (Nat × Value)} {st : List Value} {I : Mem} {s : Nat} (hs : s < 6) (hC : Cx X E cc nL RX5 fr lo) (hd : decode cc pc = .ok (.getfield 83, 3)) (kk : V X E nL (pc + 3) lv (.ref (E.2.1 (8 * s + 2)) :: st) I) : V X E nL pc lv (.ref (E.2.1 (8 * s)) :: st) I :=
  V_getN hC (C := RX3) (T := TX3) (N := 7) (k := 4) (host := "SwingWeights") (by omega) (cel_State hs) rfl inTB_X3 (by decide) (List.mem_of_getElem? (i := 13) (by decide +kernel)) rfl rfl hd kk
theorem gf_X3_22 {X : XT} {E : EN} {cc : ByteArray} {nL fr lo pc : Nat} {lv : List (Nat × Value)} {st : List Value} {I : Mem} {s : Nat} (hs : s < 6) (hC : Cx X E cc nL RX3 fr lo) (hd : decode cc pc = .ok (.getfield 22, 3)) (kk : V X E nL (pc + 3) lv (.ref (E.2.1 (8 * s + 3)) :: st) I) : V X E nL pc lv (.ref (E.2.1 (8 * s)) :: st) I :=
  V_get hC (C := RX3) (T := TX3) (N := 7) (k := 5) (by omega) (cel_State hs) rfl inTB_X3 (by decide) (tb_at 68 (by decide +kernel) (by decide +kernel)) rfl rfl hd kk
theorem gf_X5_169 {X : XT} {E : EN} {cc : ByteArray} {nL fr lo pc : Nat} {lv : List (Nat × Value)} {st : List Value} {I : Mem} {s : Nat} (hs : s < 6) (hC : Cx X E cc nL RX5 fr lo) (hd : decode cc pc = .ok (.getfield 169, 3)) (kk : V X E nL (pc + 3) lv (.ref (E.2.1 (8 * s + 3)) :: st) I) : V X E nL pc lv (.ref (E.2.1 (8 * s)) :: st) I :=
  V_getN hC (C := RX3) (T := TX3) (N := 7) (k := 5) (host := "SwingWeights") (by omega) (cel_State hs) rfl inTB_X3 (by decide) (List.mem_of_getElem? (i := 14) (by decide +kernel)) rfl rfl hd kk
theorem gf_X3_28 {X : XT} {E : EN} {cc : ByteArray} {nL fr lo pc : Nat} {lv : List (Nat × Value)} {st : List Value} {I : Mem} {s : Nat} (hs : s < 6) (hC : Cx X E cc nL RX3 fr lo) (hd : decode cc pc = .ok (.getfield 28, 3)) (kk : V X E nL (pc + 3) lv (.ref (E.2.1 (8 * s + 4)) :: st) I) : V X E nL pc lv (.ref (E.2.1 (8 * s)) :: st) I :=
  V_get hC (C := RX3) (T := TX3) (N := 7) (k := 6) (by omega) (cel_State hs) rfl inTB_X3 (by decide) (tb_at 70 (by decide +kernel) (by decide +kernel)) rfl rfl hd kk
theorem gf_X5_102 {X : XT} {E : EN} {cc : ByteArray} {nL fr lo pc : Nat} {lv : List (Nat × Value)} {st : List Value} {I : Mem} {s : Nat} (hs : s < 6) (hC : Cx X E cc nL RX5 fr lo) (hd : decode cc pc = .ok (.getfield 102, 3)) (kk : V X E nL (pc + 3) lv (.ref (E.2.1 (8 * s + 4)) :: st) I) : V X E nL pc lv (.ref (E.2.1 (8 * s)) :: st) I :=
  V_getN hC (C := RX3) (T := TX3) (N := 7) (k := 6) (host := "SwingWeights") (by omega) (cel_State hs) rfl inTB_X3 (by decide) (List.mem_of_getElem? (i := 15) (by decide +kernel)) rfl rfl hd kk
theorem gf_X1_11 {X : XT} {E : EN} {cc : ByteArray} {nL fr lo pc : Nat} {lv : List (Nat × Value)} {st : List Value} {I : Mem} (hC : Cx X E cc nL RX1 fr lo) (hd : decode cc pc = .ok (.getfield 11, 3)) (kk : V X E nL (pc + 3) lv (.ref (E.2.1 (50)) :: st) I) : V X E nL pc lv (.ref (E.2.1 (49)) :: st) I :=
  V_get hC (C := RX1) (T := TX1) (N := 2) (k := 0) (by decide) rfl rfl inTB_X1 (by decide) (tb_at 96 (by decide +kernel) (by decide +kernel)) rfl rfl hd kk
theorem gf_X1_18 {X : XT} {E : EN} {cc : ByteArray} {nL fr lo pc : Nat} {lv : List (Nat × Value)} {st : List Value} {I : Mem} (hC : Cx X E cc nL RX1 fr lo) (hd : decode cc pc = .ok (.getfield 18, 3)) (kk : V X E nL (pc + 3) lv (.int (I (49) 1) :: st) I) : V X E nL pc lv (.ref (E.2.1 (49)) :: st) I :=
  V_get hC (C := RX1) (T := TX1) (N := 2) (k := 1) (by decide) rfl rfl inTB_X1 (by decide) (tb_at 97 (by decide +kernel) (by decide +kernel)) rfl rfl hd kk
theorem pf_X1_18 {X : XT} {E : EN} {cc : ByteArray} {nL fr lo pc : Nat} {lv : List (Nat × Value)} {st : List Value} {I : Mem} {x : Int32} (hC : Cx X E cc nL RX1 fr lo) (hd : decode cc pc = .ok (.putfield 18, 3)) (kk : V X E nL (pc + 3) lv st (up2 I (49) 1 x)) : V X E nL pc lv (.int x :: .ref (E.2.1 (49)) :: st) I :=
  V_put hC (C := RX1) (T := TX1) (N := 2) (k := 1) tyX1 (ty := .int) (by decide) rfl rfl rfl inTB_X1 tyX1_ok nmX1 (by decide) (tb_at 97 (by decide +kernel) (by decide +kernel)) rfl rfl (by decide +kernel) rfl rfl (by simp) hd kk
theorem gf_X5_115 {X : XT} {E : EN} {cc : ByteArray} {nL fr lo pc : Nat} {lv : List (Nat × Value)} {st : List Value} {I : Mem} (hC : Cx X E cc nL RX5 fr lo) (hd : decode cc pc = .ok (.getfield 115, 3)) (kk : V X E nL (pc + 3) lv (.int (I (49) 1) :: st) I) : V X E nL pc lv (.ref (E.2.1 (49)) :: st) I :=
  V_getN hC (C := RX1) (T := TX1) (N := 2) (k := 1) (host := "SwingWeights") (by decide) rfl rfl inTB_X1 (by decide) (List.mem_of_getElem? (i := 16) (by decide +kernel)) rfl rfl hd kk
theorem pf_X5_115 {X : XT} {E : EN} {cc : ByteArray} {nL fr lo pc : Nat} {lv : List (Nat × Value)} {st : List Value} {I : Mem} {x : Int32} (hC : Cx X E cc nL RX5 fr lo) (hd : decode cc pc = .ok (.putfield 115, 3)) (kk : V X E nL (pc + 3) lv st (up2 I (49) 1 x)) : V X E nL pc lv (.int x :: .ref (E.2.1 (49)) :: st) I :=
  V_putN hC (C := RX1) (T := TX1) (N := 2) (k := 1) (host := "SwingWeights") tyX1 (ty := .int) (by decide) rfl rfl rfl inTB_X1 tyX1_ok nmX1 (by decide) (List.mem_of_getElem? (i := 16) (by decide +kernel)) rfl rfl (by decide +kernel) rfl rfl (by simp) hd kk
theorem gf_X4_9 {X : XT} {E : EN} {cc : ByteArray} {nL fr lo pc : Nat} {lv : List (Nat × Value)} {st : List Value} {I : Mem} (hC : Cx X E cc nL RX4 fr lo) (hd : decode cc pc = .ok (.getfield 9, 3)) (kk : V X E nL (pc + 3) lv (.ref (E.2.1 (52)) :: st) I) : V X E nL pc lv (.ref (E.2.1 (51)) :: st) I :=
  V_get hC (C := RX4) (T := TX4) (N := 2) (k := 0) (by decide) rfl rfl inTB_X4 (by decide) (tb_at 110 (by decide +kernel) (by decide +kernel)) rfl rfl hd kk
theorem gf_X4_15 {X : XT} {E : EN} {cc : ByteArray} {nL fr lo pc : Nat} {lv : List (Nat × Value)} {st : List Value} {I : Mem} (hC : Cx X E cc nL RX4 fr lo) (hd : decode cc pc = .ok (.getfield 15, 3)) (kk : V X E nL (pc + 3) lv (.int (I (51) 1) :: st) I) : V X E nL pc lv (.ref (E.2.1 (51)) :: st) I :=
  V_get hC (C := RX4) (T := TX4) (N := 2) (k := 1) (by decide) rfl rfl inTB_X4 (by decide) (tb_at 111 (by decide +kernel) (by decide +kernel)) rfl rfl hd kk
theorem pf_X4_15 {X : XT} {E : EN} {cc : ByteArray} {nL fr lo pc : Nat} {lv : List (Nat × Value)} {st : List Value} {I : Mem} {x : Int32} (hC : Cx X E cc nL RX4 fr lo) (hd : decode cc pc = .ok (.putfield 15, 3)) (kk : V X E nL (pc + 3) lv st (up2 I (51) 1 x)) : V X E nL pc lv (.int x :: .ref (E.2.1 (51)) :: st) I :=
  V_put hC (C := RX4) (T := TX4) (N := 2) (k := 1) tyX4 (ty := .int) (by decide) rfl rfl rfl inTB_X4 tyX4_ok nmX4 (by decide) (tb_at 111 (by decide +kernel) (by decide +kernel)) rfl rfl (by decide +kernel) rfl rfl (by simp) hd kk
theorem gf_X5_93 {X : XT} {E : EN} {cc : ByteArray} {nL fr lo pc : Nat} {lv : List (Nat × Value)} {st : List Value} {I : Mem} (hC : Cx X E cc nL RX5 fr lo) (hd : decode cc pc = .ok (.getfield 93, 3)) (kk : V X E nL (pc + 3) lv (.int (I (51) 1) :: st) I) : V X E nL pc lv (.ref (E.2.1 (51)) :: st) I :=
  V_getN hC (C := RX4) (T := TX4) (N := 2) (k := 1) (host := "SwingWeights") (by decide) rfl rfl inTB_X4 (by decide) (List.mem_of_getElem? (i := 17) (by decide +kernel)) rfl rfl hd kk
theorem pf_X5_93 {X : XT} {E : EN} {cc : ByteArray} {nL fr lo pc : Nat} {lv : List (Nat × Value)} {st : List Value} {I : Mem} {x : Int32} (hC : Cx X E cc nL RX5 fr lo) (hd : decode cc pc = .ok (.putfield 93, 3)) (kk : V X E nL (pc + 3) lv st (up2 I (51) 1 x)) : V X E nL pc lv (.int x :: .ref (E.2.1 (51)) :: st) I :=
  V_putN hC (C := RX4) (T := TX4) (N := 2) (k := 1) (host := "SwingWeights") tyX4 (ty := .int) (by decide) rfl rfl rfl inTB_X4 tyX4_ok nmX4 (by decide) (List.mem_of_getElem? (i := 17) (by decide +kernel)) rfl rfl (by decide +kernel) rfl rfl (by simp) hd kk
theorem gf_X2_38 {X : XT} {E : EN} {cc : ByteArray} {nL fr lo pc : Nat} {lv : List (Nat × Value)} {st : List Value} {I : Mem} (hC : Cx X E cc nL RX2 fr lo) (hd : decode cc pc = .ok (.getfield 38, 3)) (kk : V X E nL (pc + 3) lv (.int (I (53) 0) :: st) I) : V X E nL pc lv (.ref (E.2.1 (53)) :: st) I :=
  V_get hC (C := RX2) (T := TX2) (N := 13) (k := 0) (by decide) rfl rfl inTB_X2 (by decide) (tb_at 127 (by decide +kernel) (by decide +kernel)) rfl rfl hd kk
theorem pf_X2_38 {X : XT} {E : EN} {cc : ByteArray} {nL fr lo pc : Nat} {lv : List (Nat × Value)} {st : List Value} {I : Mem} {x : Int32} (hC : Cx X E cc nL RX2 fr lo) (hd : decode cc pc = .ok (.putfield 38, 3)) (kk : V X E nL (pc + 3) lv st (up2 I (53) 0 x)) : V X E nL pc lv (.int x :: .ref (E.2.1 (53)) :: st) I :=
  V_put hC (C := RX2) (T := TX2) (N := 13) (k := 0) tyX2 (ty := .int) (by decide) rfl rfl rfl inTB_X2 tyX2_ok nmX2 (by decide) (tb_at 127 (by decide +kernel) (by decide +kernel)) rfl rfl (by decide +kernel) rfl rfl (by simp) hd kk
theorem gf_X2_42 {X : XT} {E : EN} {cc : ByteArray} {nL fr lo pc : Nat} {lv : List (Nat × Value)} {st : List Value} {I : Mem} (hC : Cx X E cc nL RX2 fr lo) (hd : decode cc pc = .ok (.getfield 42, 3)) (kk : V X E nL (pc + 3) lv (.int (I (53) 1) :: st) I) : V X E nL pc lv (.ref (E.2.1 (53)) :: st) I :=
  V_get hC (C := RX2) (T := TX2) (N := 13) (k := 1) (by decide) rfl rfl inTB_X2 (by decide) (tb_at 128 (by decide +kernel) (by decide +kernel)) rfl rfl hd kk
theorem pf_X2_42 {X : XT} {E : EN} {cc : ByteArray} {nL fr lo pc : Nat} {lv : List (Nat × Value)} {st : List Value} {I : Mem} {x : Int32} (hC : Cx X E cc nL RX2 fr lo) (hd : decode cc pc = .ok (.putfield 42, 3)) (kk : V X E nL (pc + 3) lv st (up2 I (53) 1 x)) : V X E nL pc lv (.int x :: .ref (E.2.1 (53)) :: st) I :=
  V_put hC (C := RX2) (T := TX2) (N := 13) (k := 1) tyX2 (ty := .int) (by decide) rfl rfl rfl inTB_X2 tyX2_ok nmX2 (by decide) (tb_at 128 (by decide +kernel) (by decide +kernel)) rfl rfl (by decide +kernel) rfl rfl (by simp) hd kk
theorem gf_X2_46 {X : XT} {E : EN} {cc : ByteArray} {nL fr lo pc : Nat} {lv : List (Nat × Value)} {st : List Value} {I : Mem} (hC : Cx X E cc nL RX2 fr lo) (hd : decode cc pc = .ok (.getfield 46, 3)) (kk : V X E nL (pc + 3) lv (.int (I (53) 2) :: st) I) : V X E nL pc lv (.ref (E.2.1 (53)) :: st) I :=
  V_get hC (C := RX2) (T := TX2) (N := 13) (k := 2) (by decide) rfl rfl inTB_X2 (by decide) (tb_at 129 (by decide +kernel) (by decide +kernel)) rfl rfl hd kk
theorem pf_X2_46 {X : XT} {E : EN} {cc : ByteArray} {nL fr lo pc : Nat} {lv : List (Nat × Value)} {st : List Value} {I : Mem} {x : Int32} (hC : Cx X E cc nL RX2 fr lo) (hd : decode cc pc = .ok (.putfield 46, 3)) (kk : V X E nL (pc + 3) lv st (up2 I (53) 2 x)) : V X E nL pc lv (.int x :: .ref (E.2.1 (53)) :: st) I :=
  V_put hC (C := RX2) (T := TX2) (N := 13) (k := 2) tyX2 (ty := .int) (by decide) rfl rfl rfl inTB_X2 tyX2_ok nmX2 (by decide) (tb_at 129 (by decide +kernel) (by decide +kernel)) rfl rfl (by decide +kernel) rfl rfl (by simp) hd kk
theorem gf_X2_67 {X : XT} {E : EN} {cc : ByteArray} {nL fr lo pc : Nat} {lv : List (Nat × Value)} {st : List Value} {I : Mem} (hC : Cx X E cc nL RX2 fr lo) (hd : decode cc pc = .ok (.getfield 67, 3)) (kk : V X E nL (pc + 3) lv (.int (I (53) 3) :: st) I) : V X E nL pc lv (.ref (E.2.1 (53)) :: st) I :=
  V_get hC (C := RX2) (T := TX2) (N := 13) (k := 3) (by decide) rfl rfl inTB_X2 (by decide) (tb_at 130 (by decide +kernel) (by decide +kernel)) rfl rfl hd kk
theorem pf_X2_67 {X : XT} {E : EN} {cc : ByteArray} {nL fr lo pc : Nat} {lv : List (Nat × Value)} {st : List Value} {I : Mem} {x : Int32} (hC : Cx X E cc nL RX2 fr lo) (hd : decode cc pc = .ok (.putfield 67, 3)) (kk : V X E nL (pc + 3) lv st (up2 I (53) 3 x)) : V X E nL pc lv (.int x :: .ref (E.2.1 (53)) :: st) I :=
  V_put hC (C := RX2) (T := TX2) (N := 13) (k := 3) tyX2 (ty := .int) (by decide) rfl rfl rfl inTB_X2 tyX2_ok nmX2 (by decide) (tb_at 130 (by decide +kernel) (by decide +kernel)) rfl rfl (by decide +kernel) rfl rfl (by simp) hd kk
theorem gf_X2_47 {X : XT} {E : EN} {cc : ByteArray} {nL fr lo pc : Nat} {lv : List (Nat × Value)} {st : List Value} {I : Mem} (hC : Cx X E cc nL RX2 fr lo) (hd : decode cc pc = .ok (.getfield 47, 3)) (kk : V X E nL (pc + 3) lv (.int (I (53) 4) :: st) I) : V X E nL pc lv (.ref (E.2.1 (53)) :: st) I :=
  V_get hC (C := RX2) (T := TX2) (N := 13) (k := 4) (by decide) rfl rfl inTB_X2 (by decide) (tb_at 131 (by decide +kernel) (by decide +kernel)) rfl rfl hd kk
theorem pf_X2_47 {X : XT} {E : EN} {cc : ByteArray} {nL fr lo pc : Nat} {lv : List (Nat × Value)} {st : List Value} {I : Mem} {x : Int32} (hC : Cx X E cc nL RX2 fr lo) (hd : decode cc pc = .ok (.putfield 47, 3)) (kk : V X E nL (pc + 3) lv st (up2 I (53) 4 x)) : V X E nL pc lv (.int x :: .ref (E.2.1 (53)) :: st) I :=
  V_put hC (C := RX2) (T := TX2) (N := 13) (k := 4) tyX2 (ty := .int) (by decide) rfl rfl rfl inTB_X2 tyX2_ok nmX2 (by decide) (tb_at 131 (by decide +kernel) (by decide +kernel)) rfl rfl (by decide +kernel) rfl rfl (by simp) hd kk
theorem gf_X2_9 {X : XT} {E : EN} {cc : ByteArray} {nL fr lo pc : Nat} {lv : List (Nat × Value)} {st : List Value} {I : Mem} (hC : Cx X E cc nL RX2 fr lo) (hd : decode cc pc = .ok (.getfield 9, 3)) (kk : V X E nL (pc + 3) lv (.ref (E.2.1 (54)) :: st) I) : V X E nL pc lv (.ref (E.2.1 (53)) :: st) I :=
  V_get hC (C := RX2) (T := TX2) (N := 13) (k := 5) (by decide) rfl rfl inTB_X2 (by decide) (tb_at 132 (by decide +kernel) (by decide +kernel)) rfl rfl hd kk
theorem gf_X2_15 {X : XT} {E : EN} {cc : ByteArray} {nL fr lo pc : Nat} {lv : List (Nat × Value)} {st : List Value} {I : Mem} (hC : Cx X E cc nL RX2 fr lo) (hd : decode cc pc = .ok (.getfield 15, 3)) (kk : V X E nL (pc + 3) lv (.ref (E.2.1 (55)) :: st) I) : V X E nL pc lv (.ref (E.2.1 (53)) :: st) I :=
  V_get hC (C := RX2) (T := TX2) (N := 13) (k := 6) (by decide) rfl rfl inTB_X2 (by decide) (tb_at 133 (by decide +kernel) (by decide +kernel)) rfl rfl hd kk
theorem gf_X2_18 {X : XT} {E : EN} {cc : ByteArray} {nL fr lo pc : Nat} {lv : List (Nat × Value)} {st : List Value} {I : Mem} (hC : Cx X E cc nL RX2 fr lo) (hd : decode cc pc = .ok (.getfield 18, 3)) (kk : V X E nL (pc + 3) lv (.ref (E.2.1 (56)) :: st) I) : V X E nL pc lv (.ref (E.2.1 (53)) :: st) I :=
  V_get hC (C := RX2) (T := TX2) (N := 13) (k := 7) (by decide) rfl rfl inTB_X2 (by decide) (tb_at 134 (by decide +kernel) (by decide +kernel)) rfl rfl hd kk
theorem gf_X2_21 {X : XT} {E : EN} {cc : ByteArray} {nL fr lo pc : Nat} {lv : List (Nat × Value)} {st : List Value} {I : Mem} (hC : Cx X E cc nL RX2 fr lo) (hd : decode cc pc = .ok (.getfield 21, 3)) (kk : V X E nL (pc + 3) lv (.ref (E.2.1 (57)) :: st) I) : V X E nL pc lv (.ref (E.2.1 (53)) :: st) I :=
  V_get hC (C := RX2) (T := TX2) (N := 13) (k := 8) (by decide) rfl rfl inTB_X2 (by decide) (tb_at 135 (by decide +kernel) (by decide +kernel)) rfl rfl hd kk
theorem gf_X2_79 {X : XT} {E : EN} {cc : ByteArray} {nL fr lo pc : Nat} {lv : List (Nat × Value)} {st : List Value} {I : Mem} (hC : Cx X E cc nL RX2 fr lo) (hd : decode cc pc = .ok (.getfield 79, 3)) (kk : V X E nL (pc + 3) lv (.int (I (53) 9) :: st) I) : V X E nL pc lv (.ref (E.2.1 (53)) :: st) I :=
  V_get hC (C := RX2) (T := TX2) (N := 13) (k := 9) (by decide) rfl rfl inTB_X2 (by decide) (tb_at 136 (by decide +kernel) (by decide +kernel)) rfl rfl hd kk
theorem pf_X2_79 {X : XT} {E : EN} {cc : ByteArray} {nL fr lo pc : Nat} {lv : List (Nat × Value)} {st : List Value} {I : Mem} {x : Int32} (hC : Cx X E cc nL RX2 fr lo) (hd : decode cc pc = .ok (.putfield 79, 3)) (kk : V X E nL (pc + 3) lv st (up2 I (53) 9 x)) : V X E nL pc lv (.int x :: .ref (E.2.1 (53)) :: st) I :=
  V_put hC (C := RX2) (T := TX2) (N := 13) (k := 9) tyX2 (ty := .int) (by decide) rfl rfl rfl inTB_X2 tyX2_ok nmX2 (by decide) (tb_at 136 (by decide +kernel) (by decide +kernel)) rfl rfl (by decide +kernel) rfl rfl (by simp) hd kk
theorem gf_X2_26 {X : XT} {E : EN} {cc : ByteArray} {nL fr lo pc : Nat} {lv : List (Nat × Value)} {st : List Value} {I : Mem} (hC : Cx X E cc nL RX2 fr lo) (hd : decode cc pc = .ok (.getfield 26, 3)) (kk : V X E nL (pc + 3) lv (.ref (E.2.1 (58)) :: st) I) : V X E nL pc lv (.ref (E.2.1 (53)) :: st) I :=
  V_get hC (C := RX2) (T := TX2) (N := 13) (k := 10) (by decide) rfl rfl inTB_X2 (by decide) (tb_at 137 (by decide +kernel) (by decide +kernel)) rfl rfl hd kk
theorem gf_X2_29 {X : XT} {E : EN} {cc : ByteArray} {nL fr lo pc : Nat} {lv : List (Nat × Value)} {st : List Value} {I : Mem} (hC : Cx X E cc nL RX2 fr lo) (hd : decode cc pc = .ok (.getfield 29, 3)) (kk : V X E nL (pc + 3) lv (.ref (E.2.1 (59)) :: st) I) : V X E nL pc lv (.ref (E.2.1 (53)) :: st) I :=
  V_get hC (C := RX2) (T := TX2) (N := 13) (k := 11) (by decide) rfl rfl inTB_X2 (by decide) (tb_at 138 (by decide +kernel) (by decide +kernel)) rfl rfl hd kk
theorem gf_X2_76 {X : XT} {E : EN} {cc : ByteArray} {nL fr lo pc : Nat} {lv : List (Nat × Value)} {st : List Value} {I : Mem} (hC : Cx X E cc nL RX2 fr lo) (hd : decode cc pc = .ok (.getfield 76, 3)) (kk : V X E nL (pc + 3) lv (.int (I (53) 12) :: st) I) : V X E nL pc lv (.ref (E.2.1 (53)) :: st) I :=
  V_get hC (C := RX2) (T := TX2) (N := 13) (k := 12) (by decide) rfl rfl inTB_X2 (by decide) (tb_at 139 (by decide +kernel) (by decide +kernel)) rfl rfl hd kk
theorem pf_X2_76 {X : XT} {E : EN} {cc : ByteArray} {nL fr lo pc : Nat} {lv : List (Nat × Value)} {st : List Value} {I : Mem} {x : Int32} (hC : Cx X E cc nL RX2 fr lo) (hd : decode cc pc = .ok (.putfield 76, 3)) (kk : V X E nL (pc + 3) lv st (up2 I (53) 12 x)) : V X E nL pc lv (.int x :: .ref (E.2.1 (53)) :: st) I :=
  V_put hC (C := RX2) (T := TX2) (N := 13) (k := 12) tyX2 (ty := .int) (by decide) rfl rfl rfl inTB_X2 tyX2_ok nmX2 (by decide) (tb_at 139 (by decide +kernel) (by decide +kernel)) rfl rfl (by decide +kernel) rfl rfl (by simp) hd kk
theorem gf_X5_10 {X : XT} {E : EN} {cc : ByteArray} {nL fr lo pc : Nat} {lv : List (Nat × Value)} {st : List Value} {I : Mem} (hC : Cx X E cc nL RX5 fr lo) (hd : decode cc pc = .ok (.getfield 10, 3)) (kk : V X E nL (pc + 3) lv (.ref (E.2.1 (8 * 0)) :: st) I) : V X E nL pc lv (.ref (E.2.1 (48)) :: st) I :=
  V_get hC (C := RX5) (T := TX5) (N := 7) (k := 0) (by decide) rfl rfl inTB_X5 (by decide) (tb_at 167 (by decide +kernel) (by decide +kernel)) rfl rfl hd kk
theorem gf_X5_16 {X : XT} {E : EN} {cc : ByteArray} {nL fr lo pc : Nat} {lv : List (Nat × Value)} {st : List Value} {I : Mem} (hC : Cx X E cc nL RX5 fr lo) (hd : decode cc pc = .ok (.getfield 16, 3)) (kk : V X E nL (pc + 3) lv (.ref (E.2.1 (8 * 1)) :: st) I) : V X E nL pc lv (.ref (E.2.1 (48)) :: st) I :=
  V_get hC (C := RX5) (T := TX5) (N := 7) (k := 1) (by decide) rfl rfl inTB_X5 (by decide) (tb_at 168 (by decide +kernel) (by decide +kernel)) rfl rfl hd kk
theorem gf_X5_129 {X : XT} {E : EN} {cc : ByteArray} {nL fr lo pc : Nat} {lv : List (Nat × Value)} {st : List Value} {I : Mem} (hC : Cx X E cc nL RX5 fr lo) (hd : decode cc pc = .ok (.getfield 129, 3)) (kk : V X E nL (pc + 3) lv (.int (I (48) 2) :: st) I) : V X E nL pc lv (.ref (E.2.1 (48)) :: st) I :=
  V_get hC (C := RX5) (T := TX5) (N := 7) (k := 2) (by decide) rfl rfl inTB_X5 (by decide) (tb_at 169 (by decide +kernel) (by decide +kernel)) rfl rfl hd kk
theorem pf_X5_129 {X : XT} {E : EN} {cc : ByteArray} {nL fr lo pc : Nat} {lv : List (Nat × Value)} {st : List Value} {I : Mem} {x : Int32} (hz : narrow .boolean (.int x) = .int x) (hz2 : fits .boolean (.int x) = true) (hC : Cx X E cc nL RX5 fr lo) (hd : decode cc pc = .ok (.putfield 129, 3)) (kk : V X E nL (pc + 3) lv st (up2 I (48) 2 x)) : V X E nL pc lv (.int x :: .ref (E.2.1 (48)) :: st) I :=
  V_put hC (C := RX5) (T := TX5) (N := 7) (k := 2) tyX5 (ty := .boolean) (by decide) rfl rfl rfl inTB_X5 tyX5_ok nmX5 (by decide) (tb_at 169 (by decide +kernel) (by decide +kernel)) rfl rfl (by decide +kernel) hz hz2 (by simp) hd kk
theorem gf_X5_22 {X : XT} {E : EN} {cc : ByteArray} {nL fr lo pc : Nat} {lv : List (Nat × Value)} {st : List Value} {I : Mem} (hC : Cx X E cc nL RX5 fr lo) (hd : decode cc pc = .ok (.getfield 22, 3)) (kk : V X E nL (pc + 3) lv (.ref (E.2.1 (49)) :: st) I) : V X E nL pc lv (.ref (E.2.1 (48)) :: st) I :=
  V_get hC (C := RX5) (T := TX5) (N := 7) (k := 3) (by decide) rfl rfl inTB_X5 (by decide) (tb_at 170 (by decide +kernel) (by decide +kernel)) rfl rfl hd kk
theorem gf_X5_29 {X : XT} {E : EN} {cc : ByteArray} {nL fr lo pc : Nat} {lv : List (Nat × Value)} {st : List Value} {I : Mem} (hC : Cx X E cc nL RX5 fr lo) (hd : decode cc pc = .ok (.getfield 29, 3)) (kk : V X E nL (pc + 3) lv (.ref (E.2.1 (51)) :: st) I) : V X E nL pc lv (.ref (E.2.1 (48)) :: st) I :=
  V_get hC (C := RX5) (T := TX5) (N := 7) (k := 4) (by decide) rfl rfl inTB_X5 (by decide) (tb_at 171 (by decide +kernel) (by decide +kernel)) rfl rfl hd kk
theorem gf_X5_36 {X : XT} {E : EN} {cc : ByteArray} {nL fr lo pc : Nat} {lv : List (Nat × Value)} {st : List Value} {I : Mem} (hC : Cx X E cc nL RX5 fr lo) (hd : decode cc pc = .ok (.getfield 36, 3)) (kk : V X E nL (pc + 3) lv (.ref (E.2.1 (53)) :: st) I) : V X E nL pc lv (.ref (E.2.1 (48)) :: st) I :=
  V_get hC (C := RX5) (T := TX5) (N := 7) (k := 5) (by decide) rfl rfl inTB_X5 (by decide) (tb_at 172 (by decide +kernel) (by decide +kernel)) rfl rfl hd kk
theorem gf_X5_122 {X : XT} {E : EN} {cc : ByteArray} {nL fr lo pc : Nat} {lv : List (Nat × Value)} {st : List Value} {I : Mem} (hC : Cx X E cc nL RX5 fr lo) (hd : decode cc pc = .ok (.getfield 122, 3)) (kk : V X E nL (pc + 3) lv (.int (I (48) 6) :: st) I) : V X E nL pc lv (.ref (E.2.1 (48)) :: st) I :=
  V_get hC (C := RX5) (T := TX5) (N := 7) (k := 6) (by decide) rfl rfl inTB_X5 (by decide) (tb_at 173 (by decide +kernel) (by decide +kernel)) rfl rfl hd kk
theorem pf_X5_122 {X : XT} {E : EN} {cc : ByteArray} {nL fr lo pc : Nat} {lv : List (Nat × Value)} {st : List Value} {I : Mem} {x : Int32} (hz : narrow .boolean (.int x) = .int x) (hz2 : fits .boolean (.int x) = true) (hC : Cx X E cc nL RX5 fr lo) (hd : decode cc pc = .ok (.putfield 122, 3)) (kk : V X E nL (pc + 3) lv st (up2 I (48) 6 x)) : V X E nL pc lv (.int x :: .ref (E.2.1 (48)) :: st) I :=
  V_put hC (C := RX5) (T := TX5) (N := 7) (k := 6) tyX5 (ty := .boolean) (by decide) rfl rfl rfl inTB_X5 tyX5_ok nmX5 (by decide) (tb_at 173 (by decide +kernel) (by decide +kernel)) rfl rfl (by decide +kernel) hz hz2 (by simp) hd kk
theorem gs_X5_238 : Cond.fieldLink RX5 238 "SwingWeights" "FACTORIALS" "[I" ∈ TB := tb_at 424 (by decide +kernel) (by decide +kernel)
theorem gf_X6_7 {X : XT} {E : EN} {cc : ByteArray} {nL fr lo pc : Nat} {lv : List (Nat × Value)} {st : List Value} {I : Mem} (hC : Cx X E cc nL RX6 fr lo) (hd : decode cc pc = .ok (.getfield 7, 3)) (kk : V X E nL (pc + 3) lv (.ref (E.2.1 (72)) :: st) I) : V X E nL pc lv (.ref (E.2.1 (71)) :: st) I :=
  V_get hC (C := RX6) (T := TX6) (N := 18) (k := 0) (by decide) rfl rfl inTB_X6 (by decide) (tb_at 562 (by decide +kernel) (by decide +kernel)) rfl rfl hd kk
theorem gf_X6_13 {X : XT} {E : EN} {cc : ByteArray} {nL fr lo pc : Nat} {lv : List (Nat × Value)} {st : List Value} {I : Mem} (hC : Cx X E cc nL RX6 fr lo) (hd : decode cc pc = .ok (.getfield 13, 3)) (kk : V X E nL (pc + 3) lv (.ref (E.2.1 (73)) :: st) I) : V X E nL pc lv (.ref (E.2.1 (71)) :: st) I :=
  V_get hC (C := RX6) (T := TX6) (N := 18) (k := 1) (by decide) rfl rfl inTB_X6 (by decide) (tb_at 563 (by decide +kernel) (by decide +kernel)) rfl rfl hd kk
theorem gf_X6_16 {X : XT} {E : EN} {cc : ByteArray} {nL fr lo pc : Nat} {lv : List (Nat × Value)} {st : List Value} {I : Mem} (hC : Cx X E cc nL RX6 fr lo) (hd : decode cc pc = .ok (.getfield 16, 3)) (kk : V X E nL (pc + 3) lv (.ref (E.2.1 (74)) :: st) I) : V X E nL pc lv (.ref (E.2.1 (71)) :: st) I :=
  V_get hC (C := RX6) (T := TX6) (N := 18) (k := 2) (by decide) rfl rfl inTB_X6 (by decide) (tb_at 564 (by decide +kernel) (by decide +kernel)) rfl rfl hd kk
theorem gf_X6_42 {X : XT} {E : EN} {cc : ByteArray} {nL fr lo pc : Nat} {lv : List (Nat × Value)} {st : List Value} {I : Mem} (hC : Cx X E cc nL RX6 fr lo) (hd : decode cc pc = .ok (.getfield 42, 3)) (kk : V X E nL (pc + 3) lv (.int (I (71) 3) :: st) I) : V X E nL pc lv (.ref (E.2.1 (71)) :: st) I :=
  V_get hC (C := RX6) (T := TX6) (N := 18) (k := 3) (by decide) rfl rfl inTB_X6 (by decide) (tb_at 565 (by decide +kernel) (by decide +kernel)) rfl rfl hd kk
theorem pf_X6_42 {X : XT} {E : EN} {cc : ByteArray} {nL fr lo pc : Nat} {lv : List (Nat × Value)} {st : List Value} {I : Mem} {x : Int32} (hC : Cx X E cc nL RX6 fr lo) (hd : decode cc pc = .ok (.putfield 42, 3)) (kk : V X E nL (pc + 3) lv st (up2 I (71) 3 x)) : V X E nL pc lv (.int x :: .ref (E.2.1 (71)) :: st) I :=
  V_put hC (C := RX6) (T := TX6) (N := 18) (k := 3) tyX6 (ty := .int) (by decide) rfl rfl rfl inTB_X6 tyX6_ok nmX6 (by decide) (tb_at 565 (by decide +kernel) (by decide +kernel)) rfl rfl (by decide +kernel) rfl rfl (by simp) hd kk
theorem gf_X6_46 {X : XT} {E : EN} {cc : ByteArray} {nL fr lo pc : Nat} {lv : List (Nat × Value)} {st : List Value} {I : Mem} (hC : Cx X E cc nL RX6 fr lo) (hd : decode cc pc = .ok (.getfield 46, 3)) (kk : V X E nL (pc + 3) lv (.int (I (71) 4) :: st) I) : V X E nL pc lv (.ref (E.2.1 (71)) :: st) I :=
  V_get hC (C := RX6) (T := TX6) (N := 18) (k := 4) (by decide) rfl rfl inTB_X6 (by decide) (tb_at 566 (by decide +kernel) (by decide +kernel)) rfl rfl hd kk
theorem pf_X6_46 {X : XT} {E : EN} {cc : ByteArray} {nL fr lo pc : Nat} {lv : List (Nat × Value)} {st : List Value} {I : Mem} {x : Int32} (hz : narrow .boolean (.int x) = .int x) (hz2 : fits .boolean (.int x) = true) (hC : Cx X E cc nL RX6 fr lo) (hd : decode cc pc = .ok (.putfield 46, 3)) (kk : V X E nL (pc + 3) lv st (up2 I (71) 4 x)) : V X E nL pc lv (.int x :: .ref (E.2.1 (71)) :: st) I :=
  V_put hC (C := RX6) (T := TX6) (N := 18) (k := 4) tyX6 (ty := .boolean) (by decide) rfl rfl rfl inTB_X6 tyX6_ok nmX6 (by decide) (tb_at 566 (by decide +kernel) (by decide +kernel)) rfl rfl (by decide +kernel) hz hz2 (by simp) hd kk
theorem gf_X6_19 {X : XT} {E : EN} {cc : ByteArray} {nL fr lo pc : Nat} {lv : List (Nat × Value)} {st : List Value} {I : Mem} (hC : Cx X E cc nL RX6 fr lo) (hd : decode cc pc = .ok (.getfield 19, 3)) (kk : V X E nL (pc + 3) lv (.ref (E.2.1 (75)) :: st) I) : V X E nL pc lv (.ref (E.2.1 (71)) :: st) I :=
  V_get hC (C := RX6) (T := TX6) (N := 18) (k := 5) (by decide) rfl rfl inTB_X6 (by decide) (tb_at 567 (by decide +kernel) (by decide +kernel)) rfl rfl hd kk
theorem gf_X6_126 {X : XT} {E : EN} {cc : ByteArray} {nL fr lo pc : Nat} {lv : List (Nat × Value)} {st : List Value} {I : Mem} (hC : Cx X E cc nL RX6 fr lo) (hd : decode cc pc = .ok (.getfield 126, 3)) (kk : V X E nL (pc + 3) lv (.int (I (71) 6) :: st) I) : V X E nL pc lv (.ref (E.2.1 (71)) :: st) I :=
  V_get hC (C := RX6) (T := TX6) (N := 18) (k := 6) (by decide) rfl rfl inTB_X6 (by decide) (tb_at 568 (by decide +kernel) (by decide +kernel)) rfl rfl hd kk
theorem pf_X6_126 {X : XT} {E : EN} {cc : ByteArray} {nL fr lo pc : Nat} {lv : List (Nat × Value)} {st : List Value} {I : Mem} {x : Int32} (hC : Cx X E cc nL RX6 fr lo) (hd : decode cc pc = .ok (.putfield 126, 3)) (kk : V X E nL (pc + 3) lv st (up2 I (71) 6 x)) : V X E nL pc lv (.int x :: .ref (E.2.1 (71)) :: st) I :=
  V_put hC (C := RX6) (T := TX6) (N := 18) (k := 6) tyX6 (ty := .int) (by decide) rfl rfl rfl inTB_X6 tyX6_ok nmX6 (by decide) (tb_at 568 (by decide +kernel) (by decide +kernel)) rfl rfl (by decide +kernel) rfl rfl (by simp) hd kk
theorem gf_X6_129 {X : XT} {E : EN} {cc : ByteArray} {nL fr lo pc : Nat} {lv : List (Nat × Value)} {st : List Value} {I : Mem} (hC : Cx X E cc nL RX6 fr lo) (hd : decode cc pc = .ok (.getfield 129, 3)) (kk : V X E nL (pc + 3) lv (.int (I (71) 7) :: st) I) : V X E nL pc lv (.ref (E.2.1 (71)) :: st) I :=
  V_get hC (C := RX6) (T := TX6) (N := 18) (k := 7) (by decide) rfl rfl inTB_X6 (by decide) (tb_at 569 (by decide +kernel) (by decide +kernel)) rfl rfl hd kk
theorem pf_X6_129 {X : XT} {E : EN} {cc : ByteArray} {nL fr lo pc : Nat} {lv : List (Nat × Value)} {st : List Value} {I : Mem} {x : Int32} (hC : Cx X E cc nL RX6 fr lo) (hd : decode cc pc = .ok (.putfield 129, 3)) (kk : V X E nL (pc + 3) lv st (up2 I (71) 7 x)) : V X E nL pc lv (.int x :: .ref (E.2.1 (71)) :: st) I :=
  V_put hC (C := RX6) (T := TX6) (N := 18) (k := 7) tyX6 (ty := .int) (by decide) rfl rfl rfl inTB_X6 tyX6_ok nmX6 (by decide) (tb_at 569 (by decide +kernel) (by decide +kernel)) rfl rfl (by decide +kernel) rfl rfl (by simp) hd kk
theorem gf_X6_77 {X : XT} {E : EN} {cc : ByteArray} {nL fr lo pc : Nat} {lv : List (Nat × Value)} {st : List Value} {I : Mem} (hC : Cx X E cc nL RX6 fr lo) (hd : decode cc pc = .ok (.getfield 77, 3)) (kk : V X E nL (pc + 3) lv (.int (I (71) 8) :: st) I) : V X E nL pc lv (.ref (E.2.1 (71)) :: st) I :=
  V_get hC (C := RX6) (T := TX6) (N := 18) (k := 8) (by decide) rfl rfl inTB_X6 (by decide) (tb_at 570 (by decide +kernel) (by decide +kernel)) rfl rfl hd kk
theorem pf_X6_77 {X : XT} {E : EN} {cc : ByteArray} {nL fr lo pc : Nat} {lv : List (Nat × Value)} {st : List Value} {I : Mem} {x : Int32} (hC : Cx X E cc nL RX6 fr lo) (hd : decode cc pc = .ok (.putfield 77, 3)) (kk : V X E nL (pc + 3) lv st (up2 I (71) 8 x)) : V X E nL pc lv (.int x :: .ref (E.2.1 (71)) :: st) I :=
  V_put hC (C := RX6) (T := TX6) (N := 18) (k := 8) tyX6 (ty := .int) (by decide) rfl rfl rfl inTB_X6 tyX6_ok nmX6 (by decide) (tb_at 570 (by decide +kernel) (by decide +kernel)) rfl rfl (by decide +kernel) rfl rfl (by simp) hd kk
theorem gf_X6_23 {X : XT} {E : EN} {cc : ByteArray} {nL fr lo pc : Nat} {lv : List (Nat × Value)} {st : List Value} {I : Mem} (hC : Cx X E cc nL RX6 fr lo) (hd : decode cc pc = .ok (.getfield 23, 3)) (kk : V X E nL (pc + 3) lv (.ref (E.2.1 (76)) :: st) I) : V X E nL pc lv (.ref (E.2.1 (71)) :: st) I :=
  V_get hC (C := RX6) (T := TX6) (N := 18) (k := 9) (by decide) rfl rfl inTB_X6 (by decide) (tb_at 571 (by decide +kernel) (by decide +kernel)) rfl rfl hd kk
theorem gf_X6_26 {X : XT} {E : EN} {cc : ByteArray} {nL fr lo pc : Nat} {lv : List (Nat × Value)} {st : List Value} {I : Mem} (hC : Cx X E cc nL RX6 fr lo) (hd : decode cc pc = .ok (.getfield 26, 3)) (kk : V X E nL (pc + 3) lv (.ref (E.2.1 (77)) :: st) I) : V X E nL pc lv (.ref (E.2.1 (71)) :: st) I :=
  V_get hC (C := RX6) (T := TX6) (N := 18) (k := 10) (by decide) rfl rfl inTB_X6 (by decide) (tb_at 572 (by decide +kernel) (by decide +kernel)) rfl rfl hd kk
theorem gf_X6_29 {X : XT} {E : EN} {cc : ByteArray} {nL fr lo pc : Nat} {lv : List (Nat × Value)} {st : List Value} {I : Mem} (hC : Cx X E cc nL RX6 fr lo) (hd : decode cc pc = .ok (.getfield 29, 3)) (kk : V X E nL (pc + 3) lv (.ref (E.2.1 (78)) :: st) I) : V X E nL pc lv (.ref (E.2.1 (71)) :: st) I :=
  V_get hC (C := RX6) (T := TX6) (N := 18) (k := 11) (by decide) rfl rfl inTB_X6 (by decide) (tb_at 573 (by decide +kernel) (by decide +kernel)) rfl rfl hd kk
theorem gf_X6_80 {X : XT} {E : EN} {cc : ByteArray} {nL fr lo pc : Nat} {lv : List (Nat × Value)} {st : List Value} {I : Mem} (hC : Cx X E cc nL RX6 fr lo) (hd : decode cc pc = .ok (.getfield 80, 3)) (kk : V X E nL (pc + 3) lv (.int (I (71) 12) :: st) I) : V X E nL pc lv (.ref (E.2.1 (71)) :: st) I :=
  V_get hC (C := RX6) (T := TX6) (N := 18) (k := 12) (by decide) rfl rfl inTB_X6 (by decide) (tb_at 574 (by decide +kernel) (by decide +kernel)) rfl rfl hd kk
theorem pf_X6_80 {X : XT} {E : EN} {cc : ByteArray} {nL fr lo pc : Nat} {lv : List (Nat × Value)} {st : List Value} {I : Mem} {x : Int32} (hC : Cx X E cc nL RX6 fr lo) (hd : decode cc pc = .ok (.putfield 80, 3)) (kk : V X E nL (pc + 3) lv st (up2 I (71) 12 x)) : V X E nL pc lv (.int x :: .ref (E.2.1 (71)) :: st) I :=
  V_put hC (C := RX6) (T := TX6) (N := 18) (k := 12) tyX6 (ty := .int) (by decide) rfl rfl rfl inTB_X6 tyX6_ok nmX6 (by decide) (tb_at 574 (by decide +kernel) (by decide +kernel)) rfl rfl (by decide +kernel) rfl rfl (by simp) hd kk
theorem gf_X6_32 {X : XT} {E : EN} {cc : ByteArray} {nL fr lo pc : Nat} {lv : List (Nat × Value)} {st : List Value} {I : Mem} (hC : Cx X E cc nL RX6 fr lo) (hd : decode cc pc = .ok (.getfield 32, 3)) (kk : V X E nL (pc + 3) lv (.ref (E.2.1 (79)) :: st) I) : V X E nL pc lv (.ref (E.2.1 (71)) :: st) I :=
  V_get hC (C := RX6) (T := TX6) (N := 18) (k := 13) (by decide) rfl rfl inTB_X6 (by decide) (tb_at 575 (by decide +kernel) (by decide +kernel)) rfl rfl hd kk
theorem gf_X6_36 {X : XT} {E : EN} {cc : ByteArray} {nL fr lo pc : Nat} {lv : List (Nat × Value)} {st : List Value} {I : Mem} (hC : Cx X E cc nL RX6 fr lo) (hd : decode cc pc = .ok (.getfield 36, 3)) (kk : V X E nL (pc + 3) lv (.ref (E.2.1 (80)) :: st) I) : V X E nL pc lv (.ref (E.2.1 (71)) :: st) I :=
  V_get hC (C := RX6) (T := TX6) (N := 18) (k := 14) (by decide) rfl rfl inTB_X6 (by decide) (tb_at 576 (by decide +kernel) (by decide +kernel)) rfl rfl hd kk
theorem gf_X6_99 {X : XT} {E : EN} {cc : ByteArray} {nL fr lo pc : Nat} {lv : List (Nat × Value)} {st : List Value} {I : Mem} (hC : Cx X E cc nL RX6 fr lo) (hd : decode cc pc = .ok (.getfield 99, 3)) (kk : V X E nL (pc + 3) lv (.int (I (71) 15) :: st) I) : V X E nL pc lv (.ref (E.2.1 (71)) :: st) I :=
  V_get hC (C := RX6) (T := TX6) (N := 18) (k := 15) (by decide) rfl rfl inTB_X6 (by decide) (tb_at 577 (by decide +kernel) (by decide +kernel)) rfl rfl hd kk
theorem pf_X6_99 {X : XT} {E : EN} {cc : ByteArray} {nL fr lo pc : Nat} {lv : List (Nat × Value)} {st : List Value} {I : Mem} {x : Int32} (hC : Cx X E cc nL RX6 fr lo) (hd : decode cc pc = .ok (.putfield 99, 3)) (kk : V X E nL (pc + 3) lv st (up2 I (71) 15 x)) : V X E nL pc lv (.int x :: .ref (E.2.1 (71)) :: st) I :=
  V_put hC (C := RX6) (T := TX6) (N := 18) (k := 15) tyX6 (ty := .int) (by decide) rfl rfl rfl inTB_X6 tyX6_ok nmX6 (by decide) (tb_at 577 (by decide +kernel) (by decide +kernel)) rfl rfl (by decide +kernel) rfl rfl (by simp) hd kk
theorem gf_X6_39 {X : XT} {E : EN} {cc : ByteArray} {nL fr lo pc : Nat} {lv : List (Nat × Value)} {st : List Value} {I : Mem} (hC : Cx X E cc nL RX6 fr lo) (hd : decode cc pc = .ok (.getfield 39, 3)) (kk : V X E nL (pc + 3) lv (.ref (E.2.1 (81)) :: st) I) : V X E nL pc lv (.ref (E.2.1 (71)) :: st) I :=
  V_get hC (C := RX6) (T := TX6) (N := 18) (k := 16) (by decide) rfl rfl inTB_X6 (by decide) (tb_at 578 (by decide +kernel) (by decide +kernel)) rfl rfl hd kk
theorem gf_X6_117 {X : XT} {E : EN} {cc : ByteArray} {nL fr lo pc : Nat} {lv : List (Nat × Value)} {st : List Value} {I : Mem} (hC : Cx X E cc nL RX6 fr lo) (hd : decode cc pc = .ok (.getfield 117, 3)) (kk : V X E nL (pc + 3) lv (.int (I (71) 17) :: st) I) : V X E nL pc lv (.ref (E.2.1 (71)) :: st) I :=
  V_get hC (C := RX6) (T := TX6) (N := 18) (k := 17) (by decide) rfl rfl inTB_X6 (by decide) (tb_at 579 (by decide +kernel) (by decide +kernel)) rfl rfl hd kk
theorem pf_X6_117 {X : XT} {E : EN} {cc : ByteArray} {nL fr lo pc : Nat} {lv : List (Nat × Value)} {st : List Value} {I : Mem} {x : Int32} (hC : Cx X E cc nL RX6 fr lo) (hd : decode cc pc = .ok (.putfield 117, 3)) (kk : V X E nL (pc + 3) lv st (up2 I (71) 17 x)) : V X E nL pc lv (.int x :: .ref (E.2.1 (71)) :: st) I :=
  V_put hC (C := RX6) (T := TX6) (N := 18) (k := 17) tyX6 (ty := .int) (by decide) rfl rfl rfl inTB_X6 tyX6_ok nmX6 (by decide) (tb_at 579 (by decide +kernel) (by decide +kernel)) rfl rfl (by decide +kernel) rfl rfl (by simp) hd kk
theorem lk_L_13 : LkV RL 13 RX5 yX5_addMember cX5_addMember 2 (some .int) 1 := ⟨⟨tb_at 189 (by decide +kernel) (by decide +kernel), tb_at 190 (by decide +kernel) (by decide +kernel), tb_at 191 (by decide +kernel) (by decide +kernel), tb_at 1 (by decide +kernel) (by decide +kernel), tb_at 192 (by decide +kernel) (by decide +kernel)⟩, rfl, by decide +kernel, by decide +kernel, by decide +kernel⟩
theorem lk_X5_40 : LkS RX5 40 yX5_isWeight cX5_isWeight 1 (some .boolean) 1 := ⟨⟨tb_at 193 (by decide +kernel) (by decide +kernel), tb_at 194 (by decide +kernel) (by decide +kernel), tb_at 1 (by decide +kernel) (by decide +kernel), tb_at 195 (by decide +kernel) (by decide +kernel)⟩, by decide +kernel, by decide +kernel, by decide +kernel⟩
theorem lk_X5_48 : LkV RX5 48 RX5 yX5_beginAct cX5_beginAct 1 none 0 := ⟨⟨tb_at 196 (by decide +kernel) (by decide +kernel), tb_at 198 (by decide +kernel) (by decide +kernel), tb_sel 0 (by decide +kernel) (by decide +kernel), tb_at 1 (by decide +kernel) (by decide +kernel), tb_at 199 (by decide +kernel) (by decide +kernel)⟩, rfl, by decide +kernel, by decide +kernel, by decide +kernel⟩
theorem lk_X5_225 : LkV RX5 225 RX1 yX1_add cX1_add 2 none 1 := ⟨⟨tb_at 200 (by decide +kernel) (by decide +kernel), tb_at 201 (by decide +kernel) (by decide +kernel), tb_at 202 (by decide +kernel) (by decide +kernel), tb_at 4 (by decide +kernel) (by decide +kernel), tb_at 203 (by decide +kernel) (by decide +kernel)⟩, rfl, by decide +kernel, by decide +kernel, by decide +kernel⟩
theorem lk_X1_22 : LkV RX1 22 RX1 yX1_dropOldest cX1_dropOldest 3 none 0 := ⟨⟨tb_at 204 (by decide +kernel) (by decide +kernel), tb_at 206 (by decide +kernel) (by decide +kernel), tb_sel 1 (by decide +kernel) (by decide +kernel), tb_at 4 (by decide +kernel) (by decide +kernel), tb_at 207 (by decide +kernel) (by decide +kernel)⟩, rfl, by decide +kernel, by decide +kernel, by decide +kernel⟩
theorem lk_X1_25 : LkV RX1 25 RX3 yX3_copyFrom cX3_copyFrom 2 none 1 := ⟨⟨tb_at 208 (by decide +kernel) (by decide +kernel), tb_at 209 (by decide +kernel) (by decide +kernel), tb_at 210 (by decide +kernel) (by decide +kernel), tb_at 2 (by decide +kernel) (by decide +kernel), tb_at 211 (by decide +kernel) (by decide +kernel)⟩, rfl, by decide +kernel, by decide +kernel, by decide +kernel⟩
theorem lk_X3_44 : LkV RX3 44 RX0 yX0_copyFrom cX0_copyFrom 2 none 1 := ⟨⟨tb_at 215 (by decide +kernel) (by decide +kernel), tb_at 216 (by decide +kernel) (by decide +kernel), tb_at 217 (by decide +kernel) (by decide +kernel), tb_at 3 (by decide +kernel) (by decide +kernel), tb_at 218 (by decide +kernel) (by decide +kernel)⟩, rfl, by decide +kernel, by decide +kernel, by decide +kernel⟩
theorem lk_X5_51 : LkV RX5 51 RX3 yX3_append cX3_append 3 (some .int) 1 := ⟨⟨tb_at 220 (by decide +kernel) (by decide +kernel), tb_at 221 (by decide +kernel) (by decide +kernel), tb_at 222 (by decide +kernel) (by decide +kernel), tb_at 2 (by decide +kernel) (by decide +kernel), tb_at 223 (by decide +kernel) (by decide +kernel)⟩, rfl, by decide +kernel, by decide +kernel, by decide +kernel⟩
theorem lk_X3_48 : LkN RX3 48 "SwingWeights" yX5_bit cX5_bit 1 (some .int) 1 := ⟨⟨List.mem_of_getElem? (i := 23) (by decide +kernel), tb_at 225 (by decide +kernel) (by decide +kernel), tb_at 1 (by decide +kernel) (by decide +kernel), tb_at 226 (by decide +kernel) (by decide +kernel)⟩, by decide +kernel, by decide +kernel, by decide +kernel⟩
theorem lk_L_18 : LkV RL 18 RX5 yX5_removeMember cX5_removeMember 2 (some .int) 1 := ⟨⟨tb_at 227 (by decide +kernel) (by decide +kernel), tb_at 228 (by decide +kernel) (by decide +kernel), tb_at 229 (by decide +kernel) (by decide +kernel), tb_at 1 (by decide +kernel) (by decide +kernel), tb_at 230 (by decide +kernel) (by decide +kernel)⟩, rfl, by decide +kernel, by decide +kernel, by decide +kernel⟩
theorem lk_X5_55 : LkV RX5 55 RX3 yX3_has cX3_has 2 (some .boolean) 1 := ⟨⟨tb_at 231 (by decide +kernel) (by decide +kernel), tb_at 232 (by decide +kernel) (by decide +kernel), tb_at 233 (by decide +kernel) (by decide +kernel), tb_at 2 (by decide +kernel) (by decide +kernel), tb_at 234 (by decide +kernel) (by decide +kernel)⟩, rfl, by decide +kernel, by decide +kernel, by decide +kernel⟩
theorem lk_X5_58 : LkV RX5 58 RX3 yX3_drop cX3_drop 3 none 1 := ⟨⟨tb_at 235 (by decide +kernel) (by decide +kernel), tb_at 236 (by decide +kernel) (by decide +kernel), tb_at 237 (by decide +kernel) (by decide +kernel), tb_at 2 (by decide +kernel) (by decide +kernel), tb_at 238 (by decide +kernel) (by decide +kernel)⟩, rfl, by decide +kernel, by decide +kernel, by decide +kernel⟩
theorem lk_X3_52 : LkS RX3 52 yX3_closeUp cX3_closeUp 3 (some .int) 2 := ⟨⟨tb_at 239 (by decide +kernel) (by decide +kernel), tb_at 240 (by decide +kernel) (by decide +kernel), tb_at 2 (by decide +kernel) (by decide +kernel), tb_at 241 (by decide +kernel) (by decide +kernel)⟩, by decide +kernel, by decide +kernel, by decide +kernel⟩
theorem lk_L_22 : LkV RL 22 RX5 yX5_setWeight cX5_setWeight 4 (some .int) 2 := ⟨⟨tb_at 242 (by decide +kernel) (by decide +kernel), tb_at 243 (by decide +kernel) (by decide +kernel), tb_at 244 (by decide +kernel) (by decide +kernel), tb_at 1 (by decide +kernel) (by decide +kernel), tb_at 245 (by decide +kernel) (by decide +kernel)⟩, rfl, by decide +kernel, by decide +kernel, by decide +kernel⟩
theorem lk_L_27 : LkV RL 27 RX5 yX5_setVeto cX5_setVeto 4 (some .int) 2 := ⟨⟨tb_at 246 (by decide +kernel) (by decide +kernel), tb_at 247 (by decide +kernel) (by decide +kernel), tb_at 248 (by decide +kernel) (by decide +kernel), tb_at 1 (by decide +kernel) (by decide +kernel), tb_at 249 (by decide +kernel) (by decide +kernel)⟩, rfl, by decide +kernel, by decide +kernel, by decide +kernel⟩
theorem lk_X5_69 : LkS RX5 69 yX5_bit cX5_bit 1 (some .int) 1 := ⟨⟨tb_at 250 (by decide +kernel) (by decide +kernel), tb_at 225 (by decide +kernel) (by decide +kernel), tb_at 1 (by decide +kernel) (by decide +kernel), tb_at 226 (by decide +kernel) (by decide +kernel)⟩, by decide +kernel, by decide +kernel, by decide +kernel⟩
theorem lk_X5_72 : LkS RX5 72 yJ6_bitCount_0f7a4 cJ6_bitCount_0f7a4 1 (some .int) 1 := ⟨⟨tb_at 251 (by decide +kernel) (by decide +kernel), tb_at 252 (by decide +kernel) (by decide +kernel), tb_at 9 (by decide +kernel) (by decide +kernel), tb_at 253 (by decide +kernel) (by decide +kernel)⟩, by decide +kernel, by decide +kernel, by decide +kernel⟩
theorem lk_L_32 : LkV RL 32 RX5 yX5_setQuota cX5_setQuota 3 (some .int) 1 := ⟨⟨tb_at 257 (by decide +kernel) (by decide +kernel), tb_at 258 (by decide +kernel) (by decide +kernel), tb_at 259 (by decide +kernel) (by decide +kernel), tb_at 1 (by decide +kernel) (by decide +kernel), tb_at 260 (by decide +kernel) (by decide +kernel)⟩, rfl, by decide +kernel, by decide +kernel, by decide +kernel⟩
theorem lk_X5_77 : LkS RX5 77 yX5_isQuota cX5_isQuota 1 (some .boolean) 1 := ⟨⟨tb_at 261 (by decide +kernel) (by decide +kernel), tb_at 262 (by decide +kernel) (by decide +kernel), tb_at 1 (by decide +kernel) (by decide +kernel), tb_at 263 (by decide +kernel) (by decide +kernel)⟩, by decide +kernel, by decide +kernel, by decide +kernel⟩
theorem lk_L_36 : LkV RL 36 RX5 yX5_join cX5_join 4 (some .int) 2 := ⟨⟨tb_at 264 (by decide +kernel) (by decide +kernel), tb_at 265 (by decide +kernel) (by decide +kernel), tb_at 266 (by decide +kernel) (by decide +kernel), tb_at 1 (by decide +kernel) (by decide +kernel), tb_at 267 (by decide +kernel) (by decide +kernel)⟩, rfl, by decide +kernel, by decide +kernel, by decide +kernel⟩
theorem lk_X5_86 : LkS RX5 86 yX5_holds cX5_holds 2 (some .boolean) 2 := ⟨⟨tb_at 268 (by decide +kernel) (by decide +kernel), tb_at 269 (by decide +kernel) (by decide +kernel), tb_at 1 (by decide +kernel) (by decide +kernel), tb_at 270 (by decide +kernel) (by decide +kernel)⟩, by decide +kernel, by decide +kernel, by decide +kernel⟩
theorem lk_X5_90 : LkV RX5 90 RX3 yX3_makeBloc cX3_makeBloc 3 none 1 := ⟨⟨tb_at 271 (by decide +kernel) (by decide +kernel), tb_at 272 (by decide +kernel) (by decide +kernel), tb_at 273 (by decide +kernel) (by decide +kernel), tb_at 2 (by decide +kernel) (by decide +kernel), tb_at 274 (by decide +kernel) (by decide +kernel)⟩, rfl, by decide +kernel, by decide +kernel, by decide +kernel⟩
theorem lk_X3_56 : LkN RX3 56 "SwingWeights" yX5_holds cX5_holds 2 (some .boolean) 2 := ⟨⟨List.mem_of_getElem? (i := 24) (by decide +kernel), tb_at 269 (by decide +kernel) (by decide +kernel), tb_at 1 (by decide +kernel) (by decide +kernel), tb_at 270 (by decide +kernel) (by decide +kernel)⟩, by decide +kernel, by decide +kernel, by decide +kernel⟩
theorem lk_L_40 : LkV RL 40 RX5 yX5_leave cX5_leave 3 (some .int) 1 := ⟨⟨tb_at 276 (by decide +kernel) (by decide +kernel), tb_at 277 (by decide +kernel) (by decide +kernel), tb_at 278 (by decide +kernel) (by decide +kernel), tb_at 1 (by decide +kernel) (by decide +kernel), tb_at 279 (by decide +kernel) (by decide +kernel)⟩, rfl, by decide +kernel, by decide +kernel, by decide +kernel⟩
theorem lk_L_44 : LkV RL 44 RX5 yX5_type cX5_type 2 (some .int) 1 := ⟨⟨tb_at 280 (by decide +kernel) (by decide +kernel), tb_at 281 (by decide +kernel) (by decide +kernel), tb_at 282 (by decide +kernel) (by decide +kernel), tb_at 1 (by decide +kernel) (by decide +kernel), tb_at 283 (by decide +kernel) (by decide +kernel)⟩, rfl, by decide +kernel, by decide +kernel, by decide +kernel⟩
theorem lk_X5_96 : LkV RX5 96 RX4 yX4_append cX4_append 2 none 1 := ⟨⟨tb_at 284 (by decide +kernel) (by decide +kernel), tb_at 285 (by decide +kernel) (by decide +kernel), tb_at 286 (by decide +kernel) (by decide +kernel), tb_at 5 (by decide +kernel) (by decide +kernel), tb_at 287 (by decide +kernel) (by decide +kernel)⟩, rfl, by decide +kernel, by decide +kernel, by decide +kernel⟩
theorem lk_L_49 : LkV RL 49 RX5 yX5_clearText cX5_clearText 2 (some .int) 0 := ⟨⟨tb_at 288 (by decide +kernel) (by decide +kernel), tb_at 289 (by decide +kernel) (by decide +kernel), tb_at 290 (by decide +kernel) (by decide +kernel), tb_at 1 (by decide +kernel) (by decide +kernel), tb_at 291 (by decide +kernel) (by decide +kernel)⟩, rfl, by decide +kernel, by decide +kernel, by decide +kernel⟩
theorem lk_L_54 : LkV RL 54 RX5 yX5_vote cX5_vote 4 (some .int) 0 := ⟨⟨tb_at 292 (by decide +kernel) (by decide +kernel), tb_at 293 (by decide +kernel) (by decide +kernel), tb_at 294 (by decide +kernel) (by decide +kernel), tb_at 1 (by decide +kernel) (by decide +kernel), tb_at 295 (by decide +kernel) (by decide +kernel)⟩, rfl, by decide +kernel, by decide +kernel, by decide +kernel⟩
theorem lk_X5_99 : LkV RX5 99 RX4 yX4_fault cX4_fault 5 (some .int) 1 := ⟨⟨tb_at 296 (by decide +kernel) (by decide +kernel), tb_at 297 (by decide +kernel) (by decide +kernel), tb_at 298 (by decide +kernel) (by decide +kernel), tb_at 5 (by decide +kernel) (by decide +kernel), tb_at 299 (by decide +kernel) (by decide +kernel)⟩, rfl, by decide +kernel, by decide +kernel, by decide +kernel⟩
theorem lk_X4_19 : LkS RX4 19 yX4_isSign cX4_isSign 1 (some .boolean) 1 := ⟨⟨tb_at 300 (by decide +kernel) (by decide +kernel), tb_at 301 (by decide +kernel) (by decide +kernel), tb_at 5 (by decide +kernel) (by decide +kernel), tb_at 302 (by decide +kernel) (by decide +kernel)⟩, by decide +kernel, by decide +kernel, by decide +kernel⟩
theorem lk_X5_111 : LkV RX5 111 RX3 yX3_hold cX3_hold 7 none 2 := ⟨⟨tb_at 303 (by decide +kernel) (by decide +kernel), tb_at 304 (by decide +kernel) (by decide +kernel), tb_at 305 (by decide +kernel) (by decide +kernel), tb_at 2 (by decide +kernel) (by decide +kernel), tb_at 306 (by decide +kernel) (by decide +kernel)⟩, rfl, by decide +kernel, by decide +kernel, by decide +kernel⟩
theorem lk_X3_70 : LkV RX3 70 RX3 yX3_leaderOf cX3_leaderOf 4 (some .int) 1 := ⟨⟨tb_at 307 (by decide +kernel) (by decide +kernel), tb_at 308 (by decide +kernel) (by decide +kernel), tb_at 309 (by decide +kernel) (by decide +kernel), tb_at 2 (by decide +kernel) (by decide +kernel), tb_at 310 (by decide +kernel) (by decide +kernel)⟩, rfl, by decide +kernel, by decide +kernel, by decide +kernel⟩
theorem lk_X3_60 : LkV RX3 60 RX3 yX3_lowestBeside cX3_lowestBeside 3 (some .int) 1 := ⟨⟨tb_at 311 (by decide +kernel) (by decide +kernel), tb_at 312 (by decide +kernel) (by decide +kernel), tb_at 313 (by decide +kernel) (by decide +kernel), tb_at 2 (by decide +kernel) (by decide +kernel), tb_at 314 (by decide +kernel) (by decide +kernel)⟩, rfl, by decide +kernel, by decide +kernel, by decide +kernel⟩
theorem lk_X3_73 : LkV RX3 73 RX4 yX4_at cX4_at 2 (some .char) 1 := ⟨⟨tb_at 315 (by decide +kernel) (by decide +kernel), tb_at 316 (by decide +kernel) (by decide +kernel), tb_at 317 (by decide +kernel) (by decide +kernel), tb_at 5 (by decide +kernel) (by decide +kernel), tb_at 318 (by decide +kernel) (by decide +kernel)⟩, rfl, by decide +kernel, by decide +kernel, by decide +kernel⟩
theorem lk_X3_79 : LkV RX3 79 RX3 yX3_isWinning cX3_isWinning 2 (some .boolean) 1 := ⟨⟨tb_at 319 (by decide +kernel) (by decide +kernel), tb_at 320 (by decide +kernel) (by decide +kernel), tb_at 321 (by decide +kernel) (by decide +kernel), tb_at 2 (by decide +kernel) (by decide +kernel), tb_at 322 (by decide +kernel) (by decide +kernel)⟩, rfl, by decide +kernel, by decide +kernel, by decide +kernel⟩
theorem lk_X3_67 : LkV RX3 67 RX3 yX3_weightOf cX3_weightOf 4 (some .int) 1 := ⟨⟨tb_at 323 (by decide +kernel) (by decide +kernel), tb_at 324 (by decide +kernel) (by decide +kernel), tb_at 325 (by decide +kernel) (by decide +kernel), tb_at 2 (by decide +kernel) (by decide +kernel), tb_at 326 (by decide +kernel) (by decide +kernel)⟩, rfl, by decide +kernel, by decide +kernel, by decide +kernel⟩
theorem lk_X3_82 : LkV RX3 82 RX3 yX3_tellSwings cX3_tellSwings 4 none 2 := ⟨⟨tb_at 327 (by decide +kernel) (by decide +kernel), tb_at 329 (by decide +kernel) (by decide +kernel), tb_sel 2 (by decide +kernel) (by decide +kernel), tb_at 2 (by decide +kernel) (by decide +kernel), tb_at 330 (by decide +kernel) (by decide +kernel)⟩, rfl, by decide +kernel, by decide +kernel, by decide +kernel⟩
theorem lk_X3_86 : LkV RX3 86 RX0 yX0_add cX0_add 4 none 3 := ⟨⟨tb_at 331 (by decide +kernel) (by decide +kernel), tb_at 332 (by decide +kernel) (by decide +kernel), tb_at 333 (by decide +kernel) (by decide +kernel), tb_at 3 (by decide +kernel) (by decide +kernel), tb_at 334 (by decide +kernel) (by decide +kernel)⟩, rfl, by decide +kernel, by decide +kernel, by decide +kernel⟩
theorem lk_X0_34 : LkN RX0 34 "SwingWeights" yX5_oneIf cX5_oneIf 1 (some .int) 1 := ⟨⟨List.mem_of_getElem? (i := 25) (by decide +kernel), tb_at 336 (by decide +kernel) (by decide +kernel), tb_at 1 (by decide +kernel) (by decide +kernel), tb_at 337 (by decide +kernel) (by decide +kernel)⟩, by decide +kernel, by decide +kernel, by decide +kernel⟩
theorem lk_X0_38 : LkS RX0 38 yX0_putFirst cX0_putFirst 3 none 2 := ⟨⟨tb_at 338 (by decide +kernel) (by decide +kernel), tb_at 339 (by decide +kernel) (by decide +kernel), tb_at 3 (by decide +kernel) (by decide +kernel), tb_at 340 (by decide +kernel) (by decide +kernel)⟩, by decide +kernel, by decide +kernel, by decide +kernel⟩
theorem lk_L_58 : LkV RL 58 RX5 yX5_undo cX5_undo 1 (some .int) 0 := ⟨⟨tb_at 341 (by decide +kernel) (by decide +kernel), tb_at 342 (by decide +kernel) (by decide +kernel), tb_at 343 (by decide +kernel) (by decide +kernel), tb_at 1 (by decide +kernel) (by decide +kernel), tb_at 344 (by decide +kernel) (by decide +kernel)⟩, rfl, by decide +kernel, by decide +kernel, by decide +kernel⟩
theorem lk_X5_118 : LkV RX5 118 RX1 yX1_takeLatest cX1_takeLatest 2 none 1 := ⟨⟨tb_at 345 (by decide +kernel) (by decide +kernel), tb_at 346 (by decide +kernel) (by decide +kernel), tb_at 347 (by decide +kernel) (by decide +kernel), tb_at 4 (by decide +kernel) (by decide +kernel), tb_at 348 (by decide +kernel) (by decide +kernel)⟩, rfl, by decide +kernel, by decide +kernel, by decide +kernel⟩
theorem lk_L_62 : LkV RL 62 RX5 yX5_keep cX5_keep 1 (some .int) 0 := ⟨⟨tb_at 349 (by decide +kernel) (by decide +kernel), tb_at 350 (by decide +kernel) (by decide +kernel), tb_at 351 (by decide +kernel) (by decide +kernel), tb_at 1 (by decide +kernel) (by decide +kernel), tb_at 352 (by decide +kernel) (by decide +kernel)⟩, rfl, by decide +kernel, by decide +kernel, by decide +kernel⟩
theorem lk_X5_126 : LkV RX5 126 RX3 yX3_copyFrom cX3_copyFrom 2 none 1 := ⟨⟨tb_at 353 (by decide +kernel) (by decide +kernel), tb_at 209 (by decide +kernel) (by decide +kernel), tb_at 210 (by decide +kernel) (by decide +kernel), tb_at 2 (by decide +kernel) (by decide +kernel), tb_at 211 (by decide +kernel) (by decide +kernel)⟩, rfl, by decide +kernel, by decide +kernel, by decide +kernel⟩
theorem lk_L_66 : LkV RL 66 RX5 yX5_restore cX5_restore 1 (some .int) 0 := ⟨⟨tb_at 354 (by decide +kernel) (by decide +kernel), tb_at 355 (by decide +kernel) (by decide +kernel), tb_at 356 (by decide +kernel) (by decide +kernel), tb_at 1 (by decide +kernel) (by decide +kernel), tb_at 357 (by decide +kernel) (by decide +kernel)⟩, rfl, by decide +kernel, by decide +kernel, by decide +kernel⟩
theorem lk_L_70 : LkV RL 70 RX5 yX5_member cX5_member 3 (some .int) 2 := ⟨⟨tb_at 358 (by decide +kernel) (by decide +kernel), tb_at 359 (by decide +kernel) (by decide +kernel), tb_at 360 (by decide +kernel) (by decide +kernel), tb_at 1 (by decide +kernel) (by decide +kernel), tb_at 361 (by decide +kernel) (by decide +kernel)⟩, rfl, by decide +kernel, by decide +kernel, by decide +kernel⟩
theorem lk_X5_132 : LkS RX5 132 yX5_oneIf cX5_oneIf 1 (some .int) 1 := ⟨⟨tb_at 362 (by decide +kernel) (by decide +kernel), tb_at 336 (by decide +kernel) (by decide +kernel), tb_at 1 (by decide +kernel) (by decide +kernel), tb_at 337 (by decide +kernel) (by decide +kernel)⟩, by decide +kernel, by decide +kernel, by decide +kernel⟩
theorem lk_X5_136 : LkV RX5 136 RX3 yX3_lowestBeside cX3_lowestBeside 3 (some .int) 1 := ⟨⟨tb_at 363 (by decide +kernel) (by decide +kernel), tb_at 312 (by decide +kernel) (by decide +kernel), tb_at 313 (by decide +kernel) (by decide +kernel), tb_at 2 (by decide +kernel) (by decide +kernel), tb_at 314 (by decide +kernel) (by decide +kernel)⟩, rfl, by decide +kernel, by decide +kernel, by decide +kernel⟩
theorem lk_X5_139 : LkV RX5 139 RX3 yX3_weightOf cX3_weightOf 4 (some .int) 1 := ⟨⟨tb_at 364 (by decide +kernel) (by decide +kernel), tb_at 324 (by decide +kernel) (by decide +kernel), tb_at 325 (by decide +kernel) (by decide +kernel), tb_at 2 (by decide +kernel) (by decide +kernel), tb_at 326 (by decide +kernel) (by decide +kernel)⟩, rfl, by decide +kernel, by decide +kernel, by decide +kernel⟩
theorem lk_X5_142 : LkV RX5 142 RX3 yX3_leaderOf cX3_leaderOf 4 (some .int) 1 := ⟨⟨tb_at 365 (by decide +kernel) (by decide +kernel), tb_at 308 (by decide +kernel) (by decide +kernel), tb_at 309 (by decide +kernel) (by decide +kernel), tb_at 2 (by decide +kernel) (by decide +kernel), tb_at 310 (by decide +kernel) (by decide +kernel)⟩, rfl, by decide +kernel, by decide +kernel, by decide +kernel⟩
theorem lk_X5_145 : LkV RX5 145 RX5 yX5_currentPower cX5_currentPower 1 (some (.object "SwingWeights$Power")) 0 := ⟨⟨tb_at 366 (by decide +kernel) (by decide +kernel), tb_at 368 (by decide +kernel) (by decide +kernel), tb_sel 3 (by decide +kernel) (by decide +kernel), tb_at 1 (by decide +kernel) (by decide +kernel), tb_at 369 (by decide +kernel) (by decide +kernel)⟩, rfl, by decide +kernel, by decide +kernel, by decide +kernel⟩
theorem lk_X5_228 : LkV RX5 228 RX2 yX2_workOut cX2_workOut 3 none 1 := ⟨⟨tb_at 370 (by decide +kernel) (by decide +kernel), tb_at 371 (by decide +kernel) (by decide +kernel), tb_at 372 (by decide +kernel) (by decide +kernel), tb_at 6 (by decide +kernel) (by decide +kernel), tb_at 373 (by decide +kernel) (by decide +kernel)⟩, rfl, by decide +kernel, by decide +kernel, by decide +kernel⟩
theorem lk_X2_51 : LkV RX2 51 RX3 yX3_weightOf cX3_weightOf 4 (some .int) 1 := ⟨⟨tb_at 374 (by decide +kernel) (by decide +kernel), tb_at 324 (by decide +kernel) (by decide +kernel), tb_at 325 (by decide +kernel) (by decide +kernel), tb_at 2 (by decide +kernel) (by decide +kernel), tb_at 326 (by decide +kernel) (by decide +kernel)⟩, rfl, by decide +kernel, by decide +kernel, by decide +kernel⟩
theorem lk_X2_55 : LkV RX2 55 RX3 yX3_isLowest cX3_isLowest 2 (some .boolean) 1 := ⟨⟨tb_at 375 (by decide +kernel) (by decide +kernel), tb_at 376 (by decide +kernel) (by decide +kernel), tb_at 377 (by decide +kernel) (by decide +kernel), tb_at 2 (by decide +kernel) (by decide +kernel), tb_at 378 (by decide +kernel) (by decide +kernel)⟩, rfl, by decide +kernel, by decide +kernel, by decide +kernel⟩
theorem lk_X2_59 : LkN RX2 59 "SwingWeights" yX5_bit cX5_bit 1 (some .int) 1 := ⟨⟨List.mem_of_getElem? (i := 26) (by decide +kernel), tb_at 225 (by decide +kernel) (by decide +kernel), tb_at 1 (by decide +kernel) (by decide +kernel), tb_at 226 (by decide +kernel) (by decide +kernel)⟩, by decide +kernel, by decide +kernel, by decide +kernel⟩
theorem lk_X2_62 : LkS RX2 62 yJ6_bitCount_0f7a4 cJ6_bitCount_0f7a4 1 (some .int) 1 := ⟨⟨tb_at 380 (by decide +kernel) (by decide +kernel), tb_at 252 (by decide +kernel) (by decide +kernel), tb_at 9 (by decide +kernel) (by decide +kernel), tb_at 253 (by decide +kernel) (by decide +kernel)⟩, by decide +kernel, by decide +kernel, by decide +kernel⟩
theorem lk_X2_70 : LkV RX2 70 RX2 yX2_listCoalitions cX2_listCoalitions 2 none 0 := ⟨⟨tb_at 381 (by decide +kernel) (by decide +kernel), tb_at 383 (by decide +kernel) (by decide +kernel), tb_sel 4 (by decide +kernel) (by decide +kernel), tb_at 6 (by decide +kernel) (by decide +kernel), tb_at 384 (by decide +kernel) (by decide +kernel)⟩, rfl, by decide +kernel, by decide +kernel, by decide +kernel⟩
theorem lk_X2_82 : LkN RX2 82 "SwingWeights" yX5_holds cX5_holds 2 (some .boolean) 2 := ⟨⟨List.mem_of_getElem? (i := 27) (by decide +kernel), tb_at 269 (by decide +kernel) (by decide +kernel), tb_at 1 (by decide +kernel) (by decide +kernel), tb_at 270 (by decide +kernel) (by decide +kernel)⟩, by decide +kernel, by decide +kernel, by decide +kernel⟩
theorem lk_X2_86 : LkV RX2 86 RX2 yX2_repeatCoalitionsWith cX2_repeatCoalitionsWith 4 none 1 := ⟨⟨tb_at 386 (by decide +kernel) (by decide +kernel), tb_at 388 (by decide +kernel) (by decide +kernel), tb_sel 5 (by decide +kernel) (by decide +kernel), tb_at 6 (by decide +kernel) (by decide +kernel), tb_at 389 (by decide +kernel) (by decide +kernel)⟩, rfl, by decide +kernel, by decide +kernel, by decide +kernel⟩
theorem lk_X2_73 : LkV RX2 73 RX2 yX2_countWinning cX2_countWinning 3 none 0 := ⟨⟨tb_at 390 (by decide +kernel) (by decide +kernel), tb_at 392 (by decide +kernel) (by decide +kernel), tb_sel 6 (by decide +kernel) (by decide +kernel), tb_at 6 (by decide +kernel) (by decide +kernel), tb_at 393 (by decide +kernel) (by decide +kernel)⟩, rfl, by decide +kernel, by decide +kernel, by decide +kernel⟩
theorem lk_X2_90 : LkS RX2 90 yJ7_fill_53178 cJ7_fill_53178 4 none 2 := ⟨⟨tb_at 394 (by decide +kernel) (by decide +kernel), tb_at 395 (by decide +kernel) (by decide +kernel), tb_at 10 (by decide +kernel) (by decide +kernel), tb_at 396 (by decide +kernel) (by decide +kernel)⟩, by decide +kernel, by decide +kernel, by decide +kernel⟩
theorem lk_X2_96 : LkV RX2 96 RX2 yX2_hasAllVetoes cX2_hasAllVetoes 2 (some .boolean) 1 := ⟨⟨tb_at 397 (by decide +kernel) (by decide +kernel), tb_at 399 (by decide +kernel) (by decide +kernel), tb_sel 7 (by decide +kernel) (by decide +kernel), tb_at 6 (by decide +kernel) (by decide +kernel), tb_at 400 (by decide +kernel) (by decide +kernel)⟩, rfl, by decide +kernel, by decide +kernel, by decide +kernel⟩
theorem lk_X2_99 : LkV RX2 99 RX2 yX2_countAtWeight cX2_countAtWeight 4 none 2 := ⟨⟨tb_at 401 (by decide +kernel) (by decide +kernel), tb_at 403 (by decide +kernel) (by decide +kernel), tb_sel 8 (by decide +kernel) (by decide +kernel), tb_at 6 (by decide +kernel) (by decide +kernel), tb_at 404 (by decide +kernel) (by decide +kernel)⟩, rfl, by decide +kernel, by decide +kernel, by decide +kernel⟩
theorem lk_X5_149 : LkV RX5 149 RX2 yX2_swings cX2_swings 5 (some .int) 2 := ⟨⟨tb_at 405 (by decide +kernel) (by decide +kernel), tb_at 406 (by decide +kernel) (by decide +kernel), tb_at 407 (by decide +kernel) (by decide +kernel), tb_at 6 (by decide +kernel) (by decide +kernel), tb_at 408 (by decide +kernel) (by decide +kernel)⟩, rfl, by decide +kernel, by decide +kernel, by decide +kernel⟩
theorem lk_X5_153 : LkV RX5 153 RX2 yX2_orders cX2_orders 5 (some .int) 1 := ⟨⟨tb_at 409 (by decide +kernel) (by decide +kernel), tb_at 410 (by decide +kernel) (by decide +kernel), tb_at 411 (by decide +kernel) (by decide +kernel), tb_at 6 (by decide +kernel) (by decide +kernel), tb_at 412 (by decide +kernel) (by decide +kernel)⟩, rfl, by decide +kernel, by decide +kernel, by decide +kernel⟩
theorem lk_X2_116 : LkV RX2 116 RX2 yX2_hasSwing cX2_hasSwing 5 (some .boolean) 2 := ⟨⟨tb_at 413 (by decide +kernel) (by decide +kernel), tb_at 415 (by decide +kernel) (by decide +kernel), tb_sel 9 (by decide +kernel) (by decide +kernel), tb_at 6 (by decide +kernel) (by decide +kernel), tb_at 416 (by decide +kernel) (by decide +kernel)⟩, rfl, by decide +kernel, by decide +kernel, by decide +kernel⟩
theorem lk_X2_107 : LkV RX2 107 RX2 yX2_isWinning cX2_isWinning 3 (some .boolean) 2 := ⟨⟨tb_at 417 (by decide +kernel) (by decide +kernel), tb_at 419 (by decide +kernel) (by decide +kernel), tb_sel 10 (by decide +kernel) (by decide +kernel), tb_at 6 (by decide +kernel) (by decide +kernel), tb_at 420 (by decide +kernel) (by decide +kernel)⟩, rfl, by decide +kernel, by decide +kernel, by decide +kernel⟩
theorem lk_X2_119 : LkN RX2 119 "SwingWeights" yX5_factorial cX5_factorial 1 (some .int) 1 := ⟨⟨List.mem_of_getElem? (i := 28) (by decide +kernel), tb_at 422 (by decide +kernel) (by decide +kernel), tb_at 1 (by decide +kernel) (by decide +kernel), tb_at 423 (by decide +kernel) (by decide +kernel)⟩, by decide +kernel, by decide +kernel, by decide +kernel⟩
theorem lk_X5_156 : LkV RX5 156 RX2 yX2_isDummy cX2_isDummy 3 (some .boolean) 2 := ⟨⟨tb_at 426 (by decide +kernel) (by decide +kernel), tb_at 427 (by decide +kernel) (by decide +kernel), tb_at 428 (by decide +kernel) (by decide +kernel), tb_at 6 (by decide +kernel) (by decide +kernel), tb_at 429 (by decide +kernel) (by decide +kernel)⟩, rfl, by decide +kernel, by decide +kernel, by decide +kernel⟩
theorem lk_X2_103 : LkV RX2 103 RX2 yX2_swings cX2_swings 5 (some .int) 2 := ⟨⟨tb_at 430 (by decide +kernel) (by decide +kernel), tb_at 406 (by decide +kernel) (by decide +kernel), tb_at 407 (by decide +kernel) (by decide +kernel), tb_at 6 (by decide +kernel) (by decide +kernel), tb_at 408 (by decide +kernel) (by decide +kernel)⟩, rfl, by decide +kernel, by decide +kernel, by decide +kernel⟩
theorem lk_X5_159 : LkV RX5 159 RX2 yX2_isBlocker cX2_isBlocker 3 (some .boolean) 2 := ⟨⟨tb_at 431 (by decide +kernel) (by decide +kernel), tb_at 432 (by decide +kernel) (by decide +kernel), tb_at 433 (by decide +kernel) (by decide +kernel), tb_at 6 (by decide +kernel) (by decide +kernel), tb_at 434 (by decide +kernel) (by decide +kernel)⟩, rfl, by decide +kernel, by decide +kernel, by decide +kernel⟩
theorem lk_X5_162 : LkV RX5 162 RX2 yX2_isDictator cX2_isDictator 3 (some .boolean) 1 := ⟨⟨tb_at 435 (by decide +kernel) (by decide +kernel), tb_at 436 (by decide +kernel) (by decide +kernel), tb_at 437 (by decide +kernel) (by decide +kernel), tb_at 6 (by decide +kernel) (by decide +kernel), tb_at 438 (by decide +kernel) (by decide +kernel)⟩, rfl, by decide +kernel, by decide +kernel, by decide +kernel⟩
theorem lk_X2_110 : LkV RX2 110 RX2 yX2_isDummy cX2_isDummy 3 (some .boolean) 2 := ⟨⟨tb_at 439 (by decide +kernel) (by decide +kernel), tb_at 427 (by decide +kernel) (by decide +kernel), tb_at 428 (by decide +kernel) (by decide +kernel), tb_at 6 (by decide +kernel) (by decide +kernel), tb_at 429 (by decide +kernel) (by decide +kernel)⟩, rfl, by decide +kernel, by decide +kernel, by decide +kernel⟩
theorem lk_X5_165 : LkV RX5 165 RX5 yX5_rankOf cX5_rankOf 5 (some .int) 2 := ⟨⟨tb_at 440 (by decide +kernel) (by decide +kernel), tb_at 442 (by decide +kernel) (by decide +kernel), tb_sel 11 (by decide +kernel) (by decide +kernel), tb_at 1 (by decide +kernel) (by decide +kernel), tb_at 443 (by decide +kernel) (by decide +kernel)⟩, rfl, by decide +kernel, by decide +kernel, by decide +kernel⟩
theorem lk_X5_231 : LkV RX5 231 RX5 yX5_isAhead cX5_isAhead 6 (some .boolean) 3 := ⟨⟨tb_at 444 (by decide +kernel) (by decide +kernel), tb_at 446 (by decide +kernel) (by decide +kernel), tb_sel 12 (by decide +kernel) (by decide +kernel), tb_at 1 (by decide +kernel) (by decide +kernel), tb_at 447 (by decide +kernel) (by decide +kernel)⟩, rfl, by decide +kernel, by decide +kernel, by decide +kernel⟩
theorem lk_X5_235 : LkS RX5 235 yJ6_compare_7cf53 cJ6_compare_7cf53 2 (some .int) 2 := ⟨⟨tb_at 448 (by decide +kernel) (by decide +kernel), tb_at 449 (by decide +kernel) (by decide +kernel), tb_at 9 (by decide +kernel) (by decide +kernel), tb_at 450 (by decide +kernel) (by decide +kernel)⟩, by decide +kernel, by decide +kernel, by decide +kernel⟩
theorem lk_L_74 : LkV RL 74 RX5 yX5_share cX5_share 8 (some .int) 2 := ⟨⟨tb_at 451 (by decide +kernel) (by decide +kernel), tb_at 452 (by decide +kernel) (by decide +kernel), tb_at 453 (by decide +kernel) (by decide +kernel), tb_at 1 (by decide +kernel) (by decide +kernel), tb_at 454 (by decide +kernel) (by decide +kernel)⟩, rfl, by decide +kernel, by decide +kernel, by decide +kernel⟩
theorem lk_X5_172 : LkV RX5 172 RX2 yX2_winningCoalitions cX2_winningCoalitions 2 (some .int) 1 := ⟨⟨tb_at 455 (by decide +kernel) (by decide +kernel), tb_at 456 (by decide +kernel) (by decide +kernel), tb_at 457 (by decide +kernel) (by decide +kernel), tb_at 6 (by decide +kernel) (by decide +kernel), tb_at 458 (by decide +kernel) (by decide +kernel)⟩, rfl, by decide +kernel, by decide +kernel, by decide +kernel⟩
theorem lk_X5_175 : LkV RX5 175 RX2 yX2_swingsOfAll cX2_swingsOfAll 4 (some .int) 1 := ⟨⟨tb_at 459 (by decide +kernel) (by decide +kernel), tb_at 460 (by decide +kernel) (by decide +kernel), tb_at 461 (by decide +kernel) (by decide +kernel), tb_at 6 (by decide +kernel) (by decide +kernel), tb_at 462 (by decide +kernel) (by decide +kernel)⟩, rfl, by decide +kernel, by decide +kernel, by decide +kernel⟩
theorem lk_X5_178 : LkV RX5 178 RX3 yX3_blocCount cX3_blocCount 3 (some .int) 0 := ⟨⟨tb_at 463 (by decide +kernel) (by decide +kernel), tb_at 464 (by decide +kernel) (by decide +kernel), tb_at 465 (by decide +kernel) (by decide +kernel), tb_at 2 (by decide +kernel) (by decide +kernel), tb_at 466 (by decide +kernel) (by decide +kernel)⟩, rfl, by decide +kernel, by decide +kernel, by decide +kernel⟩
theorem lk_X3_63 : LkV RX3 63 RX3 yX3_isLowest cX3_isLowest 2 (some .boolean) 1 := ⟨⟨tb_at 467 (by decide +kernel) (by decide +kernel), tb_at 376 (by decide +kernel) (by decide +kernel), tb_at 377 (by decide +kernel) (by decide +kernel), tb_at 2 (by decide +kernel) (by decide +kernel), tb_at 378 (by decide +kernel) (by decide +kernel)⟩, rfl, by decide +kernel, by decide +kernel, by decide +kernel⟩
theorem lk_X5_182 : LkS RX5 182 yX5_factorial cX5_factorial 1 (some .int) 1 := ⟨⟨tb_at 468 (by decide +kernel) (by decide +kernel), tb_at 422 (by decide +kernel) (by decide +kernel), tb_at 1 (by decide +kernel) (by decide +kernel), tb_at 423 (by decide +kernel) (by decide +kernel)⟩, by decide +kernel, by decide +kernel, by decide +kernel⟩
theorem lk_X5_185 : LkS RX5 185 yX5_greatestDivisor cX5_greatestDivisor 6 (some .int) 2 := ⟨⟨tb_at 469 (by decide +kernel) (by decide +kernel), tb_at 470 (by decide +kernel) (by decide +kernel), tb_at 1 (by decide +kernel) (by decide +kernel), tb_at 471 (by decide +kernel) (by decide +kernel)⟩, by decide +kernel, by decide +kernel, by decide +kernel⟩
theorem lk_X5_241 : (Cond.methodLink RX5 241 Lib.Math.max.name ∈ TB ∧ Cond.static Lib.Math.max.name ∈ TB) ∧ (Cond.initialized "java/lang/Math" ∈ TB ∧ Cond.code Lib.Math.max.name Lib.Math.max.code 2 (some .int) ∈ TB) := ⟨⟨tb_at 472 (by decide +kernel) (by decide +kernel), tb_at 473 (by decide +kernel) (by decide +kernel)⟩, tb_at 11 (by decide +kernel) (by decide +kernel), tb_at 474 (by decide +kernel) (by decide +kernel)⟩
theorem lk_L_78 : LkV RL 78 RX5 yX5_wins cX5_wins 2 (some .int) 1 := ⟨⟨tb_at 475 (by decide +kernel) (by decide +kernel), tb_at 476 (by decide +kernel) (by decide +kernel), tb_at 477 (by decide +kernel) (by decide +kernel), tb_at 1 (by decide +kernel) (by decide +kernel), tb_at 478 (by decide +kernel) (by decide +kernel)⟩, rfl, by decide +kernel, by decide +kernel, by decide +kernel⟩
theorem lk_X5_188 : LkV RX5 188 RX3 yX3_everyone cX3_everyone 1 (some .int) 0 := ⟨⟨tb_at 479 (by decide +kernel) (by decide +kernel), tb_at 480 (by decide +kernel) (by decide +kernel), tb_at 481 (by decide +kernel) (by decide +kernel), tb_at 2 (by decide +kernel) (by decide +kernel), tb_at 482 (by decide +kernel) (by decide +kernel)⟩, rfl, by decide +kernel, by decide +kernel, by decide +kernel⟩
theorem lk_X5_191 : LkV RX5 191 RX3 yX3_wholeBlocsIn cX3_wholeBlocsIn 4 (some .int) 1 := ⟨⟨tb_at 483 (by decide +kernel) (by decide +kernel), tb_at 484 (by decide +kernel) (by decide +kernel), tb_at 485 (by decide +kernel) (by decide +kernel), tb_at 2 (by decide +kernel) (by decide +kernel), tb_at 486 (by decide +kernel) (by decide +kernel)⟩, rfl, by decide +kernel, by decide +kernel, by decide +kernel⟩
theorem lk_X5_194 : LkV RX5 194 RX3 yX3_isWinning cX3_isWinning 2 (some .boolean) 1 := ⟨⟨tb_at 487 (by decide +kernel) (by decide +kernel), tb_at 320 (by decide +kernel) (by decide +kernel), tb_at 321 (by decide +kernel) (by decide +kernel), tb_at 2 (by decide +kernel) (by decide +kernel), tb_at 322 (by decide +kernel) (by decide +kernel)⟩, rfl, by decide +kernel, by decide +kernel, by decide +kernel⟩
theorem lk_L_82 : LkV RL 82 RX5 yX5_leastCoalition cX5_leastCoalition 4 (some .int) 2 := ⟨⟨tb_at 488 (by decide +kernel) (by decide +kernel), tb_at 489 (by decide +kernel) (by decide +kernel), tb_at 490 (by decide +kernel) (by decide +kernel), tb_at 1 (by decide +kernel) (by decide +kernel), tb_at 491 (by decide +kernel) (by decide +kernel)⟩, rfl, by decide +kernel, by decide +kernel, by decide +kernel⟩
theorem lk_X5_197 : LkV RX5 197 RX2 yX2_leastCoalitions cX2_leastCoalitions 1 (some .int) 0 := ⟨⟨tb_at 492 (by decide +kernel) (by decide +kernel), tb_at 493 (by decide +kernel) (by decide +kernel), tb_at 494 (by decide +kernel) (by decide +kernel), tb_at 6 (by decide +kernel) (by decide +kernel), tb_at 495 (by decide +kernel) (by decide +kernel)⟩, rfl, by decide +kernel, by decide +kernel, by decide +kernel⟩
theorem lk_X2_130 : LkV RX2 130 RX2 yX2_listLeast cX2_listLeast 2 none 0 := ⟨⟨tb_at 496 (by decide +kernel) (by decide +kernel), tb_at 498 (by decide +kernel) (by decide +kernel), tb_sel 13 (by decide +kernel) (by decide +kernel), tb_at 6 (by decide +kernel) (by decide +kernel), tb_at 499 (by decide +kernel) (by decide +kernel)⟩, rfl, by decide +kernel, by decide +kernel, by decide +kernel⟩
theorem lk_X2_133 : LkV RX2 133 RX2 yX2_isLeast cX2_isLeast 4 (some .boolean) 2 := ⟨⟨tb_at 500 (by decide +kernel) (by decide +kernel), tb_at 502 (by decide +kernel) (by decide +kernel), tb_sel 14 (by decide +kernel) (by decide +kernel), tb_at 6 (by decide +kernel) (by decide +kernel), tb_at 503 (by decide +kernel) (by decide +kernel)⟩, rfl, by decide +kernel, by decide +kernel, by decide +kernel⟩
theorem lk_X2_136 : LkS RX2 136 yX2_sortingKey cX2_sortingKey 3 (some .int) 3 := ⟨⟨tb_at 504 (by decide +kernel) (by decide +kernel), tb_at 505 (by decide +kernel) (by decide +kernel), tb_at 6 (by decide +kernel) (by decide +kernel), tb_at 506 (by decide +kernel) (by decide +kernel)⟩, by decide +kernel, by decide +kernel, by decide +kernel⟩
theorem lk_X2_140 : LkV RX2 140 RX2 yX2_insertLeast cX2_insertLeast 3 none 1 := ⟨⟨tb_at 507 (by decide +kernel) (by decide +kernel), tb_at 509 (by decide +kernel) (by decide +kernel), tb_sel 15 (by decide +kernel) (by decide +kernel), tb_at 6 (by decide +kernel) (by decide +kernel), tb_at 510 (by decide +kernel) (by decide +kernel)⟩, rfl, by decide +kernel, by decide +kernel, by decide +kernel⟩
theorem lk_X5_200 : LkV RX5 200 RX2 yX2_ofLeast cX2_ofLeast 4 (some .int) 2 := ⟨⟨tb_at 511 (by decide +kernel) (by decide +kernel), tb_at 512 (by decide +kernel) (by decide +kernel), tb_at 513 (by decide +kernel) (by decide +kernel), tb_at 6 (by decide +kernel) (by decide +kernel), tb_at 514 (by decide +kernel) (by decide +kernel)⟩, rfl, by decide +kernel, by decide +kernel, by decide +kernel⟩
theorem lk_L_86 : LkV RL 86 RX5 yX5_ranked cX5_ranked 4 (some .int) 1 := ⟨⟨tb_at 515 (by decide +kernel) (by decide +kernel), tb_at 516 (by decide +kernel) (by decide +kernel), tb_at 517 (by decide +kernel) (by decide +kernel), tb_at 1 (by decide +kernel) (by decide +kernel), tb_at 518 (by decide +kernel) (by decide +kernel)⟩, rfl, by decide +kernel, by decide +kernel, by decide +kernel⟩
theorem lk_L_90 : LkV RL 90 RX5 yX5_withQuota cX5_withQuota 3 (some .int) 2 := ⟨⟨tb_at 519 (by decide +kernel) (by decide +kernel), tb_at 520 (by decide +kernel) (by decide +kernel), tb_at 521 (by decide +kernel) (by decide +kernel), tb_at 1 (by decide +kernel) (by decide +kernel), tb_at 522 (by decide +kernel) (by decide +kernel)⟩, rfl, by decide +kernel, by decide +kernel, by decide +kernel⟩
theorem lk_X5_203 : LkV RX5 203 RX2 yX2_dummies cX2_dummies 4 (some .int) 1 := ⟨⟨tb_at 523 (by decide +kernel) (by decide +kernel), tb_at 524 (by decide +kernel) (by decide +kernel), tb_at 525 (by decide +kernel) (by decide +kernel), tb_at 6 (by decide +kernel) (by decide +kernel), tb_at 526 (by decide +kernel) (by decide +kernel)⟩, rfl, by decide +kernel, by decide +kernel, by decide +kernel⟩
theorem lk_X5_206 : LkV RX5 206 RX2 yX2_blockers cX2_blockers 4 (some .int) 1 := ⟨⟨tb_at 527 (by decide +kernel) (by decide +kernel), tb_at 528 (by decide +kernel) (by decide +kernel), tb_at 529 (by decide +kernel) (by decide +kernel), tb_at 6 (by decide +kernel) (by decide +kernel), tb_at 530 (by decide +kernel) (by decide +kernel)⟩, rfl, by decide +kernel, by decide +kernel, by decide +kernel⟩
theorem lk_X2_113 : LkV RX2 113 RX2 yX2_isBlocker cX2_isBlocker 3 (some .boolean) 2 := ⟨⟨tb_at 531 (by decide +kernel) (by decide +kernel), tb_at 432 (by decide +kernel) (by decide +kernel), tb_at 433 (by decide +kernel) (by decide +kernel), tb_at 6 (by decide +kernel) (by decide +kernel), tb_at 434 (by decide +kernel) (by decide +kernel)⟩, rfl, by decide +kernel, by decide +kernel, by decide +kernel⟩
theorem lk_L_94 : LkV RL 94 RX5 yX5_leavesOut cX5_leavesOut 6 (some .int) 2 := ⟨⟨tb_at 532 (by decide +kernel) (by decide +kernel), tb_at 533 (by decide +kernel) (by decide +kernel), tb_at 534 (by decide +kernel) (by decide +kernel), tb_at 1 (by decide +kernel) (by decide +kernel), tb_at 535 (by decide +kernel) (by decide +kernel)⟩, rfl, by decide +kernel, by decide +kernel, by decide +kernel⟩
theorem lk_L_98 : LkV RL 98 RX5 yX5_fairest cX5_fairest 13 (some .int) 0 := ⟨⟨tb_at 536 (by decide +kernel) (by decide +kernel), tb_at 537 (by decide +kernel) (by decide +kernel), tb_at 538 (by decide +kernel) (by decide +kernel), tb_at 1 (by decide +kernel) (by decide +kernel), tb_at 539 (by decide +kernel) (by decide +kernel)⟩, rfl, by decide +kernel, by decide +kernel, by decide +kernel⟩
theorem lk_X5_209 : LkV RX5 209 RX2 yX2_distance cX2_distance 7 (some .long) 1 := ⟨⟨tb_at 540 (by decide +kernel) (by decide +kernel), tb_at 541 (by decide +kernel) (by decide +kernel), tb_at 542 (by decide +kernel) (by decide +kernel), tb_at 6 (by decide +kernel) (by decide +kernel), tb_at 543 (by decide +kernel) (by decide +kernel)⟩, rfl, by decide +kernel, by decide +kernel, by decide +kernel⟩
theorem lk_X2_122 : LkV RX2 122 RX2 yX2_swingsOfAll cX2_swingsOfAll 4 (some .int) 1 := ⟨⟨tb_at 544 (by decide +kernel) (by decide +kernel), tb_at 460 (by decide +kernel) (by decide +kernel), tb_at 461 (by decide +kernel) (by decide +kernel), tb_at 6 (by decide +kernel) (by decide +kernel), tb_at 462 (by decide +kernel) (by decide +kernel)⟩, rfl, by decide +kernel, by decide +kernel, by decide +kernel⟩
theorem lk_X2_125 : (Cond.methodLink RX2 125 Lib.Math.abs.name ∈ TB ∧ Cond.static Lib.Math.abs.name ∈ TB) ∧ (Cond.initialized "java/lang/Math" ∈ TB ∧ Cond.code Lib.Math.abs.name Lib.Math.abs.code 1 (some .int) ∈ TB) := ⟨⟨tb_at 545 (by decide +kernel) (by decide +kernel), tb_at 546 (by decide +kernel) (by decide +kernel)⟩, tb_at 11 (by decide +kernel) (by decide +kernel), tb_at 547 (by decide +kernel) (by decide +kernel)⟩
theorem lk_L_102 : LkV RL 102 RX5 yX5_ballot cX5_ballot 3 (some .int) 2 := ⟨⟨tb_at 548 (by decide +kernel) (by decide +kernel), tb_at 549 (by decide +kernel) (by decide +kernel), tb_at 550 (by decide +kernel) (by decide +kernel), tb_at 1 (by decide +kernel) (by decide +kernel), tb_at 551 (by decide +kernel) (by decide +kernel)⟩, rfl, by decide +kernel, by decide +kernel, by decide +kernel⟩
theorem lk_L_106 : LkV RL 106 RX5 yX5_count cX5_count 2 (some .int) 1 := ⟨⟨tb_at 552 (by decide +kernel) (by decide +kernel), tb_at 553 (by decide +kernel) (by decide +kernel), tb_at 554 (by decide +kernel) (by decide +kernel), tb_at 1 (by decide +kernel) (by decide +kernel), tb_at 555 (by decide +kernel) (by decide +kernel)⟩, rfl, by decide +kernel, by decide +kernel, by decide +kernel⟩
theorem lk_L_61 : LkV RL 61 RX6 yX6_undo cX6_undo 2 (some .int) 0 := ⟨⟨tb_at 618 (by decide +kernel) (by decide +kernel), tb_at 619 (by decide +kernel) (by decide +kernel), tb_at 620 (by decide +kernel) (by decide +kernel), tb_at 7 (by decide +kernel) (by decide +kernel), tb_at 621 (by decide +kernel) (by decide +kernel)⟩, rfl, by decide +kernel, by decide +kernel, by decide +kernel⟩
theorem lk_L_65 : LkV RL 65 RX6 yX6_keep cX6_keep 2 (some .int) 0 := ⟨⟨tb_at 622 (by decide +kernel) (by decide +kernel), tb_at 623 (by decide +kernel) (by decide +kernel), tb_at 624 (by decide +kernel) (by decide +kernel), tb_at 7 (by decide +kernel) (by decide +kernel), tb_at 625 (by decide +kernel) (by decide +kernel)⟩, rfl, by decide +kernel, by decide +kernel, by decide +kernel⟩
theorem lk_L_69 : LkV RL 69 RX6 yX6_restore cX6_restore 2 (some .int) 0 := ⟨⟨tb_at 626 (by decide +kernel) (by decide +kernel), tb_at 627 (by decide +kernel) (by decide +kernel), tb_at 628 (by decide +kernel) (by decide +kernel), tb_at 7 (by decide +kernel) (by decide +kernel), tb_at 629 (by decide +kernel) (by decide +kernel)⟩, rfl, by decide +kernel, by decide +kernel, by decide +kernel⟩
theorem lk_X6_50 : LkV RX6 50 RX6 yX6_record cX6_record 2 none 0 := ⟨⟨tb_at 630 (by decide +kernel) (by decide +kernel), tb_at 632 (by decide +kernel) (by decide +kernel), tb_sel 16 (by decide +kernel) (by decide +kernel), tb_at 7 (by decide +kernel) (by decide +kernel), tb_at 633 (by decide +kernel) (by decide +kernel)⟩, rfl, by decide +kernel, by decide +kernel, by decide +kernel⟩
theorem lk_L_17 : LkV RL 17 RX6 yX6_addMember cX6_addMember 3 (some .int) 1 := ⟨⟨tb_at 634 (by decide +kernel) (by decide +kernel), tb_at 635 (by decide +kernel) (by decide +kernel), tb_at 636 (by decide +kernel) (by decide +kernel), tb_at 7 (by decide +kernel) (by decide +kernel), tb_at 637 (by decide +kernel) (by decide +kernel)⟩, rfl, by decide +kernel, by decide +kernel, by decide +kernel⟩
theorem lk_X6_53 : LkS RX6 53 yX6_in cX6_in 3 (some .boolean) 3 := ⟨⟨tb_at 638 (by decide +kernel) (by decide +kernel), tb_at 639 (by decide +kernel) (by decide +kernel), tb_at 7 (by decide +kernel) (by decide +kernel), tb_at 640 (by decide +kernel) (by decide +kernel)⟩, by decide +kernel, by decide +kernel, by decide +kernel⟩
theorem lk_L_21 : LkV RL 21 RX6 yX6_removeMember cX6_removeMember 3 (some .int) 1 := ⟨⟨tb_at 641 (by decide +kernel) (by decide +kernel), tb_at 642 (by decide +kernel) (by decide +kernel), tb_at 643 (by decide +kernel) (by decide +kernel), tb_at 7 (by decide +kernel) (by decide +kernel), tb_at 644 (by decide +kernel) (by decide +kernel)⟩, rfl, by decide +kernel, by decide +kernel, by decide +kernel⟩
theorem lk_X6_57 : LkV RX6 57 RX6 yX6_noMember cX6_noMember 2 (some .boolean) 1 := ⟨⟨tb_at 645 (by decide +kernel) (by decide +kernel), tb_at 647 (by decide +kernel) (by decide +kernel), tb_sel 17 (by decide +kernel) (by decide +kernel), tb_at 7 (by decide +kernel) (by decide +kernel), tb_at 648 (by decide +kernel) (by decide +kernel)⟩, rfl, by decide +kernel, by decide +kernel, by decide +kernel⟩
theorem lk_X6_61 : LkV RX6 61 RX6 yX6_part cX6_part 5 none 1 := ⟨⟨tb_at 649 (by decide +kernel) (by decide +kernel), tb_at 651 (by decide +kernel) (by decide +kernel), tb_sel 18 (by decide +kernel) (by decide +kernel), tb_at 7 (by decide +kernel) (by decide +kernel), tb_at 652 (by decide +kernel) (by decide +kernel)⟩, rfl, by decide +kernel, by decide +kernel, by decide +kernel⟩
theorem lk_L_26 : LkV RL 26 RX6 yX6_setWeight cX6_setWeight 3 (some .int) 2 := ⟨⟨tb_at 653 (by decide +kernel) (by decide +kernel), tb_at 654 (by decide +kernel) (by decide +kernel), tb_at 655 (by decide +kernel) (by decide +kernel), tb_at 7 (by decide +kernel) (by decide +kernel), tb_at 656 (by decide +kernel) (by decide +kernel)⟩, rfl, by decide +kernel, by decide +kernel, by decide +kernel⟩
theorem lk_X6_65 : LkV RX6 65 RX6 yX6_set cX6_set 4 (some .int) 2 := ⟨⟨tb_at 657 (by decide +kernel) (by decide +kernel), tb_at 659 (by decide +kernel) (by decide +kernel), tb_sel 19 (by decide +kernel) (by decide +kernel), tb_at 7 (by decide +kernel) (by decide +kernel), tb_at 660 (by decide +kernel) (by decide +kernel)⟩, rfl, by decide +kernel, by decide +kernel, by decide +kernel⟩
theorem lk_L_31 : LkV RL 31 RX6 yX6_setVeto cX6_setVeto 4 (some .int) 2 := ⟨⟨tb_at 661 (by decide +kernel) (by decide +kernel), tb_at 662 (by decide +kernel) (by decide +kernel), tb_at 663 (by decide +kernel) (by decide +kernel), tb_at 7 (by decide +kernel) (by decide +kernel), tb_at 664 (by decide +kernel) (by decide +kernel)⟩, rfl, by decide +kernel, by decide +kernel, by decide +kernel⟩
theorem lk_X6_69 : LkV RX6 69 RX6 yX6_withVeto cX6_withVeto 3 (some .int) 0 := ⟨⟨tb_at 665 (by decide +kernel) (by decide +kernel), tb_at 667 (by decide +kernel) (by decide +kernel), tb_sel 20 (by decide +kernel) (by decide +kernel), tb_at 7 (by decide +kernel) (by decide +kernel), tb_at 668 (by decide +kernel) (by decide +kernel)⟩, rfl, by decide +kernel, by decide +kernel, by decide +kernel⟩
theorem lk_L_35 : LkV RL 35 RX6 yX6_setQuota cX6_setQuota 2 (some .int) 1 := ⟨⟨tb_at 669 (by decide +kernel) (by decide +kernel), tb_at 670 (by decide +kernel) (by decide +kernel), tb_at 671 (by decide +kernel) (by decide +kernel), tb_at 7 (by decide +kernel) (by decide +kernel), tb_at 672 (by decide +kernel) (by decide +kernel)⟩, rfl, by decide +kernel, by decide +kernel, by decide +kernel⟩
theorem lk_L_39 : LkV RL 39 RX6 yX6_join cX6_join 7 (some .int) 2 := ⟨⟨tb_at 673 (by decide +kernel) (by decide +kernel), tb_at 674 (by decide +kernel) (by decide +kernel), tb_at 675 (by decide +kernel) (by decide +kernel), tb_at 7 (by decide +kernel) (by decide +kernel), tb_at 676 (by decide +kernel) (by decide +kernel)⟩, rfl, by decide +kernel, by decide +kernel, by decide +kernel⟩
theorem lk_X6_73 : LkV RX6 73 RX6 yX6_size cX6_size 4 (some .int) 1 := ⟨⟨tb_at 677 (by decide +kernel) (by decide +kernel), tb_at 679 (by decide +kernel) (by decide +kernel), tb_sel 21 (by decide +kernel) (by decide +kernel), tb_at 7 (by decide +kernel) (by decide +kernel), tb_at 680 (by decide +kernel) (by decide +kernel)⟩, rfl, by decide +kernel, by decide +kernel, by decide +kernel⟩
theorem lk_L_43 : LkV RL 43 RX6 yX6_leave cX6_leave 3 (some .int) 1 := ⟨⟨tb_at 681 (by decide +kernel) (by decide +kernel), tb_at 682 (by decide +kernel) (by decide +kernel), tb_at 683 (by decide +kernel) (by decide +kernel), tb_at 7 (by decide +kernel) (by decide +kernel), tb_at 684 (by decide +kernel) (by decide +kernel)⟩, rfl, by decide +kernel, by decide +kernel, by decide +kernel⟩
theorem lk_L_48 : LkV RL 48 RX6 yX6_type cX6_type 2 (some .int) 1 := ⟨⟨tb_at 685 (by decide +kernel) (by decide +kernel), tb_at 686 (by decide +kernel) (by decide +kernel), tb_at 687 (by decide +kernel) (by decide +kernel), tb_at 7 (by decide +kernel) (by decide +kernel), tb_at 688 (by decide +kernel) (by decide +kernel)⟩, rfl, by decide +kernel, by decide +kernel, by decide +kernel⟩
theorem lk_L_53 : LkV RL 53 RX6 yX6_clearText cX6_clearText 2 (some .int) 0 := ⟨⟨tb_at 689 (by decide +kernel) (by decide +kernel), tb_at 690 (by decide +kernel) (by decide +kernel), tb_at 691 (by decide +kernel) (by decide +kernel), tb_at 7 (by decide +kernel) (by decide +kernel), tb_at 692 (by decide +kernel) (by decide +kernel)⟩, rfl, by decide +kernel, by decide +kernel, by decide +kernel⟩
theorem lk_L_57 : LkV RL 57 RX6 yX6_vote cX6_vote 1 (some .int) 0 := ⟨⟨tb_at 693 (by decide +kernel) (by decide +kernel), tb_at 694 (by decide +kernel) (by decide +kernel), tb_at 695 (by decide +kernel) (by decide +kernel), tb_at 7 (by decide +kernel) (by decide +kernel), tb_at 696 (by decide +kernel) (by decide +kernel)⟩, rfl, by decide +kernel, by decide +kernel, by decide +kernel⟩
theorem lk_X6_138 : LkV RX6 138 RX6 yX6_ballots cX6_ballots 6 (some .int) 1 := ⟨⟨tb_at 697 (by decide +kernel) (by decide +kernel), tb_at 699 (by decide +kernel) (by decide +kernel), tb_sel 22 (by decide +kernel) (by decide +kernel), tb_at 7 (by decide +kernel) (by decide +kernel), tb_at 700 (by decide +kernel) (by decide +kernel)⟩, rfl, by decide +kernel, by decide +kernel, by decide +kernel⟩
theorem lk_X6_132 : LkV RX6 132 RX6 yX6_holdBallot cX6_holdBallot 7 (some .boolean) 1 := ⟨⟨tb_at 701 (by decide +kernel) (by decide +kernel), tb_at 703 (by decide +kernel) (by decide +kernel), tb_sel 23 (by decide +kernel) (by decide +kernel), tb_at 7 (by decide +kernel) (by decide +kernel), tb_at 704 (by decide +kernel) (by decide +kernel)⟩, rfl, by decide +kernel, by decide +kernel, by decide +kernel⟩
theorem lk_X6_93 : LkV RX6 93 RX6 yX6_layBlocs cX6_layBlocs 3 none 0 := ⟨⟨tb_at 705 (by decide +kernel) (by decide +kernel), tb_at 707 (by decide +kernel) (by decide +kernel), tb_sel 24 (by decide +kernel) (by decide +kernel), tb_at 7 (by decide +kernel) (by decide +kernel), tb_at 708 (by decide +kernel) (by decide +kernel)⟩, rfl, by decide +kernel, by decide +kernel, by decide +kernel⟩
theorem lk_X6_83 : LkV RX6 83 RX6 yX6_blocOf cX6_blocOf 3 (some .int) 1 := ⟨⟨tb_at 709 (by decide +kernel) (by decide +kernel), tb_at 711 (by decide +kernel) (by decide +kernel), tb_sel 25 (by decide +kernel) (by decide +kernel), tb_at 7 (by decide +kernel) (by decide +kernel), tb_at 712 (by decide +kernel) (by decide +kernel)⟩, rfl, by decide +kernel, by decide +kernel, by decide +kernel⟩
theorem lk_X6_135 : LkV RX6 135 RX6 yX6_leader cX6_leader 4 (some .int) 1 := ⟨⟨tb_at 713 (by decide +kernel) (by decide +kernel), tb_at 715 (by decide +kernel) (by decide +kernel), tb_sel 26 (by decide +kernel) (by decide +kernel), tb_at 7 (by decide +kernel) (by decide +kernel), tb_at 716 (by decide +kernel) (by decide +kernel)⟩, rfl, by decide +kernel, by decide +kernel, by decide +kernel⟩
theorem lk_X6_96 : LkV RX6 96 RX6 yX6_winsWith cX6_winsWith 3 (some .boolean) 2 := ⟨⟨tb_at 717 (by decide +kernel) (by decide +kernel), tb_at 719 (by decide +kernel) (by decide +kernel), tb_sel 27 (by decide +kernel) (by decide +kernel), tb_at 7 (by decide +kernel) (by decide +kernel), tb_at 720 (by decide +kernel) (by decide +kernel)⟩, rfl, by decide +kernel, by decide +kernel, by decide +kernel⟩
theorem lk_X6_90 : LkV RX6 90 RX6 yX6_weightOf cX6_weightOf 4 (some .int) 1 := ⟨⟨tb_at 721 (by decide +kernel) (by decide +kernel), tb_at 723 (by decide +kernel) (by decide +kernel), tb_sel 28 (by decide +kernel) (by decide +kernel), tb_at 7 (by decide +kernel) (by decide +kernel), tb_at 724 (by decide +kernel) (by decide +kernel)⟩, rfl, by decide +kernel, by decide +kernel, by decide +kernel⟩
theorem lk_X6_86 : LkS RX6 86 yX6_isIn cX6_isIn 2 (some .boolean) 2 := ⟨⟨tb_at 725 (by decide +kernel) (by decide +kernel), tb_at 726 (by decide +kernel) (by decide +kernel), tb_at 7 (by decide +kernel) (by decide +kernel), tb_at 727 (by decide +kernel) (by decide +kernel)⟩, by decide +kernel, by decide +kernel, by decide +kernel⟩
theorem lk_L_73 : LkV RL 73 RX6 yX6_member cX6_member 4 (some .int) 2 := ⟨⟨tb_at 728 (by decide +kernel) (by decide +kernel), tb_at 729 (by decide +kernel) (by decide +kernel), tb_at 730 (by decide +kernel) (by decide +kernel), tb_at 7 (by decide +kernel) (by decide +kernel), tb_at 731 (by decide +kernel) (by decide +kernel)⟩, rfl, by decide +kernel, by decide +kernel, by decide +kernel⟩
theorem lk_X6_114 : LkV RX6 114 RX6 yX6_findNow cX6_findNow 1 none 0 := ⟨⟨tb_at 732 (by decide +kernel) (by decide +kernel), tb_at 734 (by decide +kernel) (by decide +kernel), tb_sel 29 (by decide +kernel) (by decide +kernel), tb_at 7 (by decide +kernel) (by decide +kernel), tb_at 735 (by decide +kernel) (by decide +kernel)⟩, rfl, by decide +kernel, by decide +kernel, by decide +kernel⟩
theorem lk_X6_102 : LkV RX6 102 RX6 yX6_find cX6_find 4 none 1 := ⟨⟨tb_at 736 (by decide +kernel) (by decide +kernel), tb_at 738 (by decide +kernel) (by decide +kernel), tb_sel 30 (by decide +kernel) (by decide +kernel), tb_at 7 (by decide +kernel) (by decide +kernel), tb_at 739 (by decide +kernel) (by decide +kernel)⟩, rfl, by decide +kernel, by decide +kernel, by decide +kernel⟩
theorem lk_X6_142 : LkV RX6 142 RX6 yX6_orders cX6_orders 4 (some .int) 1 := ⟨⟨tb_at 740 (by decide +kernel) (by decide +kernel), tb_at 742 (by decide +kernel) (by decide +kernel), tb_sel 31 (by decide +kernel) (by decide +kernel), tb_at 7 (by decide +kernel) (by decide +kernel), tb_at 743 (by decide +kernel) (by decide +kernel)⟩, rfl, by decide +kernel, by decide +kernel, by decide +kernel⟩
theorem lk_X6_105 : LkS RX6 105 yX6_many cX6_many 3 (some .int) 1 := ⟨⟨tb_at 744 (by decide +kernel) (by decide +kernel), tb_at 745 (by decide +kernel) (by decide +kernel), tb_at 7 (by decide +kernel) (by decide +kernel), tb_at 746 (by decide +kernel) (by decide +kernel)⟩, by decide +kernel, by decide +kernel, by decide +kernel⟩
theorem lk_X6_108 : LkS RX6 108 yX6_factorial cX6_factorial 3 (some .int) 1 := ⟨⟨tb_at 747 (by decide +kernel) (by decide +kernel), tb_at 748 (by decide +kernel) (by decide +kernel), tb_at 7 (by decide +kernel) (by decide +kernel), tb_at 749 (by decide +kernel) (by decide +kernel)⟩, by decide +kernel, by decide +kernel, by decide +kernel⟩
theorem lk_X6_145 : LkV RX6 145 RX6 yX6_isBlocker cX6_isBlocker 3 (some .boolean) 1 := ⟨⟨tb_at 750 (by decide +kernel) (by decide +kernel), tb_at 752 (by decide +kernel) (by decide +kernel), tb_sel 32 (by decide +kernel) (by decide +kernel), tb_at 7 (by decide +kernel) (by decide +kernel), tb_at 753 (by decide +kernel) (by decide +kernel)⟩, rfl, by decide +kernel, by decide +kernel, by decide +kernel⟩
theorem lk_X6_148 : LkV RX6 148 RX6 yX6_isDictator cX6_isDictator 4 (some .boolean) 1 := ⟨⟨tb_at 754 (by decide +kernel) (by decide +kernel), tb_at 756 (by decide +kernel) (by decide +kernel), tb_sel 33 (by decide +kernel) (by decide +kernel), tb_at 7 (by decide +kernel) (by decide +kernel), tb_at 757 (by decide +kernel) (by decide +kernel)⟩, rfl, by decide +kernel, by decide +kernel, by decide +kernel⟩
theorem lk_X6_151 : LkV RX6 151 RX6 yX6_rank cX6_rank 5 (some .int) 1 := ⟨⟨tb_at 758 (by decide +kernel) (by decide +kernel), tb_at 760 (by decide +kernel) (by decide +kernel), tb_sel 34 (by decide +kernel) (by decide +kernel), tb_at 7 (by decide +kernel) (by decide +kernel), tb_at 761 (by decide +kernel) (by decide +kernel)⟩, rfl, by decide +kernel, by decide +kernel, by decide +kernel⟩
theorem lk_L_77 : LkV RL 77 RX6 yX6_share cX6_share 7 (some .int) 2 := ⟨⟨tb_at 762 (by decide +kernel) (by decide +kernel), tb_at 763 (by decide +kernel) (by decide +kernel), tb_at 764 (by decide +kernel) (by decide +kernel), tb_at 7 (by decide +kernel) (by decide +kernel), tb_at 765 (by decide +kernel) (by decide +kernel)⟩, rfl, by decide +kernel, by decide +kernel, by decide +kernel⟩
theorem lk_X6_154 : LkV RX6 154 RX6 yX6_winning cX6_winning 3 (some .int) 0 := ⟨⟨tb_at 766 (by decide +kernel) (by decide +kernel), tb_at 768 (by decide +kernel) (by decide +kernel), tb_sel 35 (by decide +kernel) (by decide +kernel), tb_at 7 (by decide +kernel) (by decide +kernel), tb_at 769 (by decide +kernel) (by decide +kernel)⟩, rfl, by decide +kernel, by decide +kernel, by decide +kernel⟩
theorem lk_X6_157 : LkS RX6 157 yX6_common cX6_common 5 (some .int) 2 := ⟨⟨tb_at 770 (by decide +kernel) (by decide +kernel), tb_at 771 (by decide +kernel) (by decide +kernel), tb_at 7 (by decide +kernel) (by decide +kernel), tb_at 772 (by decide +kernel) (by decide +kernel)⟩, by decide +kernel, by decide +kernel, by decide +kernel⟩
theorem lk_L_81 : LkV RL 81 RX6 yX6_wins cX6_wins 4 (some .int) 1 := ⟨⟨tb_at 773 (by decide +kernel) (by decide +kernel), tb_at 774 (by decide +kernel) (by decide +kernel), tb_at 775 (by decide +kernel) (by decide +kernel), tb_at 7 (by decide +kernel) (by decide +kernel), tb_at 776 (by decide +kernel) (by decide +kernel)⟩, rfl, by decide +kernel, by decide +kernel, by decide +kernel⟩
theorem lk_L_85 : LkV RL 85 RX6 yX6_leastCoalition cX6_leastCoalition 4 (some .int) 2 := ⟨⟨tb_at 777 (by decide +kernel) (by decide +kernel), tb_at 778 (by decide +kernel) (by decide +kernel), tb_at 779 (by decide +kernel) (by decide +kernel), tb_at 7 (by decide +kernel) (by decide +kernel), tb_at 780 (by decide +kernel) (by decide +kernel)⟩, rfl, by decide +kernel, by decide +kernel, by decide +kernel⟩
theorem lk_X6_160 : LkV RX6 160 RX6 yX6_findLeast cX6_findLeast 3 none 0 := ⟨⟨tb_at 781 (by decide +kernel) (by decide +kernel), tb_at 783 (by decide +kernel) (by decide +kernel), tb_sel 36 (by decide +kernel) (by decide +kernel), tb_at 7 (by decide +kernel) (by decide +kernel), tb_at 784 (by decide +kernel) (by decide +kernel)⟩, rfl, by decide +kernel, by decide +kernel, by decide +kernel⟩
theorem lk_X6_120 : LkV RX6 120 RX6 yX6_isLeast cX6_isLeast 4 (some .boolean) 1 := ⟨⟨tb_at 785 (by decide +kernel) (by decide +kernel), tb_at 787 (by decide +kernel) (by decide +kernel), tb_sel 37 (by decide +kernel) (by decide +kernel), tb_at 7 (by decide +kernel) (by decide +kernel), tb_at 788 (by decide +kernel) (by decide +kernel)⟩, rfl, by decide +kernel, by decide +kernel, by decide +kernel⟩
theorem lk_X6_123 : LkV RX6 123 RX6 yX6_isAhead cX6_isAhead 3 (some .boolean) 2 := ⟨⟨tb_at 789 (by decide +kernel) (by decide +kernel), tb_at 791 (by decide +kernel) (by decide +kernel), tb_sel 38 (by decide +kernel) (by decide +kernel), tb_at 7 (by decide +kernel) (by decide +kernel), tb_at 792 (by decide +kernel) (by decide +kernel)⟩, rfl, by decide +kernel, by decide +kernel, by decide +kernel⟩
theorem lk_X6_111 : LkV RX6 111 RX6 yX6_membersOf cX6_membersOf 4 (some .int) 1 := ⟨⟨tb_at 793 (by decide +kernel) (by decide +kernel), tb_at 795 (by decide +kernel) (by decide +kernel), tb_sel 39 (by decide +kernel) (by decide +kernel), tb_at 7 (by decide +kernel) (by decide +kernel), tb_at 796 (by decide +kernel) (by decide +kernel)⟩, rfl, by decide +kernel, by decide +kernel, by decide +kernel⟩
theorem lk_L_89 : LkV RL 89 RX6 yX6_ranked cX6_ranked 3 (some .int) 1 := ⟨⟨tb_at 797 (by decide +kernel) (by decide +kernel), tb_at 798 (by decide +kernel) (by decide +kernel), tb_at 799 (by decide +kernel) (by decide +kernel), tb_at 7 (by decide +kernel) (by decide +kernel), tb_at 800 (by decide +kernel) (by decide +kernel)⟩, rfl, by decide +kernel, by decide +kernel, by decide +kernel⟩
theorem lk_L_93 : LkV RL 93 RX6 yX6_withQuota cX6_withQuota 3 (some .int) 2 := ⟨⟨tb_at 801 (by decide +kernel) (by decide +kernel), tb_at 802 (by decide +kernel) (by decide +kernel), tb_at 803 (by decide +kernel) (by decide +kernel), tb_at 7 (by decide +kernel) (by decide +kernel), tb_at 804 (by decide +kernel) (by decide +kernel)⟩, rfl, by decide +kernel, by decide +kernel, by decide +kernel⟩
theorem lk_X6_163 : LkV RX6 163 RX6 yX6_dummies cX6_dummies 3 (some .int) 0 := ⟨⟨tb_at 805 (by decide +kernel) (by decide +kernel), tb_at 807 (by decide +kernel) (by decide +kernel), tb_sel 40 (by decide +kernel) (by decide +kernel), tb_at 7 (by decide +kernel) (by decide +kernel), tb_at 808 (by decide +kernel) (by decide +kernel)⟩, rfl, by decide +kernel, by decide +kernel, by decide +kernel⟩
theorem lk_X6_166 : LkV RX6 166 RX6 yX6_blockers cX6_blockers 3 (some .int) 0 := ⟨⟨tb_at 809 (by decide +kernel) (by decide +kernel), tb_at 811 (by decide +kernel) (by decide +kernel), tb_sel 41 (by decide +kernel) (by decide +kernel), tb_at 7 (by decide +kernel) (by decide +kernel), tb_at 812 (by decide +kernel) (by decide +kernel)⟩, rfl, by decide +kernel, by decide +kernel, by decide +kernel⟩
theorem lk_L_97 : LkV RL 97 RX6 yX6_leavesOut cX6_leavesOut 5 (some .int) 2 := ⟨⟨tb_at 813 (by decide +kernel) (by decide +kernel), tb_at 814 (by decide +kernel) (by decide +kernel), tb_at 815 (by decide +kernel) (by decide +kernel), tb_at 7 (by decide +kernel) (by decide +kernel), tb_at 816 (by decide +kernel) (by decide +kernel)⟩, rfl, by decide +kernel, by decide +kernel, by decide +kernel⟩
theorem lk_X6_169 : LkV RX6 169 RX6 yX6_allWeights cX6_allWeights 3 (some .int) 0 := ⟨⟨tb_at 817 (by decide +kernel) (by decide +kernel), tb_at 819 (by decide +kernel) (by decide +kernel), tb_sel 42 (by decide +kernel) (by decide +kernel), tb_at 7 (by decide +kernel) (by decide +kernel), tb_at 820 (by decide +kernel) (by decide +kernel)⟩, rfl, by decide +kernel, by decide +kernel, by decide +kernel⟩
theorem lk_L_101 : LkV RL 101 RX6 yX6_fairest cX6_fairest 10 (some .int) 0 := ⟨⟨tb_at 821 (by decide +kernel) (by decide +kernel), tb_at 822 (by decide +kernel) (by decide +kernel), tb_at 823 (by decide +kernel) (by decide +kernel), tb_at 7 (by decide +kernel) (by decide +kernel), tb_at 824 (by decide +kernel) (by decide +kernel)⟩, rfl, by decide +kernel, by decide +kernel, by decide +kernel⟩
theorem lk_X6_172 : LkV RX6 172 RX6 yX6_apart cX6_apart 7 (some .long) 1 := ⟨⟨tb_at 825 (by decide +kernel) (by decide +kernel), tb_at 827 (by decide +kernel) (by decide +kernel), tb_sel 43 (by decide +kernel) (by decide +kernel), tb_at 7 (by decide +kernel) (by decide +kernel), tb_at 828 (by decide +kernel) (by decide +kernel)⟩, rfl, by decide +kernel, by decide +kernel, by decide +kernel⟩
theorem lk_L_105 : LkV RL 105 RX6 yX6_ballot cX6_ballot 3 (some .int) 2 := ⟨⟨tb_at 829 (by decide +kernel) (by decide +kernel), tb_at 830 (by decide +kernel) (by decide +kernel), tb_at 831 (by decide +kernel) (by decide +kernel), tb_at 7 (by decide +kernel) (by decide +kernel), tb_at 832 (by decide +kernel) (by decide +kernel)⟩, rfl, by decide +kernel, by decide +kernel, by decide +kernel⟩
theorem lk_L_109 : LkV RL 109 RX6 yX6_count cX6_count 2 (some .int) 1 := ⟨⟨tb_at 833 (by decide +kernel) (by decide +kernel), tb_at 834 (by decide +kernel) (by decide +kernel), tb_at 835 (by decide +kernel) (by decide +kernel), tb_at 7 (by decide +kernel) (by decide +kernel), tb_at 836 (by decide +kernel) (by decide +kernel)⟩, rfl, by decide +kernel, by decide +kernel, by decide +kernel⟩
theorem lk_X3_38 : Cond.methodLink RX3 38 arraycopyName ∈ TB := tb_at 212 (by decide +kernel) (by decide +kernel)
theorem lk_X0_28 : Cond.methodLink RX0 28 arraycopyName ∈ TB := tb_at 219 (by decide +kernel) (by decide +kernel)
theorem ac_native : Cond.native arraycopyName ∈ lw_tbl := List.mem_append_right _ (List.mem_of_getElem? (i := 214) (by decide +kernel))
theorem ac_nativeT : Cond.native arraycopyName ∈ TB := tb_at 214 (by decide +kernel) (by decide +kernel)
theorem ac_static : Cond.static arraycopyName ∈ TB := tb_at 213 (by decide +kernel) (by decide +kernel)
theorem ac_init : Cond.initialized "java/lang/System" ∈ TB := tb_at 8 (by decide +kernel) (by decide +kernel)
theorem ct_J6_265 : Cond.constant RJ6 265 1431655765 ∈ TB := tb_at 254 (by decide +kernel) (by decide +kernel)
theorem ct_J6_266 : Cond.constant RJ6 266 858993459 ∈ TB := tb_at 255 (by decide +kernel) (by decide +kernel)
theorem ct_J6_267 : Cond.constant RJ6 267 252645135 ∈ TB := tb_at 256 (by decide +kernel) (by decide +kernel)
end
section
theorem cel_X5 {ad cc : Nat → Nat} {f : Nat → Int32} : cel ad cc 48 f = .inr (5, [.ref (ad (8 * 0)), .ref (ad (8 * 1)), .int (f 2), .ref (ad 49), .ref (ad 51), .ref (ad 53), .int (f 6)]) := rfl
theorem cel_X1 {ad cc : Nat → Nat} {f : Nat → Int32} : cel ad cc 49 f = .inr (1, [.ref (ad 50), .int (f 1)]) := rfl
theorem cel_X4 {ad cc : Nat → Nat} {f : Nat → Int32} : cel ad cc 51 f = .inr (4, [.ref (ad 52), .int (f 1)]) := rfl
theorem cel_X2 {ad cc : Nat → Nat} {f : Nat → Int32} : cel ad cc 53 f = .inr (2, [.int (f 0), .int (f 1), .int (f 2), .int (f 3), .int (f 4), .ref (ad 54), .ref (ad 55), .ref (ad 56), .ref (ad 57), .int (f 9), .ref (ad 58), .ref (ad 59), .int (f 12)]) := rfl
theorem cel_X6 {ad cc : Nat → Nat} {f : Nat → Int32} : cel ad cc 71 f = .inr (6, [.ref (ad 72), .ref (ad 73), .ref (ad 74), .int (f 3), .int (f 4), .ref (ad 75), .int (f 6), .int (f 7), .int (f 8), .ref (ad 76), .ref (ad 77), .ref (ad 78), .int (f 12), .ref (ad 79), .ref (ad 80), .int (f 15), .ref (ad 81), .int (f 17)]) := rfl
def f_X5_oneIf (v0 : Int32) : Int32 := (if v0 = 0 then (0 : Int32) else (1 : Int32))
set_option maxHeartbeats 4000000 in
set_option maxRecDepth 100000 in
theorem c_X5_oneIf {E : EN} {v0 : Int32} {I : Mem} {r : Int32} (hf : f_X5_oneIf v0 = r) : Ct E yX5_oneIf cX5_oneIf 1 (some .int) 0 0 [.int v0] I (some (.int r)) I := by
  refine Ct_of (by decide) (Nat.le_of_ble_eq_true rfl) (fun X hC0 hR => ?_)
  have hC : Cx X E cX5_oneIf 1 RX5 0 0 := hC0
  change V X E 1 0 [(0, .int v0)] [] I
  unfold f_X5_oneIf at hf
  refine V_iload_n (pc := 0) hC 0 dX5_oneIf_0 rfl rfl ?_
  refine V_if_eq (pc := 1) (tgt := 8) hC dX5_oneIf_1 (by decide) (fun c1 => ?_) (fun c1 => ?_)
  · have hf := ite_t hf c1
    refine V_iconst (pc := 8) hC dX5_oneIf_8 (v := (0 : Int32)) (by decide) ?_
    subst hf
    exact V_ireturn (pc := 9) hR rfl dX5_oneIf_9
  · have hf := ite_f hf c1
    refine V_iconst (pc := 4) hC dX5_oneIf_4 (v := (1 : Int32)) (by decide) ?_
    refine V_goto (pc := 5) (tgt := 9) hC dX5_oneIf_5 (by decide) ?_
    subst hf
    exact V_ireturn (pc := 9) hR rfl dX5_oneIf_9
def f_J6_bitCount_0f7a4 (v0 : Int32) : Int32 := ((((((((v0 - ((iushr v0 (1 : Int32)) &&& (1431655765 : Int32))) &&& (858993459 : Int32)) + ((iushr (v0 - ((iushr v0 (1 : Int32)) &&& (1431655765 : Int32))) (2 : Int32)) &&& (858993459 : Int32))) + (iushr (((v0 - ((iushr v0 (1 : Int32)) &&& (1431655765 : Int32))) &&& (858993459 : Int32)) + ((iushr (v0 - ((iushr v0 (1 : Int32)) &&& (1431655765 : Int32))) (2 : Int32)) &&& (858993459 : Int32))) (4 : Int32))) &&& (252645135 : Int32)) + (iushr (((((v0 - ((iushr v0 (1 : Int32)) &&& (1431655765 : Int32))) &&& (858993459 : Int32)) + ((iushr (v0 - ((iushr v0 (1 : Int32)) &&& (1431655765 : Int32))) (2 : Int32)) &&& (858993459 : Int32))) + (iushr (((v0 - ((iushr v0 (1 : Int32)) &&& (1431655765 : Int32))) &&& (858993459 : Int32)) + ((iushr (v0 - ((iushr v0 (1 : Int32)) &&& (1431655765 : Int32))) (2 : Int32)) &&& (858993459 : Int32))) (4 : Int32))) &&& (252645135 : Int32)) (8 : Int32))) + (iushr ((((((v0 - ((iushr v0 (1 : Int32)) &&& (1431655765 : Int32))) &&& (858993459 : Int32)) + ((iushr (v0 - ((iushr v0 (1 : Int32)) &&& (1431655765 : Int32))) (2 : Int32)) &&& (858993459 : Int32))) + (iushr (((v0 - ((iushr v0 (1 : Int32)) &&& (1431655765 : Int32))) &&& (858993459 : Int32)) + ((iushr (v0 - ((iushr v0 (1 : Int32)) &&& (1431655765 : Int32))) (2 : Int32)) &&& (858993459 : Int32))) (4 : Int32))) &&& (252645135 : Int32)) + (iushr (((((v0 - ((iushr v0 (1 : Int32)) &&& (1431655765 : Int32))) &&& (858993459 : Int32)) + ((iushr (v0 - ((iushr v0 (1 : Int32)) &&& (1431655765 : Int32))) (2 : Int32)) &&& (858993459 : Int32))) + (iushr (((v0 - ((iushr v0 (1 : Int32)) &&& (1431655765 : Int32))) &&& (858993459 : Int32)) + ((iushr (v0 - ((iushr v0 (1 : Int32)) &&& (1431655765 : Int32))) (2 : Int32)) &&& (858993459 : Int32))) (4 : Int32))) &&& (252645135 : Int32)) (8 : Int32))) (16 : Int32))) &&& (63 : Int32))
set_option maxHeartbeats 4000000 in
set_option maxRecDepth 100000 in
theorem c_J6_bitCount_0f7a4 {E : EN} {v0 : Int32} {I : Mem} {r : Int32} (hf : f_J6_bitCount_0f7a4 v0 = r) : Ct E yJ6_bitCount_0f7a4 cJ6_bitCount_0f7a4 1 (some .int) 0 0 [.int v0] I (some (.int r)) I := by
  refine Ct_of (by decide) (Nat.le_of_ble_eq_true rfl) (fun X hC0 hR => ?_)
  have hC : Cx X E cJ6_bitCount_0f7a4 1 RJ6 0 0 := hC0
  change V X E 1 0 [(0, .int v0)] [] I
  unfold f_J6_bitCount_0f7a4 at hf
  refine V_iload_n (pc := 0) hC 0 dJ6_bitCount_0f7a4_0 rfl rfl ?_
  refine V_iload_n (pc := 1) hC 0 dJ6_bitCount_0f7a4_1 rfl rfl ?_
  refine V_iconst (pc := 2) hC dJ6_bitCount_0f7a4_2 (v := (1 : Int32)) (by decide) ?_
  refine V_iushr (pc := 3) hC dJ6_bitCount_0f7a4_3 ?_
  refine V_ldcw (pc := 4) hC ct_J6_265 dJ6_bitCount_0f7a4_4 ?_
  refine V_iand (pc := 7) hC dJ6_bitCount_0f7a4_7 ?_
  refine V_isub (pc := 8) hC dJ6_bitCount_0f7a4_8 ?_
  refine V_istore_n (pc := 9) (lv' := [(0, .int (v0 - ((iushr v0 (1 : Int32)) &&& (1431655765 : Int32))))]) hC dJ6_bitCount_0f7a4_9 rfl (by decide) rfl ?_
  refine V_iload_n (pc := 10) hC 0 dJ6_bitCount_0f7a4_10 rfl rfl ?_
  refine V_ldcw (pc := 11) hC ct_J6_266 dJ6_bitCount_0f7a4_11 ?_
  refine V_iand (pc := 14) hC dJ6_bitCount_0f7a4_14 ?_
  refine V_iload_n (pc := 15) hC 0 dJ6_bitCount_0f7a4_15 rfl rfl ?_
  refine V_iconst (pc := 16) hC dJ6_bitCount_0f7a4_16 (v := (2 : Int32)) (by decide) ?_
  refine V_iushr (pc := 17) hC dJ6_bitCount_0f7a4_17 ?_
  refine V_ldcw (pc := 18) hC ct_J6_266 dJ6_bitCount_0f7a4_18 ?_
  refine V_iand (pc := 21) hC dJ6_bitCount_0f7a4_21 ?_
  refine V_iadd (pc := 22) hC dJ6_bitCount_0f7a4_22 ?_
  refine V_istore_n (pc := 23) (lv' := [(0, .int (((v0 - ((iushr v0 (1 : Int32)) &&& (1431655765 : Int32))) &&& (858993459 : Int32)) + ((iushr (v0 - ((iushr v0 (1 : Int32)) &&& (1431655765 : Int32))) (2 : Int32)) &&& (858993459 : Int32))))]) hC dJ6_bitCount_0f7a4_23 rfl (by decide) rfl ?_
  refine V_iload_n (pc := 24) hC 0 dJ6_bitCount_0f7a4_24 rfl rfl ?_
  refine V_iload_n (pc := 25) hC 0 dJ6_bitCount_0f7a4_25 rfl rfl ?_
  refine V_iconst (pc := 26) hC dJ6_bitCount_0f7a4_26 (v := (4 : Int32)) (by decide) ?_
  refine V_iushr (pc := 27) hC dJ6_bitCount_0f7a4_27 ?_
  refine V_iadd (pc := 28) hC dJ6_bitCount_0f7a4_28 ?_
  refine V_ldcw (pc := 29) hC ct_J6_267 dJ6_bitCount_0f7a4_29 ?_
  refine V_iand (pc := 32) hC dJ6_bitCount_0f7a4_32 ?_
  refine V_istore_n (pc := 33) (lv' := [(0, .int (((((v0 - ((iushr v0 (1 : Int32)) &&& (1431655765 : Int32))) &&& (858993459 : Int32)) + ((iushr (v0 - ((iushr v0 (1 : Int32)) &&& (1431655765 : Int32))) (2 : Int32)) &&& (858993459 : Int32))) + (iushr (((v0 - ((iushr v0 (1 : Int32)) &&& (1431655765 : Int32))) &&& (858993459 : Int32)) + ((iushr (v0 - ((iushr v0 (1 : Int32)) &&& (1431655765 : Int32))) (2 : Int32)) &&& (858993459 : Int32))) (4 : Int32))) &&& (252645135 : Int32)))]) hC dJ6_bitCount_0f7a4_33 rfl (by decide) rfl ?_
  refine V_iload_n (pc := 34) hC 0 dJ6_bitCount_0f7a4_34 rfl rfl ?_
  refine V_iload_n (pc := 35) hC 0 dJ6_bitCount_0f7a4_35 rfl rfl ?_
  refine V_bipush (pc := 36) hC dJ6_bitCount_0f7a4_36 (v := (8 : Int32)) (by decide) ?_
  refine V_iushr (pc := 38) hC dJ6_bitCount_0f7a4_38 ?_
  refine V_iadd (pc := 39) hC dJ6_bitCount_0f7a4_39 ?_
  refine V_istore_n (pc := 40) (lv' := [(0, .int ((((((v0 - ((iushr v0 (1 : Int32)) &&& (1431655765 : Int32))) &&& (858993459 : Int32)) + ((iushr (v0 - ((iushr v0 (1 : Int32)) &&& (1431655765 : Int32))) (2 : Int32)) &&& (858993459 : Int32))) + (iushr (((v0 - ((iushr v0 (1 : Int32)) &&& (1431655765 : Int32))) &&& (858993459 : Int32)) + ((iushr (v0 - ((iushr v0 (1 : Int32)) &&& (1431655765 : Int32))) (2 : Int32)) &&& (858993459 : Int32))) (4 : Int32))) &&& (252645135 : Int32)) + (iushr (((((v0 - ((iushr v0 (1 : Int32)) &&& (1431655765 : Int32))) &&& (858993459 : Int32)) + ((iushr (v0 - ((iushr v0 (1 : Int32)) &&& (1431655765 : Int32))) (2 : Int32)) &&& (858993459 : Int32))) + (iushr (((v0 - ((iushr v0 (1 : Int32)) &&& (1431655765 : Int32))) &&& (858993459 : Int32)) + ((iushr (v0 - ((iushr v0 (1 : Int32)) &&& (1431655765 : Int32))) (2 : Int32)) &&& (858993459 : Int32))) (4 : Int32))) &&& (252645135 : Int32)) (8 : Int32))))]) hC dJ6_bitCount_0f7a4_40 rfl (by decide) rfl ?_
  refine V_iload_n (pc := 41) hC 0 dJ6_bitCount_0f7a4_41 rfl rfl ?_
  refine V_iload_n (pc := 42) hC 0 dJ6_bitCount_0f7a4_42 rfl rfl ?_
  refine V_bipush (pc := 43) hC dJ6_bitCount_0f7a4_43 (v := (16 : Int32)) (by decide) ?_
  refine V_iushr (pc := 45) hC dJ6_bitCount_0f7a4_45 ?_
  refine V_iadd (pc := 46) hC dJ6_bitCount_0f7a4_46 ?_
  refine V_istore_n (pc := 47) (lv' := [(0, .int (((((((v0 - ((iushr v0 (1 : Int32)) &&& (1431655765 : Int32))) &&& (858993459 : Int32)) + ((iushr (v0 - ((iushr v0 (1 : Int32)) &&& (1431655765 : Int32))) (2 : Int32)) &&& (858993459 : Int32))) + (iushr (((v0 - ((iushr v0 (1 : Int32)) &&& (1431655765 : Int32))) &&& (858993459 : Int32)) + ((iushr (v0 - ((iushr v0 (1 : Int32)) &&& (1431655765 : Int32))) (2 : Int32)) &&& (858993459 : Int32))) (4 : Int32))) &&& (252645135 : Int32)) + (iushr (((((v0 - ((iushr v0 (1 : Int32)) &&& (1431655765 : Int32))) &&& (858993459 : Int32)) + ((iushr (v0 - ((iushr v0 (1 : Int32)) &&& (1431655765 : Int32))) (2 : Int32)) &&& (858993459 : Int32))) + (iushr (((v0 - ((iushr v0 (1 : Int32)) &&& (1431655765 : Int32))) &&& (858993459 : Int32)) + ((iushr (v0 - ((iushr v0 (1 : Int32)) &&& (1431655765 : Int32))) (2 : Int32)) &&& (858993459 : Int32))) (4 : Int32))) &&& (252645135 : Int32)) (8 : Int32))) + (iushr ((((((v0 - ((iushr v0 (1 : Int32)) &&& (1431655765 : Int32))) &&& (858993459 : Int32)) + ((iushr (v0 - ((iushr v0 (1 : Int32)) &&& (1431655765 : Int32))) (2 : Int32)) &&& (858993459 : Int32))) + (iushr (((v0 - ((iushr v0 (1 : Int32)) &&& (1431655765 : Int32))) &&& (858993459 : Int32)) + ((iushr (v0 - ((iushr v0 (1 : Int32)) &&& (1431655765 : Int32))) (2 : Int32)) &&& (858993459 : Int32))) (4 : Int32))) &&& (252645135 : Int32)) + (iushr (((((v0 - ((iushr v0 (1 : Int32)) &&& (1431655765 : Int32))) &&& (858993459 : Int32)) + ((iushr (v0 - ((iushr v0 (1 : Int32)) &&& (1431655765 : Int32))) (2 : Int32)) &&& (858993459 : Int32))) + (iushr (((v0 - ((iushr v0 (1 : Int32)) &&& (1431655765 : Int32))) &&& (858993459 : Int32)) + ((iushr (v0 - ((iushr v0 (1 : Int32)) &&& (1431655765 : Int32))) (2 : Int32)) &&& (858993459 : Int32))) (4 : Int32))) &&& (252645135 : Int32)) (8 : Int32))) (16 : Int32))))]) hC dJ6_bitCount_0f7a4_47 rfl (by decide) rfl ?_
  refine V_iload_n (pc := 48) hC 0 dJ6_bitCount_0f7a4_48 rfl rfl ?_
  refine V_bipush (pc := 49) hC dJ6_bitCount_0f7a4_49 (v := (63 : Int32)) (by decide) ?_
  refine V_iand (pc := 51) hC dJ6_bitCount_0f7a4_51 ?_
  subst hf
  exact V_ireturn (pc := 52) hR rfl dJ6_bitCount_0f7a4_52
def f_J7_fill_53178_5 (k : Nat) (a0 : Nat) (v1 : Int32) (v3 : Int32) : Nat → Int32 → Mem → Option (Mem)
  | 0, _, _ => none
  | n + 1, v2, I => (if v3 ≤ v2 then some I else (if inB v2 501 = true then (f_J7_fill_53178_5 k a0 v1 v3 n) (v2 + (1 : Int32)) (up2 I (a0) (Int32.toNatClampNeg v2) v1) else none))
set_option maxHeartbeats 4000000 in
set_option maxRecDepth 100000 in
theorem b_J7_fill_53178_5 {X : XT} {E : EN} {k : Nat} {a0 : Nat} {v1 : Int32} {v3 : Int32} {r : Mem} (hC : Cx X E cJ7_fill_53178 4 RJ7 0 0) (ha0 : IA a0 501) (hR : Rt X E cJ7_fill_53178 none none r) : ∀ (n : Nat) (v2 : Int32) (I : Mem), f_J7_fill_53178_5 k a0 v1 v3 n v2 I = some r → V X E 4 5 [(0, .ref (E.2.1 (a0))), (1, .int v1), (2, .int v2), (3, .int v3)] [] I := by
  intro n
  induction n with
  | zero =>
    intro v2 I hf
    rw [f_J7_fill_53178_5] at hf
    cases hf
  | succ n ih =>
    intro v2 I hf
    rw [f_J7_fill_53178_5] at hf
    refine V_iload_n (pc := 5) hC 2 dJ7_fill_53178_5 rfl rfl ?_
    refine V_iload_n (pc := 6) hC 3 dJ7_fill_53178_6 rfl rfl ?_
    refine V_icmp_ge (pc := 7) (tgt := 20) hC dJ7_fill_53178_7 (by decide) (fun c1 => ?_) (fun c1 => ?_)
    · have hf := ite_t hf c1
      cases hf
      exact V_return (pc := 20) hR trivial dJ7_fill_53178_20
    · have hf := ite_f hf c1
      refine V_aload_n (pc := 10) hC 0 dJ7_fill_53178_10 rfl rfl ?_
      refine V_iload_n (pc := 11) hC 2 dJ7_fill_53178_11 rfl rfl ?_
      refine V_iload_n (pc := 12) hC 1 dJ7_fill_53178_12 rfl rfl ?_
      obtain ⟨h2, hf⟩ := if_some hf
      refine V_iast (pc := 13) hC ha0 (inB_of h2) dJ7_fill_53178_13 ?_
      refine V_iinc (pc := 14) (lv' := [(2, .int (v2 + (1 : Int32))), (0, .ref (E.2.1 (a0))), (1, .int v1), (3, .int v3)]) hC (1 : Int32) 2 dJ7_fill_53178_14 rfl (by decide) (by decide) rfl ?_
      refine V_goto (pc := 17) (tgt := 5) hC dJ7_fill_53178_17 (by decide) ?_
      refine V_sub (pc := 5) (lv' := [(0, .ref (E.2.1 (a0))), (1, .int v1), (2, .int (v2 + (1 : Int32))), (3, .int v3)]) [1, 2, 0, 3] rfl ?_
      exact ih (v2 + (1 : Int32)) (up2 I (a0) (Int32.toNatClampNeg v2) v1) hf
def f_J7_fill_53178 (k : Nat) (a0 : Nat) (v1 : Int32) (I : Mem) : Option (Mem) := f_J7_fill_53178_5 k a0 v1 (501 : Int32) k (0 : Int32) I
set_option maxHeartbeats 4000000 in
set_option maxRecDepth 100000 in
theorem c_J7_fill_53178 {E : EN} {k : Nat} {a0 : Nat} {v1 : Int32} {I : Mem} {r : Mem} (ha0 : IA a0 501) (hf : f_J7_fill_53178 k a0 v1 I = some r) : Ct E yJ7_fill_53178 cJ7_fill_53178 4 none 0 0 [.ref (E.2.1 (a0)), .int v1] I none r := by
  refine Ct_of (by decide) (Nat.le_of_ble_eq_true rfl) (fun X hC0 hR => ?_)
  have hC : Cx X E cJ7_fill_53178 4 RJ7 0 0 := hC0
  change V X E 4 0 [(0, .ref (E.2.1 (a0))), (1, .int v1)] [] I
  unfold f_J7_fill_53178 at hf
  refine V_iconst (pc := 0) hC dJ7_fill_53178_0 (v := (0 : Int32)) (by decide) ?_
  refine V_istore_n (pc := 1) (lv' := [(2, .int (0 : Int32)), (0, .ref (E.2.1 (a0))), (1, .int v1)]) hC dJ7_fill_53178_1 rfl (by decide) rfl ?_
  refine V_aload_n (pc := 2) hC 1 dJ7_fill_53178_2 rfl rfl ?_
  refine V_ialen (pc := 3) (v := (501 : Int32)) hC ha0 (by decide) dJ7_fill_53178_3 ?_
  refine V_istore_n (pc := 4) (lv' := [(3, .int (501 : Int32)), (2, .int (0 : Int32)), (0, .ref (E.2.1 (a0))), (1, .int v1)]) hC dJ7_fill_53178_4 rfl (by decide) rfl ?_
  refine V_sub (pc := 5) (lv' := [(0, .ref (E.2.1 (a0))), (1, .int v1), (2, .int (0 : Int32)), (3, .int (501 : Int32))]) [2, 3, 1, 0] rfl ?_
  exact b_J7_fill_53178_5 hC ha0 hR k (0 : Int32) I hf
def f_X5_bit (v0 : Int32) : Int32 := ((1 : Int32) <<< (v0 &&& 31))
set_option maxHeartbeats 4000000 in
set_option maxRecDepth 100000 in
theorem c_X5_bit {E : EN} {v0 : Int32} {I : Mem} {r : Int32} (hf : f_X5_bit v0 = r) : Ct E yX5_bit cX5_bit 1 (some .int) 0 0 [.int v0] I (some (.int r)) I := by
  refine Ct_of (by decide) (Nat.le_of_ble_eq_true rfl) (fun X hC0 hR => ?_)
  have hC : Cx X E cX5_bit 1 RX5 0 0 := hC0
  change V X E 1 0 [(0, .int v0)] [] I
  unfold f_X5_bit at hf
  refine V_iconst (pc := 0) hC dX5_bit_0 (v := (1 : Int32)) (by decide) ?_
  refine V_iload_n (pc := 1) hC 0 dX5_bit_1 rfl rfl ?_
  refine V_ishl (pc := 2) hC dX5_bit_2 ?_
  subst hf
  exact V_ireturn (pc := 3) hR rfl dX5_bit_3
def f_X5_holds (v0 : Int32) (v1 : Int32) : Int32 := (if (v0 &&& (f_X5_bit v1)) = 0 then (0 : Int32) else (1 : Int32))
set_option maxHeartbeats 4000000 in
set_option maxRecDepth 100000 in
theorem c_X5_holds {E : EN} {v0 : Int32} {v1 : Int32} {I : Mem} {r : Int32} (hf : f_X5_holds v0 v1 = r) : Ct E yX5_holds cX5_holds 2 (some .boolean) 1 20 [.int v0, .int v1] I (some (.int r)) I := by
  refine Ct_of (by decide) (Nat.le_of_ble_eq_true rfl) (fun X hC0 hR => ?_)
  have hC : Cx X E cX5_holds 2 RX5 1 20 := hC0
  change V X E 2 0 [(0, .int v0), (1, .int v1)] [] I
  unfold f_X5_holds at hf
  refine V_iload_n (pc := 0) hC 0 dX5_holds_0 rfl rfl ?_
  refine V_iload_n (pc := 1) hC 1 dX5_holds_1 rfl rfl ?_
  refine V_callS (pc := 2) (rest := [.int v0]) (As := [.int v1]) hC lk_X5_69 (c_X5_bit  rfl) rfl rfl (Nat.le_of_ble_eq_true rfl) (by decide) dX5_holds_2 ?_
  change V X E 2 5 [(0, .int v0), (1, .int v1)] [.int (f_X5_bit v1), .int v0] I
  refine V_iand (pc := 5) hC dX5_holds_5 ?_
  refine V_if_eq (pc := 6) (tgt := 13) hC dX5_holds_6 (by decide) (fun c1 => ?_) (fun c1 => ?_)
  · have hf := ite_t hf c1
    refine V_iconst (pc := 13) hC dX5_holds_13 (v := (0 : Int32)) (by decide) ?_
    subst hf
    exact V_ireturn (pc := 14) hR (nar_z (by decide)) dX5_holds_14
  · have hf := ite_f hf c1
    refine V_iconst (pc := 9) hC dX5_holds_9 (v := (1 : Int32)) (by decide) ?_
    refine V_goto (pc := 10) (tgt := 14) hC dX5_holds_10 (by decide) ?_
    subst hf
    exact V_ireturn (pc := 14) hR (nar_z (by decide)) dX5_holds_14
def f_X5_factorial (k : Nat) (v0 : Int32) (I : Mem) : Option (Int32) := (if v0 < 0 then some (0 : Int32) else (if (11 : Int32) ≤ v0 then some (0 : Int32) else (if inB v0 11 = true then some (facI (Int32.toNatClampNeg v0)) else none)))
set_option maxHeartbeats 4000000 in
set_option maxRecDepth 100000 in
theorem c_X5_factorial {E : EN} {k : Nat} {v0 : Int32} {I : Mem} {r : Int32} (hf : f_X5_factorial k v0 I = some r) : Ct E yX5_factorial cX5_factorial 1 (some .int) 0 0 [.int v0] I (some (.int r)) I := by
  refine Ct_of (by decide) (Nat.le_of_ble_eq_true rfl) (fun X hC0 hR => ?_)
  have hC : Cx X E cX5_factorial 1 RX5 0 0 := hC0
  change V X E 1 0 [(0, .int v0)] [] I
  unfold f_X5_factorial at hf
  refine V_iload_n (pc := 0) hC 0 dX5_factorial_0 rfl rfl ?_
  refine V_if_lt (pc := 1) (tgt := 20) hC dX5_factorial_1 (by decide) (fun c1 => ?_) (fun c1 => ?_)
  · have hf := ite_t hf c1
    refine V_iconst (pc := 20) hC dX5_factorial_20 (v := (0 : Int32)) (by decide) ?_
    cases hf
    exact V_ireturn (pc := 21) hR rfl dX5_factorial_21
  · have hf := ite_f hf c1
    refine V_iload_n (pc := 4) hC 0 dX5_factorial_4 rfl rfl ?_
    refine V_gets (pc := 5) hC gs_X5_238 dX5_factorial_5 ?_
    refine V_tlen (pc := 8) hC dX5_factorial_8 ?_
    refine V_icmp_ge (pc := 9) (tgt := 20) hC dX5_factorial_9 (by decide) (fun c2 => ?_) (fun c2 => ?_)
    · have hf := ite_t hf c2
      refine V_iconst (pc := 20) hC dX5_factorial_20 (v := (0 : Int32)) (by decide) ?_
      cases hf
      exact V_ireturn (pc := 21) hR rfl dX5_factorial_21
    · have hf := ite_f hf c2
      refine V_gets (pc := 12) hC gs_X5_238 dX5_factorial_12 ?_
      refine V_iload_n (pc := 15) hC 0 dX5_factorial_15 rfl rfl ?_
      obtain ⟨h3, hf⟩ := if_some hf
      refine V_tld (pc := 16) hC (inB_of h3) dX5_factorial_16 ?_
      refine V_goto (pc := 17) (tgt := 21) hC dX5_factorial_17 (by decide) ?_
      cases hf
      exact V_ireturn (pc := 21) hR rfl dX5_factorial_21
def f_J6_compare_7cf53 (v0 : Int32) (v1 : Int32) : Int32 := (if v1 ≤ v0 then (if v0 = v1 then (0 : Int32) else (1 : Int32)) else (-1 : Int32))
set_option maxHeartbeats 4000000 in
set_option maxRecDepth 100000 in
theorem c_J6_compare_7cf53 {E : EN} {v0 : Int32} {v1 : Int32} {I : Mem} {r : Int32} (hf : f_J6_compare_7cf53 v0 v1 = r) : Ct E yJ6_compare_7cf53 cJ6_compare_7cf53 2 (some .int) 0 0 [.int v0, .int v1] I (some (.int r)) I := by
  refine Ct_of (by decide) (Nat.le_of_ble_eq_true rfl) (fun X hC0 hR => ?_)
  have hC : Cx X E cJ6_compare_7cf53 2 RJ6 0 0 := hC0
  change V X E 2 0 [(0, .int v0), (1, .int v1)] [] I
  unfold f_J6_compare_7cf53 at hf
  refine V_iload_n (pc := 0) hC 0 dJ6_compare_7cf53_0 rfl rfl ?_
  refine V_iload_n (pc := 1) hC 1 dJ6_compare_7cf53_1 rfl rfl ?_
  refine V_icmp_ge (pc := 2) (tgt := 9) hC dJ6_compare_7cf53_2 (by decide) (fun c1 => ?_) (fun c1 => ?_)
  · have hf := ite_t hf c1
    refine V_iload_n (pc := 9) hC 0 dJ6_compare_7cf53_9 rfl rfl ?_
    refine V_iload_n (pc := 10) hC 1 dJ6_compare_7cf53_10 rfl rfl ?_
    refine V_icmp_ne (pc := 11) (tgt := 18) hC dJ6_compare_7cf53_11 (by decide) (fun c2 => ?_) (fun c2 => ?_)
    · have hf := ite_f hf c2
      refine V_iconst (pc := 18) hC dJ6_compare_7cf53_18 (v := (1 : Int32)) (by decide) ?_
      subst hf
      exact V_ireturn (pc := 19) hR rfl dJ6_compare_7cf53_19
    · have hf := ite_t hf c2
      refine V_iconst (pc := 14) hC dJ6_compare_7cf53_14 (v := (0 : Int32)) (by decide) ?_
      refine V_goto (pc := 15) (tgt := 19) hC dJ6_compare_7cf53_15 (by decide) ?_
      subst hf
      exact V_ireturn (pc := 19) hR rfl dJ6_compare_7cf53_19
  · have hf := ite_f hf c1
    refine V_iconst (pc := 5) hC dJ6_compare_7cf53_5 (v := (-1 : Int32)) (by decide) ?_
    refine V_goto (pc := 6) (tgt := 19) hC dJ6_compare_7cf53_6 (by decide) ?_
    subst hf
    exact V_ireturn (pc := 19) hR rfl dJ6_compare_7cf53_19
end
section
def f_X0_copyFrom (k : Nat) (s : Nat) (s2 : Nat) (I : Mem) : Option (Mem) := some (arrcpy (arrcpy (arrcpy (up2 (up2 I (8 * s + 4) 0 (I (8 * s2 + 4) 0)) (8 * s + 4) 1 ((up2 I (8 * s + 4) 0 (I (8 * s2 + 4) 0)) (8 * s2 + 4) 1)) (8 * s2 + 5) (8 * s + 5) (0 : Int32) (0 : Int32) (8 : Int32)) (8 * s2 + 6) (8 * s + 6) (0 : Int32) (0 : Int32) (8 : Int32)) (8 * s2 + 7) (8 * s + 7) (0 : Int32) (0 : Int32) (8 : Int32))
set_option maxHeartbeats 4000000 in
set_option maxRecDepth 100000 in
theorem c_X0_copyFrom {E : EN} {k : Nat} {s : Nat} {s2 : Nat} {I : Mem} {r : Mem} (hs : s < 6) (hs2 : s2 < 6) (hf : f_X0_copyFrom k s s2 I = some r) : Ct E yX0_copyFrom cX0_copyFrom 2 none 1 60 [.ref (E.2.1 (8 * s + 4)), .ref (E.2.1 (8 * s2 + 4))] I none r := by
  refine Ct_of (by decide) (Nat.le_of_ble_eq_true rfl) (fun X hC0 hR => ?_)
  have hC : Cx X E cX0_copyFrom 2 RX0 1 60 := hC0
  change V X E 2 0 [(0, .ref (E.2.1 (8 * s + 4))), (1, .ref (E.2.1 (8 * s2 + 4)))] [] I
  unfold f_X0_copyFrom at hf
  refine V_aload_n (pc := 0) hC 0 dX0_copyFrom_0 rfl rfl ?_
  refine V_aload_n (pc := 1) hC 1 dX0_copyFrom_1 rfl rfl ?_
  refine gf_X0_21 (pc := 2) hs2 hC dX0_copyFrom_2 ?_
  refine pf_X0_21 (pc := 5) hs hC dX0_copyFrom_5 ?_
  refine V_aload_n (pc := 8) hC 0 dX0_copyFrom_8 rfl rfl ?_
  refine V_aload_n (pc := 9) hC 1 dX0_copyFrom_9 rfl rfl ?_
  refine gf_X0_25 (pc := 10) hs2 hC dX0_copyFrom_10 ?_
  refine pf_X0_25 (pc := 13) hs hC dX0_copyFrom_13 ?_
  refine V_aload_n (pc := 16) hC 1 dX0_copyFrom_16 rfl rfl ?_
  refine gf_X0_9 (pc := 17) hs2 hC dX0_copyFrom_17 ?_
  refine V_iconst (pc := 20) hC dX0_copyFrom_20 (v := (0 : Int32)) (by decide) ?_
  refine V_aload_n (pc := 21) hC 0 dX0_copyFrom_21 rfl rfl ?_
  refine gf_X0_9 (pc := 22) hs hC dX0_copyFrom_22 ?_
  refine V_iconst (pc := 25) hC dX0_copyFrom_25 (v := (0 : Int32)) (by decide) ?_
  refine V_bipush (pc := 26) hC dX0_copyFrom_26 (v := (8 : Int32)) (by decide) ?_
  refine V_copy (pc := 28) hC (ia_ba hs2 (by decide) (by decide)) (ia_ba hs (by decide) (by decide)) lk_X0_28 ac_native ac_static ac_init (hC.2.2.2.2.1 _ ac_nativeT) (by decide) (by decide) (by decide) (by decide) (by decide) (by decide) (Nat.le_of_ble_eq_true rfl) dX0_copyFrom_28 ?_
  refine V_aload_n (pc := 31) hC 1 dX0_copyFrom_31 rfl rfl ?_
  refine gf_X0_15 (pc := 32) hs2 hC dX0_copyFrom_32 ?_
  refine V_iconst (pc := 35) hC dX0_copyFrom_35 (v := (0 : Int32)) (by decide) ?_
  refine V_aload_n (pc := 36) hC 0 dX0_copyFrom_36 rfl rfl ?_
  refine gf_X0_15 (pc := 37) hs hC dX0_copyFrom_37 ?_
  refine V_iconst (pc := 40) hC dX0_copyFrom_40 (v := (0 : Int32)) (by decide) ?_
  refine V_bipush (pc := 41) hC dX0_copyFrom_41 (v := (8 : Int32)) (by decide) ?_
  refine V_copy (pc := 43) hC (ia_ba hs2 (by decide) (by decide)) (ia_ba hs (by decide) (by decide)) lk_X0_28 ac_native ac_static ac_init (hC.2.2.2.2.1 _ ac_nativeT) (by decide) (by decide) (by decide) (by decide) (by decide) (by decide) (Nat.le_of_ble_eq_true rfl) dX0_copyFrom_43 ?_
  refine V_aload_n (pc := 46) hC 1 dX0_copyFrom_46 rfl rfl ?_
  refine gf_X0_18 (pc := 47) hs2 hC dX0_copyFrom_47 ?_
  refine V_iconst (pc := 50) hC dX0_copyFrom_50 (v := (0 : Int32)) (by decide) ?_
  refine V_aload_n (pc := 51) hC 0 dX0_copyFrom_51 rfl rfl ?_
  refine gf_X0_18 (pc := 52) hs hC dX0_copyFrom_52 ?_
  refine V_iconst (pc := 55) hC dX0_copyFrom_55 (v := (0 : Int32)) (by decide) ?_
  refine V_bipush (pc := 56) hC dX0_copyFrom_56 (v := (8 : Int32)) (by decide) ?_
  refine V_copy (pc := 58) hC (ia_ba hs2 (by decide) (by decide)) (ia_ba hs (by decide) (by decide)) lk_X0_28 ac_native ac_static ac_init (hC.2.2.2.2.1 _ ac_nativeT) (by decide) (by decide) (by decide) (by decide) (by decide) (by decide) (Nat.le_of_ble_eq_true rfl) dX0_copyFrom_58 ?_
  cases hf
  exact V_return (pc := 61) hR trivial dX0_copyFrom_61
def f_X0_putFirst_5 (k : Nat) (a0 : Nat) (v1 : Int32) : Nat → Int32 → Mem → Option (Mem)
  | 0, _, _ => none
  | n + 1, v2, I => (if v2 ≤ 0 then (if (8 : Int32) ≤ 0 then some I else some (up2 I (a0) (Int32.toNatClampNeg (0 : Int32)) v1)) else (if inB (v2 - (1 : Int32)) 8 = true then (if inB v2 8 = true then (f_X0_putFirst_5 k a0 v1 n) (v2 + (-1 : Int32)) (up2 I (a0) (Int32.toNatClampNeg v2) (I (a0) (Int32.toNatClampNeg (v2 - (1 : Int32))))) else none) else none))
set_option maxHeartbeats 4000000 in
set_option maxRecDepth 100000 in
theorem b_X0_putFirst_5 {X : XT} {E : EN} {k : Nat} {a0 : Nat} {v1 : Int32} {r : Mem} (hC : Cx X E cX0_putFirst 3 RX0 0 0) (ha0 : IA a0 8) (hR : Rt X E cX0_putFirst none none r) : ∀ (n : Nat) (v2 : Int32) (I : Mem), f_X0_putFirst_5 k a0 v1 n v2 I = some r → V X E 3 5 [(0, .ref (E.2.1 (a0))), (1, .int v1), (2, .int v2)] [] I := by
  intro n
  induction n with
  | zero =>
    intro v2 I hf
    rw [f_X0_putFirst_5] at hf
    cases hf
  | succ n ih =>
    intro v2 I hf
    rw [f_X0_putFirst_5] at hf
    refine V_iload_n (pc := 5) hC 2 dX0_putFirst_5 rfl rfl ?_
    refine V_if_le (pc := 6) (tgt := 23) hC dX0_putFirst_6 (by decide) (fun c1 => ?_) (fun c1 => ?_)
    · have hf := ite_t hf c1
      refine V_aload_n (pc := 23) hC 0 dX0_putFirst_23 rfl rfl ?_
      refine V_ialen (pc := 24) (v := (8 : Int32)) hC ha0 (by decide) dX0_putFirst_24 ?_
      refine V_if_le (pc := 25) (tgt := 32) hC dX0_putFirst_25 (by decide) (fun c2 => ?_) (fun c2 => ?_)
      · have hf := ite_t hf c2
        cases hf
        exact V_return (pc := 32) hR trivial dX0_putFirst_32
      · have hf := ite_f hf c2
        refine V_aload_n (pc := 28) hC 0 dX0_putFirst_28 rfl rfl ?_
        refine V_iconst (pc := 29) hC dX0_putFirst_29 (v := (0 : Int32)) (by decide) ?_
        refine V_iload_n (pc := 30) hC 1 dX0_putFirst_30 rfl rfl ?_
        refine V_iast (pc := 31) hC ha0 (inB_of (by decide)) dX0_putFirst_31 ?_
        cases hf
        exact V_return (pc := 32) hR trivial dX0_putFirst_32
    · have hf := ite_f hf c1
      refine V_aload_n (pc := 9) hC 0 dX0_putFirst_9 rfl rfl ?_
      refine V_iload_n (pc := 10) hC 2 dX0_putFirst_10 rfl rfl ?_
      refine V_aload_n (pc := 11) hC 0 dX0_putFirst_11 rfl rfl ?_
      refine V_iload_n (pc := 12) hC 2 dX0_putFirst_12 rfl rfl ?_
      refine V_iconst (pc := 13) hC dX0_putFirst_13 (v := (1 : Int32)) (by decide) ?_
      refine V_isub (pc := 14) hC dX0_putFirst_14 ?_
      obtain ⟨h3, hf⟩ := if_some hf
      refine V_iald (pc := 15) hC ha0 (inB_of h3) dX0_putFirst_15 ?_
      obtain ⟨h4, hf⟩ := if_some hf
      refine V_iast (pc := 16) hC ha0 (inB_of h4) dX0_putFirst_16 ?_
      refine V_iinc (pc := 17) (lv' := [(2, .int (v2 + (-1 : Int32))), (0, .ref (E.2.1 (a0))), (1, .int v1)]) hC (-1 : Int32) 2 dX0_putFirst_17 rfl (by decide) (by decide) rfl ?_
      refine V_goto (pc := 20) (tgt := 5) hC dX0_putFirst_20 (by decide) ?_
      refine V_sub (pc := 5) (lv' := [(0, .ref (E.2.1 (a0))), (1, .int v1), (2, .int (v2 + (-1 : Int32)))]) [1, 2, 0] rfl ?_
      exact ih (v2 + (-1 : Int32)) (up2 I (a0) (Int32.toNatClampNeg v2) (I (a0) (Int32.toNatClampNeg (v2 - (1 : Int32))))) hf
def f_X0_putFirst (k : Nat) (a0 : Nat) (v1 : Int32) (I : Mem) : Option (Mem) := f_X0_putFirst_5 k a0 v1 k ((8 : Int32) - (1 : Int32)) I
set_option maxHeartbeats 4000000 in
set_option maxRecDepth 100000 in
theorem c_X0_putFirst {E : EN} {k : Nat} {a0 : Nat} {v1 : Int32} {I : Mem} {r : Mem} (ha0 : IA a0 8) (hf : f_X0_putFirst k a0 v1 I = some r) : Ct E yX0_putFirst cX0_putFirst 3 none 0 0 [.ref (E.2.1 (a0)), .int v1] I none r := by
  refine Ct_of (by decide) (Nat.le_of_ble_eq_true rfl) (fun X hC0 hR => ?_)
  have hC : Cx X E cX0_putFirst 3 RX0 0 0 := hC0
  change V X E 3 0 [(0, .ref (E.2.1 (a0))), (1, .int v1)] [] I
  unfold f_X0_putFirst at hf
  refine V_aload_n (pc := 0) hC 0 dX0_putFirst_0 rfl rfl ?_
  refine V_ialen (pc := 1) (v := (8 : Int32)) hC ha0 (by decide) dX0_putFirst_1 ?_
  refine V_iconst (pc := 2) hC dX0_putFirst_2 (v := (1 : Int32)) (by decide) ?_
  refine V_isub (pc := 3) hC dX0_putFirst_3 ?_
  refine V_istore_n (pc := 4) (lv' := [(2, .int ((8 : Int32) - (1 : Int32))), (0, .ref (E.2.1 (a0))), (1, .int v1)]) hC dX0_putFirst_4 rfl (by decide) rfl ?_
  refine V_sub (pc := 5) (lv' := [(0, .ref (E.2.1 (a0))), (1, .int v1), (2, .int ((8 : Int32) - (1 : Int32)))]) [1, 2, 0] rfl ?_
  exact b_X0_putFirst_5 hC ha0 hR k ((8 : Int32) - (1 : Int32)) I hf
def f_X0_add (k : Nat) (s : Nat) (v1 : Int32) (v2 : Int32) (v3 : Int32) (I : Mem) : Option (Mem) := (Option.bind (f_X0_putFirst k (8 * s + 5) (f_X5_oneIf v1) (up2 (up2 I (8 * s + 4) 0 ((I (8 * s + 4) 0) + (1 : Int32))) (8 * s + 4) 1 (((up2 I (8 * s + 4) 0 ((I (8 * s + 4) 0) + (1 : Int32))) (8 * s + 4) 1) + (f_X5_oneIf v1)))) (fun r1 => (Option.bind (f_X0_putFirst k (8 * s + 6) v2 r1) (fun r2 => (Option.bind (f_X0_putFirst k (8 * s + 7) v3 r2) (fun r3 => some r3))))))
set_option maxHeartbeats 4000000 in
set_option maxRecDepth 100000 in
theorem c_X0_add {E : EN} {k : Nat} {s : Nat} {v1 : Int32} {v2 : Int32} {v3 : Int32} {I : Mem} {r : Mem} (hs : s < 6) (hf : f_X0_add k s v1 v2 v3 I = some r) : Ct E yX0_add cX0_add 4 none 1 22 [.ref (E.2.1 (8 * s + 4)), .int v1, .int v2, .int v3] I none r := by
  refine Ct_of (by decide) (Nat.le_of_ble_eq_true rfl) (fun X hC0 hR => ?_)
  have hC : Cx X E cX0_add 4 RX0 1 22 := hC0
  change V X E 4 0 [(0, .ref (E.2.1 (8 * s + 4))), (1, .int v1), (2, .int v2), (3, .int v3)] [] I
  unfold f_X0_add at hf
  refine V_aload_n (pc := 0) hC 0 dX0_add_0 rfl rfl ?_
  refine V_dup (pc := 1) hC dX0_add_1 rfl ?_
  refine gf_X0_21 (pc := 2) hs hC dX0_add_2 ?_
  refine V_iconst (pc := 5) hC dX0_add_5 (v := (1 : Int32)) (by decide) ?_
  refine V_iadd (pc := 6) hC dX0_add_6 ?_
  refine pf_X0_21 (pc := 7) hs hC dX0_add_7 ?_
  refine V_aload_n (pc := 10) hC 0 dX0_add_10 rfl rfl ?_
  refine V_dup (pc := 11) hC dX0_add_11 rfl ?_
  refine gf_X0_25 (pc := 12) hs hC dX0_add_12 ?_
  refine V_iload_n (pc := 15) hC 1 dX0_add_15 rfl rfl ?_
  refine V_callN (pc := 16) (rest := [.int ((up2 I (8 * s + 4) 0 ((I (8 * s + 4) 0) + (1 : Int32))) (8 * s + 4) 1), .ref (E.2.1 (8 * s + 4))]) (As := [.int v1]) hC lk_X0_34 (c_X5_oneIf  rfl) rfl rfl (Nat.le_of_ble_eq_true rfl) (by decide) dX0_add_16 ?_
  change V X E 4 19 [(0, .ref (E.2.1 (8 * s + 4))), (1, .int v1), (2, .int v2), (3, .int v3)] [.int (f_X5_oneIf v1), .int ((up2 I (8 * s + 4) 0 ((I (8 * s + 4) 0) + (1 : Int32))) (8 * s + 4) 1), .ref (E.2.1 (8 * s + 4))] (up2 I (8 * s + 4) 0 ((I (8 * s + 4) 0) + (1 : Int32)))
  refine V_iadd (pc := 19) hC dX0_add_19 ?_
  refine pf_X0_25 (pc := 20) hs hC dX0_add_20 ?_
  refine V_aload_n (pc := 23) hC 0 dX0_add_23 rfl rfl ?_
  refine gf_X0_9 (pc := 24) hs hC dX0_add_24 ?_
  refine V_iload_n (pc := 27) hC 1 dX0_add_27 rfl rfl ?_
  refine V_callN (pc := 28) (rest := [.ref (E.2.1 (8 * s + 5))]) (As := [.int v1]) hC lk_X0_34 (c_X5_oneIf  rfl) rfl rfl (Nat.le_of_ble_eq_true rfl) (by decide) dX0_add_28 ?_
  change V X E 4 31 [(0, .ref (E.2.1 (8 * s + 4))), (1, .int v1), (2, .int v2), (3, .int v3)] [.int (f_X5_oneIf v1), .ref (E.2.1 (8 * s + 5))] (up2 (up2 I (8 * s + 4) 0 ((I (8 * s + 4) 0) + (1 : Int32))) (8 * s + 4) 1 (((up2 I (8 * s + 4) 0 ((I (8 * s + 4) 0) + (1 : Int32))) (8 * s + 4) 1) + (f_X5_oneIf v1)))
  obtain ⟨r1, g1, hf⟩ := bind_some hf
  refine V_callS (pc := 31) (rest := []) (As := [.ref (E.2.1 (8 * s + 5)), .int (f_X5_oneIf v1)]) hC lk_X0_38 (c_X0_putFirst (ia_ba hs (by decide) (by decide)) g1) rfl rfl (Nat.le_of_ble_eq_true rfl) (by decide) dX0_add_31 ?_
  change V X E 4 34 [(0, .ref (E.2.1 (8 * s + 4))), (1, .int v1), (2, .int v2), (3, .int v3)] [] r1
  refine V_aload_n (pc := 34) hC 0 dX0_add_34 rfl rfl ?_
  refine gf_X0_15 (pc := 35) hs hC dX0_add_35 ?_
  refine V_iload_n (pc := 38) hC 2 dX0_add_38 rfl rfl ?_
  obtain ⟨r2, g2, hf⟩ := bind_some hf
  refine V_callS (pc := 39) (rest := []) (As := [.ref (E.2.1 (8 * s + 6)), .int v2]) hC lk_X0_38 (c_X0_putFirst (ia_ba hs (by decide) (by decide)) g2) rfl rfl (Nat.le_of_ble_eq_true rfl) (by decide) dX0_add_39 ?_
  change V X E 4 42 [(0, .ref (E.2.1 (8 * s + 4))), (1, .int v1), (2, .int v2), (3, .int v3)] [] r2
  refine V_aload_n (pc := 42) hC 0 dX0_add_42 rfl rfl ?_
  refine gf_X0_18 (pc := 43) hs hC dX0_add_43 ?_
  refine V_iload_n (pc := 46) hC 3 dX0_add_46 rfl rfl ?_
  obtain ⟨r3, g3, hf⟩ := bind_some hf
  refine V_callS (pc := 47) (rest := []) (As := [.ref (E.2.1 (8 * s + 7)), .int v3]) hC lk_X0_38 (c_X0_putFirst (ia_ba hs (by decide) (by decide)) g3) rfl rfl (Nat.le_of_ble_eq_true rfl) (by decide) dX0_add_47 ?_
  change V X E 4 50 [(0, .ref (E.2.1 (8 * s + 4))), (1, .int v1), (2, .int v2), (3, .int v3)] [] r3
  cases hf
  exact V_return (pc := 50) hR trivial dX0_add_50
def f_X1_dropOldest_9 (k : Nat) (q1 : Nat) : Nat → Int32 → Mem → Option (Mem)
  | 0, _, _ => none
  | n + 1, v2, I => (if (4 : Int32) ≤ v2 then some (up2 (up2 I 50 (Int32.toNatClampNeg (3 : Int32)) (nI q1)) (49) 1 (((up2 I 50 (Int32.toNatClampNeg (3 : Int32)) (nI q1)) (49) 1) - (1 : Int32))) else (if inB v2 4 = true then (if Int32.toNatClampNeg (I 50 (Int32.toNatClampNeg v2)) < 6 then (if inB (v2 - (1 : Int32)) 4 = true then (f_X1_dropOldest_9 k q1 n) (v2 + (1 : Int32)) (up2 I 50 (Int32.toNatClampNeg (v2 - (1 : Int32))) (nI (Int32.toNatClampNeg (I 50 (Int32.toNatClampNeg v2))))) else none) else none) else none))
set_option maxHeartbeats 4000000 in
set_option maxRecDepth 100000 in
theorem b_X1_dropOldest_9 {X : XT} {E : EN} {k : Nat} {q1 : Nat} {r : Mem} (hC : Cx X E cX1_dropOldest 3 RX1 0 0) (hq1 : q1 < 6) (hR : Rt X E cX1_dropOldest none none r) : ∀ (n : Nat) (v2 : Int32) (I : Mem), f_X1_dropOldest_9 k q1 n v2 I = some r → V X E 3 9 [(0, .ref (E.2.1 (49))), (1, .ref (E.2.1 (8 * q1))), (2, .int v2)] [] I := by
  intro n
  induction n with
  | zero =>
    intro v2 I hf
    rw [f_X1_dropOldest_9] at hf
    cases hf
  | succ n ih =>
    intro v2 I hf
    rw [f_X1_dropOldest_9] at hf
    refine V_iload_n (pc := 9) hC 2 dX1_dropOldest_9 rfl rfl ?_
    refine V_iconst (pc := 10) hC dX1_dropOldest_10 (v := (4 : Int32)) (by decide) ?_
    refine V_icmp_ge (pc := 11) (tgt := 34) hC dX1_dropOldest_11 (by decide) (fun c2 => ?_) (fun c2 => ?_)
    · have hf := ite_t hf c2
      refine V_aload_n (pc := 34) hC 0 dX1_dropOldest_34 rfl rfl ?_
      refine gf_X1_11 (pc := 35) hC dX1_dropOldest_35 ?_
      refine V_iconst (pc := 38) hC dX1_dropOldest_38 (v := (3 : Int32)) (by decide) ?_
      refine V_aload_n (pc := 39) hC 1 dX1_dropOldest_39 rfl rfl ?_
      refine V_ast50 (pc := 40) (s := q1) hC hq1 (inB_of (by decide)) dX1_dropOldest_40 ?_
      refine V_aload_n (pc := 41) hC 0 dX1_dropOldest_41 rfl rfl ?_
      refine V_dup (pc := 42) hC dX1_dropOldest_42 rfl ?_
      refine gf_X1_18 (pc := 43) hC dX1_dropOldest_43 ?_
      refine V_iconst (pc := 46) hC dX1_dropOldest_46 (v := (1 : Int32)) (by decide) ?_
      refine V_isub (pc := 47) hC dX1_dropOldest_47 ?_
      refine pf_X1_18 (pc := 48) hC dX1_dropOldest_48 ?_
      cases hf
      exact V_return (pc := 51) hR trivial dX1_dropOldest_51
    · have hf := ite_f hf c2
      refine V_aload_n (pc := 14) hC 0 dX1_dropOldest_14 rfl rfl ?_
      refine gf_X1_11 (pc := 15) hC dX1_dropOldest_15 ?_
      refine V_iload_n (pc := 18) hC 2 dX1_dropOldest_18 rfl rfl ?_
      refine V_iconst (pc := 19) hC dX1_dropOldest_19 (v := (1 : Int32)) (by decide) ?_
      refine V_isub (pc := 20) hC dX1_dropOldest_20 ?_
      refine V_aload_n (pc := 21) hC 0 dX1_dropOldest_21 rfl rfl ?_
      refine gf_X1_11 (pc := 22) hC dX1_dropOldest_22 ?_
      refine V_iload_n (pc := 25) hC 2 dX1_dropOldest_25 rfl rfl ?_
      obtain ⟨h3, hf⟩ := if_some hf
      obtain ⟨h4, hf⟩ := if_some hf
      refine V_ald50 (pc := 26) hC (inB_of h3) dX1_dropOldest_26 ?_
      obtain ⟨h5, hf⟩ := if_some hf
      refine V_ast50 (pc := 27) (s := (Int32.toNatClampNeg (I 50 (Int32.toNatClampNeg v2)))) hC h4 (inB_of h5) dX1_dropOldest_27 ?_
      refine V_iinc (pc := 28) (lv' := [(2, .int (v2 + (1 : Int32))), (0, .ref (E.2.1 (49))), (1, .ref (E.2.1 (8 * q1)))]) hC (1 : Int32) 2 dX1_dropOldest_28 rfl (by decide) (by decide) rfl ?_
      refine V_goto (pc := 31) (tgt := 9) hC dX1_dropOldest_31 (by decide) ?_
      refine V_sub (pc := 9) (lv' := [(0, .ref (E.2.1 (49))), (1, .ref (E.2.1 (8 * q1))), (2, .int (v2 + (1 : Int32)))]) [1, 2, 0] rfl ?_
      exact ih (v2 + (1 : Int32)) (up2 I 50 (Int32.toNatClampNeg (v2 - (1 : Int32))) (nI (Int32.toNatClampNeg (I 50 (Int32.toNatClampNeg v2))))) hf
def f_X1_dropOldest (k : Nat) (I : Mem) : Option (Mem) := (if Int32.toNatClampNeg (I 50 (Int32.toNatClampNeg (0 : Int32))) < 6 then f_X1_dropOldest_9 k (Int32.toNatClampNeg (I 50 (Int32.toNatClampNeg (0 : Int32)))) k (1 : Int32) I else none)
set_option maxHeartbeats 4000000 in
set_option maxRecDepth 100000 in
theorem c_X1_dropOldest {E : EN} {k : Nat} {I : Mem} {r : Mem} (hf : f_X1_dropOldest k I = some r) : Ct E yX1_dropOldest cX1_dropOldest 3 none 0 0 [.ref (E.2.1 (49))] I none r := by
  refine Ct_of (by decide) (Nat.le_of_ble_eq_true rfl) (fun X hC0 hR => ?_)
  have hC : Cx X E cX1_dropOldest 3 RX1 0 0 := hC0
  change V X E 3 0 [(0, .ref (E.2.1 (49)))] [] I
  unfold f_X1_dropOldest at hf
  refine V_aload_n (pc := 0) hC 0 dX1_dropOldest_0 rfl rfl ?_
  refine gf_X1_11 (pc := 1) hC dX1_dropOldest_1 ?_
  refine V_iconst (pc := 4) hC dX1_dropOldest_4 (v := (0 : Int32)) (by decide) ?_
  obtain ⟨h1, hf⟩ := if_some hf
  refine V_ald50 (pc := 5) hC (inB_of (by decide)) dX1_dropOldest_5 ?_
  refine V_astore_n (pc := 6) (lv' := [(1, .ref (E.2.1 (8 * (Int32.toNatClampNeg (I 50 (Int32.toNatClampNeg (0 : Int32))))))), (0, .ref (E.2.1 (49)))]) hC dX1_dropOldest_6 rfl (by decide) rfl ?_
  refine V_iconst (pc := 7) hC dX1_dropOldest_7 (v := (1 : Int32)) (by decide) ?_
  refine V_istore_n (pc := 8) (lv' := [(2, .int (1 : Int32)), (1, .ref (E.2.1 (8 * (Int32.toNatClampNeg (I 50 (Int32.toNatClampNeg (0 : Int32))))))), (0, .ref (E.2.1 (49)))]) hC dX1_dropOldest_8 rfl (by decide) rfl ?_
  refine V_sub (pc := 9) (lv' := [(0, .ref (E.2.1 (49))), (1, .ref (E.2.1 (8 * (Int32.toNatClampNeg (I 50 (Int32.toNatClampNeg (0 : Int32))))))), (2, .int (1 : Int32))]) [2, 1, 0] rfl ?_
  exact b_X1_dropOldest_9 hC h1 hR k (1 : Int32) I hf
def f_X3_copyFrom (k : Nat) (s : Nat) (s2 : Nat) (I : Mem) : Option (Mem) := (Option.bind (f_X0_copyFrom k s s2 (arrcpy (arrcpy (arrcpy (up2 (up2 (up2 I (8 * s) 0 (I (8 * s2) 0)) (8 * s) 1 ((up2 I (8 * s) 0 (I (8 * s2) 0)) (8 * s2) 1)) (8 * s) 2 ((up2 (up2 I (8 * s) 0 (I (8 * s2) 0)) (8 * s) 1 ((up2 I (8 * s) 0 (I (8 * s2) 0)) (8 * s2) 1)) (8 * s2) 2)) (8 * s2 + 1) (8 * s + 1) (0 : Int32) (0 : Int32) (10 : Int32)) (8 * s2 + 2) (8 * s + 2) (0 : Int32) (0 : Int32) (10 : Int32)) (8 * s2 + 3) (8 * s + 3) (0 : Int32) (0 : Int32) (10 : Int32))) (fun r1 => some r1))
set_option maxHeartbeats 4000000 in
set_option maxRecDepth 100000 in
theorem c_X3_copyFrom {E : EN} {k : Nat} {s : Nat} {s2 : Nat} {I : Mem} {r : Mem} (hs : s < 6) (hs2 : s2 < 6) (hf : f_X3_copyFrom k s s2 I = some r) : Ct E yX3_copyFrom cX3_copyFrom 2 none 2 81 [.ref (E.2.1 (8 * s)), .ref (E.2.1 (8 * s2))] I none r := by
  refine Ct_of (by decide) (Nat.le_of_ble_eq_true rfl) (fun X hC0 hR => ?_)
  have hC : Cx X E cX3_copyFrom 2 RX3 2 81 := hC0
  change V X E 2 0 [(0, .ref (E.2.1 (8 * s))), (1, .ref (E.2.1 (8 * s2)))] [] I
  unfold f_X3_copyFrom at hf
  refine V_aload_n (pc := 0) hC 0 dX3_copyFrom_0 rfl rfl ?_
  refine V_aload_n (pc := 1) hC 1 dX3_copyFrom_1 rfl rfl ?_
  refine gf_X3_32 (pc := 2) hs2 hC dX3_copyFrom_2 ?_
  refine pf_X3_32 (pc := 5) hs hC dX3_copyFrom_5 ?_
  refine V_aload_n (pc := 8) hC 0 dX3_copyFrom_8 rfl rfl ?_
  refine V_aload_n (pc := 9) hC 1 dX3_copyFrom_9 rfl rfl ?_
  refine gf_X3_9 (pc := 10) hs2 hC dX3_copyFrom_10 ?_
  refine pf_X3_9 (pc := 13) hs hC dX3_copyFrom_13 ?_
  refine V_aload_n (pc := 16) hC 0 dX3_copyFrom_16 rfl rfl ?_
  refine V_aload_n (pc := 17) hC 1 dX3_copyFrom_17 rfl rfl ?_
  refine gf_X3_35 (pc := 18) hs2 hC dX3_copyFrom_18 ?_
  refine pf_X3_35 (pc := 21) hs hC dX3_copyFrom_21 ?_
  refine V_aload_n (pc := 24) hC 1 dX3_copyFrom_24 rfl rfl ?_
  refine gf_X3_15 (pc := 25) hs2 hC dX3_copyFrom_25 ?_
  refine V_iconst (pc := 28) hC dX3_copyFrom_28 (v := (0 : Int32)) (by decide) ?_
  refine V_aload_n (pc := 29) hC 0 dX3_copyFrom_29 rfl rfl ?_
  refine gf_X3_15 (pc := 30) hs hC dX3_copyFrom_30 ?_
  refine V_iconst (pc := 33) hC dX3_copyFrom_33 (v := (0 : Int32)) (by decide) ?_
  refine V_bipush (pc := 34) hC dX3_copyFrom_34 (v := (10 : Int32)) (by decide) ?_
  refine V_copy (pc := 36) hC (ia_st hs2 (by decide) (by decide)) (ia_st hs (by decide) (by decide)) lk_X3_38 ac_native ac_static ac_init (hC.2.2.2.2.1 _ ac_nativeT) (by decide) (by decide) (by decide) (by decide) (by decide) (by decide) (Nat.le_of_ble_eq_true rfl) dX3_copyFrom_36 ?_
  refine V_aload_n (pc := 39) hC 1 dX3_copyFrom_39 rfl rfl ?_
  refine gf_X3_19 (pc := 40) hs2 hC dX3_copyFrom_40 ?_
  refine V_iconst (pc := 43) hC dX3_copyFrom_43 (v := (0 : Int32)) (by decide) ?_
  refine V_aload_n (pc := 44) hC 0 dX3_copyFrom_44 rfl rfl ?_
  refine gf_X3_19 (pc := 45) hs hC dX3_copyFrom_45 ?_
  refine V_iconst (pc := 48) hC dX3_copyFrom_48 (v := (0 : Int32)) (by decide) ?_
  refine V_bipush (pc := 49) hC dX3_copyFrom_49 (v := (10 : Int32)) (by decide) ?_
  refine V_copy (pc := 51) hC (ia_st hs2 (by decide) (by decide)) (ia_st hs (by decide) (by decide)) lk_X3_38 ac_native ac_static ac_init (hC.2.2.2.2.1 _ ac_nativeT) (by decide) (by decide) (by decide) (by decide) (by decide) (by decide) (Nat.le_of_ble_eq_true rfl) dX3_copyFrom_51 ?_
  refine V_aload_n (pc := 54) hC 1 dX3_copyFrom_54 rfl rfl ?_
  refine gf_X3_22 (pc := 55) hs2 hC dX3_copyFrom_55 ?_
  refine V_iconst (pc := 58) hC dX3_copyFrom_58 (v := (0 : Int32)) (by decide) ?_
  refine V_aload_n (pc := 59) hC 0 dX3_copyFrom_59 rfl rfl ?_
  refine gf_X3_22 (pc := 60) hs hC dX3_copyFrom_60 ?_
  refine V_iconst (pc := 63) hC dX3_copyFrom_63 (v := (0 : Int32)) (by decide) ?_
  refine V_bipush (pc := 64) hC dX3_copyFrom_64 (v := (10 : Int32)) (by decide) ?_
  refine V_copy (pc := 66) hC (ia_st hs2 (by decide) (by decide)) (ia_st hs (by decide) (by decide)) lk_X3_38 ac_native ac_static ac_init (hC.2.2.2.2.1 _ ac_nativeT) (by decide) (by decide) (by decide) (by decide) (by decide) (by decide) (Nat.le_of_ble_eq_true rfl) dX3_copyFrom_66 ?_
  refine V_aload_n (pc := 69) hC 0 dX3_copyFrom_69 rfl rfl ?_
  refine gf_X3_28 (pc := 70) hs hC dX3_copyFrom_70 ?_
  refine V_aload_n (pc := 73) hC 1 dX3_copyFrom_73 rfl rfl ?_
  refine gf_X3_28 (pc := 74) hs2 hC dX3_copyFrom_74 ?_
  obtain ⟨r1, g1, hf⟩ := bind_some hf
  refine V_callV (pc := 77) (rest := []) (As := [.ref (E.2.1 (8 * s2 + 4))]) hC lk_X3_44 (by omega) (cel_Ballots hs) rfl (c_X0_copyFrom hs hs2 g1) rfl rfl (Nat.le_of_ble_eq_true rfl) (by decide) dX3_copyFrom_77 ?_
  change V X E 2 80 [(0, .ref (E.2.1 (8 * s))), (1, .ref (E.2.1 (8 * s2)))] [] r1
  cases hf
  exact V_return (pc := 80) hR trivial dX3_copyFrom_80
def f_X1_add_12 (k : Nat) (s : Nat) (I : Mem) : Option (Mem) := (if inB (I (49) 1) 4 = true then (if Int32.toNatClampNeg (I 50 (Int32.toNatClampNeg (I (49) 1))) < 6 then (Option.bind (f_X3_copyFrom k (Int32.toNatClampNeg (I 50 (Int32.toNatClampNeg (I (49) 1)))) s I) (fun r5 => some (up2 r5 (49) 1 ((r5 (49) 1) + (1 : Int32))))) else none) else none)
set_option maxHeartbeats 4000000 in
set_option maxRecDepth 100000 in
theorem b_X1_add_12 {X : XT} {E : EN} {k : Nat} {s : Nat} {I : Mem} {r : Mem} (hC : Cx X E cX1_add 2 RX1 3 102) (hs : s < 6) (hR : Rt X E cX1_add none none r) (hf : f_X1_add_12 k s I = some r) : V X E 2 12 [(0, .ref (E.2.1 (49))), (1, .ref (E.2.1 (8 * s)))] [] I := by
  unfold f_X1_add_12 at hf
  refine V_aload_n (pc := 12) hC 0 dX1_add_12 rfl rfl ?_
  refine gf_X1_11 (pc := 13) hC dX1_add_13 ?_
  refine V_aload_n (pc := 16) hC 0 dX1_add_16 rfl rfl ?_
  refine gf_X1_18 (pc := 17) hC dX1_add_17 ?_
  obtain ⟨h3, hf⟩ := if_some hf
  obtain ⟨h4, hf⟩ := if_some hf
  refine V_ald50 (pc := 20) hC (inB_of h3) dX1_add_20 ?_
  refine V_aload_n (pc := 21) hC 1 dX1_add_21 rfl rfl ?_
  obtain ⟨r5, g5, hf⟩ := bind_some hf
  refine V_callV (pc := 22) (rest := []) (As := [.ref (E.2.1 (8 * s))]) hC lk_X1_25 (by omega) (cel_State h4) rfl (c_X3_copyFrom h4 hs g5) rfl rfl (Nat.le_of_ble_eq_true rfl) (by decide) dX1_add_22 ?_
  change V X E 2 25 [(0, .ref (E.2.1 (49))), (1, .ref (E.2.1 (8 * s)))] [] r5
  refine V_aload_n (pc := 25) hC 0 dX1_add_25 rfl rfl ?_
  refine V_dup (pc := 26) hC dX1_add_26 rfl ?_
  refine gf_X1_18 (pc := 27) hC dX1_add_27 ?_
  refine V_iconst (pc := 30) hC dX1_add_30 (v := (1 : Int32)) (by decide) ?_
  refine V_iadd (pc := 31) hC dX1_add_31 ?_
  refine pf_X1_18 (pc := 32) hC dX1_add_32 ?_
  cases hf
  exact V_return (pc := 35) hR trivial dX1_add_35
def f_X1_add (k : Nat) (s : Nat) (I : Mem) : Option (Mem) := (if (I (49) 1) = (4 : Int32) then (Option.bind (f_X1_dropOldest k I) (fun r2 => f_X1_add_12 k s r2)) else f_X1_add_12 k s I)
set_option maxHeartbeats 4000000 in
set_option maxRecDepth 100000 in
theorem c_X1_add {E : EN} {k : Nat} {s : Nat} {I : Mem} {r : Mem} (hs : s < 6) (hf : f_X1_add k s I = some r) : Ct E yX1_add cX1_add 2 none 3 102 [.ref (E.2.1 (49)), .ref (E.2.1 (8 * s))] I none r := by
  refine Ct_of (by decide) (Nat.le_of_ble_eq_true rfl) (fun X hC0 hR => ?_)
  have hC : Cx X E cX1_add 2 RX1 3 102 := hC0
  change V X E 2 0 [(0, .ref (E.2.1 (49))), (1, .ref (E.2.1 (8 * s)))] [] I
  unfold f_X1_add at hf
  refine V_aload_n (pc := 0) hC 0 dX1_add_0 rfl rfl ?_
  refine gf_X1_18 (pc := 1) hC dX1_add_1 ?_
  refine V_iconst (pc := 4) hC dX1_add_4 (v := (4 : Int32)) (by decide) ?_
  refine V_icmp_ne (pc := 5) (tgt := 12) hC dX1_add_5 (by decide) (fun c1 => ?_) (fun c1 => ?_)
  · have hf := ite_f hf c1
    exact b_X1_add_12 hC hs hR hf
  · have hf := ite_t hf c1
    refine V_aload_n (pc := 8) hC 0 dX1_add_8 rfl rfl ?_
    obtain ⟨r2, g2, hf⟩ := bind_some hf
    refine V_callV (pc := 9) (rest := []) (As := []) hC lk_X1_22 (by decide) cel_X1 rfl (c_X1_dropOldest  g2) rfl rfl (Nat.le_of_ble_eq_true rfl) (by decide) dX1_add_9 ?_
    change V X E 2 12 [(0, .ref (E.2.1 (49))), (1, .ref (E.2.1 (8 * s)))] [] r2
    exact b_X1_add_12 hC hs hR hf
def f_X1_takeLatest (k : Nat) (s : Nat) (I : Mem) : Option (Mem) := (if (I (49) 1) ≤ 0 then some I else (if inB ((up2 I (49) 1 ((I (49) 1) - (1 : Int32))) (49) 1) 4 = true then (if Int32.toNatClampNeg ((up2 I (49) 1 ((I (49) 1) - (1 : Int32))) 50 (Int32.toNatClampNeg ((up2 I (49) 1 ((I (49) 1) - (1 : Int32))) (49) 1))) < 6 then (Option.bind (f_X3_copyFrom k s (Int32.toNatClampNeg ((up2 I (49) 1 ((I (49) 1) - (1 : Int32))) 50 (Int32.toNatClampNeg ((up2 I (49) 1 ((I (49) 1) - (1 : Int32))) (49) 1)))) (up2 I (49) 1 ((I (49) 1) - (1 : Int32)))) (fun r4 => some r4)) else none) else none))
set_option maxHeartbeats 4000000 in
set_option maxRecDepth 100000 in
theorem c_X1_takeLatest {E : EN} {k : Nat} {s : Nat} {I : Mem} {r : Mem} (hs : s < 6) (hf : f_X1_takeLatest k s I = some r) : Ct E yX1_takeLatest cX1_takeLatest 2 none 3 102 [.ref (E.2.1 (49)), .ref (E.2.1 (8 * s))] I none r := by
  refine Ct_of (by decide) (Nat.le_of_ble_eq_true rfl) (fun X hC0 hR => ?_)
  have hC : Cx X E cX1_takeLatest 2 RX1 3 102 := hC0
  change V X E 2 0 [(0, .ref (E.2.1 (49))), (1, .ref (E.2.1 (8 * s)))] [] I
  unfold f_X1_takeLatest at hf
  refine V_aload_n (pc := 0) hC 0 dX1_takeLatest_0 rfl rfl ?_
  refine gf_X1_18 (pc := 1) hC dX1_takeLatest_1 ?_
  refine V_if_le (pc := 4) (tgt := 30) hC dX1_takeLatest_4 (by decide) (fun c1 => ?_) (fun c1 => ?_)
  · have hf := ite_t hf c1
    cases hf
    exact V_return (pc := 30) hR trivial dX1_takeLatest_30
  · have hf := ite_f hf c1
    refine V_aload_n (pc := 7) hC 0 dX1_takeLatest_7 rfl rfl ?_
    refine V_dup (pc := 8) hC dX1_takeLatest_8 rfl ?_
    refine gf_X1_18 (pc := 9) hC dX1_takeLatest_9 ?_
    refine V_iconst (pc := 12) hC dX1_takeLatest_12 (v := (1 : Int32)) (by decide) ?_
    refine V_isub (pc := 13) hC dX1_takeLatest_13 ?_
    refine pf_X1_18 (pc := 14) hC dX1_takeLatest_14 ?_
    refine V_aload_n (pc := 17) hC 1 dX1_takeLatest_17 rfl rfl ?_
    refine V_aload_n (pc := 18) hC 0 dX1_takeLatest_18 rfl rfl ?_
    refine gf_X1_11 (pc := 19) hC dX1_takeLatest_19 ?_
    refine V_aload_n (pc := 22) hC 0 dX1_takeLatest_22 rfl rfl ?_
    refine gf_X1_18 (pc := 23) hC dX1_takeLatest_23 ?_
    obtain ⟨h2, hf⟩ := if_some hf
    obtain ⟨h3, hf⟩ := if_some hf
    refine V_ald50 (pc := 26) hC (inB_of h2) dX1_takeLatest_26 ?_
    obtain ⟨r4, g4, hf⟩ := bind_some hf
    refine V_callV (pc := 27) (rest := []) (As := [.ref (E.2.1 (8 * (Int32.toNatClampNeg ((up2 I (49) 1 ((I (49) 1) - (1 : Int32))) 50 (Int32.toNatClampNeg ((up2 I (49) 1 ((I (49) 1) - (1 : Int32))) (49) 1))))))]) hC lk_X1_25 (by omega) (cel_State hs) rfl (c_X3_copyFrom hs h3 g4) rfl rfl (Nat.le_of_ble_eq_true rfl) (by decide) dX1_takeLatest_27 ?_
    change V X E 2 30 [(0, .ref (E.2.1 (49))), (1, .ref (E.2.1 (8 * s)))] [] r4
    cases hf
    exact V_return (pc := 30) hR trivial dX1_takeLatest_30
def f_X3_lowestBeside_2 (k : Nat) (s : Nat) (I : Mem) (v1 : Int32) : Nat → Int32 → Option (Int32)
  | 0, _ => none
  | n + 1, v2 => (if v1 ≤ v2 then some v1 else (if inB v1 10 = true then (if (f_X5_holds (I (8 * s + 2) (Int32.toNatClampNeg v1)) v2) = 0 then (f_X3_lowestBeside_2 k s I v1 n) (v2 + (1 : Int32)) else some v2) else none))
set_option maxHeartbeats 4000000 in
set_option maxRecDepth 100000 in
theorem b_X3_lowestBeside_2 {X : XT} {E : EN} {k : Nat} {s : Nat} {I : Mem} {v1 : Int32} {r : Int32} (hC : Cx X E cX3_lowestBeside 3 RX3 2 41) (hs : s < 6) (hR : Rt X E cX3_lowestBeside (some .int) (some (.int r)) I) : ∀ (n : Nat) (v2 : Int32), f_X3_lowestBeside_2 k s I v1 n v2 = some r → V X E 3 2 [(0, .ref (E.2.1 (8 * s))), (1, .int v1), (2, .int v2)] [] I := by
  intro n
  induction n with
  | zero =>
    intro v2 hf
    rw [f_X3_lowestBeside_2] at hf
    cases hf
  | succ n ih =>
    intro v2 hf
    rw [f_X3_lowestBeside_2] at hf
    refine V_iload_n (pc := 2) hC 2 dX3_lowestBeside_2 rfl rfl ?_
    refine V_iload_n (pc := 3) hC 1 dX3_lowestBeside_3 rfl rfl ?_
    refine V_icmp_ge (pc := 4) (tgt := 28) hC dX3_lowestBeside_4 (by decide) (fun c1 => ?_) (fun c1 => ?_)
    · have hf := ite_t hf c1
      refine V_iload_n (pc := 28) hC 1 dX3_lowestBeside_28 rfl rfl ?_
      cases hf
      exact V_ireturn (pc := 29) hR rfl dX3_lowestBeside_29
    · have hf := ite_f hf c1
      refine V_aload_n (pc := 7) hC 0 dX3_lowestBeside_7 rfl rfl ?_
      refine gf_X3_19 (pc := 8) hs hC dX3_lowestBeside_8 ?_
      refine V_iload_n (pc := 11) hC 1 dX3_lowestBeside_11 rfl rfl ?_
      obtain ⟨h2, hf⟩ := if_some hf
      refine V_iald (pc := 12) hC (ia_st hs (by decide) (by decide)) (inB_of h2) dX3_lowestBeside_12 ?_
      refine V_iload_n (pc := 13) hC 2 dX3_lowestBeside_13 rfl rfl ?_
      refine V_callN (pc := 14) (rest := []) (As := [.int (I (8 * s + 2) (Int32.toNatClampNeg v1)), .int v2]) hC lk_X3_56 (c_X5_holds  rfl) rfl rfl (Nat.le_of_ble_eq_true rfl) (by decide) dX3_lowestBeside_14 ?_
      change V X E 3 17 [(0, .ref (E.2.1 (8 * s))), (1, .int v1), (2, .int v2)] [.int (f_X5_holds (I (8 * s + 2) (Int32.toNatClampNeg v1)) v2)] I
      refine V_if_eq (pc := 17) (tgt := 22) hC dX3_lowestBeside_17 (by decide) (fun c3 => ?_) (fun c3 => ?_)
      · have hf := ite_t hf c3
        refine V_iinc (pc := 22) (lv' := [(2, .int (v2 + (1 : Int32))), (0, .ref (E.2.1 (8 * s))), (1, .int v1)]) hC (1 : Int32) 2 dX3_lowestBeside_22 rfl (by decide) (by decide) rfl ?_
        refine V_goto (pc := 25) (tgt := 2) hC dX3_lowestBeside_25 (by decide) ?_
        refine V_sub (pc := 2) (lv' := [(0, .ref (E.2.1 (8 * s))), (1, .int v1), (2, .int (v2 + (1 : Int32)))]) [1, 2, 0] rfl ?_
        exact ih (v2 + (1 : Int32)) hf
      · have hf := ite_f hf c3
        refine V_iload_n (pc := 20) hC 2 dX3_lowestBeside_20 rfl rfl ?_
        cases hf
        exact V_ireturn (pc := 21) hR rfl dX3_lowestBeside_21
def f_X3_lowestBeside (k : Nat) (s : Nat) (v1 : Int32) (I : Mem) : Option (Int32) := f_X3_lowestBeside_2 k s I v1 k (0 : Int32)
set_option maxHeartbeats 4000000 in
set_option maxRecDepth 100000 in
theorem c_X3_lowestBeside {E : EN} {k : Nat} {s : Nat} {v1 : Int32} {I : Mem} {r : Int32} (hs : s < 6) (hf : f_X3_lowestBeside k s v1 I = some r) : Ct E yX3_lowestBeside cX3_lowestBeside 3 (some .int) 2 41 [.ref (E.2.1 (8 * s)), .int v1] I (some (.int r)) I := by
  refine Ct_of (by decide) (Nat.le_of_ble_eq_true rfl) (fun X hC0 hR => ?_)
  have hC : Cx X E cX3_lowestBeside 3 RX3 2 41 := hC0
  change V X E 3 0 [(0, .ref (E.2.1 (8 * s))), (1, .int v1)] [] I
  unfold f_X3_lowestBeside at hf
  refine V_iconst (pc := 0) hC dX3_lowestBeside_0 (v := (0 : Int32)) (by decide) ?_
  refine V_istore_n (pc := 1) (lv' := [(2, .int (0 : Int32)), (0, .ref (E.2.1 (8 * s))), (1, .int v1)]) hC dX3_lowestBeside_1 rfl (by decide) rfl ?_
  refine V_sub (pc := 2) (lv' := [(0, .ref (E.2.1 (8 * s))), (1, .int v1), (2, .int (0 : Int32))]) [1, 2, 0] rfl ?_
  exact b_X3_lowestBeside_2 hC hs hR k (0 : Int32) hf
def f_X3_isLowest (k : Nat) (s : Nat) (v1 : Int32) (I : Mem) : Option (Int32) := (Option.bind (f_X3_lowestBeside k s v1 I) (fun r1 => (if r1 = v1 then some (1 : Int32) else some (0 : Int32))))
set_option maxHeartbeats 4000000 in
set_option maxRecDepth 100000 in
theorem c_X3_isLowest {E : EN} {k : Nat} {s : Nat} {v1 : Int32} {I : Mem} {r : Int32} (hs : s < 6) (hf : f_X3_isLowest k s v1 I = some r) : Ct E yX3_isLowest cX3_isLowest 2 (some .boolean) 3 63 [.ref (E.2.1 (8 * s)), .int v1] I (some (.int r)) I := by
  refine Ct_of (by decide) (Nat.le_of_ble_eq_true rfl) (fun X hC0 hR => ?_)
  have hC : Cx X E cX3_isLowest 2 RX3 3 63 := hC0
  change V X E 2 0 [(0, .ref (E.2.1 (8 * s))), (1, .int v1)] [] I
  unfold f_X3_isLowest at hf
  refine V_aload_n (pc := 0) hC 0 dX3_isLowest_0 rfl rfl ?_
  refine V_iload_n (pc := 1) hC 1 dX3_isLowest_1 rfl rfl ?_
  obtain ⟨r1, g1, hf⟩ := bind_some hf
  refine V_callV (pc := 2) (rest := []) (As := [.int v1]) hC lk_X3_60 (by omega) (cel_State hs) rfl (c_X3_lowestBeside hs g1) rfl rfl (Nat.le_of_ble_eq_true rfl) (by decide) dX3_isLowest_2 ?_
  change V X E 2 5 [(0, .ref (E.2.1 (8 * s))), (1, .int v1)] [.int r1] I
  refine V_iload_n (pc := 5) hC 1 dX3_isLowest_5 rfl rfl ?_
  refine V_icmp_ne (pc := 6) (tgt := 13) hC dX3_isLowest_6 (by decide) (fun c2 => ?_) (fun c2 => ?_)
  · have hf := ite_f hf c2
    refine V_iconst (pc := 13) hC dX3_isLowest_13 (v := (0 : Int32)) (by decide) ?_
    cases hf
    exact V_ireturn (pc := 14) hR (nar_z (by decide)) dX3_isLowest_14
  · have hf := ite_t hf c2
    refine V_iconst (pc := 9) hC dX3_isLowest_9 (v := (1 : Int32)) (by decide) ?_
    refine V_goto (pc := 10) (tgt := 14) hC dX3_isLowest_10 (by decide) ?_
    cases hf
    exact V_ireturn (pc := 14) hR (nar_z (by decide)) dX3_isLowest_14
def f_X3_weightOf_4 (k : Nat) (s : Nat) (I : Mem) (v1 : Int32) : Nat → Int32 → Int32 → Option (Int32)
  | 0, _, _ => none
  | n + 1, v2, v3 => (if (I (8 * s) 0) ≤ v3 then some v2 else (if (f_X5_holds v1 v3) = 0 then (f_X3_weightOf_4 k s I v1 n) v2 (v3 + (1 : Int32)) else (if inB v3 10 = true then (f_X3_weightOf_4 k s I v1 n) (v2 + (I (8 * s + 1) (Int32.toNatClampNeg v3))) (v3 + (1 : Int32)) else none)))
set_option maxHeartbeats 4000000 in
set_option maxRecDepth 100000 in
theorem b_X3_weightOf_4 {X : XT} {E : EN} {k : Nat} {s : Nat} {I : Mem} {v1 : Int32} {r : Int32} (hC : Cx X E cX3_weightOf 4 RX3 2 41) (hs : s < 6) (hR : Rt X E cX3_weightOf (some .int) (some (.int r)) I) : ∀ (n : Nat) (v2 : Int32) (v3 : Int32), f_X3_weightOf_4 k s I v1 n v2 v3 = some r → V X E 4 4 [(0, .ref (E.2.1 (8 * s))), (1, .int v1), (2, .int v2), (3, .int v3)] [] I := by
  intro n
  induction n with
  | zero =>
    intro v2 v3 hf
    rw [f_X3_weightOf_4] at hf
    cases hf
  | succ n ih =>
    intro v2 v3 hf
    rw [f_X3_weightOf_4] at hf
    refine V_iload_n (pc := 4) hC 3 dX3_weightOf_4 rfl rfl ?_
    refine V_aload_n (pc := 5) hC 0 dX3_weightOf_5 rfl rfl ?_
    refine gf_X3_32 (pc := 6) hs hC dX3_weightOf_6 ?_
    refine V_icmp_ge (pc := 9) (tgt := 35) hC dX3_weightOf_9 (by decide) (fun c1 => ?_) (fun c1 => ?_)
    · have hf := ite_t hf c1
      refine V_iload_n (pc := 35) hC 2 dX3_weightOf_35 rfl rfl ?_
      cases hf
      exact V_ireturn (pc := 36) hR rfl dX3_weightOf_36
    · have hf := ite_f hf c1
      refine V_iload_n (pc := 12) hC 1 dX3_weightOf_12 rfl rfl ?_
      refine V_iload_n (pc := 13) hC 3 dX3_weightOf_13 rfl rfl ?_
      refine V_callN (pc := 14) (rest := []) (As := [.int v1, .int v3]) hC lk_X3_56 (c_X5_holds  rfl) rfl rfl (Nat.le_of_ble_eq_true rfl) (by decide) dX3_weightOf_14 ?_
      change V X E 4 17 [(0, .ref (E.2.1 (8 * s))), (1, .int v1), (2, .int v2), (3, .int v3)] [.int (f_X5_holds v1 v3)] I
      refine V_if_eq (pc := 17) (tgt := 29) hC dX3_weightOf_17 (by decide) (fun c2 => ?_) (fun c2 => ?_)
      · have hf := ite_t hf c2
        refine V_iinc (pc := 29) (lv' := [(3, .int (v3 + (1 : Int32))), (0, .ref (E.2.1 (8 * s))), (1, .int v1), (2, .int v2)]) hC (1 : Int32) 3 dX3_weightOf_29 rfl (by decide) (by decide) rfl ?_
        refine V_goto (pc := 32) (tgt := 4) hC dX3_weightOf_32 (by decide) ?_
        refine V_sub (pc := 4) (lv' := [(0, .ref (E.2.1 (8 * s))), (1, .int v1), (2, .int v2), (3, .int (v3 + (1 : Int32)))]) [1, 2, 3, 0] rfl ?_
        exact ih v2 (v3 + (1 : Int32)) hf
      · have hf := ite_f hf c2
        refine V_iload_n (pc := 20) hC 2 dX3_weightOf_20 rfl rfl ?_
        refine V_aload_n (pc := 21) hC 0 dX3_weightOf_21 rfl rfl ?_
        refine gf_X3_15 (pc := 22) hs hC dX3_weightOf_22 ?_
        refine V_iload_n (pc := 25) hC 3 dX3_weightOf_25 rfl rfl ?_
        obtain ⟨h3, hf⟩ := if_some hf
        refine V_iald (pc := 26) hC (ia_st hs (by decide) (by decide)) (inB_of h3) dX3_weightOf_26 ?_
        refine V_iadd (pc := 27) hC dX3_weightOf_27 ?_
        refine V_istore_n (pc := 28) (lv' := [(2, .int (v2 + (I (8 * s + 1) (Int32.toNatClampNeg v3)))), (0, .ref (E.2.1 (8 * s))), (1, .int v1), (3, .int v3)]) hC dX3_weightOf_28 rfl (by decide) rfl ?_
        refine V_iinc (pc := 29) (lv' := [(3, .int (v3 + (1 : Int32))), (2, .int (v2 + (I (8 * s + 1) (Int32.toNatClampNeg v3)))), (0, .ref (E.2.1 (8 * s))), (1, .int v1)]) hC (1 : Int32) 3 dX3_weightOf_29 rfl (by decide) (by decide) rfl ?_
        refine V_goto (pc := 32) (tgt := 4) hC dX3_weightOf_32 (by decide) ?_
        refine V_sub (pc := 4) (lv' := [(0, .ref (E.2.1 (8 * s))), (1, .int v1), (2, .int (v2 + (I (8 * s + 1) (Int32.toNatClampNeg v3)))), (3, .int (v3 + (1 : Int32)))]) [2, 3, 1, 0] rfl ?_
        exact ih (v2 + (I (8 * s + 1) (Int32.toNatClampNeg v3))) (v3 + (1 : Int32)) hf
def f_X3_weightOf (k : Nat) (s : Nat) (v1 : Int32) (I : Mem) : Option (Int32) := f_X3_weightOf_4 k s I v1 k (0 : Int32) (0 : Int32)
set_option maxHeartbeats 4000000 in
set_option maxRecDepth 100000 in
theorem c_X3_weightOf {E : EN} {k : Nat} {s : Nat} {v1 : Int32} {I : Mem} {r : Int32} (hs : s < 6) (hf : f_X3_weightOf k s v1 I = some r) : Ct E yX3_weightOf cX3_weightOf 4 (some .int) 2 41 [.ref (E.2.1 (8 * s)), .int v1] I (some (.int r)) I := by
  refine Ct_of (by decide) (Nat.le_of_ble_eq_true rfl) (fun X hC0 hR => ?_)
  have hC : Cx X E cX3_weightOf 4 RX3 2 41 := hC0
  change V X E 4 0 [(0, .ref (E.2.1 (8 * s))), (1, .int v1)] [] I
  unfold f_X3_weightOf at hf
  refine V_iconst (pc := 0) hC dX3_weightOf_0 (v := (0 : Int32)) (by decide) ?_
  refine V_istore_n (pc := 1) (lv' := [(2, .int (0 : Int32)), (0, .ref (E.2.1 (8 * s))), (1, .int v1)]) hC dX3_weightOf_1 rfl (by decide) rfl ?_
  refine V_iconst (pc := 2) hC dX3_weightOf_2 (v := (0 : Int32)) (by decide) ?_
  refine V_istore_n (pc := 3) (lv' := [(3, .int (0 : Int32)), (2, .int (0 : Int32)), (0, .ref (E.2.1 (8 * s))), (1, .int v1)]) hC dX3_weightOf_3 rfl (by decide) rfl ?_
  refine V_sub (pc := 4) (lv' := [(0, .ref (E.2.1 (8 * s))), (1, .int v1), (2, .int (0 : Int32)), (3, .int (0 : Int32))]) [2, 3, 1, 0] rfl ?_
  exact b_X3_weightOf_4 hC hs hR k (0 : Int32) (0 : Int32) hf
def f_X3_has (s : Nat) (v1 : Int32) (I : Mem) : Int32 := (if v1 < 0 then (0 : Int32) else (if (I (8 * s) 0) ≤ v1 then (0 : Int32) else (1 : Int32)))
set_option maxHeartbeats 4000000 in
set_option maxRecDepth 100000 in
theorem c_X3_has {E : EN} {s : Nat} {v1 : Int32} {I : Mem} {r : Int32} (hs : s < 6) (hf : f_X3_has s v1 I = r) : Ct E yX3_has cX3_has 2 (some .boolean) 0 0 [.ref (E.2.1 (8 * s)), .int v1] I (some (.int r)) I := by
  refine Ct_of (by decide) (Nat.le_of_ble_eq_true rfl) (fun X hC0 hR => ?_)
  have hC : Cx X E cX3_has 2 RX3 0 0 := hC0
  change V X E 2 0 [(0, .ref (E.2.1 (8 * s))), (1, .int v1)] [] I
  unfold f_X3_has at hf
  refine V_iload_n (pc := 0) hC 1 dX3_has_0 rfl rfl ?_
  refine V_if_lt (pc := 1) (tgt := 16) hC dX3_has_1 (by decide) (fun c1 => ?_) (fun c1 => ?_)
  · have hf := ite_t hf c1
    refine V_iconst (pc := 16) hC dX3_has_16 (v := (0 : Int32)) (by decide) ?_
    subst hf
    exact V_ireturn (pc := 17) hR (nar_z (by decide)) dX3_has_17
  · have hf := ite_f hf c1
    refine V_iload_n (pc := 4) hC 1 dX3_has_4 rfl rfl ?_
    refine V_aload_n (pc := 5) hC 0 dX3_has_5 rfl rfl ?_
    refine gf_X3_32 (pc := 6) hs hC dX3_has_6 ?_
    refine V_icmp_ge (pc := 9) (tgt := 16) hC dX3_has_9 (by decide) (fun c2 => ?_) (fun c2 => ?_)
    · have hf := ite_t hf c2
      refine V_iconst (pc := 16) hC dX3_has_16 (v := (0 : Int32)) (by decide) ?_
      subst hf
      exact V_ireturn (pc := 17) hR (nar_z (by decide)) dX3_has_17
    · have hf := ite_f hf c2
      refine V_iconst (pc := 12) hC dX3_has_12 (v := (1 : Int32)) (by decide) ?_
      refine V_goto (pc := 13) (tgt := 17) hC dX3_has_13 (by decide) ?_
      subst hf
      exact V_ireturn (pc := 17) hR (nar_z (by decide)) dX3_has_17
def f_X3_everyone (s : Nat) (I : Mem) : Int32 := (((1 : Int32) <<< ((I (8 * s) 0) &&& 31)) - (1 : Int32))
set_option maxHeartbeats 4000000 in
set_option maxRecDepth 100000 in
theorem c_X3_everyone {E : EN} {s : Nat} {I : Mem} {r : Int32} (hs : s < 6) (hf : f_X3_everyone s I = r) : Ct E yX3_everyone cX3_everyone 1 (some .int) 0 0 [.ref (E.2.1 (8 * s))] I (some (.int r)) I := by
  refine Ct_of (by decide) (Nat.le_of_ble_eq_true rfl) (fun X hC0 hR => ?_)
  have hC : Cx X E cX3_everyone 1 RX3 0 0 := hC0
  change V X E 1 0 [(0, .ref (E.2.1 (8 * s)))] [] I
  unfold f_X3_everyone at hf
  refine V_iconst (pc := 0) hC dX3_everyone_0 (v := (1 : Int32)) (by decide) ?_
  refine V_aload_n (pc := 1) hC 0 dX3_everyone_1 rfl rfl ?_
  refine gf_X3_32 (pc := 2) hs hC dX3_everyone_2 ?_
  refine V_ishl (pc := 5) hC dX3_everyone_5 ?_
  refine V_iconst (pc := 6) hC dX3_everyone_6 (v := (1 : Int32)) (by decide) ?_
  refine V_isub (pc := 7) hC dX3_everyone_7 ?_
  subst hf
  exact V_ireturn (pc := 8) hR rfl dX3_everyone_8
def f_X3_append (k : Nat) (s : Nat) (v1 : Int32) (I : Mem) : Option (Int32 × Mem) := (if (10 : Int32) ≤ (I (8 * s) 0) then some (I (8 * s) 0, I) else (if inB (I (8 * s) 0) 10 = true then (if inB (I (8 * s) 0) 10 = true then (if inB (I (8 * s) 0) 10 = true then some (I (8 * s) 0, up2 (up2 (up2 (up2 I (8 * s + 1) (Int32.toNatClampNeg (I (8 * s) 0)) v1) (8 * s + 2) (Int32.toNatClampNeg (I (8 * s) 0)) (f_X5_bit (I (8 * s) 0))) (8 * s + 3) (Int32.toNatClampNeg (I (8 * s) 0)) (0 : Int32)) (8 * s) 0 (((up2 (up2 (up2 I (8 * s + 1) (Int32.toNatClampNeg (I (8 * s) 0)) v1) (8 * s + 2) (Int32.toNatClampNeg (I (8 * s) 0)) (f_X5_bit (I (8 * s) 0))) (8 * s + 3) (Int32.toNatClampNeg (I (8 * s) 0)) (0 : Int32)) (8 * s) 0) + (1 : Int32))) else none) else none) else none))
set_option maxHeartbeats 4000000 in
set_option maxRecDepth 100000 in
theorem c_X3_append {E : EN} {k : Nat} {s : Nat} {v1 : Int32} {I : Mem} {r : Int32 × Mem} (hs : s < 6) (hf : f_X3_append k s v1 I = some r) : Ct E yX3_append cX3_append 3 (some .int) 1 20 [.ref (E.2.1 (8 * s)), .int v1] I (some (.int r.1)) r.2 := by
  refine Ct_of (by decide) (Nat.le_of_ble_eq_true rfl) (fun X hC0 hR => ?_)
  have hC : Cx X E cX3_append 3 RX3 1 20 := hC0
  change V X E 3 0 [(0, .ref (E.2.1 (8 * s))), (1, .int v1)] [] I
  unfold f_X3_append at hf
  refine V_aload_n (pc := 0) hC 0 dX3_append_0 rfl rfl ?_
  refine gf_X3_32 (pc := 1) hs hC dX3_append_1 ?_
  refine V_istore_n (pc := 4) (lv' := [(2, .int (I (8 * s) 0)), (0, .ref (E.2.1 (8 * s))), (1, .int v1)]) hC dX3_append_4 rfl (by decide) rfl ?_
  refine V_iload_n (pc := 5) hC 0 dX3_append_5 rfl rfl ?_
  refine V_bipush (pc := 6) hC dX3_append_6 (v := (10 : Int32)) (by decide) ?_
  refine V_icmp_ge (pc := 8) (tgt := 45) hC dX3_append_8 (by decide) (fun c1 => ?_) (fun c1 => ?_)
  · have hf := ite_t hf c1
    refine V_iload_n (pc := 45) hC 0 dX3_append_45 rfl rfl ?_
    cases hf
    exact V_ireturn (pc := 46) hR rfl dX3_append_46
  · have hf := ite_f hf c1
    refine V_aload_n (pc := 11) hC 1 dX3_append_11 rfl rfl ?_
    refine gf_X3_15 (pc := 12) hs hC dX3_append_12 ?_
    refine V_iload_n (pc := 15) hC 0 dX3_append_15 rfl rfl ?_
    refine V_iload_n (pc := 16) hC 2 dX3_append_16 rfl rfl ?_
    obtain ⟨h2, hf⟩ := if_some hf
    refine V_iast (pc := 17) hC (ia_st hs (by decide) (by decide)) (inB_of h2) dX3_append_17 ?_
    refine V_aload_n (pc := 18) hC 1 dX3_append_18 rfl rfl ?_
    refine gf_X3_19 (pc := 19) hs hC dX3_append_19 ?_
    refine V_iload_n (pc := 22) hC 0 dX3_append_22 rfl rfl ?_
    refine V_iload_n (pc := 23) hC 0 dX3_append_23 rfl rfl ?_
    refine V_callN (pc := 24) (rest := [.int (I (8 * s) 0), .ref (E.2.1 (8 * s + 2))]) (As := [.int (I (8 * s) 0)]) hC lk_X3_48 (c_X5_bit  rfl) rfl rfl (Nat.le_of_ble_eq_true rfl) (by decide) dX3_append_24 ?_
    change V X E 3 27 [(2, .int (I (8 * s) 0)), (0, .ref (E.2.1 (8 * s))), (1, .int v1)] [.int (f_X5_bit (I (8 * s) 0)), .int (I (8 * s) 0), .ref (E.2.1 (8 * s + 2))] (up2 I (8 * s + 1) (Int32.toNatClampNeg (I (8 * s) 0)) v1)
    obtain ⟨h3, hf⟩ := if_some hf
    refine V_iast (pc := 27) hC (ia_st hs (by decide) (by decide)) (inB_of h3) dX3_append_27 ?_
    refine V_aload_n (pc := 28) hC 1 dX3_append_28 rfl rfl ?_
    refine gf_X3_22 (pc := 29) hs hC dX3_append_29 ?_
    refine V_iload_n (pc := 32) hC 0 dX3_append_32 rfl rfl ?_
    refine V_iconst (pc := 33) hC dX3_append_33 (v := (0 : Int32)) (by decide) ?_
    obtain ⟨h4, hf⟩ := if_some hf
    refine V_iast (pc := 34) hC (ia_st hs (by decide) (by decide)) (inB_of h4) dX3_append_34 ?_
    refine V_aload_n (pc := 35) hC 1 dX3_append_35 rfl rfl ?_
    refine V_dup (pc := 36) hC dX3_append_36 rfl ?_
    refine gf_X3_32 (pc := 37) hs hC dX3_append_37 ?_
    refine V_iconst (pc := 40) hC dX3_append_40 (v := (1 : Int32)) (by decide) ?_
    refine V_iadd (pc := 41) hC dX3_append_41 ?_
    refine pf_X3_32 (pc := 42) hs hC dX3_append_42 ?_
    refine V_iload_n (pc := 45) hC 0 dX3_append_45 rfl rfl ?_
    cases hf
    exact V_ireturn (pc := 46) hR rfl dX3_append_46
def f_X3_closeUp (v0 : Int32) (v1 : Int32) : Int32 := ((v0 &&& ((f_X5_bit v1) - (1 : Int32))) ||| ((v0 >>> ((1 : Int32) &&& 31)) &&& (((f_X5_bit v1) - (1 : Int32)) ^^^ (-1 : Int32))))
set_option maxHeartbeats 4000000 in
set_option maxRecDepth 100000 in
theorem c_X3_closeUp {E : EN} {v0 : Int32} {v1 : Int32} {I : Mem} {r : Int32} (hf : f_X3_closeUp v0 v1 = r) : Ct E yX3_closeUp cX3_closeUp 3 (some .int) 1 20 [.int v0, .int v1] I (some (.int r)) I := by
  refine Ct_of (by decide) (Nat.le_of_ble_eq_true rfl) (fun X hC0 hR => ?_)
  have hC : Cx X E cX3_closeUp 3 RX3 1 20 := hC0
  change V X E 3 0 [(0, .int v0), (1, .int v1)] [] I
  unfold f_X3_closeUp at hf
  refine V_iload_n (pc := 0) hC 1 dX3_closeUp_0 rfl rfl ?_
  refine V_callN (pc := 1) (rest := []) (As := [.int v1]) hC lk_X3_48 (c_X5_bit  rfl) rfl rfl (Nat.le_of_ble_eq_true rfl) (by decide) dX3_closeUp_1 ?_
  change V X E 3 4 [(0, .int v0), (1, .int v1)] [.int (f_X5_bit v1)] I
  refine V_iconst (pc := 4) hC dX3_closeUp_4 (v := (1 : Int32)) (by decide) ?_
  refine V_isub (pc := 5) hC dX3_closeUp_5 ?_
  refine V_istore_n (pc := 6) (lv' := [(2, .int ((f_X5_bit v1) - (1 : Int32))), (0, .int v0), (1, .int v1)]) hC dX3_closeUp_6 rfl (by decide) rfl ?_
  refine V_iload_n (pc := 7) hC 1 dX3_closeUp_7 rfl rfl ?_
  refine V_iload_n (pc := 8) hC 0 dX3_closeUp_8 rfl rfl ?_
  refine V_iand (pc := 9) hC dX3_closeUp_9 ?_
  refine V_iload_n (pc := 10) hC 1 dX3_closeUp_10 rfl rfl ?_
  refine V_iconst (pc := 11) hC dX3_closeUp_11 (v := (1 : Int32)) (by decide) ?_
  refine V_ishr (pc := 12) hC dX3_closeUp_12 ?_
  refine V_iload_n (pc := 13) hC 0 dX3_closeUp_13 rfl rfl ?_
  refine V_iconst (pc := 14) hC dX3_closeUp_14 (v := (-1 : Int32)) (by decide) ?_
  refine V_ixor (pc := 15) hC dX3_closeUp_15 ?_
  refine V_iand (pc := 16) hC dX3_closeUp_16 ?_
  refine V_ior (pc := 17) hC dX3_closeUp_17 ?_
  subst hf
  exact V_ireturn (pc := 18) hR rfl dX3_closeUp_18
def f_X3_drop_72 (k : Nat) (s : Nat) (v1 : Int32) : Nat → Int32 → Mem → Option (Mem)
  | 0, _, _ => none
  | n + 1, v2, I => (if (I (8 * s) 0) ≤ v2 then some (up2 I (8 * s) 2 (f_X3_closeUp (I (8 * s) 2) v1)) else (if inB v2 10 = true then (if inB v2 10 = true then (f_X3_drop_72 k s v1 n) (v2 + (1 : Int32)) (up2 I (8 * s + 2) (Int32.toNatClampNeg v2) (f_X3_closeUp (I (8 * s + 2) (Int32.toNatClampNeg v2)) v1)) else none) else none))
set_option maxHeartbeats 4000000 in
set_option maxRecDepth 100000 in
theorem b_X3_drop_72 {X : XT} {E : EN} {k : Nat} {s : Nat} {v1 : Int32} {r : Mem} (hC : Cx X E cX3_drop 3 RX3 2 42) (hs : s < 6) (hR : Rt X E cX3_drop none none r) : ∀ (n : Nat) (v2 : Int32) (I : Mem), f_X3_drop_72 k s v1 n v2 I = some r → V X E 3 72 [(0, .ref (E.2.1 (8 * s))), (1, .int v1), (2, .int v2)] [] I := by
  intro n
  induction n with
  | zero =>
    intro v2 I hf
    rw [f_X3_drop_72] at hf
    cases hf
  | succ n ih =>
    intro v2 I hf
    rw [f_X3_drop_72] at hf
    refine V_iload_n (pc := 72) hC 2 dX3_drop_72 rfl rfl ?_
    refine V_aload_n (pc := 73) hC 0 dX3_drop_73 rfl rfl ?_
    refine gf_X3_32 (pc := 74) hs hC dX3_drop_74 ?_
    refine V_icmp_ge (pc := 77) (tgt := 102) hC dX3_drop_77 (by decide) (fun c8 => ?_) (fun c8 => ?_)
    · have hf := ite_t hf c8
      refine V_aload_n (pc := 102) hC 0 dX3_drop_102 rfl rfl ?_
      refine V_aload_n (pc := 103) hC 0 dX3_drop_103 rfl rfl ?_
      refine gf_X3_35 (pc := 104) hs hC dX3_drop_104 ?_
      refine V_iload_n (pc := 107) hC 1 dX3_drop_107 rfl rfl ?_
      refine V_callS (pc := 108) (rest := [.ref (E.2.1 (8 * s))]) (As := [.int (I (8 * s) 2), .int v1]) hC lk_X3_52 (c_X3_closeUp  rfl) rfl rfl (Nat.le_of_ble_eq_true rfl) (by decide) dX3_drop_108 ?_
      change V X E 3 111 [(0, .ref (E.2.1 (8 * s))), (1, .int v1), (2, .int v2)] [.int (f_X3_closeUp (I (8 * s) 2) v1), .ref (E.2.1 (8 * s))] I
      refine pf_X3_35 (pc := 111) hs hC dX3_drop_111 ?_
      cases hf
      exact V_return (pc := 114) hR trivial dX3_drop_114
    · have hf := ite_f hf c8
      refine V_aload_n (pc := 80) hC 0 dX3_drop_80 rfl rfl ?_
      refine gf_X3_19 (pc := 81) hs hC dX3_drop_81 ?_
      refine V_iload_n (pc := 84) hC 2 dX3_drop_84 rfl rfl ?_
      refine V_aload_n (pc := 85) hC 0 dX3_drop_85 rfl rfl ?_
      refine gf_X3_19 (pc := 86) hs hC dX3_drop_86 ?_
      refine V_iload_n (pc := 89) hC 2 dX3_drop_89 rfl rfl ?_
      obtain ⟨h9, hf⟩ := if_some hf
      refine V_iald (pc := 90) hC (ia_st hs (by decide) (by decide)) (inB_of h9) dX3_drop_90 ?_
      refine V_iload_n (pc := 91) hC 1 dX3_drop_91 rfl rfl ?_
      refine V_callS (pc := 92) (rest := [.int v2, .ref (E.2.1 (8 * s + 2))]) (As := [.int (I (8 * s + 2) (Int32.toNatClampNeg v2)), .int v1]) hC lk_X3_52 (c_X3_closeUp  rfl) rfl rfl (Nat.le_of_ble_eq_true rfl) (by decide) dX3_drop_92 ?_
      change V X E 3 95 [(0, .ref (E.2.1 (8 * s))), (1, .int v1), (2, .int v2)] [.int (f_X3_closeUp (I (8 * s + 2) (Int32.toNatClampNeg v2)) v1), .int v2, .ref (E.2.1 (8 * s + 2))] I
      obtain ⟨h10, hf⟩ := if_some hf
      refine V_iast (pc := 95) hC (ia_st hs (by decide) (by decide)) (inB_of h10) dX3_drop_95 ?_
      refine V_iinc (pc := 96) (lv' := [(2, .int (v2 + (1 : Int32))), (0, .ref (E.2.1 (8 * s))), (1, .int v1)]) hC (1 : Int32) 2 dX3_drop_96 rfl (by decide) (by decide) rfl ?_
      refine V_goto (pc := 99) (tgt := 72) hC dX3_drop_99 (by decide) ?_
      refine V_sub (pc := 72) (lv' := [(0, .ref (E.2.1 (8 * s))), (1, .int v1), (2, .int (v2 + (1 : Int32)))]) [1, 2, 0] rfl ?_
      exact ih (v2 + (1 : Int32)) (up2 I (8 * s + 2) (Int32.toNatClampNeg v2) (f_X3_closeUp (I (8 * s + 2) (Int32.toNatClampNeg v2)) v1)) hf
def f_X3_drop_4 (k : Nat) (s : Nat) (v1 : Int32) : Nat → Int32 → Mem → Option (Mem)
  | 0, _, _ => none
  | n + 1, v2, I => (if (I (8 * s) 0) ≤ v2 then f_X3_drop_72 k s v1 k (0 : Int32) (up2 I (8 * s) 0 ((I (8 * s) 0) - (1 : Int32))) else (if inB v2 10 = true then (if inB (v2 - (1 : Int32)) 10 = true then (if inB v2 10 = true then (if inB (v2 - (1 : Int32)) 10 = true then (if inB v2 10 = true then (if inB (v2 - (1 : Int32)) 10 = true then (f_X3_drop_4 k s v1 n) (v2 + (1 : Int32)) (up2 (up2 (up2 I (8 * s + 1) (Int32.toNatClampNeg (v2 - (1 : Int32))) (I (8 * s + 1) (Int32.toNatClampNeg v2))) (8 * s + 2) (Int32.toNatClampNeg (v2 - (1 : Int32))) ((up2 I (8 * s + 1) (Int32.toNatClampNeg (v2 - (1 : Int32))) (I (8 * s + 1) (Int32.toNatClampNeg v2))) (8 * s + 2) (Int32.toNatClampNeg v2))) (8 * s + 3) (Int32.toNatClampNeg (v2 - (1 : Int32))) ((up2 (up2 I (8 * s + 1) (Int32.toNatClampNeg (v2 - (1 : Int32))) (I (8 * s + 1) (Int32.toNatClampNeg v2))) (8 * s + 2) (Int32.toNatClampNeg (v2 - (1 : Int32))) ((up2 I (8 * s + 1) (Int32.toNatClampNeg (v2 - (1 : Int32))) (I (8 * s + 1) (Int32.toNatClampNeg v2))) (8 * s + 2) (Int32.toNatClampNeg v2))) (8 * s + 3) (Int32.toNatClampNeg v2))) else none) else none) else none) else none) else none) else none))
set_option maxHeartbeats 4000000 in
set_option maxRecDepth 100000 in
theorem b_X3_drop_4 {X : XT} {E : EN} {k : Nat} {s : Nat} {v1 : Int32} {r : Mem} (hC : Cx X E cX3_drop 3 RX3 2 42) (hs : s < 6) (hR : Rt X E cX3_drop none none r) : ∀ (n : Nat) (v2 : Int32) (I : Mem), f_X3_drop_4 k s v1 n v2 I = some r → V X E 3 4 [(0, .ref (E.2.1 (8 * s))), (1, .int v1), (2, .int v2)] [] I := by
  intro n
  induction n with
  | zero =>
    intro v2 I hf
    rw [f_X3_drop_4] at hf
    cases hf
  | succ n ih =>
    intro v2 I hf
    rw [f_X3_drop_4] at hf
    refine V_iload_n (pc := 4) hC 2 dX3_drop_4 rfl rfl ?_
    refine V_aload_n (pc := 5) hC 0 dX3_drop_5 rfl rfl ?_
    refine gf_X3_32 (pc := 6) hs hC dX3_drop_6 ?_
    refine V_icmp_ge (pc := 9) (tgt := 60) hC dX3_drop_9 (by decide) (fun c1 => ?_) (fun c1 => ?_)
    · have hf := ite_t hf c1
      refine V_aload_n (pc := 60) hC 0 dX3_drop_60 rfl rfl ?_
      refine V_dup (pc := 61) hC dX3_drop_61 rfl ?_
      refine gf_X3_32 (pc := 62) hs hC dX3_drop_62 ?_
      refine V_iconst (pc := 65) hC dX3_drop_65 (v := (1 : Int32)) (by decide) ?_
      refine V_isub (pc := 66) hC dX3_drop_66 ?_
      refine pf_X3_32 (pc := 67) hs hC dX3_drop_67 ?_
      refine V_iconst (pc := 70) hC dX3_drop_70 (v := (0 : Int32)) (by decide) ?_
      refine V_istore_n (pc := 71) (lv' := [(2, .int (0 : Int32)), (0, .ref (E.2.1 (8 * s))), (1, .int v1)]) hC dX3_drop_71 rfl (by decide) rfl ?_
      refine V_sub (pc := 72) (lv' := [(0, .ref (E.2.1 (8 * s))), (1, .int v1), (2, .int (0 : Int32))]) [1, 2, 0] rfl ?_
      exact b_X3_drop_72 hC hs hR k (0 : Int32) (up2 I (8 * s) 0 ((I (8 * s) 0) - (1 : Int32))) hf
    · have hf := ite_f hf c1
      refine V_aload_n (pc := 12) hC 0 dX3_drop_12 rfl rfl ?_
      refine gf_X3_15 (pc := 13) hs hC dX3_drop_13 ?_
      refine V_iload_n (pc := 16) hC 2 dX3_drop_16 rfl rfl ?_
      refine V_iconst (pc := 17) hC dX3_drop_17 (v := (1 : Int32)) (by decide) ?_
      refine V_isub (pc := 18) hC dX3_drop_18 ?_
      refine V_aload_n (pc := 19) hC 0 dX3_drop_19 rfl rfl ?_
      refine gf_X3_15 (pc := 20) hs hC dX3_drop_20 ?_
      refine V_iload_n (pc := 23) hC 2 dX3_drop_23 rfl rfl ?_
      obtain ⟨h2, hf⟩ := if_some hf
      refine V_iald (pc := 24) hC (ia_st hs (by decide) (by decide)) (inB_of h2) dX3_drop_24 ?_
      obtain ⟨h3, hf⟩ := if_some hf
      refine V_iast (pc := 25) hC (ia_st hs (by decide) (by decide)) (inB_of h3) dX3_drop_25 ?_
      refine V_aload_n (pc := 26) hC 0 dX3_drop_26 rfl rfl ?_
      refine gf_X3_19 (pc := 27) hs hC dX3_drop_27 ?_
      refine V_iload_n (pc := 30) hC 2 dX3_drop_30 rfl rfl ?_
      refine V_iconst (pc := 31) hC dX3_drop_31 (v := (1 : Int32)) (by decide) ?_
      refine V_isub (pc := 32) hC dX3_drop_32 ?_
      refine V_aload_n (pc := 33) hC 0 dX3_drop_33 rfl rfl ?_
      refine gf_X3_19 (pc := 34) hs hC dX3_drop_34 ?_
      refine V_iload_n (pc := 37) hC 2 dX3_drop_37 rfl rfl ?_
      obtain ⟨h4, hf⟩ := if_some hf
      refine V_iald (pc := 38) hC (ia_st hs (by decide) (by decide)) (inB_of h4) dX3_drop_38 ?_
      obtain ⟨h5, hf⟩ := if_some hf
      refine V_iast (pc := 39) hC (ia_st hs (by decide) (by decide)) (inB_of h5) dX3_drop_39 ?_
      refine V_aload_n (pc := 40) hC 0 dX3_drop_40 rfl rfl ?_
      refine gf_X3_22 (pc := 41) hs hC dX3_drop_41 ?_
      refine V_iload_n (pc := 44) hC 2 dX3_drop_44 rfl rfl ?_
      refine V_iconst (pc := 45) hC dX3_drop_45 (v := (1 : Int32)) (by decide) ?_
      refine V_isub (pc := 46) hC dX3_drop_46 ?_
      refine V_aload_n (pc := 47) hC 0 dX3_drop_47 rfl rfl ?_
      refine gf_X3_22 (pc := 48) hs hC dX3_drop_48 ?_
      refine V_iload_n (pc := 51) hC 2 dX3_drop_51 rfl rfl ?_
      obtain ⟨h6, hf⟩ := if_some hf
      refine V_iald (pc := 52) hC (ia_st hs (by decide) (by decide)) (inB_of h6) dX3_drop_52 ?_
      obtain ⟨h7, hf⟩ := if_some hf
      refine V_iast (pc := 53) hC (ia_st hs (by decide) (by decide)) (inB_of h7) dX3_drop_53 ?_
      refine V_iinc (pc := 54) (lv' := [(2, .int (v2 + (1 : Int32))), (0, .ref (E.2.1 (8 * s))), (1, .int v1)]) hC (1 : Int32) 2 dX3_drop_54 rfl (by decide) (by decide) rfl ?_
      refine V_goto (pc := 57) (tgt := 4) hC dX3_drop_57 (by decide) ?_
      refine V_sub (pc := 4) (lv' := [(0, .ref (E.2.1 (8 * s))), (1, .int v1), (2, .int (v2 + (1 : Int32)))]) [1, 2, 0] rfl ?_
      exact ih (v2 + (1 : Int32)) (up2 (up2 (up2 I (8 * s + 1) (Int32.toNatClampNeg (v2 - (1 : Int32))) (I (8 * s + 1) (Int32.toNatClampNeg v2))) (8 * s + 2) (Int32.toNatClampNeg (v2 - (1 : Int32))) ((up2 I (8 * s + 1) (Int32.toNatClampNeg (v2 - (1 : Int32))) (I (8 * s + 1) (Int32.toNatClampNeg v2))) (8 * s + 2) (Int32.toNatClampNeg v2))) (8 * s + 3) (Int32.toNatClampNeg (v2 - (1 : Int32))) ((up2 (up2 I (8 * s + 1) (Int32.toNatClampNeg (v2 - (1 : Int32))) (I (8 * s + 1) (Int32.toNatClampNeg v2))) (8 * s + 2) (Int32.toNatClampNeg (v2 - (1 : Int32))) ((up2 I (8 * s + 1) (Int32.toNatClampNeg (v2 - (1 : Int32))) (I (8 * s + 1) (Int32.toNatClampNeg v2))) (8 * s + 2) (Int32.toNatClampNeg v2))) (8 * s + 3) (Int32.toNatClampNeg v2))) hf
def f_X3_drop (k : Nat) (s : Nat) (v1 : Int32) (I : Mem) : Option (Mem) := f_X3_drop_4 k s v1 k (v1 + (1 : Int32)) I
set_option maxHeartbeats 4000000 in
set_option maxRecDepth 100000 in
theorem c_X3_drop {E : EN} {k : Nat} {s : Nat} {v1 : Int32} {I : Mem} {r : Mem} (hs : s < 6) (hf : f_X3_drop k s v1 I = some r) : Ct E yX3_drop cX3_drop 3 none 2 42 [.ref (E.2.1 (8 * s)), .int v1] I none r := by
  refine Ct_of (by decide) (Nat.le_of_ble_eq_true rfl) (fun X hC0 hR => ?_)
  have hC : Cx X E cX3_drop 3 RX3 2 42 := hC0
  change V X E 3 0 [(0, .ref (E.2.1 (8 * s))), (1, .int v1)] [] I
  unfold f_X3_drop at hf
  refine V_iload_n (pc := 0) hC 1 dX3_drop_0 rfl rfl ?_
  refine V_iconst (pc := 1) hC dX3_drop_1 (v := (1 : Int32)) (by decide) ?_
  refine V_iadd (pc := 2) hC dX3_drop_2 ?_
  refine V_istore_n (pc := 3) (lv' := [(2, .int (v1 + (1 : Int32))), (0, .ref (E.2.1 (8 * s))), (1, .int v1)]) hC dX3_drop_3 rfl (by decide) rfl ?_
  refine V_sub (pc := 4) (lv' := [(0, .ref (E.2.1 (8 * s))), (1, .int v1), (2, .int (v1 + (1 : Int32)))]) [1, 2, 0] rfl ?_
  exact b_X3_drop_4 hC hs hR k (v1 + (1 : Int32)) I hf
def f_X3_makeBloc_2 (k : Nat) (s : Nat) (v1 : Int32) : Nat → Int32 → Mem → Option (Mem)
  | 0, _, _ => none
  | n + 1, v2, I => (if (I (8 * s) 0) ≤ v2 then some I else (if (f_X5_holds v1 v2) = 0 then (f_X3_makeBloc_2 k s v1 n) (v2 + (1 : Int32)) I else (if inB v2 10 = true then (f_X3_makeBloc_2 k s v1 n) (v2 + (1 : Int32)) (up2 I (8 * s + 2) (Int32.toNatClampNeg v2) v1) else none)))
set_option maxHeartbeats 4000000 in
set_option maxRecDepth 100000 in
theorem b_X3_makeBloc_2 {X : XT} {E : EN} {k : Nat} {s : Nat} {v1 : Int32} {r : Mem} (hC : Cx X E cX3_makeBloc 3 RX3 2 41) (hs : s < 6) (hR : Rt X E cX3_makeBloc none none r) : ∀ (n : Nat) (v2 : Int32) (I : Mem), f_X3_makeBloc_2 k s v1 n v2 I = some r → V X E 3 2 [(0, .ref (E.2.1 (8 * s))), (1, .int v1), (2, .int v2)] [] I := by
  intro n
  induction n with
  | zero =>
    intro v2 I hf
    rw [f_X3_makeBloc_2] at hf
    cases hf
  | succ n ih =>
    intro v2 I hf
    rw [f_X3_makeBloc_2] at hf
    refine V_iload_n (pc := 2) hC 2 dX3_makeBloc_2 rfl rfl ?_
    refine V_aload_n (pc := 3) hC 0 dX3_makeBloc_3 rfl rfl ?_
    refine gf_X3_32 (pc := 4) hs hC dX3_makeBloc_4 ?_
    refine V_icmp_ge (pc := 7) (tgt := 31) hC dX3_makeBloc_7 (by decide) (fun c1 => ?_) (fun c1 => ?_)
    · have hf := ite_t hf c1
      cases hf
      exact V_return (pc := 31) hR trivial dX3_makeBloc_31
    · have hf := ite_f hf c1
      refine V_iload_n (pc := 10) hC 1 dX3_makeBloc_10 rfl rfl ?_
      refine V_iload_n (pc := 11) hC 2 dX3_makeBloc_11 rfl rfl ?_
      refine V_callN (pc := 12) (rest := []) (As := [.int v1, .int v2]) hC lk_X3_56 (c_X5_holds  rfl) rfl rfl (Nat.le_of_ble_eq_true rfl) (by decide) dX3_makeBloc_12 ?_
      change V X E 3 15 [(0, .ref (E.2.1 (8 * s))), (1, .int v1), (2, .int v2)] [.int (f_X5_holds v1 v2)] I
      refine V_if_eq (pc := 15) (tgt := 25) hC dX3_makeBloc_15 (by decide) (fun c2 => ?_) (fun c2 => ?_)
      · have hf := ite_t hf c2
        refine V_iinc (pc := 25) (lv' := [(2, .int (v2 + (1 : Int32))), (0, .ref (E.2.1 (8 * s))), (1, .int v1)]) hC (1 : Int32) 2 dX3_makeBloc_25 rfl (by decide) (by decide) rfl ?_
        refine V_goto (pc := 28) (tgt := 2) hC dX3_makeBloc_28 (by decide) ?_
        refine V_sub (pc := 2) (lv' := [(0, .ref (E.2.1 (8 * s))), (1, .int v1), (2, .int (v2 + (1 : Int32)))]) [1, 2, 0] rfl ?_
        exact ih (v2 + (1 : Int32)) I hf
      · have hf := ite_f hf c2
        refine V_aload_n (pc := 18) hC 0 dX3_makeBloc_18 rfl rfl ?_
        refine gf_X3_19 (pc := 19) hs hC dX3_makeBloc_19 ?_
        refine V_iload_n (pc := 22) hC 2 dX3_makeBloc_22 rfl rfl ?_
        refine V_iload_n (pc := 23) hC 1 dX3_makeBloc_23 rfl rfl ?_
        obtain ⟨h3, hf⟩ := if_some hf
        refine V_iast (pc := 24) hC (ia_st hs (by decide) (by decide)) (inB_of h3) dX3_makeBloc_24 ?_
        refine V_iinc (pc := 25) (lv' := [(2, .int (v2 + (1 : Int32))), (0, .ref (E.2.1 (8 * s))), (1, .int v1)]) hC (1 : Int32) 2 dX3_makeBloc_25 rfl (by decide) (by decide) rfl ?_
        refine V_goto (pc := 28) (tgt := 2) hC dX3_makeBloc_28 (by decide) ?_
        refine V_sub (pc := 2) (lv' := [(0, .ref (E.2.1 (8 * s))), (1, .int v1), (2, .int (v2 + (1 : Int32)))]) [1, 2, 0] rfl ?_
        exact ih (v2 + (1 : Int32)) (up2 I (8 * s + 2) (Int32.toNatClampNeg v2) v1) hf
def f_X3_makeBloc (k : Nat) (s : Nat) (v1 : Int32) (I : Mem) : Option (Mem) := f_X3_makeBloc_2 k s v1 k (0 : Int32) I
set_option maxHeartbeats 4000000 in
set_option maxRecDepth 100000 in
theorem c_X3_makeBloc {E : EN} {k : Nat} {s : Nat} {v1 : Int32} {I : Mem} {r : Mem} (hs : s < 6) (hf : f_X3_makeBloc k s v1 I = some r) : Ct E yX3_makeBloc cX3_makeBloc 3 none 2 41 [.ref (E.2.1 (8 * s)), .int v1] I none r := by
  refine Ct_of (by decide) (Nat.le_of_ble_eq_true rfl) (fun X hC0 hR => ?_)
  have hC : Cx X E cX3_makeBloc 3 RX3 2 41 := hC0
  change V X E 3 0 [(0, .ref (E.2.1 (8 * s))), (1, .int v1)] [] I
  unfold f_X3_makeBloc at hf
  refine V_iconst (pc := 0) hC dX3_makeBloc_0 (v := (0 : Int32)) (by decide) ?_
  refine V_istore_n (pc := 1) (lv' := [(2, .int (0 : Int32)), (0, .ref (E.2.1 (8 * s))), (1, .int v1)]) hC dX3_makeBloc_1 rfl (by decide) rfl ?_
  refine V_sub (pc := 2) (lv' := [(0, .ref (E.2.1 (8 * s))), (1, .int v1), (2, .int (0 : Int32))]) [1, 2, 0] rfl ?_
  exact b_X3_makeBloc_2 hC hs hR k (0 : Int32) I hf
def f_X3_blocCount_4 (k : Nat) (s : Nat) (I : Mem) : Nat → Int32 → Int32 → Option (Int32)
  | 0, _, _ => none
  | n + 1, v1, v2 => (if (I (8 * s) 0) ≤ v2 then some v1 else (Option.bind (f_X3_isLowest k s v2 I) (fun r2 => (if r2 = 0 then (f_X3_blocCount_4 k s I n) v1 (v2 + (1 : Int32)) else (f_X3_blocCount_4 k s I n) (v1 + (1 : Int32)) (v2 + (1 : Int32))))))
set_option maxHeartbeats 4000000 in
set_option maxRecDepth 100000 in
theorem b_X3_blocCount_4 {X : XT} {E : EN} {k : Nat} {s : Nat} {I : Mem} {r : Int32} (hC : Cx X E cX3_blocCount 3 RX3 4 84) (hs : s < 6) (hR : Rt X E cX3_blocCount (some .int) (some (.int r)) I) : ∀ (n : Nat) (v1 : Int32) (v2 : Int32), f_X3_blocCount_4 k s I n v1 v2 = some r → V X E 3 4 [(0, .ref (E.2.1 (8 * s))), (1, .int v1), (2, .int v2)] [] I := by
  intro n
  induction n with
  | zero =>
    intro v1 v2 hf
    rw [f_X3_blocCount_4] at hf
    cases hf
  | succ n ih =>
    intro v1 v2 hf
    rw [f_X3_blocCount_4] at hf
    refine V_iload_n (pc := 4) hC 2 dX3_blocCount_4 rfl rfl ?_
    refine V_aload_n (pc := 5) hC 0 dX3_blocCount_5 rfl rfl ?_
    refine gf_X3_32 (pc := 6) hs hC dX3_blocCount_6 ?_
    refine V_icmp_ge (pc := 9) (tgt := 29) hC dX3_blocCount_9 (by decide) (fun c1 => ?_) (fun c1 => ?_)
    · have hf := ite_t hf c1
      refine V_iload_n (pc := 29) hC 1 dX3_blocCount_29 rfl rfl ?_
      cases hf
      exact V_ireturn (pc := 30) hR rfl dX3_blocCount_30
    · have hf := ite_f hf c1
      refine V_aload_n (pc := 12) hC 0 dX3_blocCount_12 rfl rfl ?_
      refine V_iload_n (pc := 13) hC 2 dX3_blocCount_13 rfl rfl ?_
      obtain ⟨r2, g2, hf⟩ := bind_some hf
      refine V_callV (pc := 14) (rest := []) (As := [.int v2]) hC lk_X3_63 (by omega) (cel_State hs) rfl (c_X3_isLowest hs g2) rfl rfl (Nat.le_of_ble_eq_true rfl) (by decide) dX3_blocCount_14 ?_
      change V X E 3 17 [(0, .ref (E.2.1 (8 * s))), (1, .int v1), (2, .int v2)] [.int r2] I
      refine V_if_eq (pc := 17) (tgt := 23) hC dX3_blocCount_17 (by decide) (fun c3 => ?_) (fun c3 => ?_)
      · have hf := ite_t hf c3
        refine V_iinc (pc := 23) (lv' := [(2, .int (v2 + (1 : Int32))), (0, .ref (E.2.1 (8 * s))), (1, .int v1)]) hC (1 : Int32) 2 dX3_blocCount_23 rfl (by decide) (by decide) rfl ?_
        refine V_goto (pc := 26) (tgt := 4) hC dX3_blocCount_26 (by decide) ?_
        refine V_sub (pc := 4) (lv' := [(0, .ref (E.2.1 (8 * s))), (1, .int v1), (2, .int (v2 + (1 : Int32)))]) [1, 2, 0] rfl ?_
        exact ih v1 (v2 + (1 : Int32)) hf
      · have hf := ite_f hf c3
        refine V_iinc (pc := 20) (lv' := [(1, .int (v1 + (1 : Int32))), (0, .ref (E.2.1 (8 * s))), (2, .int v2)]) hC (1 : Int32) 1 dX3_blocCount_20 rfl (by decide) (by decide) rfl ?_
        refine V_iinc (pc := 23) (lv' := [(2, .int (v2 + (1 : Int32))), (1, .int (v1 + (1 : Int32))), (0, .ref (E.2.1 (8 * s)))]) hC (1 : Int32) 2 dX3_blocCount_23 rfl (by decide) (by decide) rfl ?_
        refine V_goto (pc := 26) (tgt := 4) hC dX3_blocCount_26 (by decide) ?_
        refine V_sub (pc := 4) (lv' := [(0, .ref (E.2.1 (8 * s))), (1, .int (v1 + (1 : Int32))), (2, .int (v2 + (1 : Int32)))]) [2, 1, 0] rfl ?_
        exact ih (v1 + (1 : Int32)) (v2 + (1 : Int32)) hf
def f_X3_blocCount (k : Nat) (s : Nat) (I : Mem) : Option (Int32) := f_X3_blocCount_4 k s I k (0 : Int32) (0 : Int32)
set_option maxHeartbeats 4000000 in
set_option maxRecDepth 100000 in
theorem c_X3_blocCount {E : EN} {k : Nat} {s : Nat} {I : Mem} {r : Int32} (hs : s < 6) (hf : f_X3_blocCount k s I = some r) : Ct E yX3_blocCount cX3_blocCount 3 (some .int) 4 84 [.ref (E.2.1 (8 * s))] I (some (.int r)) I := by
  refine Ct_of (by decide) (Nat.le_of_ble_eq_true rfl) (fun X hC0 hR => ?_)
  have hC : Cx X E cX3_blocCount 3 RX3 4 84 := hC0
  change V X E 3 0 [(0, .ref (E.2.1 (8 * s)))] [] I
  unfold f_X3_blocCount at hf
  refine V_iconst (pc := 0) hC dX3_blocCount_0 (v := (0 : Int32)) (by decide) ?_
  refine V_istore_n (pc := 1) (lv' := [(1, .int (0 : Int32)), (0, .ref (E.2.1 (8 * s)))]) hC dX3_blocCount_1 rfl (by decide) rfl ?_
  refine V_iconst (pc := 2) hC dX3_blocCount_2 (v := (0 : Int32)) (by decide) ?_
  refine V_istore_n (pc := 3) (lv' := [(2, .int (0 : Int32)), (1, .int (0 : Int32)), (0, .ref (E.2.1 (8 * s)))]) hC dX3_blocCount_3 rfl (by decide) rfl ?_
  refine V_sub (pc := 4) (lv' := [(0, .ref (E.2.1 (8 * s))), (1, .int (0 : Int32)), (2, .int (0 : Int32))]) [2, 1, 0] rfl ?_
  exact b_X3_blocCount_4 hC hs hR k (0 : Int32) (0 : Int32) hf
def f_X3_leaderOf_10 (k : Nat) (s : Nat) (I : Mem) (v1 : Int32) : Nat → Int32 → Int32 → Option (Int32)
  | 0, _, _ => none
  | n + 1, v2, v3 => (if (I (8 * s) 0) ≤ v3 then some v2 else (if inB v1 10 = true then (if (f_X5_holds (I (8 * s + 2) (Int32.toNatClampNeg v1)) v3) = 0 then (f_X3_leaderOf_10 k s I v1 n) v2 (v3 + (1 : Int32)) else (if inB v3 10 = true then (if inB v2 10 = true then (if (I (8 * s + 1) (Int32.toNatClampNeg v3)) ≤ (I (8 * s + 1) (Int32.toNatClampNeg v2)) then (f_X3_leaderOf_10 k s I v1 n) v2 (v3 + (1 : Int32)) else (f_X3_leaderOf_10 k s I v1 n) v3 (v3 + (1 : Int32))) else none) else none)) else none))
set_option maxHeartbeats 4000000 in
set_option maxRecDepth 100000 in
theorem b_X3_leaderOf_10 {X : XT} {E : EN} {k : Nat} {s : Nat} {I : Mem} {v1 : Int32} {r : Int32} (hC : Cx X E cX3_leaderOf 4 RX3 3 63) (hs : s < 6) (hR : Rt X E cX3_leaderOf (some .int) (some (.int r)) I) : ∀ (n : Nat) (v2 : Int32) (v3 : Int32), f_X3_leaderOf_10 k s I v1 n v2 v3 = some r → V X E 4 10 [(0, .ref (E.2.1 (8 * s))), (1, .int v1), (2, .int v2), (3, .int v3)] [] I := by
  intro n
  induction n with
  | zero =>
    intro v2 v3 hf
    rw [f_X3_leaderOf_10] at hf
    cases hf
  | succ n ih =>
    intro v2 v3 hf
    rw [f_X3_leaderOf_10] at hf
    refine V_iload_n (pc := 10) hC 3 dX3_leaderOf_10 rfl rfl ?_
    refine V_aload_n (pc := 11) hC 0 dX3_leaderOf_11 rfl rfl ?_
    refine gf_X3_32 (pc := 12) hs hC dX3_leaderOf_12 ?_
    refine V_icmp_ge (pc := 15) (tgt := 54) hC dX3_leaderOf_15 (by decide) (fun c2 => ?_) (fun c2 => ?_)
    · have hf := ite_t hf c2
      refine V_iload_n (pc := 54) hC 2 dX3_leaderOf_54 rfl rfl ?_
      cases hf
      exact V_ireturn (pc := 55) hR rfl dX3_leaderOf_55
    · have hf := ite_f hf c2
      refine V_aload_n (pc := 18) hC 0 dX3_leaderOf_18 rfl rfl ?_
      refine gf_X3_19 (pc := 19) hs hC dX3_leaderOf_19 ?_
      refine V_iload_n (pc := 22) hC 1 dX3_leaderOf_22 rfl rfl ?_
      obtain ⟨h3, hf⟩ := if_some hf
      refine V_iald (pc := 23) hC (ia_st hs (by decide) (by decide)) (inB_of h3) dX3_leaderOf_23 ?_
      refine V_iload_n (pc := 24) hC 3 dX3_leaderOf_24 rfl rfl ?_
      refine V_callN (pc := 25) (rest := []) (As := [.int (I (8 * s + 2) (Int32.toNatClampNeg v1)), .int v3]) hC lk_X3_56 (c_X5_holds  rfl) rfl rfl (Nat.le_of_ble_eq_true rfl) (by decide) dX3_leaderOf_25 ?_
      change V X E 4 28 [(0, .ref (E.2.1 (8 * s))), (1, .int v1), (2, .int v2), (3, .int v3)] [.int (f_X5_holds (I (8 * s + 2) (Int32.toNatClampNeg v1)) v3)] I
      refine V_if_eq (pc := 28) (tgt := 48) hC dX3_leaderOf_28 (by decide) (fun c4 => ?_) (fun c4 => ?_)
      · have hf := ite_t hf c4
        refine V_iinc (pc := 48) (lv' := [(3, .int (v3 + (1 : Int32))), (0, .ref (E.2.1 (8 * s))), (1, .int v1), (2, .int v2)]) hC (1 : Int32) 3 dX3_leaderOf_48 rfl (by decide) (by decide) rfl ?_
        refine V_goto (pc := 51) (tgt := 10) hC dX3_leaderOf_51 (by decide) ?_
        refine V_sub (pc := 10) (lv' := [(0, .ref (E.2.1 (8 * s))), (1, .int v1), (2, .int v2), (3, .int (v3 + (1 : Int32)))]) [1, 2, 3, 0] rfl ?_
        exact ih v2 (v3 + (1 : Int32)) hf
      · have hf := ite_f hf c4
        refine V_aload_n (pc := 31) hC 0 dX3_leaderOf_31 rfl rfl ?_
        refine gf_X3_15 (pc := 32) hs hC dX3_leaderOf_32 ?_
        refine V_iload_n (pc := 35) hC 3 dX3_leaderOf_35 rfl rfl ?_
        obtain ⟨h5, hf⟩ := if_some hf
        refine V_iald (pc := 36) hC (ia_st hs (by decide) (by decide)) (inB_of h5) dX3_leaderOf_36 ?_
        refine V_aload_n (pc := 37) hC 0 dX3_leaderOf_37 rfl rfl ?_
        refine gf_X3_15 (pc := 38) hs hC dX3_leaderOf_38 ?_
        refine V_iload_n (pc := 41) hC 2 dX3_leaderOf_41 rfl rfl ?_
        obtain ⟨h6, hf⟩ := if_some hf
        refine V_iald (pc := 42) hC (ia_st hs (by decide) (by decide)) (inB_of h6) dX3_leaderOf_42 ?_
        refine V_icmp_le (pc := 43) (tgt := 48) hC dX3_leaderOf_43 (by decide) (fun c7 => ?_) (fun c7 => ?_)
        · have hf := ite_t hf c7
          refine V_iinc (pc := 48) (lv' := [(3, .int (v3 + (1 : Int32))), (0, .ref (E.2.1 (8 * s))), (1, .int v1), (2, .int v2)]) hC (1 : Int32) 3 dX3_leaderOf_48 rfl (by decide) (by decide) rfl ?_
          refine V_goto (pc := 51) (tgt := 10) hC dX3_leaderOf_51 (by decide) ?_
          refine V_sub (pc := 10) (lv' := [(0, .ref (E.2.1 (8 * s))), (1, .int v1), (2, .int v2), (3, .int (v3 + (1 : Int32)))]) [1, 2, 3, 0] rfl ?_
          exact ih v2 (v3 + (1 : Int32)) hf
        · have hf := ite_f hf c7
          refine V_iload_n (pc := 46) hC 3 dX3_leaderOf_46 rfl rfl ?_
          refine V_istore_n (pc := 47) (lv' := [(2, .int v3), (0, .ref (E.2.1 (8 * s))), (1, .int v1), (3, .int v3)]) hC dX3_leaderOf_47 rfl (by decide) rfl ?_
          refine V_iinc (pc := 48) (lv' := [(3, .int (v3 + (1 : Int32))), (2, .int v3), (0, .ref (E.2.1 (8 * s))), (1, .int v1)]) hC (1 : Int32) 3 dX3_leaderOf_48 rfl (by decide) (by decide) rfl ?_
          refine V_goto (pc := 51) (tgt := 10) hC dX3_leaderOf_51 (by decide) ?_
          refine V_sub (pc := 10) (lv' := [(0, .ref (E.2.1 (8 * s))), (1, .int v1), (2, .int v3), (3, .int (v3 + (1 : Int32)))]) [2, 3, 1, 0] rfl ?_
          exact ih v3 (v3 + (1 : Int32)) hf
def f_X3_leaderOf (k : Nat) (s : Nat) (v1 : Int32) (I : Mem) : Option (Int32) := (Option.bind (f_X3_lowestBeside k s v1 I) (fun r1 => f_X3_leaderOf_10 k s I v1 k r1 (r1 + (1 : Int32))))
set_option maxHeartbeats 4000000 in
set_option maxRecDepth 100000 in
theorem c_X3_leaderOf {E : EN} {k : Nat} {s : Nat} {v1 : Int32} {I : Mem} {r : Int32} (hs : s < 6) (hf : f_X3_leaderOf k s v1 I = some r) : Ct E yX3_leaderOf cX3_leaderOf 4 (some .int) 3 63 [.ref (E.2.1 (8 * s)), .int v1] I (some (.int r)) I := by
  refine Ct_of (by decide) (Nat.le_of_ble_eq_true rfl) (fun X hC0 hR => ?_)
  have hC : Cx X E cX3_leaderOf 4 RX3 3 63 := hC0
  change V X E 4 0 [(0, .ref (E.2.1 (8 * s))), (1, .int v1)] [] I
  unfold f_X3_leaderOf at hf
  refine V_aload_n (pc := 0) hC 0 dX3_leaderOf_0 rfl rfl ?_
  refine V_iload_n (pc := 1) hC 1 dX3_leaderOf_1 rfl rfl ?_
  obtain ⟨r1, g1, hf⟩ := bind_some hf
  refine V_callV (pc := 2) (rest := []) (As := [.int v1]) hC lk_X3_60 (by omega) (cel_State hs) rfl (c_X3_lowestBeside hs g1) rfl rfl (Nat.le_of_ble_eq_true rfl) (by decide) dX3_leaderOf_2 ?_
  change V X E 4 5 [(0, .ref (E.2.1 (8 * s))), (1, .int v1)] [.int r1] I
  refine V_istore_n (pc := 5) (lv' := [(2, .int r1), (0, .ref (E.2.1 (8 * s))), (1, .int v1)]) hC dX3_leaderOf_5 rfl (by decide) rfl ?_
  refine V_iload_n (pc := 6) hC 0 dX3_leaderOf_6 rfl rfl ?_
  refine V_iconst (pc := 7) hC dX3_leaderOf_7 (v := (1 : Int32)) (by decide) ?_
  refine V_iadd (pc := 8) hC dX3_leaderOf_8 ?_
  refine V_istore_n (pc := 9) (lv' := [(3, .int (r1 + (1 : Int32))), (2, .int r1), (0, .ref (E.2.1 (8 * s))), (1, .int v1)]) hC dX3_leaderOf_9 rfl (by decide) rfl ?_
  refine V_sub (pc := 10) (lv' := [(0, .ref (E.2.1 (8 * s))), (1, .int v1), (2, .int r1), (3, .int (r1 + (1 : Int32)))]) [2, 3, 1, 0] rfl ?_
  exact b_X3_leaderOf_10 hC hs hR k r1 (r1 + (1 : Int32)) hf
def f_X3_wholeBlocsIn_4 (k : Nat) (s : Nat) (I : Mem) (v1 : Int32) : Nat → Int32 → Int32 → Option (Int32)
  | 0, _, _ => none
  | n + 1, v2, v3 => (if (I (8 * s) 0) ≤ v3 then some v2 else (if inB v3 10 = true then (if ((I (8 * s + 2) (Int32.toNatClampNeg v3)) &&& (v1 ^^^ (-1 : Int32))) = 0 then (f_X3_wholeBlocsIn_4 k s I v1 n) (v2 ||| (f_X5_bit v3)) (v3 + (1 : Int32)) else (f_X3_wholeBlocsIn_4 k s I v1 n) v2 (v3 + (1 : Int32))) else none))
set_option maxHeartbeats 4000000 in
set_option maxRecDepth 100000 in
theorem b_X3_wholeBlocsIn_4 {X : XT} {E : EN} {k : Nat} {s : Nat} {I : Mem} {v1 : Int32} {r : Int32} (hC : Cx X E cX3_wholeBlocsIn 4 RX3 1 20) (hs : s < 6) (hR : Rt X E cX3_wholeBlocsIn (some .int) (some (.int r)) I) : ∀ (n : Nat) (v2 : Int32) (v3 : Int32), f_X3_wholeBlocsIn_4 k s I v1 n v2 v3 = some r → V X E 4 4 [(0, .ref (E.2.1 (8 * s))), (1, .int v1), (2, .int v2), (3, .int v3)] [] I := by
  intro n
  induction n with
  | zero =>
    intro v2 v3 hf
    rw [f_X3_wholeBlocsIn_4] at hf
    cases hf
  | succ n ih =>
    intro v2 v3 hf
    rw [f_X3_wholeBlocsIn_4] at hf
    refine V_iload_n (pc := 4) hC 3 dX3_wholeBlocsIn_4 rfl rfl ?_
    refine V_aload_n (pc := 5) hC 0 dX3_wholeBlocsIn_5 rfl rfl ?_
    refine gf_X3_32 (pc := 6) hs hC dX3_wholeBlocsIn_6 ?_
    refine V_icmp_ge (pc := 9) (tgt := 38) hC dX3_wholeBlocsIn_9 (by decide) (fun c1 => ?_) (fun c1 => ?_)
    · have hf := ite_t hf c1
      refine V_iload_n (pc := 38) hC 2 dX3_wholeBlocsIn_38 rfl rfl ?_
      cases hf
      exact V_ireturn (pc := 39) hR rfl dX3_wholeBlocsIn_39
    · have hf := ite_f hf c1
      refine V_aload_n (pc := 12) hC 0 dX3_wholeBlocsIn_12 rfl rfl ?_
      refine gf_X3_19 (pc := 13) hs hC dX3_wholeBlocsIn_13 ?_
      refine V_iload_n (pc := 16) hC 3 dX3_wholeBlocsIn_16 rfl rfl ?_
      obtain ⟨h2, hf⟩ := if_some hf
      refine V_iald (pc := 17) hC (ia_st hs (by decide) (by decide)) (inB_of h2) dX3_wholeBlocsIn_17 ?_
      refine V_iload_n (pc := 18) hC 1 dX3_wholeBlocsIn_18 rfl rfl ?_
      refine V_iconst (pc := 19) hC dX3_wholeBlocsIn_19 (v := (-1 : Int32)) (by decide) ?_
      refine V_ixor (pc := 20) hC dX3_wholeBlocsIn_20 ?_
      refine V_iand (pc := 21) hC dX3_wholeBlocsIn_21 ?_
      refine V_if_ne (pc := 22) (tgt := 32) hC dX3_wholeBlocsIn_22 (by decide) (fun c3 => ?_) (fun c3 => ?_)
      · have hf := ite_f hf c3
        refine V_iinc (pc := 32) (lv' := [(3, .int (v3 + (1 : Int32))), (0, .ref (E.2.1 (8 * s))), (1, .int v1), (2, .int v2)]) hC (1 : Int32) 3 dX3_wholeBlocsIn_32 rfl (by decide) (by decide) rfl ?_
        refine V_goto (pc := 35) (tgt := 4) hC dX3_wholeBlocsIn_35 (by decide) ?_
        refine V_sub (pc := 4) (lv' := [(0, .ref (E.2.1 (8 * s))), (1, .int v1), (2, .int v2), (3, .int (v3 + (1 : Int32)))]) [1, 2, 3, 0] rfl ?_
        exact ih v2 (v3 + (1 : Int32)) hf
      · have hf := ite_t hf c3
        refine V_iload_n (pc := 25) hC 2 dX3_wholeBlocsIn_25 rfl rfl ?_
        refine V_iload_n (pc := 26) hC 3 dX3_wholeBlocsIn_26 rfl rfl ?_
        refine V_callN (pc := 27) (rest := [.int v2]) (As := [.int v3]) hC lk_X3_48 (c_X5_bit  rfl) rfl rfl (Nat.le_of_ble_eq_true rfl) (by decide) dX3_wholeBlocsIn_27 ?_
        change V X E 4 30 [(0, .ref (E.2.1 (8 * s))), (1, .int v1), (2, .int v2), (3, .int v3)] [.int (f_X5_bit v3), .int v2] I
        refine V_ior (pc := 30) hC dX3_wholeBlocsIn_30 ?_
        refine V_istore_n (pc := 31) (lv' := [(2, .int (v2 ||| (f_X5_bit v3))), (0, .ref (E.2.1 (8 * s))), (1, .int v1), (3, .int v3)]) hC dX3_wholeBlocsIn_31 rfl (by decide) rfl ?_
        refine V_iinc (pc := 32) (lv' := [(3, .int (v3 + (1 : Int32))), (2, .int (v2 ||| (f_X5_bit v3))), (0, .ref (E.2.1 (8 * s))), (1, .int v1)]) hC (1 : Int32) 3 dX3_wholeBlocsIn_32 rfl (by decide) (by decide) rfl ?_
        refine V_goto (pc := 35) (tgt := 4) hC dX3_wholeBlocsIn_35 (by decide) ?_
        refine V_sub (pc := 4) (lv' := [(0, .ref (E.2.1 (8 * s))), (1, .int v1), (2, .int (v2 ||| (f_X5_bit v3))), (3, .int (v3 + (1 : Int32)))]) [2, 3, 1, 0] rfl ?_
        exact ih (v2 ||| (f_X5_bit v3)) (v3 + (1 : Int32)) hf
def f_X3_wholeBlocsIn (k : Nat) (s : Nat) (v1 : Int32) (I : Mem) : Option (Int32) := f_X3_wholeBlocsIn_4 k s I v1 k (0 : Int32) (0 : Int32)
set_option maxHeartbeats 4000000 in
set_option maxRecDepth 100000 in
theorem c_X3_wholeBlocsIn {E : EN} {k : Nat} {s : Nat} {v1 : Int32} {I : Mem} {r : Int32} (hs : s < 6) (hf : f_X3_wholeBlocsIn k s v1 I = some r) : Ct E yX3_wholeBlocsIn cX3_wholeBlocsIn 4 (some .int) 1 20 [.ref (E.2.1 (8 * s)), .int v1] I (some (.int r)) I := by
  refine Ct_of (by decide) (Nat.le_of_ble_eq_true rfl) (fun X hC0 hR => ?_)
  have hC : Cx X E cX3_wholeBlocsIn 4 RX3 1 20 := hC0
  change V X E 4 0 [(0, .ref (E.2.1 (8 * s))), (1, .int v1)] [] I
  unfold f_X3_wholeBlocsIn at hf
  refine V_iconst (pc := 0) hC dX3_wholeBlocsIn_0 (v := (0 : Int32)) (by decide) ?_
  refine V_istore_n (pc := 1) (lv' := [(2, .int (0 : Int32)), (0, .ref (E.2.1 (8 * s))), (1, .int v1)]) hC dX3_wholeBlocsIn_1 rfl (by decide) rfl ?_
  refine V_iconst (pc := 2) hC dX3_wholeBlocsIn_2 (v := (0 : Int32)) (by decide) ?_
  refine V_istore_n (pc := 3) (lv' := [(3, .int (0 : Int32)), (2, .int (0 : Int32)), (0, .ref (E.2.1 (8 * s))), (1, .int v1)]) hC dX3_wholeBlocsIn_3 rfl (by decide) rfl ?_
  refine V_sub (pc := 4) (lv' := [(0, .ref (E.2.1 (8 * s))), (1, .int v1), (2, .int (0 : Int32)), (3, .int (0 : Int32))]) [2, 3, 1, 0] rfl ?_
  exact b_X3_wholeBlocsIn_4 hC hs hR k (0 : Int32) (0 : Int32) hf
def f_X3_isWinning (k : Nat) (s : Nat) (v1 : Int32) (I : Mem) : Option (Int32) := (Option.bind (f_X3_weightOf k s v1 I) (fun r1 => (if r1 < (I (8 * s) 1) then some (0 : Int32) else (if ((I (8 * s) 2) &&& (v1 ^^^ (-1 : Int32))) = 0 then some (1 : Int32) else some (0 : Int32)))))
set_option maxHeartbeats 4000000 in
set_option maxRecDepth 100000 in
theorem c_X3_isWinning {E : EN} {k : Nat} {s : Nat} {v1 : Int32} {I : Mem} {r : Int32} (hs : s < 6) (hf : f_X3_isWinning k s v1 I = some r) : Ct E yX3_isWinning cX3_isWinning 2 (some .boolean) 3 64 [.ref (E.2.1 (8 * s)), .int v1] I (some (.int r)) I := by
  refine Ct_of (by decide) (Nat.le_of_ble_eq_true rfl) (fun X hC0 hR => ?_)
  have hC : Cx X E cX3_isWinning 2 RX3 3 64 := hC0
  change V X E 2 0 [(0, .ref (E.2.1 (8 * s))), (1, .int v1)] [] I
  unfold f_X3_isWinning at hf
  refine V_aload_n (pc := 0) hC 0 dX3_isWinning_0 rfl rfl ?_
  refine V_iload_n (pc := 1) hC 1 dX3_isWinning_1 rfl rfl ?_
  obtain ⟨r1, g1, hf⟩ := bind_some hf
  refine V_callV (pc := 2) (rest := []) (As := [.int v1]) hC lk_X3_67 (by omega) (cel_State hs) rfl (c_X3_weightOf hs g1) rfl rfl (Nat.le_of_ble_eq_true rfl) (by decide) dX3_isWinning_2 ?_
  change V X E 2 5 [(0, .ref (E.2.1 (8 * s))), (1, .int v1)] [.int r1] I
  refine V_aload_n (pc := 5) hC 0 dX3_isWinning_5 rfl rfl ?_
  refine gf_X3_9 (pc := 6) hs hC dX3_isWinning_6 ?_
  refine V_icmp_lt (pc := 9) (tgt := 27) hC dX3_isWinning_9 (by decide) (fun c2 => ?_) (fun c2 => ?_)
  · have hf := ite_t hf c2
    refine V_iconst (pc := 27) hC dX3_isWinning_27 (v := (0 : Int32)) (by decide) ?_
    cases hf
    exact V_ireturn (pc := 28) hR (nar_z (by decide)) dX3_isWinning_28
  · have hf := ite_f hf c2
    refine V_aload_n (pc := 12) hC 0 dX3_isWinning_12 rfl rfl ?_
    refine gf_X3_35 (pc := 13) hs hC dX3_isWinning_13 ?_
    refine V_iload_n (pc := 16) hC 1 dX3_isWinning_16 rfl rfl ?_
    refine V_iconst (pc := 17) hC dX3_isWinning_17 (v := (-1 : Int32)) (by decide) ?_
    refine V_ixor (pc := 18) hC dX3_isWinning_18 ?_
    refine V_iand (pc := 19) hC dX3_isWinning_19 ?_
    refine V_if_ne (pc := 20) (tgt := 27) hC dX3_isWinning_20 (by decide) (fun c3 => ?_) (fun c3 => ?_)
    · have hf := ite_f hf c3
      refine V_iconst (pc := 27) hC dX3_isWinning_27 (v := (0 : Int32)) (by decide) ?_
      cases hf
      exact V_ireturn (pc := 28) hR (nar_z (by decide)) dX3_isWinning_28
    · have hf := ite_t hf c3
      refine V_iconst (pc := 23) hC dX3_isWinning_23 (v := (1 : Int32)) (by decide) ?_
      refine V_goto (pc := 24) (tgt := 28) hC dX3_isWinning_24 (by decide) ?_
      cases hf
      exact V_ireturn (pc := 28) hR (nar_z (by decide)) dX3_isWinning_28
def f_X3_tellSwings_2 (k : Nat) (s : Nat) (v1 : Int32) (v2 : Int32) : Nat → Int32 → Mem → Option (Mem)
  | 0, _, _ => none
  | n + 1, v3, I => (if (I (8 * s) 0) ≤ v3 then some I else (if inB v3 10 = true then (Option.bind (f_X3_isWinning k s (v1 ^^^ (I (8 * s + 2) (Int32.toNatClampNeg v3))) I) (fun r3 => (if r3 = v2 then (f_X3_tellSwings_2 k s v1 v2 n) (v3 + (1 : Int32)) I else (if inB v3 10 = true then (if inB v3 10 = true then (f_X3_tellSwings_2 k s v1 v2 n) (v3 + (1 : Int32)) (up2 I (8 * s + 3) (Int32.toNatClampNeg v3) ((I (8 * s + 3) (Int32.toNatClampNeg v3)) + (1 : Int32))) else none) else none)))) else none))
set_option maxHeartbeats 4000000 in
set_option maxRecDepth 100000 in
theorem b_X3_tellSwings_2 {X : XT} {E : EN} {k : Nat} {s : Nat} {v1 : Int32} {v2 : Int32} {r : Mem} (hC : Cx X E cX3_tellSwings 4 RX3 4 85) (hs : s < 6) (hR : Rt X E cX3_tellSwings none none r) : ∀ (n : Nat) (v3 : Int32) (I : Mem), f_X3_tellSwings_2 k s v1 v2 n v3 I = some r → V X E 4 2 [(0, .ref (E.2.1 (8 * s))), (1, .int v1), (2, .int v2), (3, .int v3)] [] I := by
  intro n
  induction n with
  | zero =>
    intro v3 I hf
    rw [f_X3_tellSwings_2] at hf
    cases hf
  | succ n ih =>
    intro v3 I hf
    rw [f_X3_tellSwings_2] at hf
    refine V_iload_n (pc := 2) hC 3 dX3_tellSwings_2 rfl rfl ?_
    refine V_aload_n (pc := 3) hC 0 dX3_tellSwings_3 rfl rfl ?_
    refine gf_X3_32 (pc := 4) hs hC dX3_tellSwings_4 ?_
    refine V_icmp_ge (pc := 7) (tgt := 42) hC dX3_tellSwings_7 (by decide) (fun c1 => ?_) (fun c1 => ?_)
    · have hf := ite_t hf c1
      cases hf
      exact V_return (pc := 42) hR trivial dX3_tellSwings_42
    · have hf := ite_f hf c1
      refine V_aload_n (pc := 10) hC 0 dX3_tellSwings_10 rfl rfl ?_
      refine V_iload_n (pc := 11) hC 1 dX3_tellSwings_11 rfl rfl ?_
      refine V_aload_n (pc := 12) hC 0 dX3_tellSwings_12 rfl rfl ?_
      refine gf_X3_19 (pc := 13) hs hC dX3_tellSwings_13 ?_
      refine V_iload_n (pc := 16) hC 3 dX3_tellSwings_16 rfl rfl ?_
      obtain ⟨h2, hf⟩ := if_some hf
      refine V_iald (pc := 17) hC (ia_st hs (by decide) (by decide)) (inB_of h2) dX3_tellSwings_17 ?_
      refine V_ixor (pc := 18) hC dX3_tellSwings_18 ?_
      obtain ⟨r3, g3, hf⟩ := bind_some hf
      refine V_callV (pc := 19) (rest := []) (As := [.int (v1 ^^^ (I (8 * s + 2) (Int32.toNatClampNeg v3)))]) hC lk_X3_79 (by omega) (cel_State hs) rfl (c_X3_isWinning hs g3) rfl rfl (Nat.le_of_ble_eq_true rfl) (by decide) dX3_tellSwings_19 ?_
      change V X E 4 22 [(0, .ref (E.2.1 (8 * s))), (1, .int v1), (2, .int v2), (3, .int v3)] [.int r3] I
      refine V_iload_n (pc := 22) hC 2 dX3_tellSwings_22 rfl rfl ?_
      refine V_icmp_eq (pc := 23) (tgt := 36) hC dX3_tellSwings_23 (by decide) (fun c4 => ?_) (fun c4 => ?_)
      · have hf := ite_t hf c4
        refine V_iinc (pc := 36) (lv' := [(3, .int (v3 + (1 : Int32))), (0, .ref (E.2.1 (8 * s))), (1, .int v1), (2, .int v2)]) hC (1 : Int32) 3 dX3_tellSwings_36 rfl (by decide) (by decide) rfl ?_
        refine V_goto (pc := 39) (tgt := 2) hC dX3_tellSwings_39 (by decide) ?_
        refine V_sub (pc := 2) (lv' := [(0, .ref (E.2.1 (8 * s))), (1, .int v1), (2, .int v2), (3, .int (v3 + (1 : Int32)))]) [1, 2, 3, 0] rfl ?_
        exact ih (v3 + (1 : Int32)) I hf
      · have hf := ite_f hf c4
        refine V_aload_n (pc := 26) hC 0 dX3_tellSwings_26 rfl rfl ?_
        refine gf_X3_22 (pc := 27) hs hC dX3_tellSwings_27 ?_
        refine V_iload_n (pc := 30) hC 3 dX3_tellSwings_30 rfl rfl ?_
        refine V_dup2 (pc := 31) hC dX3_tellSwings_31 rfl rfl ?_
        obtain ⟨h5, hf⟩ := if_some hf
        refine V_iald (pc := 32) hC (ia_st hs (by decide) (by decide)) (inB_of h5) dX3_tellSwings_32 ?_
        refine V_iconst (pc := 33) hC dX3_tellSwings_33 (v := (1 : Int32)) (by decide) ?_
        refine V_iadd (pc := 34) hC dX3_tellSwings_34 ?_
        obtain ⟨h6, hf⟩ := if_some hf
        refine V_iast (pc := 35) hC (ia_st hs (by decide) (by decide)) (inB_of h6) dX3_tellSwings_35 ?_
        refine V_iinc (pc := 36) (lv' := [(3, .int (v3 + (1 : Int32))), (0, .ref (E.2.1 (8 * s))), (1, .int v1), (2, .int v2)]) hC (1 : Int32) 3 dX3_tellSwings_36 rfl (by decide) (by decide) rfl ?_
        refine V_goto (pc := 39) (tgt := 2) hC dX3_tellSwings_39 (by decide) ?_
        refine V_sub (pc := 2) (lv' := [(0, .ref (E.2.1 (8 * s))), (1, .int v1), (2, .int v2), (3, .int (v3 + (1 : Int32)))]) [1, 2, 3, 0] rfl ?_
        exact ih (v3 + (1 : Int32)) (up2 I (8 * s + 3) (Int32.toNatClampNeg v3) ((I (8 * s + 3) (Int32.toNatClampNeg v3)) + (1 : Int32))) hf
def f_X3_tellSwings (k : Nat) (s : Nat) (v1 : Int32) (v2 : Int32) (I : Mem) : Option (Mem) := f_X3_tellSwings_2 k s v1 v2 k (0 : Int32) I
set_option maxHeartbeats 4000000 in
set_option maxRecDepth 100000 in
theorem c_X3_tellSwings {E : EN} {k : Nat} {s : Nat} {v1 : Int32} {v2 : Int32} {I : Mem} {r : Mem} (hs : s < 6) (hf : f_X3_tellSwings k s v1 v2 I = some r) : Ct E yX3_tellSwings cX3_tellSwings 4 none 4 85 [.ref (E.2.1 (8 * s)), .int v1, .int v2] I none r := by
  refine Ct_of (by decide) (Nat.le_of_ble_eq_true rfl) (fun X hC0 hR => ?_)
  have hC : Cx X E cX3_tellSwings 4 RX3 4 85 := hC0
  change V X E 4 0 [(0, .ref (E.2.1 (8 * s))), (1, .int v1), (2, .int v2)] [] I
  unfold f_X3_tellSwings at hf
  refine V_iconst (pc := 0) hC dX3_tellSwings_0 (v := (0 : Int32)) (by decide) ?_
  refine V_istore_n (pc := 1) (lv' := [(3, .int (0 : Int32)), (0, .ref (E.2.1 (8 * s))), (1, .int v1), (2, .int v2)]) hC dX3_tellSwings_1 rfl (by decide) rfl ?_
  refine V_sub (pc := 2) (lv' := [(0, .ref (E.2.1 (8 * s))), (1, .int v1), (2, .int v2), (3, .int (0 : Int32))]) [1, 2, 3, 0] rfl ?_
  exact b_X3_tellSwings_2 hC hs hR k (0 : Int32) I hf
def f_X4_at (k : Nat) (v1 : Int32) (I : Mem) : Option (Int32) := (if v1 < 0 then some (48 : Int32) else (if (I (51) 1) ≤ v1 then some (48 : Int32) else (if inB v1 60 = true then (if vp_nar .char (I (52) (Int32.toNatClampNeg v1)) = (I (52) (Int32.toNatClampNeg v1)) then some (I (52) (Int32.toNatClampNeg v1)) else none) else none)))
set_option maxHeartbeats 4000000 in
set_option maxRecDepth 100000 in
theorem c_X4_at {E : EN} {k : Nat} {v1 : Int32} {I : Mem} {r : Int32} (hf : f_X4_at k v1 I = some r) : Ct E yX4_at cX4_at 2 (some .char) 0 0 [.ref (E.2.1 (51)), .int v1] I (some (.int r)) I := by
  refine Ct_of (by decide) (Nat.le_of_ble_eq_true rfl) (fun X hC0 hR => ?_)
  have hC : Cx X E cX4_at 2 RX4 0 0 := hC0
  change V X E 2 0 [(0, .ref (E.2.1 (51))), (1, .int v1)] [] I
  unfold f_X4_at at hf
  refine V_iload_n (pc := 0) hC 1 dX4_at_0 rfl rfl ?_
  refine V_if_lt (pc := 1) (tgt := 21) hC dX4_at_1 (by decide) (fun c1 => ?_) (fun c1 => ?_)
  · have hf := ite_t hf c1
    refine V_bipush (pc := 21) hC dX4_at_21 (v := (48 : Int32)) (by decide) ?_
    cases hf
    exact V_ireturn (pc := 23) hR (nar_c (by decide)) dX4_at_23
  · have hf := ite_f hf c1
    refine V_iload_n (pc := 4) hC 1 dX4_at_4 rfl rfl ?_
    refine V_aload_n (pc := 5) hC 0 dX4_at_5 rfl rfl ?_
    refine gf_X4_15 (pc := 6) hC dX4_at_6 ?_
    refine V_icmp_ge (pc := 9) (tgt := 21) hC dX4_at_9 (by decide) (fun c2 => ?_) (fun c2 => ?_)
    · have hf := ite_t hf c2
      refine V_bipush (pc := 21) hC dX4_at_21 (v := (48 : Int32)) (by decide) ?_
      cases hf
      exact V_ireturn (pc := 23) hR (nar_c (by decide)) dX4_at_23
    · have hf := ite_f hf c2
      refine V_aload_n (pc := 12) hC 0 dX4_at_12 rfl rfl ?_
      refine gf_X4_9 (pc := 13) hC dX4_at_13 ?_
      refine V_iload_n (pc := 16) hC 1 dX4_at_16 rfl rfl ?_
      obtain ⟨h3, hf⟩ := if_some hf
      refine V_cald (pc := 17) hC ca_52 (inB_of h3) dX4_at_17 ?_
      refine V_goto (pc := 18) (tgt := 23) hC dX4_at_18 (by decide) ?_
      obtain ⟨h4, hf⟩ := if_some hf
      cases hf
      exact V_ireturn (pc := 23) hR (nar_c h4) dX4_at_23
def f_X3_hold_46 (k : Nat) (s : Nat) (I : Mem) (v2 : Int32) (v3 : Int32) (v4 : Int32) (v5 : Int32) (v6 : Int32) (sh8 : Int32 → Int32 → Int32 → Option (Mem)) : Option (Mem) := (Option.bind (f_X4_at k (v2 + v5) I) (fun r9 => (if r9 = v6 then sh8 v3 v4 (v5 + (1 : Int32)) else sh8 v3 (v4 + (1 : Int32)) (v5 + (1 : Int32)))))
set_option maxHeartbeats 4000000 in
set_option maxRecDepth 100000 in
theorem b_X3_hold_46 {X : XT} {E : EN} {k : Nat} {s : Nat} {I : Mem} {v2 : Int32} {v3 : Int32} {v4 : Int32} {v5 : Int32} {v6 : Int32} {sh8 : Int32 → Int32 → Int32 → Option (Mem)} {r : Mem} (hC : Cx X E cX3_hold 7 RX3 5 108) (hs : s < 6) (hs8 : ∀ (v3 : Int32) (v4 : Int32) (v5 : Int32), sh8 v3 v4 v5 = some r → V X E 7 8 [(0, .ref (E.2.1 (8 * s))), (1, .ref (E.2.1 (51))), (2, .int v2), (3, .int v3), (4, .int v4), (5, .int v5)] [] I) (hR : Rt X E cX3_hold none none r) (hf : f_X3_hold_46 k s I v2 v3 v4 v5 v6 sh8 = some r) : V X E 7 46 [(0, .ref (E.2.1 (8 * s))), (1, .ref (E.2.1 (51))), (2, .int v2), (3, .int v3), (4, .int v4), (5, .int v5), (6, .int v6)] [] I := by
  unfold f_X3_hold_46 at hf
  refine V_aload_n (pc := 46) hC 1 dX3_hold_46 rfl rfl ?_
  refine V_iload_n (pc := 47) hC 2 dX3_hold_47 rfl rfl ?_
  refine V_iload (pc := 48) hC 5 dX3_hold_48 rfl ?_
  refine V_iadd (pc := 50) hC dX3_hold_50 ?_
  obtain ⟨r9, g9, hf⟩ := bind_some hf
  refine V_callV (pc := 51) (rest := []) (As := [.int (v2 + v5)]) hC lk_X3_73 (by decide) cel_X4 rfl (c_X4_at  g9) rfl rfl (Nat.le_of_ble_eq_true rfl) (by decide) dX3_hold_51 ?_
  change V X E 7 54 [(0, .ref (E.2.1 (8 * s))), (1, .ref (E.2.1 (51))), (2, .int v2), (3, .int v3), (4, .int v4), (5, .int v5), (6, .int v6)] [.int r9] I
  refine V_iload (pc := 54) hC 6 dX3_hold_54 rfl ?_
  refine V_icmp_eq (pc := 56) (tgt := 62) hC dX3_hold_56 (by decide) (fun c10 => ?_) (fun c10 => ?_)
  · have hf := ite_t hf c10
    refine V_iinc (pc := 62) (lv' := [(5, .int (v5 + (1 : Int32))), (0, .ref (E.2.1 (8 * s))), (1, .ref (E.2.1 (51))), (2, .int v2), (3, .int v3), (4, .int v4), (6, .int v6)]) hC (1 : Int32) 5 dX3_hold_62 rfl (by decide) (by decide) rfl ?_
    refine V_goto (pc := 65) (tgt := 8) hC dX3_hold_65 (by decide) ?_
    refine V_sub (pc := 8) (lv' := [(0, .ref (E.2.1 (8 * s))), (1, .ref (E.2.1 (51))), (2, .int v2), (3, .int v3), (4, .int v4), (5, .int (v5 + (1 : Int32)))]) [1, 2, 3, 4, 5, 0] rfl ?_
    exact hs8 v3 v4 (v5 + (1 : Int32)) hf
  · have hf := ite_f hf c10
    refine V_iinc (pc := 59) (lv' := [(4, .int (v4 + (1 : Int32))), (0, .ref (E.2.1 (8 * s))), (1, .ref (E.2.1 (51))), (2, .int v2), (3, .int v3), (5, .int v5), (6, .int v6)]) hC (1 : Int32) 4 dX3_hold_59 rfl (by decide) (by decide) rfl ?_
    refine V_iinc (pc := 62) (lv' := [(5, .int (v5 + (1 : Int32))), (4, .int (v4 + (1 : Int32))), (0, .ref (E.2.1 (8 * s))), (1, .ref (E.2.1 (51))), (2, .int v2), (3, .int v3), (6, .int v6)]) hC (1 : Int32) 5 dX3_hold_62 rfl (by decide) (by decide) rfl ?_
    refine V_goto (pc := 65) (tgt := 8) hC dX3_hold_65 (by decide) ?_
    refine V_sub (pc := 8) (lv' := [(0, .ref (E.2.1 (8 * s))), (1, .ref (E.2.1 (51))), (2, .int v2), (3, .int v3), (4, .int (v4 + (1 : Int32))), (5, .int (v5 + (1 : Int32)))]) [2, 3, 4, 5, 1, 0] rfl ?_
    exact hs8 v3 (v4 + (1 : Int32)) (v5 + (1 : Int32)) hf
def f_X3_hold_8 (k : Nat) (s : Nat) (I : Mem) (v2 : Int32) : Nat → Int32 → Int32 → Int32 → Option (Mem)
  | 0, _, _, _ => none
  | n + 1, v3, v4, v5 => (if (I (8 * s) 0) ≤ v5 then (Option.bind (f_X3_isWinning k s v3 I) (fun r2 => (Option.bind (f_X3_tellSwings k s v3 r2 I) (fun r3 => (Option.bind (f_X3_weightOf k s v3 r3) (fun r4 => (Option.bind (f_X0_add k s r2 r4 v4 r3) (fun r5 => some r5)))))))) else (Option.bind (f_X3_leaderOf k s v5 I) (fun r6 => (Option.bind (f_X4_at k (v2 + r6) I) (fun r7 => (if r7 = (43 : Int32) then f_X3_hold_46 k s I v2 (v3 ||| (f_X5_bit v5)) v4 v5 r7 (f_X3_hold_8 k s I v2 n) else f_X3_hold_46 k s I v2 v3 v4 v5 r7 (f_X3_hold_8 k s I v2 n)))))))
set_option maxHeartbeats 4000000 in
set_option maxRecDepth 100000 in
theorem b_X3_hold_8 {X : XT} {E : EN} {k : Nat} {s : Nat} {I : Mem} {v2 : Int32} {r : Mem} (hC : Cx X E cX3_hold 7 RX3 5 108) (hs : s < 6) (hR : Rt X E cX3_hold none none r) : ∀ (n : Nat) (v3 : Int32) (v4 : Int32) (v5 : Int32), f_X3_hold_8 k s I v2 n v3 v4 v5 = some r → V X E 7 8 [(0, .ref (E.2.1 (8 * s))), (1, .ref (E.2.1 (51))), (2, .int v2), (3, .int v3), (4, .int v4), (5, .int v5)] [] I := by
  intro n
  induction n with
  | zero =>
    intro v3 v4 v5 hf
    rw [f_X3_hold_8] at hf
    cases hf
  | succ n ih =>
    intro v3 v4 v5 hf
    rw [f_X3_hold_8] at hf
    refine V_iload (pc := 8) hC 5 dX3_hold_8 rfl ?_
    refine V_aload_n (pc := 10) hC 0 dX3_hold_10 rfl rfl ?_
    refine gf_X3_32 (pc := 11) hs hC dX3_hold_11 ?_
    refine V_icmp_ge (pc := 14) (tgt := 68) hC dX3_hold_14 (by decide) (fun c1 => ?_) (fun c1 => ?_)
    · have hf := ite_t hf c1
      refine V_aload_n (pc := 68) hC 0 dX3_hold_68 rfl rfl ?_
      refine V_iload_n (pc := 69) hC 3 dX3_hold_69 rfl rfl ?_
      obtain ⟨r2, g2, hf⟩ := bind_some hf
      refine V_callV (pc := 70) (rest := []) (As := [.int v3]) hC lk_X3_79 (by omega) (cel_State hs) rfl (c_X3_isWinning hs g2) rfl rfl (Nat.le_of_ble_eq_true rfl) (by decide) dX3_hold_70 ?_
      change V X E 7 73 [(0, .ref (E.2.1 (8 * s))), (1, .ref (E.2.1 (51))), (2, .int v2), (3, .int v3), (4, .int v4), (5, .int v5)] [.int r2] I
      refine V_istore (pc := 73) (lv' := [(5, .int r2), (0, .ref (E.2.1 (8 * s))), (1, .ref (E.2.1 (51))), (2, .int v2), (3, .int v3), (4, .int v4)]) hC dX3_hold_73 (by decide) rfl ?_
      refine V_aload_n (pc := 75) hC 1 dX3_hold_75 rfl rfl ?_
      refine V_iload_n (pc := 76) hC 4 dX3_hold_76 rfl rfl ?_
      refine V_iload (pc := 77) hC 0 dX3_hold_77 rfl ?_
      obtain ⟨r3, g3, hf⟩ := bind_some hf
      refine V_callV (pc := 79) (rest := []) (As := [.int v3, .int r2]) hC lk_X3_82 (by omega) (cel_State hs) rfl (c_X3_tellSwings hs g3) rfl rfl (Nat.le_of_ble_eq_true rfl) (by decide) dX3_hold_79 ?_
      change V X E 7 82 [(5, .int r2), (0, .ref (E.2.1 (8 * s))), (1, .ref (E.2.1 (51))), (2, .int v2), (3, .int v3), (4, .int v4)] [] r3
      refine V_aload_n (pc := 82) hC 1 dX3_hold_82 rfl rfl ?_
      refine gf_X3_28 (pc := 83) hs hC dX3_hold_83 ?_
      refine V_iload (pc := 86) hC 0 dX3_hold_86 rfl ?_
      refine V_aload_n (pc := 88) hC 1 dX3_hold_88 rfl rfl ?_
      refine V_iload_n (pc := 89) hC 4 dX3_hold_89 rfl rfl ?_
      obtain ⟨r4, g4, hf⟩ := bind_some hf
      refine V_callV (pc := 90) (rest := [.int r2, .ref (E.2.1 (8 * s + 4))]) (As := [.int v3]) hC lk_X3_67 (by omega) (cel_State hs) rfl (c_X3_weightOf hs g4) rfl rfl (Nat.le_of_ble_eq_true rfl) (by decide) dX3_hold_90 ?_
      change V X E 7 93 [(5, .int r2), (0, .ref (E.2.1 (8 * s))), (1, .ref (E.2.1 (51))), (2, .int v2), (3, .int v3), (4, .int v4)] [.int r4, .int r2, .ref (E.2.1 (8 * s + 4))] r3
      refine V_iload (pc := 93) hC 5 dX3_hold_93 rfl ?_
      obtain ⟨r5, g5, hf⟩ := bind_some hf
      refine V_callV (pc := 95) (rest := []) (As := [.int r2, .int r4, .int v4]) hC lk_X3_86 (by omega) (cel_Ballots hs) rfl (c_X0_add hs g5) rfl rfl (Nat.le_of_ble_eq_true rfl) (by decide) dX3_hold_95 ?_
      change V X E 7 98 [(5, .int r2), (0, .ref (E.2.1 (8 * s))), (1, .ref (E.2.1 (51))), (2, .int v2), (3, .int v3), (4, .int v4)] [] r5
      cases hf
      exact V_return (pc := 98) hR trivial dX3_hold_98
    · have hf := ite_f hf c1
      refine V_aload_n (pc := 17) hC 1 dX3_hold_17 rfl rfl ?_
      refine V_iload_n (pc := 18) hC 2 dX3_hold_18 rfl rfl ?_
      refine V_aload_n (pc := 19) hC 0 dX3_hold_19 rfl rfl ?_
      refine V_iload (pc := 20) hC 5 dX3_hold_20 rfl ?_
      obtain ⟨r6, g6, hf⟩ := bind_some hf
      refine V_callV (pc := 22) (rest := [.int v2, .ref (E.2.1 (51))]) (As := [.int v5]) hC lk_X3_70 (by omega) (cel_State hs) rfl (c_X3_leaderOf hs g6) rfl rfl (Nat.le_of_ble_eq_true rfl) (by decide) dX3_hold_22 ?_
      change V X E 7 25 [(0, .ref (E.2.1 (8 * s))), (1, .ref (E.2.1 (51))), (2, .int v2), (3, .int v3), (4, .int v4), (5, .int v5)] [.int r6, .int v2, .ref (E.2.1 (51))] I
      refine V_iadd (pc := 25) hC dX3_hold_25 ?_
      obtain ⟨r7, g7, hf⟩ := bind_some hf
      refine V_callV (pc := 26) (rest := []) (As := [.int (v2 + r6)]) hC lk_X3_73 (by decide) cel_X4 rfl (c_X4_at  g7) rfl rfl (Nat.le_of_ble_eq_true rfl) (by decide) dX3_hold_26 ?_
      change V X E 7 29 [(0, .ref (E.2.1 (8 * s))), (1, .ref (E.2.1 (51))), (2, .int v2), (3, .int v3), (4, .int v4), (5, .int v5)] [.int r7] I
      refine V_istore (pc := 29) (lv' := [(6, .int r7), (0, .ref (E.2.1 (8 * s))), (1, .ref (E.2.1 (51))), (2, .int v2), (3, .int v3), (4, .int v4), (5, .int v5)]) hC dX3_hold_29 (by decide) rfl ?_
      refine V_iload (pc := 31) hC 0 dX3_hold_31 rfl ?_
      refine V_bipush (pc := 33) hC dX3_hold_33 (v := (43 : Int32)) (by decide) ?_
      refine V_icmp_ne (pc := 35) (tgt := 46) hC dX3_hold_35 (by decide) (fun c8 => ?_) (fun c8 => ?_)
      · have hf := ite_f hf c8
        refine V_sub (pc := 46) (lv' := [(0, .ref (E.2.1 (8 * s))), (1, .ref (E.2.1 (51))), (2, .int v2), (3, .int v3), (4, .int v4), (5, .int v5), (6, .int r7)]) [1, 2, 3, 4, 5, 6, 0] rfl ?_
        exact b_X3_hold_46 hC hs ih hR hf
      · have hf := ite_t hf c8
        refine V_iload_n (pc := 38) hC 4 dX3_hold_38 rfl rfl ?_
        refine V_iload (pc := 39) hC 6 dX3_hold_39 rfl ?_
        refine V_callN (pc := 41) (rest := [.int v3]) (As := [.int v5]) hC lk_X3_48 (c_X5_bit  rfl) rfl rfl (Nat.le_of_ble_eq_true rfl) (by decide) dX3_hold_41 ?_
        change V X E 7 44 [(6, .int r7), (0, .ref (E.2.1 (8 * s))), (1, .ref (E.2.1 (51))), (2, .int v2), (3, .int v3), (4, .int v4), (5, .int v5)] [.int (f_X5_bit v5), .int v3] I
        refine V_ior (pc := 44) hC dX3_hold_44 ?_
        refine V_istore_n (pc := 45) (lv' := [(3, .int (v3 ||| (f_X5_bit v5))), (6, .int r7), (0, .ref (E.2.1 (8 * s))), (1, .ref (E.2.1 (51))), (2, .int v2), (4, .int v4), (5, .int v5)]) hC dX3_hold_45 rfl (by decide) rfl ?_
        refine V_sub (pc := 46) (lv' := [(0, .ref (E.2.1 (8 * s))), (1, .ref (E.2.1 (51))), (2, .int v2), (3, .int (v3 ||| (f_X5_bit v5))), (4, .int v4), (5, .int v5), (6, .int r7)]) [2, 3, 4, 0, 5, 6, 1] rfl ?_
        exact b_X3_hold_46 hC hs ih hR hf
def f_X3_hold (k : Nat) (s : Nat) (v2 : Int32) (I : Mem) : Option (Mem) := f_X3_hold_8 k s I v2 k (0 : Int32) (0 : Int32) (0 : Int32)
set_option maxHeartbeats 4000000 in
set_option maxRecDepth 100000 in
theorem c_X3_hold {E : EN} {k : Nat} {s : Nat} {v2 : Int32} {I : Mem} {r : Mem} (hs : s < 6) (hf : f_X3_hold k s v2 I = some r) : Ct E yX3_hold cX3_hold 7 none 5 108 [.ref (E.2.1 (8 * s)), .ref (E.2.1 (51)), .int v2] I none r := by
  refine Ct_of (by decide) (Nat.le_of_ble_eq_true rfl) (fun X hC0 hR => ?_)
  have hC : Cx X E cX3_hold 7 RX3 5 108 := hC0
  change V X E 7 0 [(0, .ref (E.2.1 (8 * s))), (1, .ref (E.2.1 (51))), (2, .int v2)] [] I
  unfold f_X3_hold at hf
  refine V_iconst (pc := 0) hC dX3_hold_0 (v := (0 : Int32)) (by decide) ?_
  refine V_istore_n (pc := 1) (lv' := [(3, .int (0 : Int32)), (0, .ref (E.2.1 (8 * s))), (1, .ref (E.2.1 (51))), (2, .int v2)]) hC dX3_hold_1 rfl (by decide) rfl ?_
  refine V_iconst (pc := 2) hC dX3_hold_2 (v := (0 : Int32)) (by decide) ?_
  refine V_istore (pc := 3) (lv' := [(4, .int (0 : Int32)), (3, .int (0 : Int32)), (0, .ref (E.2.1 (8 * s))), (1, .ref (E.2.1 (51))), (2, .int v2)]) hC dX3_hold_3 (by decide) rfl ?_
  refine V_iconst (pc := 5) hC dX3_hold_5 (v := (0 : Int32)) (by decide) ?_
  refine V_istore (pc := 6) (lv' := [(5, .int (0 : Int32)), (4, .int (0 : Int32)), (3, .int (0 : Int32)), (0, .ref (E.2.1 (8 * s))), (1, .ref (E.2.1 (51))), (2, .int v2)]) hC dX3_hold_6 (by decide) rfl ?_
  refine V_sub (pc := 8) (lv' := [(0, .ref (E.2.1 (8 * s))), (1, .ref (E.2.1 (51))), (2, .int v2), (3, .int (0 : Int32)), (4, .int (0 : Int32)), (5, .int (0 : Int32))]) [3, 4, 5, 2, 1, 0] rfl ?_
  exact b_X3_hold_8 hC hs hR k (0 : Int32) (0 : Int32) (0 : Int32) hf
def f_X4_append (k : Nat) (v1 : Int32) (I : Mem) : Option (Mem) := (if (60 : Int32) ≤ (I (51) 1) then some I else (if inB (I (51) 1) 60 = true then some (up2 (up2 I (52) (Int32.toNatClampNeg (I (51) 1)) (vp_nar .char v1)) (51) 1 (((up2 I (52) (Int32.toNatClampNeg (I (51) 1)) (vp_nar .char v1)) (51) 1) + (1 : Int32))) else none))
set_option maxHeartbeats 4000000 in
set_option maxRecDepth 100000 in
theorem c_X4_append {E : EN} {k : Nat} {v1 : Int32} {I : Mem} {r : Mem} (hf : f_X4_append k v1 I = some r) : Ct E yX4_append cX4_append 2 none 0 0 [.ref (E.2.1 (51)), .int v1] I none r := by
  refine Ct_of (by decide) (Nat.le_of_ble_eq_true rfl) (fun X hC0 hR => ?_)
  have hC : Cx X E cX4_append 2 RX4 0 0 := hC0
  change V X E 2 0 [(0, .ref (E.2.1 (51))), (1, .int v1)] [] I
  unfold f_X4_append at hf
  refine V_aload_n (pc := 0) hC 0 dX4_append_0 rfl rfl ?_
  refine gf_X4_15 (pc := 1) hC dX4_append_1 ?_
  refine V_bipush (pc := 4) hC dX4_append_4 (v := (60 : Int32)) (by decide) ?_
  refine V_icmp_ge (pc := 6) (tgt := 29) hC dX4_append_6 (by decide) (fun c1 => ?_) (fun c1 => ?_)
  · have hf := ite_t hf c1
    cases hf
    exact V_return (pc := 29) hR trivial dX4_append_29
  · have hf := ite_f hf c1
    refine V_aload_n (pc := 9) hC 0 dX4_append_9 rfl rfl ?_
    refine gf_X4_9 (pc := 10) hC dX4_append_10 ?_
    refine V_aload_n (pc := 13) hC 0 dX4_append_13 rfl rfl ?_
    refine gf_X4_15 (pc := 14) hC dX4_append_14 ?_
    refine V_iload_n (pc := 17) hC 1 dX4_append_17 rfl rfl ?_
    obtain ⟨h2, hf⟩ := if_some hf
    refine V_cast (pc := 18) hC ca_52 (inB_of h2) dX4_append_18 ?_
    refine V_aload_n (pc := 19) hC 0 dX4_append_19 rfl rfl ?_
    refine V_dup (pc := 20) hC dX4_append_20 rfl ?_
    refine gf_X4_15 (pc := 21) hC dX4_append_21 ?_
    refine V_iconst (pc := 24) hC dX4_append_24 (v := (1 : Int32)) (by decide) ?_
    refine V_iadd (pc := 25) hC dX4_append_25 ?_
    refine pf_X4_15 (pc := 26) hC dX4_append_26 ?_
    cases hf
    exact V_return (pc := 29) hR trivial dX4_append_29
def f_X4_isSign (v0 : Int32) : Int32 := (if v0 = (43 : Int32) then (1 : Int32) else (if v0 = (45 : Int32) then (1 : Int32) else (if v0 = (48 : Int32) then (1 : Int32) else (0 : Int32))))
set_option maxHeartbeats 4000000 in
set_option maxRecDepth 100000 in
theorem c_X4_isSign {E : EN} {v0 : Int32} {I : Mem} {r : Int32} (hf : f_X4_isSign v0 = r) : Ct E yX4_isSign cX4_isSign 1 (some .boolean) 0 0 [.int v0] I (some (.int r)) I := by
  refine Ct_of (by decide) (Nat.le_of_ble_eq_true rfl) (fun X hC0 hR => ?_)
  have hC : Cx X E cX4_isSign 1 RX4 0 0 := hC0
  change V X E 1 0 [(0, .int v0)] [] I
  unfold f_X4_isSign at hf
  refine V_iload_n (pc := 0) hC 0 dX4_isSign_0 rfl rfl ?_
  refine V_bipush (pc := 1) hC dX4_isSign_1 (v := (43 : Int32)) (by decide) ?_
  refine V_icmp_eq (pc := 3) (tgt := 18) hC dX4_isSign_3 (by decide) (fun c1 => ?_) (fun c1 => ?_)
  · have hf := ite_t hf c1
    refine V_iconst (pc := 18) hC dX4_isSign_18 (v := (1 : Int32)) (by decide) ?_
    refine V_goto (pc := 19) (tgt := 23) hC dX4_isSign_19 (by decide) ?_
    subst hf
    exact V_ireturn (pc := 23) hR (nar_z (by decide)) dX4_isSign_23
  · have hf := ite_f hf c1
    refine V_iload_n (pc := 6) hC 0 dX4_isSign_6 rfl rfl ?_
    refine V_bipush (pc := 7) hC dX4_isSign_7 (v := (45 : Int32)) (by decide) ?_
    refine V_icmp_eq (pc := 9) (tgt := 18) hC dX4_isSign_9 (by decide) (fun c2 => ?_) (fun c2 => ?_)
    · have hf := ite_t hf c2
      refine V_iconst (pc := 18) hC dX4_isSign_18 (v := (1 : Int32)) (by decide) ?_
      refine V_goto (pc := 19) (tgt := 23) hC dX4_isSign_19 (by decide) ?_
      subst hf
      exact V_ireturn (pc := 23) hR (nar_z (by decide)) dX4_isSign_23
    · have hf := ite_f hf c2
      refine V_iload_n (pc := 12) hC 0 dX4_isSign_12 rfl rfl ?_
      refine V_bipush (pc := 13) hC dX4_isSign_13 (v := (48 : Int32)) (by decide) ?_
      refine V_icmp_ne (pc := 15) (tgt := 22) hC dX4_isSign_15 (by decide) (fun c3 => ?_) (fun c3 => ?_)
      · have hf := ite_f hf c3
        refine V_iconst (pc := 22) hC dX4_isSign_22 (v := (0 : Int32)) (by decide) ?_
        subst hf
        exact V_ireturn (pc := 23) hR (nar_z (by decide)) dX4_isSign_23
      · have hf := ite_t hf c3
        refine V_iconst (pc := 18) hC dX4_isSign_18 (v := (1 : Int32)) (by decide) ?_
        refine V_goto (pc := 19) (tgt := 23) hC dX4_isSign_19 (by decide) ?_
        subst hf
        exact V_ireturn (pc := 23) hR (nar_z (by decide)) dX4_isSign_23
def f_X4_fault_63 (k : Nat) (I : Mem) (v1 : Int32) (v2 : Int32) (v3 : Int32) (v4 : Int32) (sh10 : Int32 → Int32 → Option (Int32)) : Option (Int32) := (if v4 = 0 then sh10 (v2 + (1 : Int32)) (v3 + (1 : Int32)) else sh10 (0 : Int32) (v3 + (1 : Int32)))
set_option maxHeartbeats 4000000 in
set_option maxRecDepth 100000 in
theorem b_X4_fault_63 {X : XT} {E : EN} {k : Nat} {I : Mem} {v1 : Int32} {v2 : Int32} {v3 : Int32} {v4 : Int32} {sh10 : Int32 → Int32 → Option (Int32)} {r : Int32} (hC : Cx X E cX4_fault 5 RX4 1 20) (hs10 : ∀ (v2 : Int32) (v3 : Int32), sh10 v2 v3 = some r → V X E 5 10 [(0, .ref (E.2.1 (51))), (1, .int v1), (2, .int v2), (3, .int v3)] [] I) (hR : Rt X E cX4_fault (some .int) (some (.int r)) I) (hf : f_X4_fault_63 k I v1 v2 v3 v4 sh10 = some r) : V X E 5 63 [(0, .ref (E.2.1 (51))), (1, .int v1), (2, .int v2), (3, .int v3), (4, .int v4)] [] I := by
  unfold f_X4_fault_63 at hf
  refine V_iload (pc := 63) hC 4 dX4_fault_63 rfl ?_
  refine V_if_eq (pc := 65) (tgt := 72) hC dX4_fault_65 (by decide) (fun c10 => ?_) (fun c10 => ?_)
  · have hf := ite_t hf c10
    refine V_iload_n (pc := 72) hC 2 dX4_fault_72 rfl rfl ?_
    refine V_iconst (pc := 73) hC dX4_fault_73 (v := (1 : Int32)) (by decide) ?_
    refine V_iadd (pc := 74) hC dX4_fault_74 ?_
    refine V_istore_n (pc := 75) (lv' := [(2, .int (v2 + (1 : Int32))), (0, .ref (E.2.1 (51))), (1, .int v1), (3, .int v3), (4, .int v4)]) hC dX4_fault_75 rfl (by decide) rfl ?_
    refine V_iinc (pc := 76) (lv' := [(3, .int (v3 + (1 : Int32))), (2, .int (v2 + (1 : Int32))), (0, .ref (E.2.1 (51))), (1, .int v1), (4, .int v4)]) hC (1 : Int32) 3 dX4_fault_76 rfl (by decide) (by decide) rfl ?_
    refine V_goto (pc := 79) (tgt := 10) hC dX4_fault_79 (by decide) ?_
    refine V_sub (pc := 10) (lv' := [(0, .ref (E.2.1 (51))), (1, .int v1), (2, .int (v2 + (1 : Int32))), (3, .int (v3 + (1 : Int32)))]) [2, 3, 1, 0] rfl ?_
    exact hs10 (v2 + (1 : Int32)) (v3 + (1 : Int32)) hf
  · have hf := ite_f hf c10
    refine V_iconst (pc := 68) hC dX4_fault_68 (v := (0 : Int32)) (by decide) ?_
    refine V_goto (pc := 69) (tgt := 75) hC dX4_fault_69 (by decide) ?_
    refine V_istore_n (pc := 75) (lv' := [(2, .int (0 : Int32)), (0, .ref (E.2.1 (51))), (1, .int v1), (3, .int v3), (4, .int v4)]) hC dX4_fault_75 rfl (by decide) rfl ?_
    refine V_iinc (pc := 76) (lv' := [(3, .int (v3 + (1 : Int32))), (2, .int (0 : Int32)), (0, .ref (E.2.1 (51))), (1, .int v1), (4, .int v4)]) hC (1 : Int32) 3 dX4_fault_76 rfl (by decide) (by decide) rfl ?_
    refine V_goto (pc := 79) (tgt := 10) hC dX4_fault_79 (by decide) ?_
    refine V_sub (pc := 10) (lv' := [(0, .ref (E.2.1 (51))), (1, .int v1), (2, .int (0 : Int32)), (3, .int (v3 + (1 : Int32)))]) [2, 3, 1, 0] rfl ?_
    exact hs10 (0 : Int32) (v3 + (1 : Int32)) hf
def f_X4_fault_28 (k : Nat) (I : Mem) (v1 : Int32) (v2 : Int32) (v3 : Int32) (sh10 : Int32 → Int32 → Option (Int32)) (w0 : Int32) : Option (Int32) := (if w0 = 0 then (if inB v3 60 = true then (if (f_X4_isSign (I (52) (Int32.toNatClampNeg v3))) = 0 then some v3 else f_X4_fault_63 k I v1 v2 v3 w0 sh10) else none) else (if inB v3 60 = true then (if (I (52) (Int32.toNatClampNeg v3)) = (44 : Int32) then f_X4_fault_63 k I v1 v2 v3 w0 sh10 else some v3) else none))
set_option maxHeartbeats 4000000 in
set_option maxRecDepth 100000 in
theorem b_X4_fault_28 {X : XT} {E : EN} {k : Nat} {I : Mem} {v1 : Int32} {v2 : Int32} {v3 : Int32} {sh10 : Int32 → Int32 → Option (Int32)} {w0 : Int32} {r : Int32} (hC : Cx X E cX4_fault 5 RX4 1 20) (hs10 : ∀ (v2 : Int32) (v3 : Int32), sh10 v2 v3 = some r → V X E 5 10 [(0, .ref (E.2.1 (51))), (1, .int v1), (2, .int v2), (3, .int v3)] [] I) (hR : Rt X E cX4_fault (some .int) (some (.int r)) I) (hf : f_X4_fault_28 k I v1 v2 v3 sh10 w0 = some r) : V X E 5 28 [(0, .ref (E.2.1 (51))), (1, .int v1), (2, .int v2), (3, .int v3)] [.int w0] I := by
  unfold f_X4_fault_28 at hf
  refine V_istore (pc := 28) (lv' := [(4, .int w0), (0, .ref (E.2.1 (51))), (1, .int v1), (2, .int v2), (3, .int v3)]) hC dX4_fault_28 (by decide) rfl ?_
  refine V_iload (pc := 30) hC 0 dX4_fault_30 rfl ?_
  refine V_if_eq (pc := 32) (tgt := 49) hC dX4_fault_32 (by decide) (fun c5 => ?_) (fun c5 => ?_)
  · have hf := ite_t hf c5
    refine V_aload_n (pc := 49) hC 1 dX4_fault_49 rfl rfl ?_
    refine gf_X4_9 (pc := 50) hC dX4_fault_50 ?_
    refine V_iload_n (pc := 53) hC 4 dX4_fault_53 rfl rfl ?_
    obtain ⟨h6, hf⟩ := if_some hf
    refine V_cald (pc := 54) hC ca_52 (inB_of h6) dX4_fault_54 ?_
    refine V_callS (pc := 55) (rest := []) (As := [.int (I (52) (Int32.toNatClampNeg v3))]) hC lk_X4_19 (c_X4_isSign  rfl) rfl rfl (Nat.le_of_ble_eq_true rfl) (by decide) dX4_fault_55 ?_
    change V X E 5 58 [(4, .int w0), (0, .ref (E.2.1 (51))), (1, .int v1), (2, .int v2), (3, .int v3)] [.int (f_X4_isSign (I (52) (Int32.toNatClampNeg v3)))] I
    refine V_if_ne (pc := 58) (tgt := 63) hC dX4_fault_58 (by decide) (fun c7 => ?_) (fun c7 => ?_)
    · have hf := ite_f hf c7
      refine V_sub (pc := 63) (lv' := [(0, .ref (E.2.1 (51))), (1, .int v1), (2, .int v2), (3, .int v3), (4, .int w0)]) [1, 2, 3, 4, 0] rfl ?_
      exact b_X4_fault_63 hC hs10 hR hf
    · have hf := ite_t hf c7
      refine V_iload_n (pc := 61) hC 4 dX4_fault_61 rfl rfl ?_
      cases hf
      exact V_ireturn (pc := 62) hR rfl dX4_fault_62
  · have hf := ite_f hf c5
    refine V_aload_n (pc := 35) hC 1 dX4_fault_35 rfl rfl ?_
    refine gf_X4_9 (pc := 36) hC dX4_fault_36 ?_
    refine V_iload_n (pc := 39) hC 4 dX4_fault_39 rfl rfl ?_
    obtain ⟨h8, hf⟩ := if_some hf
    refine V_cald (pc := 40) hC ca_52 (inB_of h8) dX4_fault_40 ?_
    refine V_bipush (pc := 41) hC dX4_fault_41 (v := (44 : Int32)) (by decide) ?_
    refine V_icmp_eq (pc := 43) (tgt := 63) hC dX4_fault_43 (by decide) (fun c9 => ?_) (fun c9 => ?_)
    · have hf := ite_t hf c9
      refine V_sub (pc := 63) (lv' := [(0, .ref (E.2.1 (51))), (1, .int v1), (2, .int v2), (3, .int v3), (4, .int w0)]) [1, 2, 3, 4, 0] rfl ?_
      exact b_X4_fault_63 hC hs10 hR hf
    · have hf := ite_f hf c9
      refine V_goto (pc := 46) (tgt := 61) hC dX4_fault_46 (by decide) ?_
      refine V_iload_n (pc := 61) hC 4 dX4_fault_61 rfl rfl ?_
      cases hf
      exact V_ireturn (pc := 62) hR rfl dX4_fault_62
def f_X4_fault_10 (k : Nat) (I : Mem) (v1 : Int32) : Nat → Int32 → Int32 → Option (Int32)
  | 0, _, _ => none
  | n + 1, v2, v3 => (if (I (51) 1) ≤ v3 then (if v2 = v1 then some (-1 : Int32) else some (I (51) 1)) else (if v2 = v1 then f_X4_fault_28 k I v1 v2 v3 (f_X4_fault_10 k I v1 n) (1 : Int32) else f_X4_fault_28 k I v1 v2 v3 (f_X4_fault_10 k I v1 n) (0 : Int32)))
set_option maxHeartbeats 4000000 in
set_option maxRecDepth 100000 in
theorem b_X4_fault_10 {X : XT} {E : EN} {k : Nat} {I : Mem} {v1 : Int32} {r : Int32} (hC : Cx X E cX4_fault 5 RX4 1 20) (hR : Rt X E cX4_fault (some .int) (some (.int r)) I) : ∀ (n : Nat) (v2 : Int32) (v3 : Int32), f_X4_fault_10 k I v1 n v2 v3 = some r → V X E 5 10 [(0, .ref (E.2.1 (51))), (1, .int v1), (2, .int v2), (3, .int v3)] [] I := by
  intro n
  induction n with
  | zero =>
    intro v2 v3 hf
    rw [f_X4_fault_10] at hf
    cases hf
  | succ n ih =>
    intro v2 v3 hf
    rw [f_X4_fault_10] at hf
    refine V_iload_n (pc := 10) hC 3 dX4_fault_10 rfl rfl ?_
    refine V_aload_n (pc := 11) hC 0 dX4_fault_11 rfl rfl ?_
    refine gf_X4_15 (pc := 12) hC dX4_fault_12 ?_
    refine V_icmp_ge (pc := 15) (tgt := 82) hC dX4_fault_15 (by decide) (fun c2 => ?_) (fun c2 => ?_)
    · have hf := ite_t hf c2
      refine V_iload_n (pc := 82) hC 2 dX4_fault_82 rfl rfl ?_
      refine V_iload_n (pc := 83) hC 1 dX4_fault_83 rfl rfl ?_
      refine V_icmp_ne (pc := 84) (tgt := 91) hC dX4_fault_84 (by decide) (fun c3 => ?_) (fun c3 => ?_)
      · have hf := ite_f hf c3
        refine V_aload_n (pc := 91) hC 0 dX4_fault_91 rfl rfl ?_
        refine gf_X4_15 (pc := 92) hC dX4_fault_92 ?_
        cases hf
        exact V_ireturn (pc := 95) hR rfl dX4_fault_95
      · have hf := ite_t hf c3
        refine V_iconst (pc := 87) hC dX4_fault_87 (v := (-1 : Int32)) (by decide) ?_
        refine V_goto (pc := 88) (tgt := 95) hC dX4_fault_88 (by decide) ?_
        cases hf
        exact V_ireturn (pc := 95) hR rfl dX4_fault_95
    · have hf := ite_f hf c2
      refine V_iload_n (pc := 18) hC 2 dX4_fault_18 rfl rfl ?_
      refine V_iload_n (pc := 19) hC 1 dX4_fault_19 rfl rfl ?_
      refine V_icmp_ne (pc := 20) (tgt := 27) hC dX4_fault_20 (by decide) (fun c4 => ?_) (fun c4 => ?_)
      · have hf := ite_f hf c4
        refine V_iconst (pc := 27) hC dX4_fault_27 (v := (0 : Int32)) (by decide) ?_
        exact b_X4_fault_28 hC ih hR hf
      · have hf := ite_t hf c4
        refine V_iconst (pc := 23) hC dX4_fault_23 (v := (1 : Int32)) (by decide) ?_
        refine V_goto (pc := 24) (tgt := 28) hC dX4_fault_24 (by decide) ?_
        exact b_X4_fault_28 hC ih hR hf
def f_X4_fault (k : Nat) (v1 : Int32) (I : Mem) : Option (Int32) := (if v1 = 0 then some (0 : Int32) else f_X4_fault_10 k I v1 k (0 : Int32) (0 : Int32))
set_option maxHeartbeats 4000000 in
set_option maxRecDepth 100000 in
theorem c_X4_fault {E : EN} {k : Nat} {v1 : Int32} {I : Mem} {r : Int32} (hf : f_X4_fault k v1 I = some r) : Ct E yX4_fault cX4_fault 5 (some .int) 1 20 [.ref (E.2.1 (51)), .int v1] I (some (.int r)) I := by
  refine Ct_of (by decide) (Nat.le_of_ble_eq_true rfl) (fun X hC0 hR => ?_)
  have hC : Cx X E cX4_fault 5 RX4 1 20 := hC0
  change V X E 5 0 [(0, .ref (E.2.1 (51))), (1, .int v1)] [] I
  unfold f_X4_fault at hf
  refine V_iload_n (pc := 0) hC 1 dX4_fault_0 rfl rfl ?_
  refine V_if_ne (pc := 1) (tgt := 6) hC dX4_fault_1 (by decide) (fun c1 => ?_) (fun c1 => ?_)
  · have hf := ite_f hf c1
    refine V_iconst (pc := 6) hC dX4_fault_6 (v := (0 : Int32)) (by decide) ?_
    refine V_istore_n (pc := 7) (lv' := [(2, .int (0 : Int32)), (0, .ref (E.2.1 (51))), (1, .int v1)]) hC dX4_fault_7 rfl (by decide) rfl ?_
    refine V_iconst (pc := 8) hC dX4_fault_8 (v := (0 : Int32)) (by decide) ?_
    refine V_istore_n (pc := 9) (lv' := [(3, .int (0 : Int32)), (2, .int (0 : Int32)), (0, .ref (E.2.1 (51))), (1, .int v1)]) hC dX4_fault_9 rfl (by decide) rfl ?_
    refine V_sub (pc := 10) (lv' := [(0, .ref (E.2.1 (51))), (1, .int v1), (2, .int (0 : Int32)), (3, .int (0 : Int32))]) [2, 3, 1, 0] rfl ?_
    exact b_X4_fault_10 hC hR k (0 : Int32) (0 : Int32) hf
  · have hf := ite_t hf c1
    refine V_iconst (pc := 4) hC dX4_fault_4 (v := (0 : Int32)) (by decide) ?_
    cases hf
    exact V_ireturn (pc := 5) hR rfl dX4_fault_5
end
section
theorem zz_probe : True := trivial
end
