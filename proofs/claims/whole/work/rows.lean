section
-- ===== PART A: goes FIRST, ahead of the names: the tables' words, and 'selects' of the private methods out of them =====
/-- a private method of a class that the tables say can be made, by its rows of tables_1 -/
def lw_okq (q : MethodName × Nat) : Prop := (q.1.cls ≠ "java/lang/invoke/MethodHandle" ∧ q.1.cls ≠ "java/lang/invoke/VarHandle") ∧ Cond.instantiable q.1.cls q.2 ∈ tables_1 ∧ Cond.privateMethod q.1 ∈ tables_1 ∧ Cond.instanceMethod q.1 ∈ tables_1
theorem lw_p0 : lw_okq (⟨"GossipWatch$Sha", "stretch", "()V"⟩, 4) := ⟨⟨by decide +kernel, by decide +kernel⟩, List.mem_of_getElem? (i := 21) (by decide +kernel), List.mem_of_getElem? (i := 112) (by decide +kernel), List.mem_of_getElem? (i := 113) (by decide +kernel)⟩
theorem lw_p1 : lw_okq (⟨"GossipWatch$Sha", "mix", "()V"⟩, 4) := ⟨⟨by decide +kernel, by decide +kernel⟩, List.mem_of_getElem? (i := 21) (by decide +kernel), List.mem_of_getElem? (i := 116) (by decide +kernel), List.mem_of_getElem? (i := 117) (by decide +kernel)⟩
theorem lw_p2 : lw_okq (⟨"GossipWatch", "viewOf", "(II)LGossipWatch$View;"⟩, 9) := ⟨⟨by decide +kernel, by decide +kernel⟩, List.mem_of_getElem? (i := 13) (by decide +kernel), List.mem_of_getElem? (i := 257) (by decide +kernel), List.mem_of_getElem? (i := 258) (by decide +kernel)⟩
theorem lw_p3 : lw_okq (⟨"GossipWatch", "nextLetter", "(II)LGossipWatch$Row;"⟩, 9) := ⟨⟨by decide +kernel, by decide +kernel⟩, List.mem_of_getElem? (i := 13) (by decide +kernel), List.mem_of_getElem? (i := 288) (by decide +kernel), List.mem_of_getElem? (i := 289) (by decide +kernel)⟩
theorem lw_p4 : lw_okq (⟨"GossipWatch", "letterOf", "(I)LGossipWatch$Letter;"⟩, 9) := ⟨⟨by decide +kernel, by decide +kernel⟩, List.mem_of_getElem? (i := 13) (by decide +kernel), List.mem_of_getElem? (i := 345) (by decide +kernel), List.mem_of_getElem? (i := 346) (by decide +kernel)⟩
theorem lw_p5 : lw_okq (⟨"GossipWatch", "monitorOf", "(I)LGossipWatch$Monitor;"⟩, 9) := ⟨⟨by decide +kernel, by decide +kernel⟩, List.mem_of_getElem? (i := 13) (by decide +kernel), List.mem_of_getElem? (i := 390) (by decide +kernel), List.mem_of_getElem? (i := 391) (by decide +kernel)⟩
theorem lw_p6 : lw_okq (⟨"GossipWatch$Monitor", "holdsLike", "(LGossipWatch$Row;)Z"⟩, 9) := ⟨⟨by decide +kernel, by decide +kernel⟩, List.mem_of_getElem? (i := 183) (by decide +kernel), List.mem_of_getElem? (i := 409) (by decide +kernel), List.mem_of_getElem? (i := 410) (by decide +kernel)⟩
theorem lw_p7 : lw_okq (⟨"GossipWatch$Monitor", "raiseForks", "(LGossipWatch$Row;)Z"⟩, 9) := ⟨⟨by decide +kernel, by decide +kernel⟩, List.mem_of_getElem? (i := 183) (by decide +kernel), List.mem_of_getElem? (i := 414) (by decide +kernel), List.mem_of_getElem? (i := 415) (by decide +kernel)⟩
theorem lw_p8 : lw_okq (⟨"GossipWatch$Monitor", "raise", "(IIII)Z"⟩, 9) := ⟨⟨by decide +kernel, by decide +kernel⟩, List.mem_of_getElem? (i := 183) (by decide +kernel), List.mem_of_getElem? (i := 418) (by decide +kernel), List.mem_of_getElem? (i := 419) (by decide +kernel)⟩
theorem lw_p9 : lw_okq (⟨"GossipWatch$Monitor", "raiseBreachesOfHead", "(LGossipWatch$Row;)Z"⟩, 9) := ⟨⟨by decide +kernel, by decide +kernel⟩, List.mem_of_getElem? (i := 183) (by decide +kernel), List.mem_of_getElem? (i := 422) (by decide +kernel), List.mem_of_getElem? (i := 423) (by decide +kernel)⟩
theorem lw_p10 : lw_okq (⟨"GossipWatch$Climb", "rises", "(LGossipWatch$Sha;IILGossipWatch$Row;I)Z"⟩, 2) := ⟨⟨by decide +kernel, by decide +kernel⟩, List.mem_of_getElem? (i := 128) (by decide +kernel), List.mem_of_getElem? (i := 443) (by decide +kernel), List.mem_of_getElem? (i := 444) (by decide +kernel)⟩
theorem lw_p11 : lw_okq (⟨"GossipWatch$Monitor", "headAccepting", "(LGossipWatch$Row;LGossipWatch$Row;)I"⟩, 9) := ⟨⟨by decide +kernel, by decide +kernel⟩, List.mem_of_getElem? (i := 183) (by decide +kernel), List.mem_of_getElem? (i := 454) (by decide +kernel), List.mem_of_getElem? (i := 455) (by decide +kernel)⟩
theorem lw_p12 : lw_okq (⟨"GossipWatch$Monitor", "hasFactLike", "(LGossipWatch$Row;I)Z"⟩, 9) := ⟨⟨by decide +kernel, by decide +kernel⟩, List.mem_of_getElem? (i := 183) (by decide +kernel), List.mem_of_getElem? (i := 459) (by decide +kernel), List.mem_of_getElem? (i := 460) (by decide +kernel)⟩
theorem lw_p13 : lw_okq (⟨"GossipWatch$Monitor", "raiseBreachesOfFact", "(LGossipWatch$Row;I)Z"⟩, 9) := ⟨⟨by decide +kernel, by decide +kernel⟩, List.mem_of_getElem? (i := 183) (by decide +kernel), List.mem_of_getElem? (i := 463) (by decide +kernel), List.mem_of_getElem? (i := 464) (by decide +kernel)⟩
theorem lw_p14 : lw_okq (⟨"GossipWatch$Monitor", "hasFact", "(I)Z"⟩, 9) := ⟨⟨by decide +kernel, by decide +kernel⟩, List.mem_of_getElem? (i := 183) (by decide +kernel), List.mem_of_getElem? (i := 508) (by decide +kernel), List.mem_of_getElem? (i := 509) (by decide +kernel)⟩
theorem lw_p15 : lw_okq (⟨"GossipWatch", "bothAreSigned", "()Z"⟩, 9) := ⟨⟨by decide +kernel, by decide +kernel⟩, List.mem_of_getElem? (i := 13) (by decide +kernel), List.mem_of_getElem? (i := 554) (by decide +kernel), List.mem_of_getElem? (i := 555) (by decide +kernel)⟩
def lw_privs_1 : List (MethodName × Nat) := [(⟨"GossipWatch$Sha", "stretch", "()V"⟩, 4), (⟨"GossipWatch$Sha", "mix", "()V"⟩, 4), (⟨"GossipWatch", "viewOf", "(II)LGossipWatch$View;"⟩, 9), (⟨"GossipWatch", "nextLetter", "(II)LGossipWatch$Row;"⟩, 9), (⟨"GossipWatch", "letterOf", "(I)LGossipWatch$Letter;"⟩, 9), (⟨"GossipWatch", "monitorOf", "(I)LGossipWatch$Monitor;"⟩, 9), (⟨"GossipWatch$Monitor", "holdsLike", "(LGossipWatch$Row;)Z"⟩, 9), (⟨"GossipWatch$Monitor", "raiseForks", "(LGossipWatch$Row;)Z"⟩, 9), (⟨"GossipWatch$Monitor", "raise", "(IIII)Z"⟩, 9), (⟨"GossipWatch$Monitor", "raiseBreachesOfHead", "(LGossipWatch$Row;)Z"⟩, 9), (⟨"GossipWatch$Climb", "rises", "(LGossipWatch$Sha;IILGossipWatch$Row;I)Z"⟩, 2), (⟨"GossipWatch$Monitor", "headAccepting", "(LGossipWatch$Row;LGossipWatch$Row;)I"⟩, 9), (⟨"GossipWatch$Monitor", "hasFactLike", "(LGossipWatch$Row;I)Z"⟩, 9), (⟨"GossipWatch$Monitor", "raiseBreachesOfFact", "(LGossipWatch$Row;I)Z"⟩, 9), (⟨"GossipWatch$Monitor", "hasFact", "(I)Z"⟩, 9), (⟨"GossipWatch", "bothAreSigned", "()Z"⟩, 9)]
theorem lw_r1 : ∀ q ∈ lw_privs_1, lw_okq q := List.forall_mem_cons.mpr ⟨lw_p0, List.forall_mem_cons.mpr ⟨lw_p1, List.forall_mem_cons.mpr ⟨lw_p2, List.forall_mem_cons.mpr ⟨lw_p3, List.forall_mem_cons.mpr ⟨lw_p4, List.forall_mem_cons.mpr ⟨lw_p5, List.forall_mem_cons.mpr ⟨lw_p6, List.forall_mem_cons.mpr ⟨lw_p7, List.forall_mem_cons.mpr ⟨lw_p8, List.forall_mem_cons.mpr ⟨lw_p9, List.forall_mem_cons.mpr ⟨lw_p10, List.forall_mem_cons.mpr ⟨lw_p11, List.forall_mem_cons.mpr ⟨lw_p12, List.forall_mem_cons.mpr ⟨lw_p13, List.forall_mem_cons.mpr ⟨lw_p14, List.forall_mem_cons.mpr ⟨lw_p15, fun _ h => absurd h List.not_mem_nil⟩⟩⟩⟩⟩⟩⟩⟩⟩⟩⟩⟩⟩⟩⟩⟩
theorem lw_p16 : lw_okq (⟨"GossipWatch", "isFork", "()Z"⟩, 9) := ⟨⟨by decide +kernel, by decide +kernel⟩, List.mem_of_getElem? (i := 13) (by decide +kernel), List.mem_of_getElem? (i := 558) (by decide +kernel), List.mem_of_getElem? (i := 559) (by decide +kernel)⟩
theorem lw_p17 : lw_okq (⟨"GossipWatch", "endsWithWholeHashes", "()Z"⟩, 9) := ⟨⟨by decide +kernel, by decide +kernel⟩, List.mem_of_getElem? (i := 13) (by decide +kernel), List.mem_of_getElem? (i := 563) (by decide +kernel), List.mem_of_getElem? (i := 564) (by decide +kernel)⟩
theorem lw_p18 : lw_okq (⟨"GossipWatch", "isBreach", "()Z"⟩, 9) := ⟨⟨by decide +kernel, by decide +kernel⟩, List.mem_of_getElem? (i := 13) (by decide +kernel), List.mem_of_getElem? (i := 567) (by decide +kernel), List.mem_of_getElem? (i := 568) (by decide +kernel)⟩
theorem lw_p19 : lw_okq (⟨"GossipWatchModel", "start", "()V"⟩, 35) := ⟨⟨by decide +kernel, by decide +kernel⟩, List.mem_of_getElem? (i := 580) (by decide +kernel), List.mem_of_getElem? (i := 658) (by decide +kernel), List.mem_of_getElem? (i := 659) (by decide +kernel)⟩
theorem lw_p20 : lw_okq (⟨"GossipWatchModel", "put", "(I)V"⟩, 35) := ⟨⟨by decide +kernel, by decide +kernel⟩, List.mem_of_getElem? (i := 580) (by decide +kernel), List.mem_of_getElem? (i := 662) (by decide +kernel), List.mem_of_getElem? (i := 663) (by decide +kernel)⟩
theorem lw_p21 : lw_okq (⟨"GossipWatchModel", "putNumber", "(JI)V"⟩, 35) := ⟨⟨by decide +kernel, by decide +kernel⟩, List.mem_of_getElem? (i := 580) (by decide +kernel), List.mem_of_getElem? (i := 666) (by decide +kernel), List.mem_of_getElem? (i := 667) (by decide +kernel)⟩
theorem lw_p22 : lw_okq (⟨"GossipWatchModel", "sum", "(I)V"⟩, 35) := ⟨⟨by decide +kernel, by decide +kernel⟩, List.mem_of_getElem? (i := 580) (by decide +kernel), List.mem_of_getElem? (i := 670) (by decide +kernel), List.mem_of_getElem? (i := 671) (by decide +kernel)⟩
theorem lw_p23 : lw_okq (⟨"GossipWatchModel", "block", "(I)V"⟩, 35) := ⟨⟨by decide +kernel, by decide +kernel⟩, List.mem_of_getElem? (i := 580) (by decide +kernel), List.mem_of_getElem? (i := 675) (by decide +kernel), List.mem_of_getElem? (i := 676) (by decide +kernel)⟩
theorem lw_p24 : lw_okq (⟨"GossipWatchModel", "begins", "(II)V"⟩, 35) := ⟨⟨by decide +kernel, by decide +kernel⟩, List.mem_of_getElem? (i := 580) (by decide +kernel), List.mem_of_getElem? (i := 806) (by decide +kernel), List.mem_of_getElem? (i := 807) (by decide +kernel)⟩
theorem lw_p25 : lw_okq (⟨"GossipWatchModel", "adds", "(I)V"⟩, 35) := ⟨⟨by decide +kernel, by decide +kernel⟩, List.mem_of_getElem? (i := 580) (by decide +kernel), List.mem_of_getElem? (i := 810) (by decide +kernel), List.mem_of_getElem? (i := 811) (by decide +kernel)⟩
theorem lw_p26 : lw_okq (⟨"GossipWatchModel", "addsNumber", "(I)V"⟩, 35) := ⟨⟨by decide +kernel, by decide +kernel⟩, List.mem_of_getElem? (i := 580) (by decide +kernel), List.mem_of_getElem? (i := 814) (by decide +kernel), List.mem_of_getElem? (i := 815) (by decide +kernel)⟩
theorem lw_p27 : lw_okq (⟨"GossipWatchModel", "root", "(IIII)V"⟩, 35) := ⟨⟨by decide +kernel, by decide +kernel⟩, List.mem_of_getElem? (i := 580) (by decide +kernel), List.mem_of_getElem? (i := 818) (by decide +kernel), List.mem_of_getElem? (i := 819) (by decide +kernel)⟩
theorem lw_p28 : lw_okq (⟨"GossipWatchModel", "joined", "([BI[BII)V"⟩, 35) := ⟨⟨by decide +kernel, by decide +kernel⟩, List.mem_of_getElem? (i := 580) (by decide +kernel), List.mem_of_getElem? (i := 825) (by decide +kernel), List.mem_of_getElem? (i := 826) (by decide +kernel)⟩
theorem lw_p29 : lw_okq (⟨"GossipWatchModel", "putRow", "([BII)V"⟩, 35) := ⟨⟨by decide +kernel, by decide +kernel⟩, List.mem_of_getElem? (i := 580) (by decide +kernel), List.mem_of_getElem? (i := 829) (by decide +kernel), List.mem_of_getElem? (i := 830) (by decide +kernel)⟩
theorem lw_p30 : lw_okq (⟨"GossipWatchModel", "addsHash", "(I)V"⟩, 35) := ⟨⟨by decide +kernel, by decide +kernel⟩, List.mem_of_getElem? (i := 580) (by decide +kernel), List.mem_of_getElem? (i := 833) (by decide +kernel), List.mem_of_getElem? (i := 834) (by decide +kernel)⟩
theorem lw_p31 : lw_okq (⟨"GossipWatchModel", "signs", "([BII)V"⟩, 35) := ⟨⟨by decide +kernel, by decide +kernel⟩, List.mem_of_getElem? (i := 580) (by decide +kernel), List.mem_of_getElem? (i := 837) (by decide +kernel), List.mem_of_getElem? (i := 838) (by decide +kernel)⟩
def lw_privs_2 : List (MethodName × Nat) := [(⟨"GossipWatch", "isFork", "()Z"⟩, 9), (⟨"GossipWatch", "endsWithWholeHashes", "()Z"⟩, 9), (⟨"GossipWatch", "isBreach", "()Z"⟩, 9), (⟨"GossipWatchModel", "start", "()V"⟩, 35), (⟨"GossipWatchModel", "put", "(I)V"⟩, 35), (⟨"GossipWatchModel", "putNumber", "(JI)V"⟩, 35), (⟨"GossipWatchModel", "sum", "(I)V"⟩, 35), (⟨"GossipWatchModel", "block", "(I)V"⟩, 35), (⟨"GossipWatchModel", "begins", "(II)V"⟩, 35), (⟨"GossipWatchModel", "adds", "(I)V"⟩, 35), (⟨"GossipWatchModel", "addsNumber", "(I)V"⟩, 35), (⟨"GossipWatchModel", "root", "(IIII)V"⟩, 35), (⟨"GossipWatchModel", "joined", "([BI[BII)V"⟩, 35), (⟨"GossipWatchModel", "putRow", "([BII)V"⟩, 35), (⟨"GossipWatchModel", "addsHash", "(I)V"⟩, 35), (⟨"GossipWatchModel", "signs", "([BII)V"⟩, 35)]
theorem lw_r2 : ∀ q ∈ lw_privs_2, lw_okq q := List.forall_mem_cons.mpr ⟨lw_p16, List.forall_mem_cons.mpr ⟨lw_p17, List.forall_mem_cons.mpr ⟨lw_p18, List.forall_mem_cons.mpr ⟨lw_p19, List.forall_mem_cons.mpr ⟨lw_p20, List.forall_mem_cons.mpr ⟨lw_p21, List.forall_mem_cons.mpr ⟨lw_p22, List.forall_mem_cons.mpr ⟨lw_p23, List.forall_mem_cons.mpr ⟨lw_p24, List.forall_mem_cons.mpr ⟨lw_p25, List.forall_mem_cons.mpr ⟨lw_p26, List.forall_mem_cons.mpr ⟨lw_p27, List.forall_mem_cons.mpr ⟨lw_p28, List.forall_mem_cons.mpr ⟨lw_p29, List.forall_mem_cons.mpr ⟨lw_p30, List.forall_mem_cons.mpr ⟨lw_p31, fun _ h => absurd h List.not_mem_nil⟩⟩⟩⟩⟩⟩⟩⟩⟩⟩⟩⟩⟩⟩⟩⟩
theorem lw_p32 : lw_okq (⟨"GossipWatchModel", "ends", "()I"⟩, 35) := ⟨⟨by decide +kernel, by decide +kernel⟩, List.mem_of_getElem? (i := 580) (by decide +kernel), List.mem_of_getElem? (i := 841) (by decide +kernel), List.mem_of_getElem? (i := 842) (by decide +kernel)⟩
theorem lw_p33 : lw_okq (⟨"GossipWatchModel", "note", "(II)V"⟩, 35) := ⟨⟨by decide +kernel, by decide +kernel⟩, List.mem_of_getElem? (i := 580) (by decide +kernel), List.mem_of_getElem? (i := 849) (by decide +kernel), List.mem_of_getElem? (i := 850) (by decide +kernel)⟩
theorem lw_p34 : lw_okq (⟨"GossipWatchModel", "addsNoted", "(I)V"⟩, 35) := ⟨⟨by decide +kernel, by decide +kernel⟩, List.mem_of_getElem? (i := 580) (by decide +kernel), List.mem_of_getElem? (i := 853) (by decide +kernel), List.mem_of_getElem? (i := 854) (by decide +kernel)⟩
theorem lw_p35 : lw_okq (⟨"GossipWatchModel", "isLetter", "(I)Z"⟩, 35) := ⟨⟨by decide +kernel, by decide +kernel⟩, List.mem_of_getElem? (i := 580) (by decide +kernel), List.mem_of_getElem? (i := 865) (by decide +kernel), List.mem_of_getElem? (i := 866) (by decide +kernel)⟩
theorem lw_p36 : lw_okq (⟨"GossipWatchModel", "takesHead", "(I[BI)I"⟩, 35) := ⟨⟨by decide +kernel, by decide +kernel⟩, List.mem_of_getElem? (i := 580) (by decide +kernel), List.mem_of_getElem? (i := 896) (by decide +kernel), List.mem_of_getElem? (i := 897) (by decide +kernel)⟩
theorem lw_p37 : lw_okq (⟨"GossipWatchModel", "isSigned", "([BI)Z"⟩, 35) := ⟨⟨by decide +kernel, by decide +kernel⟩, List.mem_of_getElem? (i := 580) (by decide +kernel), List.mem_of_getElem? (i := 900) (by decide +kernel), List.mem_of_getElem? (i := 901) (by decide +kernel)⟩
theorem lw_p38 : lw_okq (⟨"GossipWatchModel", "isAgainst", "(II[BI)Z"⟩, 35) := ⟨⟨by decide +kernel, by decide +kernel⟩, List.mem_of_getElem? (i := 580) (by decide +kernel), List.mem_of_getElem? (i := 913) (by decide +kernel), List.mem_of_getElem? (i := 914) (by decide +kernel)⟩
theorem lw_p39 : lw_okq (⟨"GossipWatchModel", "records", "(IIIII)V"⟩, 35) := ⟨⟨by decide +kernel, by decide +kernel⟩, List.mem_of_getElem? (i := 580) (by decide +kernel), List.mem_of_getElem? (i := 920) (by decide +kernel), List.mem_of_getElem? (i := 921) (by decide +kernel)⟩
theorem lw_p40 : lw_okq (⟨"GossipWatchModel", "answered", "(II)I"⟩, 35) := ⟨⟨by decide +kernel, by decide +kernel⟩, List.mem_of_getElem? (i := 580) (by decide +kernel), List.mem_of_getElem? (i := 924) (by decide +kernel), List.mem_of_getElem? (i := 925) (by decide +kernel)⟩
theorem lw_p41 : lw_okq (⟨"GossipWatchModel", "takesProof", "(II)I"⟩, 35) := ⟨⟨by decide +kernel, by decide +kernel⟩, List.mem_of_getElem? (i := 580) (by decide +kernel), List.mem_of_getElem? (i := 928) (by decide +kernel), List.mem_of_getElem? (i := 929) (by decide +kernel)⟩
theorem lw_p42 : lw_okq (⟨"GossipWatchModel", "accepts", "(I[BI)Z"⟩, 35) := ⟨⟨by decide +kernel, by decide +kernel⟩, List.mem_of_getElem? (i := 580) (by decide +kernel), List.mem_of_getElem? (i := 932) (by decide +kernel), List.mem_of_getElem? (i := 933) (by decide +kernel)⟩
theorem lw_p43 : lw_okq (⟨"GossipWatchModel", "leads", "(II[BIII[BI)Z"⟩, 35) := ⟨⟨by decide +kernel, by decide +kernel⟩, List.mem_of_getElem? (i := 580) (by decide +kernel), List.mem_of_getElem? (i := 936) (by decide +kernel), List.mem_of_getElem? (i := 937) (by decide +kernel)⟩
theorem lw_p44 : lw_okq (⟨"GossipWatchModel", "copies", "([BII)V"⟩, 35) := ⟨⟨by decide +kernel, by decide +kernel⟩, List.mem_of_getElem? (i := 580) (by decide +kernel), List.mem_of_getElem? (i := 940) (by decide +kernel), List.mem_of_getElem? (i := 941) (by decide +kernel)⟩
theorem lw_p45 : lw_okq (⟨"GossipWatchModel", "isWay", "(II[BIII[BI)Z"⟩, 35) := ⟨⟨by decide +kernel, by decide +kernel⟩, List.mem_of_getElem? (i := 580) (by decide +kernel), List.mem_of_getElem? (i := 944) (by decide +kernel), List.mem_of_getElem? (i := 945) (by decide +kernel)⟩
theorem lw_p46 : lw_okq (⟨"GossipWatchModel", "isOther", "(III)Z"⟩, 35) := ⟨⟨by decide +kernel, by decide +kernel⟩, List.mem_of_getElem? (i := 580) (by decide +kernel), List.mem_of_getElem? (i := 948) (by decide +kernel), List.mem_of_getElem? (i := 949) (by decide +kernel)⟩
theorem lw_p47 : lw_okq (⟨"GossipWatchModel", "isRecord", "(II)Z"⟩, 35) := ⟨⟨by decide +kernel, by decide +kernel⟩, List.mem_of_getElem? (i := 580) (by decide +kernel), List.mem_of_getElem? (i := 972) (by decide +kernel), List.mem_of_getElem? (i := 973) (by decide +kernel)⟩
def lw_privs_3 : List (MethodName × Nat) := [(⟨"GossipWatchModel", "ends", "()I"⟩, 35), (⟨"GossipWatchModel", "note", "(II)V"⟩, 35), (⟨"GossipWatchModel", "addsNoted", "(I)V"⟩, 35), (⟨"GossipWatchModel", "isLetter", "(I)Z"⟩, 35), (⟨"GossipWatchModel", "takesHead", "(I[BI)I"⟩, 35), (⟨"GossipWatchModel", "isSigned", "([BI)Z"⟩, 35), (⟨"GossipWatchModel", "isAgainst", "(II[BI)Z"⟩, 35), (⟨"GossipWatchModel", "records", "(IIIII)V"⟩, 35), (⟨"GossipWatchModel", "answered", "(II)I"⟩, 35), (⟨"GossipWatchModel", "takesProof", "(II)I"⟩, 35), (⟨"GossipWatchModel", "accepts", "(I[BI)Z"⟩, 35), (⟨"GossipWatchModel", "leads", "(II[BIII[BI)Z"⟩, 35), (⟨"GossipWatchModel", "copies", "([BII)V"⟩, 35), (⟨"GossipWatchModel", "isWay", "(II[BIII[BI)Z"⟩, 35), (⟨"GossipWatchModel", "isOther", "(III)Z"⟩, 35), (⟨"GossipWatchModel", "isRecord", "(II)Z"⟩, 35)]
theorem lw_r3 : ∀ q ∈ lw_privs_3, lw_okq q := List.forall_mem_cons.mpr ⟨lw_p32, List.forall_mem_cons.mpr ⟨lw_p33, List.forall_mem_cons.mpr ⟨lw_p34, List.forall_mem_cons.mpr ⟨lw_p35, List.forall_mem_cons.mpr ⟨lw_p36, List.forall_mem_cons.mpr ⟨lw_p37, List.forall_mem_cons.mpr ⟨lw_p38, List.forall_mem_cons.mpr ⟨lw_p39, List.forall_mem_cons.mpr ⟨lw_p40, List.forall_mem_cons.mpr ⟨lw_p41, List.forall_mem_cons.mpr ⟨lw_p42, List.forall_mem_cons.mpr ⟨lw_p43, List.forall_mem_cons.mpr ⟨lw_p44, List.forall_mem_cons.mpr ⟨lw_p45, List.forall_mem_cons.mpr ⟨lw_p46, List.forall_mem_cons.mpr ⟨lw_p47, fun _ h => absurd h List.not_mem_nil⟩⟩⟩⟩⟩⟩⟩⟩⟩⟩⟩⟩⟩⟩⟩⟩
theorem lw_p48 : lw_okq (⟨"GossipWatchModel", "lays", "([BII)V"⟩, 35) := ⟨⟨by decide +kernel, by decide +kernel⟩, List.mem_of_getElem? (i := 580) (by decide +kernel), List.mem_of_getElem? (i := 980) (by decide +kernel), List.mem_of_getElem? (i := 981) (by decide +kernel)⟩
def lw_privs_4 : List (MethodName × Nat) := [(⟨"GossipWatchModel", "lays", "([BII)V"⟩, 35)]
theorem lw_r4 : ∀ q ∈ lw_privs_4, lw_okq q := List.forall_mem_cons.mpr ⟨lw_p48, fun _ h => absurd h List.not_mem_nil⟩
def lw_privs : List (MethodName × Nat) := lw_privs_1 ++ (lw_privs_2 ++ (lw_privs_3 ++ (lw_privs_4)))
def lw_tbl : List Cond := k2_sels lw_privs ++ tables_1
theorem lw_privs_ok : ∀ q ∈ lw_privs, lw_okq q := by
  show ∀ q ∈ lw_privs_1 ++ (lw_privs_2 ++ (lw_privs_3 ++ (lw_privs_4))), lw_okq q
  exact List.forall_mem_append.mpr ⟨lw_r1, List.forall_mem_append.mpr ⟨lw_r2, List.forall_mem_append.mpr ⟨lw_r3, lw_r4⟩⟩⟩
end
section
def RX0 : String := "GossipWatch$Climb"
def TX0 : u_T := fun k => match k with
  | 0 => ("GossipWatch$Climb", "older", "LGossipWatch$Row;", true)
  | _ => ("GossipWatch$Climb", "newer", "LGossipWatch$Row;", true)
def tyX0 : Nat → FieldType := fun k => match k with
  | 0 => .object "GossipWatch$Row"
  | _ => .object "GossipWatch$Row"
abbrev wsX00 : List Cond := u_ws RX0 TX0 2
theorem nmX0 : ∀ a, a < 2 → ∀ b, b < 2 → a ≠ b → (TX0 a).2.1 ≠ (TX0 b).2.1 := by decide +kernel
theorem tyX0_ok : ∀ k, k < 2 → parseFieldDescriptor (TX0 k).2.2.1 = some (tyX0 k) := by decide +kernel
abbrev cX0_init : ByteArray := prog_2_method_1_code
def yX0_init : MethodName := ⟨RX0, "<init>", "()V"⟩
abbrev cX0_ofProof : ByteArray := prog_2_method_2_code
def yX0_ofProof : MethodName := ⟨RX0, "ofProof", "(LGossipWatch$Sha;LGossipWatch$Row;III)LGossipWatch$Row;"⟩
abbrev cX0_ofPath : ByteArray := prog_2_method_3_code
def yX0_ofPath : MethodName := ⟨RX0, "ofPath", "(LGossipWatch$Sha;LGossipWatch$Row;)LGossipWatch$Row;"⟩
abbrev cX0_rises : ByteArray := prog_2_method_4_code
def yX0_rises : MethodName := ⟨RX0, "rises", "(LGossipWatch$Sha;IILGossipWatch$Row;I)Z"⟩
def RX1 : String := "GossipWatch$Keys"
def TX1 : u_T := fun k => match k with
  | _ => ("GossipWatch$Keys", "keys", "LGossipWatch$Row;", true)
def tyX1 : Nat → FieldType := fun k => match k with
  | _ => .object "GossipWatch$Row"
abbrev wsX10 : List Cond := u_ws RX1 TX1 1
theorem nmX1 : ∀ a, a < 1 → ∀ b, b < 1 → a ≠ b → (TX1 a).2.1 ≠ (TX1 b).2.1 := by decide +kernel
theorem tyX1_ok : ∀ k, k < 1 → parseFieldDescriptor (TX1 k).2.2.1 = some (tyX1 k) := by decide +kernel
abbrev cX1_init : ByteArray := prog_3_method_1_code
def yX1_init : MethodName := ⟨RX1, "<init>", "()V"⟩
abbrev cX1_makeFrom : ByteArray := prog_3_method_2_code
def yX1_makeFrom : MethodName := ⟨RX1, "makeFrom", "(LGossipWatch$Sha;J)V"⟩
abbrev cX1_signFor : ByteArray := prog_3_method_3_code
def yX1_signFor : MethodName := ⟨RX1, "signFor", "(LGossipWatch$Sha;LGossipWatch$Row;II)LGossipWatch$Row;"⟩
abbrev cX1_haveSigned : ByteArray := prog_3_method_4_code
def yX1_haveSigned : MethodName := ⟨RX1, "haveSigned", "(LGossipWatch$Sha;LGossipWatch$Row;II)Z"⟩
def RX2 : String := "GossipWatch$Letter"
def TX2 : u_T := fun k => match k with
  | 0 => ("GossipWatch$Letter", "bytes", "LGossipWatch$Row;", true)
  | _ => ("GossipWatch$Letter", "kind", "I", false)
def tyX2 : Nat → FieldType := fun k => match k with
  | 0 => .object "GossipWatch$Row"
  | _ => .int
abbrev wsX20 : List Cond := u_ws RX2 TX2 2
theorem nmX2 : ∀ a, a < 2 → ∀ b, b < 2 → a ≠ b → (TX2 a).2.1 ≠ (TX2 b).2.1 := by decide +kernel
theorem tyX2_ok : ∀ k, k < 2 → parseFieldDescriptor (TX2 k).2.2.1 = some (tyX2 k) := by decide +kernel
abbrev cX2_init : ByteArray := prog_4_method_1_code
def yX2_init : MethodName := ⟨RX2, "<init>", "()V"⟩
abbrev cX2_hashCount : ByteArray := prog_4_method_2_code
def yX2_hashCount : MethodName := ⟨RX2, "hashCount", "()I"⟩
def RX3 : String := "GossipWatch$Monitor"
def TX3 : u_T := fun k => match k with
  | 0 => ("GossipWatch$Monitor", "heads", "[LGossipWatch$Row;", true)
  | 1 => ("GossipWatch$Monitor", "proofs", "[LGossipWatch$Row;", true)
  | 2 => ("GossipWatch$Monitor", "factHeads", "[I", true)
  | 3 => ("GossipWatch$Monitor", "records", "[[I", true)
  | 4 => ("GossipWatch$Monitor", "headCount", "I", false)
  | 5 => ("GossipWatch$Monitor", "factCount", "I", false)
  | 6 => ("GossipWatch$Monitor", "recordCount", "I", false)
  | 7 => ("GossipWatch$Monitor", "refused", "I", false)
  | _ => ("GossipWatch$Monitor", "crowded", "I", false)
def tyX3 : Nat → FieldType := fun k => match k with
  | 0 => .array (.object "GossipWatch$Row")
  | 1 => .array (.object "GossipWatch$Row")
  | 2 => .array .int
  | 3 => .array (.array .int)
  | 4 => .int
  | 5 => .int
  | 6 => .int
  | 7 => .int
  | _ => .int
abbrev wsX30 : List Cond := u_ws RX3 TX3 9
theorem nmX3 : ∀ a, a < 9 → ∀ b, b < 9 → a ≠ b → (TX3 a).2.1 ≠ (TX3 b).2.1 := by decide +kernel
theorem tyX3_ok : ∀ k, k < 9 → parseFieldDescriptor (TX3 k).2.2.1 = some (tyX3 k) := by decide +kernel
abbrev cX3_init : ByteArray := prog_5_method_1_code
def yX3_init : MethodName := ⟨RX3, "<init>", "()V"⟩
abbrev cX3_noted : ByteArray := prog_5_method_2_code
def yX3_noted : MethodName := ⟨RX3, "noted", "(I)I"⟩
abbrev cX3_takeHead : ByteArray := prog_5_method_3_code
def yX3_takeHead : MethodName := ⟨RX3, "takeHead", "(LGossipWatch$Row;)I"⟩
abbrev cX3_takeProof : ByteArray := prog_5_method_4_code
def yX3_takeProof : MethodName := ⟨RX3, "takeProof", "(LGossipWatch$Row;LGossipWatch$Row;)I"⟩
abbrev cX3_countAccepting : ByteArray := prog_5_method_5_code
def yX3_countAccepting : MethodName := ⟨RX3, "countAccepting", "(LGossipWatch$Row;LGossipWatch$Row;)I"⟩
abbrev cX3_countOf : ByteArray := prog_5_method_6_code
def yX3_countOf : MethodName := ⟨RX3, "countOf", "(I)I"⟩
abbrev cX3_hasHead : ByteArray := prog_5_method_7_code
def yX3_hasHead : MethodName := ⟨RX3, "hasHead", "(I)Z"⟩
abbrev cX3_hasFact : ByteArray := prog_5_method_8_code
def yX3_hasFact : MethodName := ⟨RX3, "hasFact", "(I)Z"⟩
abbrev cX3_hasRecord : ByteArray := prog_5_method_9_code
def yX3_hasRecord : MethodName := ⟨RX3, "hasRecord", "(I)Z"⟩
abbrev cX3_ofFact : ByteArray := prog_5_method_10_code
def yX3_ofFact : MethodName := ⟨RX3, "ofFact", "(II)I"⟩
abbrev cX3_ofRecord : ByteArray := prog_5_method_11_code
def yX3_ofRecord : MethodName := ⟨RX3, "ofRecord", "(II)I"⟩
abbrev cX3_writeRecord : ByteArray := prog_5_method_12_code
def yX3_writeRecord : MethodName := ⟨RX3, "writeRecord", "(ILGossipWatch$Row;)V"⟩
abbrev cX3_holdsLike : ByteArray := prog_5_method_13_code
def yX3_holdsLike : MethodName := ⟨RX3, "holdsLike", "(LGossipWatch$Row;)Z"⟩
abbrev cX3_headAccepting : ByteArray := prog_5_method_14_code
def yX3_headAccepting : MethodName := ⟨RX3, "headAccepting", "(LGossipWatch$Row;LGossipWatch$Row;)I"⟩
abbrev cX3_hasFactLike : ByteArray := prog_5_method_15_code
def yX3_hasFactLike : MethodName := ⟨RX3, "hasFactLike", "(LGossipWatch$Row;I)Z"⟩
abbrev cX3_raiseForks : ByteArray := prog_5_method_16_code
def yX3_raiseForks : MethodName := ⟨RX3, "raiseForks", "(LGossipWatch$Row;)Z"⟩
abbrev cX3_raiseBreachesOfHead : ByteArray := prog_5_method_17_code
def yX3_raiseBreachesOfHead : MethodName := ⟨RX3, "raiseBreachesOfHead", "(LGossipWatch$Row;)Z"⟩
abbrev cX3_raiseBreachesOfFact : ByteArray := prog_5_method_18_code
def yX3_raiseBreachesOfFact : MethodName := ⟨RX3, "raiseBreachesOfFact", "(LGossipWatch$Row;I)Z"⟩
abbrev cX3_belies : ByteArray := prog_5_method_19_code
def yX3_belies : MethodName := ⟨RX3, "belies", "(LGossipWatch$Row;LGossipWatch$Row;)Z"⟩
abbrev cX3_raise : ByteArray := prog_5_method_20_code
def yX3_raise : MethodName := ⟨RX3, "raise", "(IIII)Z"⟩
def RX4 : String := "GossipWatch$Row"
def TX4 : u_T := fun k => match k with
  | 0 => ("GossipWatch$Row", "bytes", "[B", true)
  | _ => ("GossipWatch$Row", "size", "I", false)
def tyX4 : Nat → FieldType := fun k => match k with
  | 0 => .array .byte
  | _ => .int
abbrev wsX40 : List Cond := u_ws RX4 TX4 2
theorem nmX4 : ∀ a, a < 2 → ∀ b, b < 2 → a ≠ b → (TX4 a).2.1 ≠ (TX4 b).2.1 := by decide +kernel
theorem tyX4_ok : ∀ k, k < 2 → parseFieldDescriptor (TX4 k).2.2.1 = some (tyX4 k) := by decide +kernel
abbrev cX4_init : ByteArray := prog_6_method_1_code
def yX4_init : MethodName := ⟨RX4, "<init>", "(I)V"⟩
abbrev cX4_has : ByteArray := prog_6_method_2_code
def yX4_has : MethodName := ⟨RX4, "has", "(I)Z"⟩
abbrev cX4_at : ByteArray := prog_6_method_3_code
def yX4_at : MethodName := ⟨RX4, "at", "(I)I"⟩
abbrev cX4_number : ByteArray := prog_6_method_4_code
def yX4_number : MethodName := ⟨RX4, "number", "(I)I"⟩
abbrev cX4_put : ByteArray := prog_6_method_5_code
def yX4_put : MethodName := ⟨RX4, "put", "(II)V"⟩
abbrev cX4_empty : ByteArray := prog_6_method_6_code
def yX4_empty : MethodName := ⟨RX4, "empty", "()V"⟩
abbrev cX4_add : ByteArray := prog_6_method_7_code
def yX4_add : MethodName := ⟨RX4, "add", "(I)V"⟩
abbrev cX4_addNumber : ByteArray := prog_6_method_8_code
def yX4_addNumber : MethodName := ⟨RX4, "addNumber", "(I)V"⟩
abbrev cX4_addPart : ByteArray := prog_6_method_9_code
def yX4_addPart : MethodName := ⟨RX4, "addPart", "(LGossipWatch$Row;II)V"⟩
abbrev cX4_addHashesReversed : ByteArray := prog_6_method_10_code
def yX4_addHashesReversed : MethodName := ⟨RX4, "addHashesReversed", "(LGossipWatch$Row;)V"⟩
abbrev cX4_become : ByteArray := prog_6_method_11_code
def yX4_become : MethodName := ⟨RX4, "become", "(LGossipWatch$Row;)V"⟩
abbrev cX4_becomePart : ByteArray := prog_6_method_12_code
def yX4_becomePart : MethodName := ⟨RX4, "becomePart", "(LGossipWatch$Row;II)V"⟩
abbrev cX4_resize : ByteArray := prog_6_method_13_code
def yX4_resize : MethodName := ⟨RX4, "resize", "(I)V"⟩
abbrev cX4_sameAs : ByteArray := prog_6_method_14_code
def yX4_sameAs : MethodName := ⟨RX4, "sameAs", "(ILGossipWatch$Row;II)Z"⟩
def RX5 : String := "GossipWatch$Sha"
def TX5 : u_T := fun k => match k with
  | 0 => ("GossipWatch$Sha", "message", "LGossipWatch$Row;", true)
  | 1 => ("GossipWatch$Sha", "digest", "LGossipWatch$Row;", true)
  | 2 => ("GossipWatch$Sha", "words", "[I", true)
  | _ => ("GossipWatch$Sha", "state", "[I", true)
def tyX5 : Nat → FieldType := fun k => match k with
  | 0 => .object "GossipWatch$Row"
  | 1 => .object "GossipWatch$Row"
  | 2 => .array .int
  | _ => .array .int
abbrev wsX50 : List Cond := u_ws RX5 TX5 4
theorem nmX5 : ∀ a, a < 4 → ∀ b, b < 4 → a ≠ b → (TX5 a).2.1 ≠ (TX5 b).2.1 := by decide +kernel
theorem tyX5_ok : ∀ k, k < 4 → parseFieldDescriptor (TX5 k).2.2.1 = some (tyX5 k) := by decide +kernel
abbrev cX5_init : ByteArray := prog_7_method_1_code
def yX5_init : MethodName := ⟨RX5, "<init>", "()V"⟩
abbrev cX5_finish : ByteArray := prog_7_method_2_code
def yX5_finish : MethodName := ⟨RX5, "finish", "()LGossipWatch$Row;"⟩
abbrev cX5_join : ByteArray := prog_7_method_3_code
def yX5_join : MethodName := ⟨RX5, "join", "(LGossipWatch$Row;ILGossipWatch$Row;I)LGossipWatch$Row;"⟩
abbrev cX5_stretch : ByteArray := prog_7_method_4_code
def yX5_stretch : MethodName := ⟨RX5, "stretch", "()V"⟩
abbrev cX5_mix : ByteArray := prog_7_method_5_code
def yX5_mix : MethodName := ⟨RX5, "mix", "()V"⟩
def RX6 : String := "GossipWatch$View"
def TX6 : u_T := fun k => match k with
  | 0 => ("GossipWatch$View", "values", "[I", true)
  | 1 => ("GossipWatch$View", "levels", "[LGossipWatch$Row;", true)
  | _ => ("GossipWatch$View", "count", "I", false)
def tyX6 : Nat → FieldType := fun k => match k with
  | 0 => .array .int
  | 1 => .array (.object "GossipWatch$Row")
  | _ => .int
abbrev wsX60 : List Cond := u_ws RX6 TX6 3
theorem nmX6 : ∀ a, a < 3 → ∀ b, b < 3 → a ≠ b → (TX6 a).2.1 ≠ (TX6 b).2.1 := by decide +kernel
theorem tyX6_ok : ∀ k, k < 3 → parseFieldDescriptor (TX6 k).2.2.1 = some (tyX6 k) := by decide +kernel
abbrev cX6_init : ByteArray := prog_8_method_1_code
def yX6_init : MethodName := ⟨RX6, "<init>", "()V"⟩
abbrev cX6_isFull : ByteArray := prog_8_method_2_code
def yX6_isFull : MethodName := ⟨RX6, "isFull", "()Z"⟩
abbrev cX6_leafAt : ByteArray := prog_8_method_3_code
def yX6_leafAt : MethodName := ⟨RX6, "leafAt", "(I)I"⟩
abbrev cX6_addLeaf : ByteArray := prog_8_method_4_code
def yX6_addLeaf : MethodName := ⟨RX6, "addLeaf", "(LGossipWatch$Sha;I)V"⟩
abbrev cX6_rootOf : ByteArray := prog_8_method_5_code
def yX6_rootOf : MethodName := ⟨RX6, "rootOf", "(LGossipWatch$Sha;II)LGossipWatch$Row;"⟩
abbrev cX6_pushPath : ByteArray := prog_8_method_6_code
def yX6_pushPath : MethodName := ⟨RX6, "pushPath", "(LGossipWatch$Sha;IILGossipWatch$Row;)V"⟩
abbrev cX6_pushProof : ByteArray := prog_8_method_7_code
def yX6_pushProof : MethodName := ⟨RX6, "pushProof", "(LGossipWatch$Sha;IILGossipWatch$Row;)V"⟩
abbrev cX6_splitOf : ByteArray := prog_8_method_8_code
def yX6_splitOf : MethodName := ⟨RX6, "splitOf", "(I)I"⟩
def RX7 : String := "GossipWatch"
def TX7 : u_T := fun k => match k with
  | 0 => ("GossipWatch", "sha", "LGossipWatch$Sha;", true)
  | 1 => ("GossipWatch", "keys", "LGossipWatch$Keys;", true)
  | 2 => ("GossipWatch", "climb", "LGossipWatch$Climb;", true)
  | 3 => ("GossipWatch", "views", "[LGossipWatch$View;", true)
  | 4 => ("GossipWatch", "post", "[LGossipWatch$Letter;", true)
  | 5 => ("GossipWatch", "monitors", "[LGossipWatch$Monitor;", true)
  | 6 => ("GossipWatch", "onDesk", "LGossipWatch$Row;", true)
  | 7 => ("GossipWatch", "stack", "LGossipWatch$Row;", true)
  | _ => ("GossipWatch", "posted", "I", false)
def tyX7 : Nat → FieldType := fun k => match k with
  | 0 => .object "GossipWatch$Sha"
  | 1 => .object "GossipWatch$Keys"
  | 2 => .object "GossipWatch$Climb"
  | 3 => .array (.object "GossipWatch$View")
  | 4 => .array (.object "GossipWatch$Letter")
  | 5 => .array (.object "GossipWatch$Monitor")
  | 6 => .object "GossipWatch$Row"
  | 7 => .object "GossipWatch$Row"
  | _ => .int
abbrev wsX70 : List Cond := u_ws RX7 TX7 9
theorem nmX7 : ∀ a, a < 9 → ∀ b, b < 9 → a ≠ b → (TX7 a).2.1 ≠ (TX7 b).2.1 := by decide +kernel
theorem tyX7_ok : ∀ k, k < 9 → parseFieldDescriptor (TX7 k).2.2.1 = some (tyX7 k) := by decide +kernel
abbrev cX7_init : ByteArray := prog_1_method_1_code
def yX7_init : MethodName := ⟨RX7, "<init>", "(J)V"⟩
abbrev cX7_append : ByteArray := prog_1_method_2_code
def yX7_append : MethodName := ⟨RX7, "append", "(III)I"⟩
abbrev cX7_leaves : ByteArray := prog_1_method_3_code
def yX7_leaves : MethodName := ⟨RX7, "leaves", "(II)I"⟩
abbrev cX7_head : ByteArray := prog_1_method_4_code
def yX7_head : MethodName := ⟨RX7, "head", "(III)I"⟩
abbrev cX7_proof : ByteArray := prog_1_method_5_code
def yX7_proof : MethodName := ⟨RX7, "proof", "(IIII)I"⟩
abbrev cX7_path : ByteArray := prog_1_method_6_code
def yX7_path : MethodName := ⟨RX7, "path", "(IIII)I"⟩
abbrev cX7_alter : ByteArray := prog_1_method_7_code
def yX7_alter : MethodName := ⟨RX7, "alter", "(III)I"⟩
abbrev cX7_cut : ByteArray := prog_1_method_8_code
def yX7_cut : MethodName := ⟨RX7, "cut", "(II)I"⟩
abbrev cX7_sign : ByteArray := prog_1_method_9_code
def yX7_sign : MethodName := ⟨RX7, "sign", "(I)Z"⟩
abbrev cX7_clear : ByteArray := prog_1_method_10_code
def yX7_clear : MethodName := ⟨RX7, "clear", "()I"⟩
abbrev cX7_letters : ByteArray := prog_1_method_11_code
def yX7_letters : MethodName := ⟨RX7, "letters", "()I"⟩
abbrev cX7_letter : ByteArray := prog_1_method_12_code
def yX7_letter : MethodName := ⟨RX7, "letter", "(II)I"⟩
abbrev cX7_take : ByteArray := prog_1_method_13_code
def yX7_take : MethodName := ⟨RX7, "take", "(II)I"⟩
abbrev cX7_gossip : ByteArray := prog_1_method_14_code
def yX7_gossip : MethodName := ⟨RX7, "gossip", "(II)I"⟩
abbrev cX7_holds : ByteArray := prog_1_method_15_code
def yX7_holds : MethodName := ⟨RX7, "holds", "(II)I"⟩
abbrev cX7_held : ByteArray := prog_1_method_16_code
def yX7_held : MethodName := ⟨RX7, "held", "(III)I"⟩
abbrev cX7_fact : ByteArray := prog_1_method_17_code
def yX7_fact : MethodName := ⟨RX7, "fact", "(III)I"⟩
abbrev cX7_record : ByteArray := prog_1_method_18_code
def yX7_record : MethodName := ⟨RX7, "record", "(III)I"⟩
abbrev cX7_lay : ByteArray := prog_1_method_19_code
def yX7_lay : MethodName := ⟨RX7, "lay", "(II)I"⟩
abbrev cX7_desk : ByteArray := prog_1_method_20_code
def yX7_desk : MethodName := ⟨RX7, "desk", "(I)I"⟩
abbrev cX7_patch : ByteArray := prog_1_method_21_code
def yX7_patch : MethodName := ⟨RX7, "patch", "(II)Z"⟩
abbrev cX7_trim : ByteArray := prog_1_method_22_code
def yX7_trim : MethodName := ⟨RX7, "trim", "(I)Z"⟩
abbrev cX7_audit : ByteArray := prog_1_method_23_code
def yX7_audit : MethodName := ⟨RX7, "audit", "()Z"⟩
abbrev cX7_hash : ByteArray := prog_1_method_24_code
def yX7_hash : MethodName := ⟨RX7, "hash", "(I)I"⟩
abbrev cX7_viewOf : ByteArray := prog_1_method_25_code
def yX7_viewOf : MethodName := ⟨RX7, "viewOf", "(II)LGossipWatch$View;"⟩
abbrev cX7_letterOf : ByteArray := prog_1_method_26_code
def yX7_letterOf : MethodName := ⟨RX7, "letterOf", "(I)LGossipWatch$Letter;"⟩
abbrev cX7_monitorOf : ByteArray := prog_1_method_27_code
def yX7_monitorOf : MethodName := ⟨RX7, "monitorOf", "(I)LGossipWatch$Monitor;"⟩
abbrev cX7_nextLetter : ByteArray := prog_1_method_28_code
def yX7_nextLetter : MethodName := ⟨RX7, "nextLetter", "(II)LGossipWatch$Row;"⟩
abbrev cX7_bothAreSigned : ByteArray := prog_1_method_29_code
def yX7_bothAreSigned : MethodName := ⟨RX7, "bothAreSigned", "()Z"⟩
abbrev cX7_isFork : ByteArray := prog_1_method_30_code
def yX7_isFork : MethodName := ⟨RX7, "isFork", "()Z"⟩
abbrev cX7_endsWithWholeHashes : ByteArray := prog_1_method_31_code
def yX7_endsWithWholeHashes : MethodName := ⟨RX7, "endsWithWholeHashes", "()Z"⟩
abbrev cX7_isBreach : ByteArray := prog_1_method_32_code
def yX7_isBreach : MethodName := ⟨RX7, "isBreach", "()Z"⟩
def RX8 : String := "GossipWatchModel"
def TX8 : u_T := fun k => match k with
  | 0 => ("GossipWatchModel", "k64", "[I", true)
  | 1 => ("GossipWatchModel", "begin", "[I", true)
  | 2 => ("GossipWatchModel", "w", "[I", true)
  | 3 => ("GossipWatchModel", "h", "[I", true)
  | 4 => ("GossipWatchModel", "v", "[I", true)
  | 5 => ("GossipWatchModel", "told", "[B", true)
  | 6 => ("GossipWatchModel", "size", "I", false)
  | 7 => ("GossipWatchModel", "hash", "[B", true)
  | 8 => ("GossipWatchModel", "leaf", "[I", true)
  | 9 => ("GossipWatchModel", "leaves", "[I", true)
  | 10 => ("GossipWatchModel", "key", "[B", true)
  | 11 => ("GossipWatchModel", "letter", "[B", true)
  | 12 => ("GossipWatchModel", "kind", "[I", true)
  | 13 => ("GossipWatchModel", "length", "[I", true)
  | 14 => ("GossipWatchModel", "letters", "I", false)
  | 15 => ("GossipWatchModel", "from", "[I", true)
  | 16 => ("GossipWatchModel", "many", "[I", true)
  | 17 => ("GossipWatchModel", "noted", "I", false)
  | 18 => ("GossipWatchModel", "heads", "[B", true)
  | 19 => ("GossipWatchModel", "facts", "[B", true)
  | 20 => ("GossipWatchModel", "headMany", "[I", true)
  | 21 => ("GossipWatchModel", "factMany", "[I", true)
  | 22 => ("GossipWatchModel", "recordMany", "[I", true)
  | 23 => ("GossipWatchModel", "none", "[I", true)
  | 24 => ("GossipWatchModel", "full", "[I", true)
  | 25 => ("GossipWatchModel", "factLength", "[I", true)
  | 26 => ("GossipWatchModel", "factHead", "[I", true)
  | 27 => ("GossipWatchModel", "rKind", "[I", true)
  | 28 => ("GossipWatchModel", "rFirst", "[I", true)
  | 29 => ("GossipWatchModel", "rOther", "[I", true)
  | 30 => ("GossipWatchModel", "rFact", "[I", true)
  | 31 => ("GossipWatchModel", "desk", "[B", true)
  | 32 => ("GossipWatchModel", "laid", "I", false)
  | 33 => ("GossipWatchModel", "one", "[B", true)
  | _ => ("GossipWatchModel", "two", "[B", true)
def tyX8 : Nat → FieldType := fun k => match k with
  | 0 => .array .int
  | 1 => .array .int
  | 2 => .array .int
  | 3 => .array .int
  | 4 => .array .int
  | 5 => .array .byte
  | 6 => .int
  | 7 => .array .byte
  | 8 => .array .int
  | 9 => .array .int
  | 10 => .array .byte
  | 11 => .array .byte
  | 12 => .array .int
  | 13 => .array .int
  | 14 => .int
  | 15 => .array .int
  | 16 => .array .int
  | 17 => .int
  | 18 => .array .byte
  | 19 => .array .byte
  | 20 => .array .int
  | 21 => .array .int
  | 22 => .array .int
  | 23 => .array .int
  | 24 => .array .int
  | 25 => .array .int
  | 26 => .array .int
  | 27 => .array .int
  | 28 => .array .int
  | 29 => .array .int
  | 30 => .array .int
  | 31 => .array .byte
  | 32 => .int
  | 33 => .array .byte
  | _ => .array .byte
abbrev wsX80 : List Cond := u_ws RX8 TX8 35
theorem nmX8 : ∀ a, a < 35 → ∀ b, b < 35 → a ≠ b → (TX8 a).2.1 ≠ (TX8 b).2.1 := by decide +kernel
theorem tyX8_ok : ∀ k, k < 35 → parseFieldDescriptor (TX8 k).2.2.1 = some (tyX8 k) := by decide +kernel
abbrev cX8_start : ByteArray := prog_10_method_1_code
def yX8_start : MethodName := ⟨RX8, "start", "()V"⟩
abbrev cX8_put : ByteArray := prog_10_method_2_code
def yX8_put : MethodName := ⟨RX8, "put", "(I)V"⟩
abbrev cX8_putNumber : ByteArray := prog_10_method_3_code
def yX8_putNumber : MethodName := ⟨RX8, "putNumber", "(JI)V"⟩
abbrev cX8_putRow : ByteArray := prog_10_method_4_code
def yX8_putRow : MethodName := ⟨RX8, "putRow", "([BII)V"⟩
abbrev cX8_turned : ByteArray := prog_10_method_5_code
def yX8_turned : MethodName := ⟨RX8, "turned", "(II)I"⟩
abbrev cX8_sum : ByteArray := prog_10_method_6_code
def yX8_sum : MethodName := ⟨RX8, "sum", "(I)V"⟩
abbrev cX8_block : ByteArray := prog_10_method_7_code
def yX8_block : MethodName := ⟨RX8, "block", "(I)V"⟩
abbrev cX8_init : ByteArray := prog_10_method_8_code
def yX8_init : MethodName := ⟨RX8, "<init>", "(J)V"⟩
abbrev cX8_in : ByteArray := prog_10_method_9_code
def yX8_in : MethodName := ⟨RX8, "in", "(III)Z"⟩
abbrev cX8_isView : ByteArray := prog_10_method_10_code
def yX8_isView : MethodName := ⟨RX8, "isView", "(II)Z"⟩
abbrev cX8_append : ByteArray := prog_10_method_11_code
def yX8_append : MethodName := ⟨RX8, "append", "(III)I"⟩
abbrev cX8_leaves : ByteArray := prog_10_method_12_code
def yX8_leaves : MethodName := ⟨RX8, "leaves", "(II)I"⟩
abbrev cX8_half : ByteArray := prog_10_method_13_code
def yX8_half : MethodName := ⟨RX8, "half", "(I)I"⟩
abbrev cX8_joined : ByteArray := prog_10_method_14_code
def yX8_joined : MethodName := ⟨RX8, "joined", "([BI[BII)V"⟩
abbrev cX8_root : ByteArray := prog_10_method_15_code
def yX8_root : MethodName := ⟨RX8, "root", "(IIII)V"⟩
abbrev cX8_begins : ByteArray := prog_10_method_16_code
def yX8_begins : MethodName := ⟨RX8, "begins", "(II)V"⟩
abbrev cX8_adds : ByteArray := prog_10_method_17_code
def yX8_adds : MethodName := ⟨RX8, "adds", "(I)V"⟩
abbrev cX8_addsNumber : ByteArray := prog_10_method_18_code
def yX8_addsNumber : MethodName := ⟨RX8, "addsNumber", "(I)V"⟩
abbrev cX8_addsHash : ByteArray := prog_10_method_19_code
def yX8_addsHash : MethodName := ⟨RX8, "addsHash", "(I)V"⟩
abbrev cX8_ends : ByteArray := prog_10_method_20_code
def yX8_ends : MethodName := ⟨RX8, "ends", "()I"⟩
abbrev cX8_signs : ByteArray := prog_10_method_21_code
def yX8_signs : MethodName := ⟨RX8, "signs", "([BII)V"⟩
abbrev cX8_head : ByteArray := prog_10_method_22_code
def yX8_head : MethodName := ⟨RX8, "head", "(III)I"⟩
abbrev cX8_note : ByteArray := prog_10_method_23_code
def yX8_note : MethodName := ⟨RX8, "note", "(II)V"⟩
abbrev cX8_addsNoted : ByteArray := prog_10_method_24_code
def yX8_addsNoted : MethodName := ⟨RX8, "addsNoted", "(I)V"⟩
abbrev cX8_proof : ByteArray := prog_10_method_25_code
def yX8_proof : MethodName := ⟨RX8, "proof", "(IIII)I"⟩
abbrev cX8_path : ByteArray := prog_10_method_26_code
def yX8_path : MethodName := ⟨RX8, "path", "(IIII)I"⟩
abbrev cX8_isLetter : ByteArray := prog_10_method_27_code
def yX8_isLetter : MethodName := ⟨RX8, "isLetter", "(I)Z"⟩
abbrev cX8_headOf : ByteArray := prog_10_method_28_code
def yX8_headOf : MethodName := ⟨RX8, "headOf", "(I)I"⟩
abbrev cX8_alter : ByteArray := prog_10_method_29_code
def yX8_alter : MethodName := ⟨RX8, "alter", "(III)I"⟩
abbrev cX8_cut : ByteArray := prog_10_method_30_code
def yX8_cut : MethodName := ⟨RX8, "cut", "(II)I"⟩
abbrev cX8_sign : ByteArray := prog_10_method_31_code
def yX8_sign : MethodName := ⟨RX8, "sign", "(I)Z"⟩
abbrev cX8_clear : ByteArray := prog_10_method_32_code
def yX8_clear : MethodName := ⟨RX8, "clear", "()I"⟩
abbrev cX8_letters : ByteArray := prog_10_method_33_code
def yX8_letters : MethodName := ⟨RX8, "letters", "()I"⟩
abbrev cX8_letter : ByteArray := prog_10_method_34_code
def yX8_letter : MethodName := ⟨RX8, "letter", "(II)I"⟩
abbrev cX8_number : ByteArray := prog_10_method_35_code
def yX8_number : MethodName := ⟨RX8, "number", "([BI)I"⟩
abbrev cX8_isSame : ByteArray := prog_10_method_36_code
def yX8_isSame : MethodName := ⟨RX8, "isSame", "([BI[BII)Z"⟩
abbrev cX8_isSigned : ByteArray := prog_10_method_37_code
def yX8_isSigned : MethodName := ⟨RX8, "isSigned", "([BI)Z"⟩
abbrev cX8_copies : ByteArray := prog_10_method_38_code
def yX8_copies : MethodName := ⟨RX8, "copies", "([BII)V"⟩
abbrev cX8_leads : ByteArray := prog_10_method_39_code
def yX8_leads : MethodName := ⟨RX8, "leads", "(II[BIII[BI)Z"⟩
abbrev cX8_isWay : ByteArray := prog_10_method_40_code
def yX8_isWay : MethodName := ⟨RX8, "isWay", "(II[BIII[BI)Z"⟩
abbrev cX8_headAt : ByteArray := prog_10_method_41_code
def yX8_headAt : MethodName := ⟨RX8, "headAt", "(II)I"⟩
abbrev cX8_factAt : ByteArray := prog_10_method_42_code
def yX8_factAt : MethodName := ⟨RX8, "factAt", "(II)I"⟩
abbrev cX8_records : ByteArray := prog_10_method_43_code
def yX8_records : MethodName := ⟨RX8, "records", "(IIIII)V"⟩
abbrev cX8_takesHead : ByteArray := prog_10_method_44_code
def yX8_takesHead : MethodName := ⟨RX8, "takesHead", "(I[BI)I"⟩
abbrev cX8_isAgainst : ByteArray := prog_10_method_45_code
def yX8_isAgainst : MethodName := ⟨RX8, "isAgainst", "(II[BI)Z"⟩
abbrev cX8_accepts : ByteArray := prog_10_method_46_code
def yX8_accepts : MethodName := ⟨RX8, "accepts", "(I[BI)Z"⟩
abbrev cX8_takesProof : ByteArray := prog_10_method_47_code
def yX8_takesProof : MethodName := ⟨RX8, "takesProof", "(II)I"⟩
abbrev cX8_isOther : ByteArray := prog_10_method_48_code
def yX8_isOther : MethodName := ⟨RX8, "isOther", "(III)Z"⟩
abbrev cX8_answered : ByteArray := prog_10_method_49_code
def yX8_answered : MethodName := ⟨RX8, "answered", "(II)I"⟩
abbrev cX8_take : ByteArray := prog_10_method_50_code
def yX8_take : MethodName := ⟨RX8, "take", "(II)I"⟩
abbrev cX8_gossip : ByteArray := prog_10_method_51_code
def yX8_gossip : MethodName := ⟨RX8, "gossip", "(II)I"⟩
abbrev cX8_holds : ByteArray := prog_10_method_52_code
def yX8_holds : MethodName := ⟨RX8, "holds", "(II)I"⟩
abbrev cX8_held : ByteArray := prog_10_method_53_code
def yX8_held : MethodName := ⟨RX8, "held", "(III)I"⟩
abbrev cX8_fact : ByteArray := prog_10_method_54_code
def yX8_fact : MethodName := ⟨RX8, "fact", "(III)I"⟩
abbrev cX8_isRecord : ByteArray := prog_10_method_55_code
def yX8_isRecord : MethodName := ⟨RX8, "isRecord", "(II)Z"⟩
abbrev cX8_record : ByteArray := prog_10_method_56_code
def yX8_record : MethodName := ⟨RX8, "record", "(III)I"⟩
abbrev cX8_lays : ByteArray := prog_10_method_57_code
def yX8_lays : MethodName := ⟨RX8, "lays", "([BII)V"⟩
abbrev cX8_lay : ByteArray := prog_10_method_58_code
def yX8_lay : MethodName := ⟨RX8, "lay", "(II)I"⟩
abbrev cX8_desk : ByteArray := prog_10_method_59_code
def yX8_desk : MethodName := ⟨RX8, "desk", "(I)I"⟩
abbrev cX8_patch : ByteArray := prog_10_method_60_code
def yX8_patch : MethodName := ⟨RX8, "patch", "(II)Z"⟩
abbrev cX8_trim : ByteArray := prog_10_method_61_code
def yX8_trim : MethodName := ⟨RX8, "trim", "(I)Z"⟩
abbrev cX8_audit : ByteArray := prog_10_method_62_code
def yX8_audit : MethodName := ⟨RX8, "audit", "()Z"⟩
abbrev cX8_hash : ByteArray := prog_10_method_63_code
def yX8_hash : MethodName := ⟨RX8, "hash", "(I)I"⟩
def RJ9 : String := "java/lang/Math"
def TJ9 : u_T := fun k => match k with
  | _ => ("", "", "", false)
def tyJ9 : Nat → FieldType := fun k => match k with
  | _ => .int
abbrev wsJ90 : List Cond := u_ws RJ9 TJ9 0
theorem nmJ9 : ∀ a, a < 0 → ∀ b, b < 0 → a ≠ b → (TJ9 a).2.1 ≠ (TJ9 b).2.1 := by decide +kernel
theorem tyJ9_ok : ∀ k, k < 0 → parseFieldDescriptor (TJ9 k).2.2.1 = some (tyJ9 k) := by decide +kernel
abbrev cJ9_max_7cf53 : ByteArray := prog_11_method_65_code
def yJ9_max_7cf53 : MethodName := ⟨RJ9, "max", "(II)I"⟩
def RJ10 : String := "java/lang/System"
def TJ10 : u_T := fun k => match k with
  | _ => ("", "", "", false)
def tyJ10 : Nat → FieldType := fun k => match k with
  | _ => .int
abbrev wsJ100 : List Cond := u_ws RJ10 TJ10 0
theorem nmJ10 : ∀ a, a < 0 → ∀ b, b < 0 → a ≠ b → (TJ10 a).2.1 ≠ (TJ10 b).2.1 := by decide +kernel
theorem tyJ10_ok : ∀ k, k < 0 → parseFieldDescriptor (TJ10 k).2.2.1 = some (tyJ10 k) := by decide +kernel
def RL : String := "GossipWatchLaw"
abbrev cL_cell : ByteArray := method_2_code
def yL_cell : MethodName := ⟨RL, "cell", "([II)I"⟩
abbrev cL_law : ByteArray := code
def yL_law : MethodName := ⟨RL, "law", "([I)Z"⟩
abbrev vwCl : List vw_C := [(RX0, TX0, 2), (RX1, TX1, 1), (RX2, TX2, 2), (RX3, TX3, 9), (RX4, TX4, 2), (RX5, TX5, 4), (RX6, TX6, 3), (RX7, TX7, 9), (RX8, TX8, 35)]
set_option maxRecDepth 20000 in
theorem inX0 : ∀ w ∈ wsX00, w ∈ lw_tbl := by decide +kernel
set_option maxRecDepth 20000 in
theorem inX1 : ∀ w ∈ wsX10, w ∈ lw_tbl := by decide +kernel
set_option maxRecDepth 20000 in
theorem inX2 : ∀ w ∈ wsX20, w ∈ lw_tbl := by decide +kernel
set_option maxRecDepth 20000 in
theorem inX3 : ∀ w ∈ wsX30, w ∈ lw_tbl := by decide +kernel
set_option maxRecDepth 20000 in
theorem inX4 : ∀ w ∈ wsX40, w ∈ lw_tbl := by decide +kernel
set_option maxRecDepth 20000 in
theorem inX5 : ∀ w ∈ wsX50, w ∈ lw_tbl := by decide +kernel
set_option maxRecDepth 20000 in
theorem inX6 : ∀ w ∈ wsX60, w ∈ lw_tbl := by decide +kernel
set_option maxRecDepth 20000 in
theorem inX7 : ∀ w ∈ wsX70, w ∈ lw_tbl := by decide +kernel
set_option maxRecDepth 20000 in
theorem inX8 : ∀ w ∈ wsX80, w ∈ lw_tbl := by decide +kernel
end
section
/-! the abstract machine: heaps as a size and a function, nothing below the base ever written -/
abbrev mC : Type := Nat × MethodName × ByteArray × Nat × Option FieldType × Nat × Nat
abbrev mE : Type := Instr × Nat × Nat × Int32
abbrev mRf : Type := (Nat × Nat) ⊕ Int32 ⊕ Int64 ⊕ mC ⊕ Nat
abbrev mX : Type := Nat × Nat × (Nat → Int32)
abbrev mG : Type := va_G × (Nat → ClassId) × Heap × (Nat → mX)
abbrev mS : Type := Nat × (Nat → va_E)
abbrev mL : Type := List (Nat × Value)
def mT : List Cond := lw_tbl.filter goodWord
theorem mT_in {w : Cond} (h : w ∈ lw_tbl) (g : goodWord w = true) : w ∈ mT := List.mem_filter.mpr ⟨h, g⟩
def mb (G : mG) : Nat := G.2.2.1.size
def mTys (G : mG) : List (ClassId × FieldType) := [(G.2.1 0, .int), (G.2.1 1, .byte), (G.2.1 2, .object RX4), (G.2.1 3, .object RX6), (G.2.1 4, .object RX2), (G.2.1 5, .object RX3), (G.2.1 6, .array .int)]
/-- words that don't go through calls by themselves: they are carried as facts of the state -/
def mNest : List (Nat × MethodName) := [(11, yX5_init), (18, yX1_init), (29, yX0_init), (47, yX2_init)]
def mOver : List String := [RX6, RX4, RX2, RX3]
def mr (G : mG) (S : mS) (H : Heap) : Prop := H.size = S.1 ∧ mb G ≤ S.1 ∧ (∀ q : Nat, q < mb G → H[q]? = G.2.2.1[q]?) ∧ ∀ a : Nat, mb G ≤ a → a < S.1 → va_at G.1 vwCl (a, S.2 a) H
def mAt (G : mG) (S : mS) (a : Nat) (e : va_E) : Prop := mb G ≤ a ∧ a < S.1 ∧ S.2 a = e
def mUp (S : mS) (a : Nat) (e : va_E) : mS := (S.1, va_up S.2 a e)
def mPush (S : mS) (e : va_E) : mS := (S.1 + 1, va_up S.2 S.1 e)
section MH
variable {G : mG} {S : mS} {H H1 : Heap} {a : Nat} {e e0 : va_E}
theorem mr.at (h : mr G S H) (ha : mAt G S a e) : va_at G.1 vwCl (a, e) H := by
  have h1 := h.2.2.2 a ha.1 ha.2.1
  rw [ha.2.2] at h1
  exact h1
theorem mr.one (h : mr G S H) (ha : mAt G S a e) : va_P G.1 vwCl [(a, e)] H := by
  intro k q hk
  cases k with
  | zero => cases hk; exact h.at ha
  | succ k => simp at hk
theorem mr.set (h : mr G S H) (ha : mAt G S a e0) (he : va_at G.1 vwCl (a, e) H1) (z : H1.size = H.size) (oq : ∀ q : Nat, q ≠ a → H1[q]? = H[q]?) : mr G (mUp S a e) H1 := by
  refine ⟨z.trans h.1, h.2.1, fun q hq => ?_, fun q h1 h2 => ?_⟩
  · rw [oq q (by have := ha.1; omega)]
    exact h.2.2.1 q hq
  · by_cases hq : q = a
    · subst hq
      have e1 : (mUp S q e).2 q = e := by simp [mUp, va_up]
      rw [e1]
      exact he
    · have e1 : (mUp S a e).2 q = S.2 q := by simp [mUp, va_up, hq]
      rw [e1]
      exact (h.2.2.2 q h1 h2).kept (oq q hq)
theorem mr.push (h : mr G S H) (he : va_at G.1 vwCl (S.1, e) H1) (z : H1.size = S.1 + 1) (oq : ∀ q : Nat, q < S.1 → H1[q]? = H[q]?) : mr G (mPush S e) H1 := by
  have hb := h.2.1
  refine ⟨z, Nat.le_succ_of_le hb, fun q hq => ?_, fun q h1 h2 => ?_⟩
  · rw [oq q (by omega)]
    exact h.2.2.1 q hq
  · by_cases hq : q = S.1
    · subst hq
      have e1 : (mPush S e).2 S.1 = e := by simp [mPush, va_up]
      rw [e1]
      exact he
    · have e1 : (mPush S e).2 q = S.2 q := by simp [mPush, va_up, hq]
      have h3 : q < S.1 + 1 := h2
      have h4 : q < S.1 := by omega
      rw [e1]
      exact (h.2.2.2 q h1 h4).kept (oq q h4)
end MH
section MW
variable {p : Program} {l : Launch} {e : Env} {R : Room} {s : State} {m : MethodId} {args : Array Value} {below : List Frame} {meth : Method} {c : Code} {H : Heap} {locs : List Loc} {cells slots : Nat} {Q : State → Prop}
variable {cc : ByteArray} {pc : Nat} {ls : Array Slot} {rest : List Value} {G : mG} {S : mS} {a : Nat}
theorem r_put (hexec : p.tables.exec = Jvm.exec) (hb : c.code = cc) {own C : String} {T : u_T} {N ci index : Nat} {Ts : List Cond} (hts : ∀ w ∈ Ts, w.before args s = true) (hin : ∀ w ∈ u_ws C T N, w ∈ Ts) (ty0 : Nat → FieldType) (hty : ∀ k, k < N → parseFieldDescriptor (T k).2.2.1 = some (ty0 k)) (hnm : ∀ a, a < N → ∀ b, b < N → a ≠ b → (T a).2.1 ≠ (T b).2.1) (hown : s.vm.findClass own = some m.cls) (hK : va_K G.1 vwCl (mTys G) s) (hr : mr G S H) {fs : List Value} (ha : mAt G S a (.inr (ci, fs))) (hc : vwCl[ci]? = some (C, T, N)) (k : Nat) (hk : k < N) (hlink : (Cond.fieldLink own index (T k).1 (T k).2.1 (T k).2.2.1).before args s = true)
    (hfin : (T k).2.2.2 = false ∨ ((T k).2.2.2 = true ∧ meth.name = "<init>" ∧ (T k).1 = own)) {v : Value} (hn : narrow (ty0 k) v = v) (hfit : fits (ty0 k) v = true) (hl : k < fs.length) (hdg : decode cc pc = .ok (.putfield index, 3))
    (kk : ∀ (H1 : Heap) (L : Loc), L.base = a → mr G (mUp S a (.inr (ci, fs.set k v))) H1 → W p l e R s m args below meth c H1 (locs ++ [L]) cells slots Q (F0 m (pc + 3) ls rest)) : W p l e R s m args below meth c H locs cells slots Q (F0 m pc ls (v :: .ref a :: rest)) := by
  have hd := hty k hk
  have hap := va_apart (own := own) hts hin ty0 hty hnm hK hc
  obtain ⟨r, h1, cell, q1, q2, q3, q4⟩ := hr.at ha
  have hrr : r = (C, T, N) := Option.some.inj (h1.symm.trans hc)
  subst hrr
  obtain ⟨hS, hfc, kC, hkC, hkind⟩ := hK.1 ci _ hc
  obtain ⟨cf, kf, fi, f, hi, hsl⟩ := hS k hk
  have hlay := hts _ (hin _ (u_in_lay hk))
  have hst := (u_facts hfc hkC (u_lays hts hin hk) hi).1
  rcases hfin with hfin | ⟨hfin, hin2, hdecl⟩
  · unfold u_lay at hlay
    rw [if_neg (by rw [hfin]; decide)] at hlay
    have h6 := u_store hfc hkC hkind hlay hi hd hn hfit
    refine W.putK hexec hb (f := f) ⟨hown, hlink, ⟨_, _, _, hi⟩, hst⟩ (by rw [q2]; exact h6) q1 q3 (by rw [hsl]; exact k2_hasslot (q4 k hk)) rfl rfl hdg fun H' e1 e2 e3 => ?_
    rw [hsl] at e1
    exact kk H' _ rfl (hr.set ha ⟨_, hc, t_OB.to (V := updV (vp_V fs) k v) ⟨_, e1, q2, q3, t_set q4 hap hk v⟩ (fun j _ => vp_updV_set hl v j)⟩ e2 e3)
  · unfold u_lay at hlay
    rw [if_pos hfin] at hlay
    have hcf : m.cls = cf := by
      obtain ⟨_, _, c', _, _, _, -, -, hf', -, -, -, hown2, -⟩ := Cond.laysFinal_spec hlay
      have e1 : c' = cf := by have := hi.symm.trans hf'; simp at this; exact this.1.symm
      rw [hdecl] at hown2
      rw [← e1]; exact Option.some.inj (hown.symm.trans hown2)
    have h6 := u_fits hfc hkC hkind (Or.inr hlay) hi hd hn hfit
    refine W.putFinK hexec hb hown hlink hi hst hcf hin2 (by rw [q2]; exact h6) q1 q3 (by rw [hsl]; exact k2_hasslot (q4 k hk)) rfl rfl hdg fun H' e1 e2 e3 => ?_
    rw [hsl] at e1
    exact kk H' _ rfl (hr.set ha ⟨_, hc, t_OB.to (V := updV (vp_V fs) k v) ⟨_, e1, q2, q3, t_set q4 hap hk v⟩ (fun j _ => vp_updV_set hl v j)⟩ e2 e3)
theorem r_iast (hexec : p.tables.exec = Jvm.exec) (hb : c.code = cc) (hK : va_K G.1 vwCl (mTys G) s) (hr : mr G S H) {n : Nat} {f : Nat → Int32} (ha : mAt G S a (.inl (G.2.1 0, n, .inl f))) {i x : Int32} (hin : vp_in i n) (hdg : decode cc pc = .ok (.iastore, 1))
    (kk : ∀ (H1 : Heap) (L : Loc), L.base = a → mr G (mUp S a (.inl (G.2.1 0, n, .inl (upd f i.toNatClampNeg x)))) H1 → W p l e R s m args below meth c H1 (locs ++ [L]) cells slots Q (F0 m (pc + 1) ls rest)) : W p l e R s m args below meth c H locs cells slots Q (F0 m pc ls (.int x :: .int i :: .ref a :: rest)) := by
  refine W.iast hexec hb (hr.at ha) ((hK.2 0 (G.2.1 0, .int) rfl).1 n (fun j => .int (f j))) (fun q => by cases q) (by show ¬ (i < 0 ∨ (arrV _ _ _).slots.size ≤ _); rw [arrV_size]; exact hin) rfl rfl hdg fun H1 e z oq => ?_
  refine kk H1 _ rfl (hr.set ha ?_ z oq)
  show H1[a]? = some (vp_cell _ _)
  rw [e]
  rw [vp_cell_i, vp_cell_i, arrV_store]
  congr 2
  funext q
  by_cases hq : q = i.toNatClampNeg
  · subst hq
    simp [updV, upd]
  · simp [updV, upd, hq]
theorem r_bast (hexec : p.tables.exec = Jvm.exec) (hb : c.code = cc) (hK : va_K G.1 vwCl (mTys G) s) (hr : mr G S H) {n : Nat} {f : Nat → Int32} (ha : mAt G S a (.inl (G.2.1 1, n, .inl f))) {i x : Int32} (hin : vp_in i n) (hdg : decode cc pc = .ok (.bastore, 1))
    (kk : ∀ (H1 : Heap) (L : Loc), L.base = a → mr G (mUp S a (.inl (G.2.1 1, n, .inl (upd f i.toNatClampNeg x.toInt8.toInt32)))) H1 → W p l e R s m args below meth c H1 (locs ++ [L]) cells slots Q (F0 m (pc + 1) ls rest)) : W p l e R s m args below meth c H locs cells slots Q (F0 m pc ls (.int x :: .int i :: .ref a :: rest)) := by
  refine W.bast hexec hb (hr.at ha) ((hK.2 1 (G.2.1 1, .byte) rfl).1 n (fun j => .int (f j))) (fun q => by cases q) (by show ¬ (i < 0 ∨ (arrV _ _ _).slots.size ≤ _); rw [arrV_size]; exact hin) rfl rfl hdg fun H1 e z oq => ?_
  refine kk H1 _ rfl (hr.set ha ?_ z oq)
  show H1[a]? = some (vp_cell _ _)
  rw [e]
  rw [vp_cell_i, vp_cell_i, arrV_store]
  congr 2
  funext q
  by_cases hq : q = i.toNatClampNeg
  · subst hq
    simp [updV, upd, narrow]
  · simp [updV, upd, hq]
theorem r_aast (hexec : p.tables.exec = Jvm.exec) (hb : c.code = cc) (hK : va_K G.1 vwCl (mTys G) s) (hr : mr G S H) {t0 ci n v : Nat} {r : vw_C} {cA : ClassId} {vs : List Value} {f : Nat → Option Nat} (ht : (mTys G)[t0]? = some (cA, .object r.1)) (hc : vwCl[ci]? = some r) (ha : mAt G S a (.inl (cA, n, .inr (.inr (.inr (.inr f)))))) (hv : mAt G S v (.inr (ci, vs))) {i : Int32} (hin : vp_in i n) (hdg : decode cc pc = .ok (.aastore, 1))
    (kk : ∀ (H1 : Heap) (L : Loc), L.base = a → mr G (mUp S a (.inl (cA, n, .inr (.inr (.inr (.inr (va_up f i.toNatClampNeg (some v)))))))) H1 → W p l e R s m args below meth c H1 (locs ++ [L]) cells slots Q (F0 m (pc + 1) ls rest)) : W p l e R s m args below meth c H locs cells slots Q (F0 m pc ls (.ref v :: .int i :: .ref a :: rest)) := by
  have hlt : i.toNatClampNeg < n := Nat.not_le.mp fun q => hin (Or.inr q)
  have h0 : ¬ i < 0 := fun q => hin (Or.inl q)
  obtain ⟨r', hr', cellV, g1, g2, g3, -⟩ := hr.at hv
  have hcls := (hK.1 ci r hc).2
  obtain ⟨kA, comp, k1, k2, k3, -⟩ := (hK.2 t0 _ ht).2
  have hcomp : comp = G.1.1 ci := Option.some.inj (k3.symm.trans hcls.1)
  subst hcomp
  obtain ⟨kC, hkC, -⟩ := id hcls.2
  refine W.aast hexec hb (hr.at ha) (fun q h => by cases h) (fun h => by cases h) k1 k2 rfl hkC ⟨h0, by show _ < (arrV _ _ _).slots.size; rw [arrV_size]; exact hlt⟩ g1 (fun q h => by rw [g3] at h; cases h) (by rw [g2]; exact hkC) (by rw [g2]; exact va_assign hcls) rfl rfl hdg fun H1 e z oq => ?_
  refine kk H1 _ rfl (hr.set ha ?_ z oq)
  show H1[a]? = some (vp_cell _ _)
  rw [e]
  rw [vp_cell_q, vp_cell_q, arrV_store]
  congr 2
  funext q
  by_cases hq : q = i.toNatClampNeg
  · subst hq
    simp [updV, va_up, va_rf]
  · simp [updV, va_up, hq]
theorem r_aald (hexec : p.tables.exec = Jvm.exec) (hb : c.code = cc) (hK : va_K G.1 vwCl (mTys G) s) (hr : mr G S H) {t0 n : Nat} {cA : ClassId} {ty : FieldType} {f : Nat → Option Nat} (ht : (mTys G)[t0]? = some (cA, ty)) (hty : ty.isReference = true) (ha : mAt G S a (.inl (cA, n, .inr (.inr (.inr (.inr f)))))) {i : Int32} (hin : vp_in i n) (hdg : decode cc pc = .ok (.aaload, 1))
    (kk : W p l e R s m args below meth c H locs cells slots Q (F0 m (pc + 1) ls (va_rf (f i.toNatClampNeg) :: rest))) : W p l e R s m args below meth c H locs cells slots Q (F0 m pc ls (.int i :: .ref a :: rest)) := by
  have hlt : i.toNatClampNeg < n := Nat.not_le.mp fun q => hin (Or.inr q)
  exact W.aald (v := va_rf (f i.toNatClampNeg)) (ty := ty) hexec hb (hr.at ha) ((hK.2 t0 _ ht).1 n (fun j => va_rf (f j))) hty (fun q => by cases q) (by show ¬ (i < 0 ∨ (arrV _ _ _).slots.size ≤ _); rw [arrV_size]; exact hin) (by show (arrV _ _ _).slots[_]? = _; rw [arrV_read _ _ hlt]) rfl rfl hdg kk
theorem r_new {own C : String} {T : u_T} {N ci index : Nat} {Ts : List Cond} (hexec : p.tables.exec = Jvm.exec) (hb : c.code = cc) (hts : ∀ w ∈ Ts, w.before args s = true) (hin : ∀ w ∈ u_ws C T N, w ∈ Ts) (ty : Nat → FieldType) (hty : ∀ k, k < N → parseFieldDescriptor (T k).2.2.1 = some (ty k)) (hown : s.vm.findClass own = some m.cls) (hcl : (Cond.classLink own index C).before args s = true) (hinst : (Cond.instantiable C N).before args s = true) (hini : (Cond.initialized C).before args s = true)
    (hK : va_K G.1 vwCl (mTys G) s) (hr : mr G S H) (hc : vwCl[ci]? = some (C, T, N)) {fs : List Value} (hfs : ∀ j, j < N → defaultValue (ty j) = vp_V fs j) (hcells : cells + 1 ≤ R.cells) (hslots : slots + N ≤ R.slots) (hdg : decode cc pc = .ok (.new index, 3))
    (kk : ∀ (H1 : Heap), mr G (mPush S (.inr (ci, fs))) H1 → W p l e R s m args below meth c H1 locs (cells + 1) (slots + N) Q (F0 m (pc + 3) ls (.ref S.1 :: rest))) : W p l e R s m args below meth c H locs cells slots Q (F0 m pc ls rest) := by
  have hKn := hK.1 ci _ hc
  refine W.newcK hexec hb hown hcl hinst hini rfl hdg hcells hslots hKn.2.1 hr.1 fun H1 kC hkC e1 z1 o1 => ?_
  exact kk H1 (hr.push ⟨_, hc, (u_born ty hts hin hKn hkC e1 hty).to hfs⟩ z1 o1)
theorem r_newa (hexec : p.tables.exec = Jvm.exec) (hb : c.code = cc) {atype : ArrayType} {t0 : Nat} {cA0 : ClassId} (harr : (Cond.arrayClass (newarray.typeOf atype)).before args s = true) (hK : va_K G.1 vwCl (mTys G) s) (ht : (mTys G)[t0]? = some (cA0, newarray.typeOf atype)) (hprim : ∀ (A : ClassId), va_RA s A (newarray.typeOf atype) → s.vm.findClass ("[" ++ (newarray.typeOf atype).toString) = some A) (hr : mr G S H)
    {n : Int32} {N' : Nat} (h0 : defaultValue (newarray.typeOf atype) = .int 0) (hn : ¬ n < 0) (hN : n.toNatClampNeg = N') (hbytes : N' * componentBytes (newarray.typeOf atype) ≤ 536870912) (hcells : cells + 1 ≤ R.cells) (hslots : slots + N' ≤ R.slots) (hdg : decode cc pc = .ok (.newarray atype, 2))
    (kk : ∀ (H1 : Heap), mr G (mPush S (.inl (cA0, N', .inl (fun _ => 0)))) H1 → W p l e R s m args below meth c H1 locs (cells + 1) (slots + N') Q (F0 m (pc + 2) ls (.ref S.1 :: rest))) : W p l e R s m args below meth c H locs cells slots Q (F0 m pc ls (.int n :: rest)) := by
  refine va_newaK hexec hb harr rfl hdg rfl hn hN hbytes hcells hslots hr.1 fun H1 cA e1 z1 o1 hAr hNm => ?_
  have hcA : cA = cA0 := Option.some.inj (hNm.symm.trans (hprim _ (hK.2 t0 _ ht).2))
  subst hcA
  refine kk H1 (hr.push ?_ z1 o1)
  show H1[S.1]? = some (vp_cell _ _)
  rw [e1, h0]
  rfl
theorem r_newq (hexec : p.tables.exec = Jvm.exec) (hb : c.code = cc) {own C : String} {index t0 : Nat} {cA0 : ClassId} (hown : s.vm.findClass own = some m.cls) (hclink : (Cond.classLink own index C).before args s = true) (hover : va_AO C s) (hK : va_K G.1 vwCl (mTys G) s) (ht : (mTys G)[t0]? = some (cA0, .object C)) (hr : mr G S H)
    {n : Int32} {N' : Nat} (hn : ¬ n < 0) (hN : n.toNatClampNeg = N') (hbytes : N' * 4 ≤ 536870912) (hcells : cells + 1 ≤ R.cells) (hslots : slots + N' ≤ R.slots) (hdg : decode cc pc = .ok (.anewarray index, 3))
    (kk : ∀ (H1 : Heap), mr G (mPush S (.inl (cA0, N', .inr (.inr (.inr (.inr (fun _ => none))))))) H1 → W p l e R s m args below meth c H1 locs (cells + 1) (slots + N') Q (F0 m (pc + 3) ls (.ref S.1 :: rest))) : W p l e R s m args below meth c H locs cells slots Q (F0 m pc ls (.int n :: rest)) := by
  subst hN
  refine W.anew hexec hb hown hclink (va_AO.use hover) rfl hdg rfl hn hbytes hcells hslots fun cA kA comp f1 f2 f3 f4 => ?_
  obtain ⟨kA', comp', -, -, -, g4⟩ := (hK.2 t0 _ ht).2
  have hcA : cA = cA0 := Option.some.inj (f1.symm.trans g4)
  subst hcA
  rw [hr.1]
  generalize hH1 : H.push ({ cls := cA, slots := Array.replicate n.toNatClampNeg .null, vm := .none } : Cell) = H1
  have z1 : H1.size = S.1 + 1 := by rw [← hH1, Array.size_push, hr.1]
  have e1 : H1[S.1]? = some (arrV cA n.toNatClampNeg (fun _ => .null)) := by rw [← hH1, ← hr.1, Array.getElem?_push_size, ← arrV_new]
  have o1 : ∀ q : Nat, q < S.1 → H1[q]? = H[q]? := fun q hq => by rw [← hH1, Array.getElem?_push, if_neg (by rw [hr.1]; exact Nat.ne_of_lt hq)]
  refine kk H1 (hr.push ?_ z1 o1)
  show H1[S.1]? = some (vp_cell _ _)
  rw [vp_cell_q]
  exact e1
end MW
end
section
section MCP
variable {p : Program} {l : Launch} {e : Env} {R : Room} {s : State} {m : MethodId} {args : Array Value} {below : List Frame} {meth : Method} {c : Code} {H : Heap} {locs : List Loc} {cells slots : Nat} {Q : State → Prop}
variable {cc : ByteArray} {pc : Nat} {ls : Array Slot} {rest : List Value} {G : mG} {S : mS} {a : Nat}
/-- a row of ints that is read alone: the script, the two tables -/
theorem r_xld (hexec : p.tables.exec = Jvm.exec) (hb : c.code = cc) {x : mX} (hX : va_X x.1 x.2.1 x.2.2 s G.2.2.1) (hr : mr G S H) (hlt : x.1 < mb G) {i : Int32} (hin : vp_in i x.2.1) (hdg : decode cc pc = .ok (.iaload, 1))
    (kk : W p l e R s m args below meth c H locs cells slots Q (F0 m (pc + 1) ls (.int (x.2.2 i.toNatClampNeg) :: rest))) : W p l e R s m args below meth c H locs cells slots Q (F0 m pc ls (.int i :: .ref x.1 :: rest)) := by
  obtain ⟨scr, h1, h2, h3, h4, h5⟩ := hX
  have hl : i.toNatClampNeg < x.2.1 := Nat.not_le.mp fun q => hin (Or.inr q)
  exact W.iald (v := .int (x.2.2 i.toNatClampNeg)) hexec hb (by rw [hr.2.2.1 x.1 hlt]; exact h1) h2 h3 (by rw [h4]; exact hin) (h5 _ hl) rfl rfl hdg kk
theorem r_xlen (hexec : p.tables.exec = Jvm.exec) (hb : c.code = cc) {x : mX} (hX : va_X x.1 x.2.1 x.2.2 s G.2.2.1) (hr : mr G S H) (hlt : x.1 < mb G) (hdg : decode cc pc = .ok (.arraylength, 1))
    (kk : W p l e R s m args below meth c H locs cells slots Q (F0 m (pc + 1) ls (.int (Int32.ofNat x.2.1) :: rest))) : W p l e R s m args below meth c H locs cells slots Q (F0 m pc ls (.ref x.1 :: rest)) := by
  obtain ⟨scr, h1, h2, h3, h4, h5⟩ := hX
  exact W.alen (n := Int32.ofNat x.2.1) hexec hb (by rw [hr.2.2.1 x.1 hlt]; exact h1) h2 (by rw [h4] <;> rfl) rfl rfl hdg kk
theorem r_gets (hexec : p.tables.exec = Jvm.exec) (hb : c.code = cc) {C n d own : String} {v : Value} {index : Nat} {A : Nat → Prop} (hZ : va_Z C n d v A s G.2.2.1) (hr : mr G S H) (hown : s.vm.findClass own = some m.cls) (hlink : (Cond.fieldLink own index C n d).before args s = true) (hdg : decode cc pc = .ok (.getstatic index, 3))
    (kk : W p l e R s m args below meth c H locs cells slots Q (F0 m (pc + 3) ls (v :: rest))) : W p l e R s m args below meth c H locs cells slots Q (F0 m pc ls rest) := by
  obtain ⟨cf, kf, fi, f, a, cell, h1, h2, h3, h4, h5, h6, h7, h8⟩ := hZ
  exact W.gets hexec hb hown hlink h1 h2 h3 h4 (by rw [hr.2.2.1 a (Array.getElem?_eq_some_iff.mp h5).1]; exact h5) (fun e => by rw [e] at h6; cases h6) h7 rfl hdg kk
theorem m_copied {c1 : ClassId} {n1 sp dp n L : Nat} (src : Cell) (f g : Nat → Int32) (hv : ∀ j : Nat, j < L → src.slots[j]? = some (.int (f j))) (hs : sp + n ≤ L) :
    (arrV c1 n1 (fun j => .int (g j))).storeRun dp (src.stretch sp n) = arrV c1 n1 (fun j => .int (va_cpy f g sp dp n j)) := by
  have e : src.stretch sp n = (List.range n).map (fun i => Value.int (f (sp + i))) := by
    unfold Cell.stretch
    apply List.map_congr_left
    intro i hi
    have hi' := List.mem_range.mp hi
    rw [Array.getD_eq_getD_getElem?, hv _ (by omega)]
    rfl
  rw [e, Cell.storeRun, va_pairs]
  congr 1
  funext k
  simp only [va_cpy, List.length_map, List.length_range, Nat.add_zero]
  by_cases h : dp ≤ k ∧ k < dp + n
  · rw [if_pos h, if_pos h, List.getD_eq_getElem?_getD, List.getElem?_map, List.getElem?_range (by omega)]
    rfl
  · rw [if_neg h, if_neg h]
theorem m_nn : ∀ z : Int32, ¬ z < 0 → z.toInt = (z.toNatClampNeg : Int) := by
  intro z hz
  have hz0 : (0 : Int) ≤ z.toInt := by
    have := Int32.not_lt.mp hz
    simpa using Int32.le_iff_toInt_le.mp this
  show z.toInt = ((z.toInt.toNat : Nat) : Int)
  omega
/-- arraycopy out of any int-like row 'src' into one of ours -/
theorem r_copy (hexec : p.tables.exec = Jvm.exec) (hb : c.code = cc) (hml : c.maxLocals = ls.size) {own : String} {index : Nat} (hown : s.vm.findClass own = some m.cls) (hlink : (Cond.methodLink own index arraycopyName).before args s = true) (hnat : (Cond.native arraycopyName).before args s = true) (hstat : (Cond.static arraycopyName).before args s = true) (hini : (Cond.initialized "java/lang/System").before args s = true)
    (hK : va_K G.1 vwCl (mTys G) s) (hr : mr G S H) {t1 a0 n0 n1 : Nat} {c1 : ClassId} {f g : Nat → Int32} {ty : FieldType} {src : Cell} (hc0 : H[a0]? = some src) (hob : s.isArrayOf src ty) (hkn : src.vm ≠ .unknown) (hz0 : src.slots.size = n0) (hv0 : ∀ j : Nat, j < n0 → src.slots[j]? = some (.int (f j)))
    (ha1 : mAt G S a (.inl (c1, n1, .inl g))) (ht1 : (mTys G)[t1]? = some (c1, ty)) (hprim : refKind ty = false)
    {sp dp n : Int32} (h1 : ¬ sp < 0) (h2 : ¬ dp < 0) (h3 : ¬ n < 0) (h4 : sp.toNatClampNeg + n.toNatClampNeg ≤ n0) (h5 : dp.toNatClampNeg + n.toNatClampNeg ≤ n1) (hfit : ∀ i, i < n.toNatClampNeg → fits ty (.int (f (sp.toNatClampNeg + i))) = true)
    (hframes : 1 ≤ R.frames) (hlocals : (rest.map fun v => v.category).sum + (nativeFrameWords "java/lang/System" "arraycopy" 5 + 11) ≤ R.locals) (hdg : decode cc pc = .ok (.invokestatic index, 3))
    (kk : ∀ (H1 : Heap) (L : List Loc), (∀ q ∈ L, q.base = a) → mr G (mUp S a (.inl (c1, n1, .inl (va_cpy f g sp.toNatClampNeg dp.toNatClampNeg n.toNatClampNeg)))) H1 → W p l e R s m args below meth c H1 (locs ++ L) cells slots Q (F0 m (pc + 3) ls rest)) : W p l e R s m args below meth c H locs cells slots Q (F0 m pc ls (.int n :: .int dp :: .ref a :: .int sp :: .ref a0 :: rest)) := by
  intro T hT X
  have hc1 : H[a]? = some (vp_cell c1 (n1, .inl g)) := hr.at ha1
  obtain ⟨hst0, k0, hk0, cm0, hkk0⟩ := hob
  obtain ⟨-, k1, hk1, cm1, hkk1⟩ := (hK.2 t1 _ ht1).1 n1 (fun j => .int (g j))
  obtain ⟨vm', X', step⟩ := X.arraycopy hexec hown hlink hnat hstat hini (src := a0) (dst := a) (cs := src) (cd := vp_cell c1 (n1, .inl g)) (srcPos := sp) (destPos := dp) (n := n) (by rw [hT]; exact hc0) (by rw [hT]; exact hc1)
    hst0 (fun _ h => by cases h) hkn (fun h => by cases h) hk0 hk1 hkk0 hkk1 (by simp [hprim]) h1 h2 h3
    (by rw [m_nn sp h1, m_nn n h3, hz0]; omega)
    (by rw [m_nn dp h2, m_nn n h3]; show ¬ _ > ((arrV c1 n1 (fun j => .int (g j))).slots.size : Int); rw [arrV_size]; omega)
    (fun vm₁ _ i hi => by
      have e : src.slots.getD (sp.toNatClampNeg + i) .null = .int (f (sp.toNatClampNeg + i)) := by
        rw [Array.getD_eq_getD_getElem?, hv0 _ (by omega)]
        rfl
      refine ⟨?_, ?_⟩
      · rw [e]
        exact hfit i hi
      · rw [e]
        exact trivial)
    (g := F0 m pc ls (.int n :: .int dp :: .ref a :: .int sp :: .ref a0 :: rest)) rfl (by rw [hml]) (rest := rest) rfl (by rw [hb]; exact hdg) hframes (by show 2 * 0 + _ + _ ≤ _; omega)
  have e1 : copied src (vp_cell c1 (n1, .inl g)) sp dp n = vp_cell c1 (n1, .inl (va_cpy f g sp.toNatClampNeg dp.toNatClampNeg n.toNatClampNeg)) := m_copied src f g hv0 h4
  rw [e1] at X' step
  have hl : a < H.size := (Array.getElem?_eq_some_iff.mp hc1).1
  have hheap : ((T.setVm vm').setCell a (vp_cell c1 (n1, .inl (va_cpy f g sp.toNatClampNeg dp.toNatClampNeg n.toNatClampNeg)))).heap = H.setIfInBounds a (vp_cell c1 (n1, .inl (va_cpy f g sp.toNatClampNeg dp.toNatClampNeg n.toNatClampNeg))) := by rw [← hT]; rfl
  have oq : ∀ q : Nat, q ≠ a → (H.setIfInBounds a (vp_cell c1 (n1, .inl (va_cpy f g sp.toNatClampNeg dp.toNatClampNeg n.toNatClampNeg))))[q]? = H[q]? := fun q hq => by simp [Array.getElem?_setIfInBounds, Ne.symm hq]
  obtain ⟨t, a1, b1⟩ := kk _ _ (fun q h => by
    obtain ⟨z, -, hz⟩ := List.mem_map.mp h
    rw [← hz]) (hr.set ha1 (show (H.setIfInBounds a _)[a]? = some _ by simp [Array.getElem?_setIfInBounds, hl]) (by simp) oq) _ hheap X'
  exact ⟨t, step t a1, b1⟩
end MCP
end
section
/-! locals as a sorted list -/
def lget : mL → Nat → Option Value
  | [], _ => none
  | q :: r, i => bif Nat.beq q.1 i then some q.2 else lget r i
theorem lget_mem {lv : mL} {i : Nat} {v : Value} (h : lget lv i = some v) : (i, v) ∈ lv := by
  induction lv with
  | nil => cases h
  | cons q r ih =>
    unfold lget at h
    cases hq : Nat.beq q.1 i with
    | true =>
      rw [hq] at h
      have h1 : q.2 = v := Option.some.inj h
      have h2 : q.1 = i := Nat.eq_of_beq_eq_true hq
      rw [← h1, ← h2]
      exact List.mem_cons_self
    | false =>
      rw [hq] at h
      exact List.mem_cons_of_mem _ (ih h)
def lins : mL → Nat → Value → mL
  | [], i, v => [(i, v)]
  | q :: r, i, v => bif Nat.blt q.1 i then q :: lins r i v else (i, v) :: q :: r
theorem lins_mem {lv : mL} {i : Nat} {v : Value} {q : Nat × Value} (h : q ∈ lins lv i v) : q ∈ (i, v) :: lv := by
  induction lv with
  | nil => exact h
  | cons x r ih =>
    unfold lins at h
    cases hx : Nat.blt x.1 i with
    | true =>
      rw [hx] at h
      rcases List.mem_cons.mp h with h | h
      · rw [h]; exact List.mem_cons_of_mem _ List.mem_cons_self
      · rcases List.mem_cons.mp (ih h) with h | h
        · rw [h]; exact List.mem_cons_self
        · exact List.mem_cons_of_mem _ (List.mem_cons_of_mem _ h)
    | false =>
      rw [hx] at h
      exact h
def lset (lv : mL) (i : Nat) (v : Value) : mL := lins (lv.filter (fun q => !(q.1 == i) && !(q.1 + 1 == i && q.2.category == 2))) i v
def lset2 (lv : mL) (i : Nat) (v : Value) : mL := lins (lv.filter (fun q => !(q.1 == i) && (!(q.1 == i + 1) && !(q.1 + 1 == i && q.2.category == 2)))) i v
def ltrim (k : Nat) (lv : mL) : mL := lv.filter (fun q => Nat.blt q.1 k)
theorem lv_le {ls : Array Slot} {nL : Nat} {l l' : mL} (h : lv_has ls nL l) (hs : ∀ q ∈ l', q ∈ l) : lv_has ls nL l' := ⟨h.1, h.2.1, fun q hq => h.2.2 q (hs q hq)⟩
/-! what a step asks: branches, cells, calls -/
def eB (c A B : Prop) : Prop := (c → A) ∧ (¬ c → B)
theorem eB.i {c A B : Prop} (f : c → A) (g : ¬ c → B) : eB c A B := ⟨f, g⟩
theorem eB.t {c A B : Prop} (h : c) (a : A) : eB c A B := ⟨fun _ => a, fun q => absurd h q⟩
theorem eB.f {c A B : Prop} (h : ¬ c) (b : B) : eB c A B := ⟨fun q => absurd q h, fun _ => b⟩
def eZ (y : Int32) (A : Prop) : Prop := ¬ y = 0 ∧ A
theorem eZ.i {y : Int32} {A : Prop} (h : ¬ y = 0) (a : A) : eZ y A := ⟨h, a⟩
def eG (G : mG) (S : mS) (a ci k : Nat) (K : Value → Prop) : Prop := ∃ (fs : List Value) (v : Value), mAt G S a (.inr (ci, fs)) ∧ fs[k]? = some v ∧ K v
theorem eG.i {G : mG} {S : mS} {a ci k : Nat} {K : Value → Prop} {fs : List Value} {v : Value} (h : mAt G S a (.inr (ci, fs))) (hv : fs[k]? = some v) (kk : K v) : eG G S a ci k K := ⟨fs, v, h, hv, kk⟩
def mFt (ci k : Nat) : FieldType := match ci with
  | 0 => tyX0 k | 1 => tyX1 k | 2 => tyX2 k | 3 => tyX3 k | 4 => tyX4 k | 5 => tyX5 k | 6 => tyX6 k | 7 => tyX7 k | _ => tyX8 k
def eP (G : mG) (S : mS) (a ci k : Nat) (v : Value) (K : mS → Prop) : Prop := ∃ fs : List Value, mAt G S a (.inr (ci, fs)) ∧ k < fs.length ∧ narrow (mFt ci k) v = v ∧ fits (mFt ci k) v = true ∧ K (mUp S a (.inr (ci, fs.set k v)))
theorem eP.i {G : mG} {S : mS} {a ci k : Nat} {v : Value} {K : mS → Prop} {fs : List Value} (h : mAt G S a (.inr (ci, fs))) (hl : k < fs.length) (hn : narrow (mFt ci k) v = v) (hf : fits (mFt ci k) v = true) (kk : K (mUp S a (.inr (ci, fs.set k v)))) : eP G S a ci k v K := ⟨fs, h, hl, hn, hf, kk⟩
abbrev eIn (G : mG) (n : Nat) (f : Nat → Int32) : va_E := .inl (G.2.1 0, n, .inl f)
abbrev eBy (G : mG) (n : Nat) (f : Nat → Int32) : va_E := .inl (G.2.1 1, n, .inl f)
abbrev eRf (G : mG) (t n : Nat) (f : Nat → Option Nat) : va_E := .inl (G.2.1 t, n, .inr (.inr (.inr (.inr f))))
def eL (G : mG) (S : mS) (a : Nat) (i : Int32) (K : Int32 → Prop) : Prop := (∃ (n : Nat) (f : Nat → Int32), mAt G S a (eIn G n f) ∧ vp_in i n ∧ K (f i.toNatClampNeg)) ∨ ∃ j : Nat, j < 3 ∧ (G.2.2.2 j).1 = a ∧ vp_in i (G.2.2.2 j).2.1 ∧ K ((G.2.2.2 j).2.2 i.toNatClampNeg)
theorem eL.i {G : mG} {S : mS} {a n : Nat} {i : Int32} {K : Int32 → Prop} {f : Nat → Int32} (h : mAt G S a (eIn G n f)) (hi : vp_in i n) (kk : K (f i.toNatClampNeg)) : eL G S a i K := Or.inl ⟨n, f, h, hi, kk⟩
theorem eL.x {G : mG} {S : mS} {i : Int32} {K : Int32 → Prop} (j : Nat) (hj : j < 3) (hi : vp_in i (G.2.2.2 j).2.1) (kk : K ((G.2.2.2 j).2.2 i.toNatClampNeg)) : eL G S (G.2.2.2 j).1 i K := Or.inr ⟨j, hj, rfl, hi, kk⟩
def eLb (G : mG) (S : mS) (a : Nat) (i : Int32) (K : Int32 → Prop) : Prop := ∃ (n : Nat) (f : Nat → Int32), mAt G S a (eBy G n f) ∧ vp_in i n ∧ K (f i.toNatClampNeg)
theorem eLb.i {G : mG} {S : mS} {a n : Nat} {i : Int32} {K : Int32 → Prop} {f : Nat → Int32} (h : mAt G S a (eBy G n f)) (hi : vp_in i n) (kk : K (f i.toNatClampNeg)) : eLb G S a i K := ⟨n, f, h, hi, kk⟩
def eLq (G : mG) (S : mS) (a : Nat) (i : Int32) (K : Value → Prop) : Prop := ∃ (t n : Nat) (f : Nat → Option Nat), (2 ≤ t ∧ t < 7) ∧ mAt G S a (eRf G t n f) ∧ vp_in i n ∧ K (va_rf (f i.toNatClampNeg))
theorem eLq.i {G : mG} {S : mS} {a t n : Nat} {i : Int32} {K : Value → Prop} {f : Nat → Option Nat} (h : mAt G S a (eRf G t n f)) (ht : 2 ≤ t ∧ t < 7) (hi : vp_in i n) (kk : K (va_rf (f i.toNatClampNeg))) : eLq G S a i K := ⟨t, n, f, ht, h, hi, kk⟩
def eN (G : mG) (S : mS) (a : Nat) (K : Int32 → Prop) : Prop := (∃ (t n : Nat) (x : (Nat → Int32) ⊕ (Nat → Int64) ⊕ (Nat → UInt32) ⊕ (Nat → UInt64) ⊕ (Nat → Option Nat)), t < 7 ∧ mAt G S a (.inl (G.2.1 t, n, x)) ∧ K (nI n)) ∨ ∃ j : Nat, j < 3 ∧ (G.2.2.2 j).1 = a ∧ K (nI (G.2.2.2 j).2.1)
theorem eN.i {G : mG} {S : mS} {a t n : Nat} {K : Int32 → Prop} {x : (Nat → Int32) ⊕ (Nat → Int64) ⊕ (Nat → UInt32) ⊕ (Nat → UInt64) ⊕ (Nat → Option Nat)} (h : mAt G S a (.inl (G.2.1 t, n, x))) (ht : t < 7) (kk : K (nI n)) : eN G S a K := Or.inl ⟨t, n, x, ht, h, kk⟩
theorem eN.x {G : mG} {S : mS} {K : Int32 → Prop} (j : Nat) (hj : j < 3) (kk : K (nI (G.2.2.2 j).2.1)) : eN G S (G.2.2.2 j).1 K := Or.inr ⟨j, hj, rfl, kk⟩
def eS (G : mG) (S : mS) (a : Nat) (i x : Int32) (K : mS → Prop) : Prop := ∃ (n : Nat) (f : Nat → Int32), mAt G S a (eIn G n f) ∧ vp_in i n ∧ K (mUp S a (eIn G n (upd f i.toNatClampNeg x)))
theorem eS.i {G : mG} {S : mS} {a n : Nat} {i x : Int32} {K : mS → Prop} {f : Nat → Int32} (h : mAt G S a (eIn G n f)) (hi : vp_in i n) (kk : K (mUp S a (eIn G n (upd f i.toNatClampNeg x)))) : eS G S a i x K := ⟨n, f, h, hi, kk⟩
def eSb (G : mG) (S : mS) (a : Nat) (i x : Int32) (K : mS → Prop) : Prop := ∃ (n : Nat) (f : Nat → Int32), mAt G S a (eBy G n f) ∧ vp_in i n ∧ K (mUp S a (eBy G n (upd f i.toNatClampNeg x.toInt8.toInt32)))
theorem eSb.i {G : mG} {S : mS} {a n : Nat} {i x : Int32} {K : mS → Prop} {f : Nat → Int32} (h : mAt G S a (eBy G n f)) (hi : vp_in i n) (kk : K (mUp S a (eBy G n (upd f i.toNatClampNeg x.toInt8.toInt32)))) : eSb G S a i x K := ⟨n, f, h, hi, kk⟩
def mEl (t : Nat) : Option (Nat × vw_C) := match t with
  | 2 => some (4, (RX4, TX4, 2)) | 3 => some (6, (RX6, TX6, 3)) | 4 => some (2, (RX2, TX2, 2)) | 5 => some (3, (RX3, TX3, 9)) | _ => none
def eSq (G : mG) (S : mS) (a : Nat) (i : Int32) (v : Nat) (K : mS → Prop) : Prop := ∃ (t n : Nat) (f : Nat → Option Nat) (ci : Nat) (r : vw_C) (vs : List Value), mEl t = some (ci, r) ∧ mAt G S a (eRf G t n f) ∧ mAt G S v (.inr (ci, vs)) ∧ vp_in i n ∧ K (mUp S a (eRf G t n (va_up f i.toNatClampNeg (some v))))
theorem eSq.i {G : mG} {S : mS} {a t n v ci : Nat} {r : vw_C} {vs : List Value} {i : Int32} {K : mS → Prop} {f : Nat → Option Nat} (ht : mEl t = some (ci, r)) (h : mAt G S a (eRf G t n f)) (hv : mAt G S v (.inr (ci, vs))) (hi : vp_in i n) (kk : K (mUp S a (eRf G t n (va_up f i.toNatClampNeg (some v))))) : eSq G S a i v K := ⟨t, n, f, ci, r, vs, ht, h, hv, hi, kk⟩
/-- arraycopy: of bytes among ours, of ints out of a table -/
def eY (G : mG) (S : mS) (R : Room) (a0 : Nat) (sp : Int32) (a : Nat) (dp n : Int32) (K : mS → Prop) : Prop := (¬ sp < 0 ∧ ¬ dp < 0 ∧ ¬ n < 0) ∧ 1 ≤ R.frames ∧ 60 ≤ R.locals ∧
  ((∃ (n0 n1 : Nat) (f g : Nat → Int32), mAt G S a0 (eBy G n0 f) ∧ mAt G S a (eBy G n1 g) ∧ sp.toNatClampNeg + n.toNatClampNeg ≤ n0 ∧ dp.toNatClampNeg + n.toNatClampNeg ≤ n1 ∧ (∀ i, i < n.toNatClampNeg → fits .byte (.int (f (sp.toNatClampNeg + i))) = true) ∧ K (mUp S a (eBy G n1 (va_cpy f g sp.toNatClampNeg dp.toNatClampNeg n.toNatClampNeg)))) ∨
   ∃ (j n1 : Nat) (g : Nat → Int32), j < 3 ∧ (G.2.2.2 j).1 = a0 ∧ mAt G S a (eIn G n1 g) ∧ sp.toNatClampNeg + n.toNatClampNeg ≤ (G.2.2.2 j).2.1 ∧ dp.toNatClampNeg + n.toNatClampNeg ≤ n1 ∧ K (mUp S a (eIn G n1 (va_cpy (G.2.2.2 j).2.2 g sp.toNatClampNeg dp.toNatClampNeg n.toNatClampNeg))))
/-! stacks -/
def sI (st : List Value) (k : Int32 → List Value → Prop) : Prop := match st with | .int x :: r => k x r | _ => False
def sJ (st : List Value) (k : Int64 → List Value → Prop) : Prop := match st with | .long x :: r => k x r | _ => False
def sA (st : List Value) (k : Nat → List Value → Prop) : Prop := match st with | .ref x :: r => k x r | _ => False
def s1 (st : List Value) (k : Value → List Value → Prop) : Prop := match st with | .int x :: r => k (.int x) r | .ref x :: r => k (.ref x) r | .null :: r => k .null r | _ => False
def sQ (st : List Value) (k : Value → List Value → Prop) : Prop := match st with | .ref x :: r => k (.ref x) r | .null :: r => k .null r | _ => False
def s0 (st : List Value) (k : Prop) : Prop := match st with | [] => k | _ => False
theorem sI.inv {st : List Value} {k : Int32 → List Value → Prop} (h : sI st k) : ∃ x r, st = .int x :: r ∧ k x r := by
  unfold sI at h; split at h
  · exact ⟨_, _, rfl, h⟩
  · exact h.elim
theorem sJ.inv {st : List Value} {k : Int64 → List Value → Prop} (h : sJ st k) : ∃ x r, st = .long x :: r ∧ k x r := by
  unfold sJ at h; split at h
  · exact ⟨_, _, rfl, h⟩
  · exact h.elim
theorem sA.inv {st : List Value} {k : Nat → List Value → Prop} (h : sA st k) : ∃ x r, st = .ref x :: r ∧ k x r := by
  unfold sA at h; split at h
  · exact ⟨_, _, rfl, h⟩
  · exact h.elim
theorem s1.inv {st : List Value} {k : Value → List Value → Prop} (h : s1 st k) : ∃ v r, st = v :: r ∧ v.category = 1 ∧ k v r := by
  unfold s1 at h; split at h
  · exact ⟨_, _, rfl, rfl, h⟩
  · exact ⟨_, _, rfl, rfl, h⟩
  · exact ⟨_, _, rfl, rfl, h⟩
  · exact h.elim
theorem sQ.inv {st : List Value} {k : Value → List Value → Prop} (h : sQ st k) : ∃ v r, st = v :: r ∧ (v = .null ∨ ∃ a, v = .ref a) ∧ k v r := by
  unfold sQ at h; split at h
  · exact ⟨_, _, rfl, Or.inr ⟨_, rfl⟩, h⟩
  · exact ⟨_, _, rfl, Or.inl rfl, h⟩
  · exact h.elim
theorem s0.inv {st : List Value} {k : Prop} (h : s0 st k) : st = [] ∧ k := by
  unfold s0 at h; split at h
  · exact ⟨rfl, h⟩
  · exact h.elim
/-! contracts of methods -/
def mWs (y : MethodName) (bytes : ByteArray) (maxL : Nat) (ret : Option FieldType) : List Cond := Cond.code y bytes maxL ret :: mT
def mK (G : mG) (U : State) : Prop := va_K G.1 vwCl (mTys G) U ∧ (∀ j : Nat, j < 3 → (G.2.2.2 j).1 < mb G ∧ va_X (G.2.2.2 j).1 (G.2.2.2 j).2.1 (G.2.2.2 j).2.2 U G.2.2.1) ∧ va_Z RX5 "FIRST" "[I" (.ref (G.2.2.2 1).1) (fun q => mb G ≤ q) U G.2.2.1 ∧ va_Z RX5 "ROUND" "[I" (.ref (G.2.2.2 2).1) (fun q => mb G ≤ q) U G.2.2.1 ∧ (∀ q ∈ mNest, va_Nw (.methodLinkNest RX7 q.1 q.2 RX7) U) ∧ (∀ C ∈ mOver, va_AO C U) ∧ (Cond.arrayOver (.array .int)).before #[] U = true
theorem mOv_moved {u U : State} (hvm : u.vm.Alike U.vm) (h : (Cond.arrayOver (.array .int)).before #[] u = true) : (Cond.arrayOver (.array .int)).before #[] U = true := by
  obtain ⟨comp, c, k, h1, h2, h3, h4, h5⟩ := arrayOverA_spec h
  obtain ⟨k', hk', he⟩ := hvm.2.2 _ _ h3
  have hi : (U.vm.classes.findIdx? fun (x : Class) => match x.kind with | .array component _ => component == comp | _ => false) = some c := by
    first | exact (hvm.findIdx?_eq _ (fun _ => rfl)).trans h2 | exact (hvm.findIdx?_eq _ (fun _ => rfl)).symm.trans h2
  have hkind : k'.kind = .array comp (.array .int) := by rw [he]; exact h4
  have f1 : U.vm.findClass (FieldType.array .int).toString = some comp := by rw [hvm.findClass]; exact h1
  have f2 : U.vm.findClass ("[" ++ (FieldType.array .int).toString) = some c := by rw [hvm.findClass]; exact h5
  unfold Cond.before Cond.holds
  simp only [Cond.value]
  rw [f1, Option.bind_some]
  refine (congrArg (fun o : Option Nat => (o.bind (fun c => (U.vm.classes[c]?).map fun (k : Class) => match k.kind with | .array _ ty => decide (ty = FieldType.array .int) && decide (U.vm.findClass ("[" ++ (FieldType.array .int).toString) = some c) | _ => false) == some true)) hi).trans ?_
  simp [hk', hkind, f2]
theorem mK.moved {G : mG} {s U : State} (hW : s.WarmedH U.vm) (h : mK G s) : mK G U := by
  obtain ⟨h1, h2, h3, h4, h5, h6, h7⟩ := h
  exact ⟨va_K.moved hW.alike h1, fun j hj => ⟨(h2 j hj).1, (h2 j hj).2.moved hW.alike⟩, h3.moved hW.alike, h4.moved hW.alike, fun q hq => va_Nw.warmM hW (h5 q hq), fun C hC => (h6 C hC).moved hW.alike, mOv_moved hW.alike h7⟩
theorem mK.same {G : mG} {s U : State} (hv : s.vm = U.vm) (h : mK G s) : mK G U := mK.moved (by rw [← hv]; exact State.WarmedH.refl s) h
def mCon (G : mG) (y : MethodName) (bytes : ByteArray) (maxL : Nat) (ret : Option FieldType) (rm : Room) (av : List Value) (S : mS) (K : Option Value → mS → Prop) : Prop :=
  ∀ l : Launch, Met l y (mWs y bytes maxL ret) rm (va_Pc av (fun U => mr G S U.heap ∧ mK G U)) (fun _ _ o t => ∃ (v : Option Value) (S' : mS), o = .returned v ∧ K v S' ∧ mr G S' t.heap) rm.cells rm.slots (fun q => mb G ≤ q)
/-- a call: a contract, its room, and what follows -/
def eC (G : mG) (R : Room) (q : mC) (av : List Value) (cs : Nat × Nat) (S : mS) (K : Option Value → Nat × Nat → mS → Prop) : Prop :=
  ∃ (rm : Room) (K0 : Option Value → mS → Prop), mCon G q.2.1 q.2.2.1 q.2.2.2.1 q.2.2.2.2.1 rm av S K0 ∧ (rm.frames + 1 ≤ R.frames ∧ 8 + (q.2.2.2.1 + 11) + rm.locals ≤ R.locals) ∧ (cs.1 + rm.cells ≤ R.cells ∧ cs.2 + rm.slots ≤ R.slots) ∧ ∀ (v : Option Value) (S' : mS), K0 v S' → K v (cs.1 + rm.cells, cs.2 + rm.slots) S'
theorem eC.i {G : mG} {R : Room} {q : mC} {av : List Value} {cs : Nat × Nat} {S : mS} {K : Option Value → Nat × Nat → mS → Prop} {rm : Room} {K0 : Option Value → mS → Prop} (h : mCon G q.2.1 q.2.2.1 q.2.2.2.1 q.2.2.2.2.1 rm av S K0) (hR : rm.frames + 1 ≤ R.frames ∧ 8 + (q.2.2.2.1 + 11) + rm.locals ≤ R.locals) (hC : cs.1 + rm.cells ≤ R.cells ∧ cs.2 + rm.slots ≤ R.slots) (kk : ∀ (v : Option Value) (S' : mS), K0 v S' → K v (cs.1 + rm.cells, cs.2 + rm.slots) S') : eC G R q av cs S K := ⟨rm, K0, h, hR, hC, kk⟩
/-- the receiver of a virtual call is an object of its class -/
def eV (G : mG) (S : mS) (a ci : Nat) (K : Prop) : Prop := (∃ fs : List Value, mAt G S a (.inr (ci, fs))) ∧ K
theorem eV.i {G : mG} {S : mS} {a ci : Nat} {K : Prop} {fs : List Value} (h : mAt G S a (.inr (ci, fs))) (kk : K) : eV G S a ci K := ⟨⟨fs, h⟩, kk⟩
/-- the arguments of a call, n of them, the last on top -/
def sArgs : Nat → List Value → List Value → (List Value → List Value → Prop) → Prop
  | 0, st, acc, k => k acc st
  | n + 1, st, acc, k => match st with
    | v :: r => sArgs n r (v :: acc) k
    | [] => False
theorem sArgs.inv {n : Nat} : ∀ {st acc : List Value} {k : List Value → List Value → Prop}, sArgs n st acc k → ∃ as r, as.length = n ∧ st = as.reverse ++ r ∧ k (as ++ acc) r := by
  induction n with
  | zero => intro st acc k h; exact ⟨[], st, rfl, rfl, h⟩
  | succ n ih =>
    intro st acc k h
    cases st with
    | nil => exact h.elim
    | cons v r =>
      obtain ⟨as, r', h1, h2, h3⟩ := ih (h : sArgs n r (v :: acc) k)
      refine ⟨as ++ [v], r', by simp [h1], by simp [h2], by simpa using h3⟩
end
section
def mTb (ci : Nat) : u_T := match ci with
  | 0 => TX0 | 1 => TX1 | 2 => TX2 | 3 => TX3 | 4 => TX4 | 5 => TX5 | 6 => TX6 | 7 => TX7 | _ => TX8
abbrev mI : Type := (String × Nat) × (Nat → Option mRf) × Bool × Option FieldType
def ilen : Instr → Nat
  | .bipush _ | .iload _ | .aload _ | .lload _ | .istore _ | .astore _ | .lstore _ | .ldc _ | .newarray _ => 2
  | .sipush _ | .ldc2_w _ | .iinc _ _ | .ifCond _ _ | .if_icmp _ _ | .ifnull _ | .ifnonnull _ | .goto _ | .getfield _ | .putfield _ | .getstatic _ | .invokevirtual _ | .invokestatic _ | .invokespecial _ | .new _ | .anewarray _ => 3
  | .multianewarray _ _ => 4
  | .tableswitch _ _ _ _ => 0
  | _ => 1
def okI (pc : Nat) (E : mE) : Bool := match E.1 with
  | .goto off | .ifCond _ off | .if_icmp _ off | .ifnull off | .ifnonnull off => decide ((pc : Int) + off = (E.2.2.1 : Int))
  | .iconst n => decide (Int32.ofInt n = E.2.2.2)
  | .bipush n => decide ((Int8.ofInt n).toInt32 = E.2.2.2)
  | .sipush n => decide ((Int16.ofInt n).toInt32 = E.2.2.2)
  | .iinc _ n => decide (Int32.ofInt n = E.2.2.2)
  | .tableswitch d lo hi offs => decide (0 ≤ (pc : Int) + d) && offs.toList.all (fun o => decide (0 ≤ (pc : Int) + o)) && decide ((offs.size : Int) = hi - lo + 1)
  | _ => true
def okE (cc : ByteArray) (pc : Nat) (E : mE) : Bool := decide (decode cc pc = .ok (E.1, E.2.1 - pc)) && decide (pc ≤ E.2.1) && (decide (ilen E.1 = 0) || decide (ilen E.1 = E.2.1 - pc)) && okI pc E
theorem okE.d {cc : ByteArray} {pc : Nat} {E : mE} (h : okE cc pc E = true) (n : Nat) (hn : ilen E.1 = n) (h0 : 0 < n) : decode cc pc = .ok (E.1, n) ∧ E.2.1 = pc + n := by
  simp only [okE, Bool.and_eq_true, Bool.or_eq_true, decide_eq_true_eq] at h
  obtain ⟨⟨⟨h1, h2⟩, h3⟩, -⟩ := h
  have h4 : E.2.1 - pc = n := by omega
  rw [h4] at h1
  exact ⟨h1, by omega⟩
theorem okE.t {cc : ByteArray} {pc : Nat} {E : mE} (h : okE cc pc E = true) : okI pc E = true := by
  simp only [okE, Bool.and_eq_true] at h
  exact h.2
theorem okE.w {cc : ByteArray} {pc : Nat} {E : mE} (h : okE cc pc E = true) : decode cc pc = .ok (E.1, E.2.1 - pc) := by
  simp only [okE, Bool.and_eq_true, decide_eq_true_eq] at h
  exact h.1.1.1
def lI (o : Option Value) (k : Int32 → Prop) : Prop := match o with | some (.int x) => k x | _ => False
def lJ (o : Option Value) (k : Int64 → Prop) : Prop := match o with | some (.long x) => k x | _ => False
def lQ (o : Option Value) (k : Value → Prop) : Prop := match o with | some (.ref x) => k (.ref x) | some .null => k .null | _ => False
theorem lI.inv {o : Option Value} {k : Int32 → Prop} (h : lI o k) : ∃ x, o = some (.int x) ∧ k x := by
  unfold lI at h; split at h
  · exact ⟨_, rfl, h⟩
  · exact h.elim
theorem lJ.inv {o : Option Value} {k : Int64 → Prop} (h : lJ o k) : ∃ x, o = some (.long x) ∧ k x := by
  unfold lJ at h; split at h
  · exact ⟨_, rfl, h⟩
  · exact h.elim
theorem lQ.inv {o : Option Value} {k : Value → Prop} (h : lQ o k) : ∃ v, o = some v ∧ (v = .null ∨ ∃ a, v = .ref a) ∧ k v := by
  unfold lQ at h; split at h
  · exact ⟨_, rfl, Or.inr ⟨_, rfl⟩, h⟩
  · exact ⟨_, rfl, Or.inl rfl, h⟩
  · exact h.elim
def eR (ret : Option FieldType) (v : Option Value) (mc ms : Nat) (cs : Nat × Nat) (A : Prop) : Prop := (cs.1 ≤ mc ∧ cs.2 ≤ ms) ∧ (match v with
  | none => ret = none
  | some (.int x) => ∃ ty, ret = some ty ∧ narrow ty (.int x) = .int x
  | some _ => ∃ ty, ret = some ty ∧ ((∃ n, ty = .object n) ∨ ∃ t, ty = .array t)) ∧ A
def eF (I : mI) (ci k : Nat) (A : Prop) : Prop := ((mTb ci k).2.2.2 = false ∨ ((mTb ci k).2.2.2 = true ∧ I.2.2.1 = true ∧ ci = I.1.2)) ∧ A
def mN (ci : Nat) : Nat := match ci with
  | 0 => 2 | 1 => 1 | 2 => 2 | 3 => 9 | 4 => 2 | 5 => 4 | 6 => 3 | 7 => 9 | _ => 35
def mDef (ci : Nat) : List Value := (List.range (mN ci)).map (fun k => defaultValue (mFt ci k))
def mTo (ci : Nat) : Nat := match ci with
  | 4 => 2 | 6 => 3 | 2 => 4 | 3 => 5 | _ => 7
def mRn (ci : Nat) : String := match ci with
  | 0 => RX0 | 1 => RX1 | 2 => RX2 | 3 => RX3 | 4 => RX4 | 5 => RX5 | 6 => RX6 | 7 => RX7 | _ => RX8
def eM (R : Room) (n : Int32) (cs : Nat × Nat) (A : Prop) : Prop := ¬ n < 0 ∧ n.toNatClampNeg ≤ 100000 ∧ (cs.1 + 1 ≤ R.cells ∧ cs.2 + n.toNatClampNeg ≤ R.slots) ∧ A
def step (G : mG) (R : Room) (I : mI) (mc ms : Nat) (KR : Option Value → mS → Prop) (pc : Nat) (E : mE) (lv : mL) (st : List Value) (cs : Nat × Nat) (S : mS) (K : Nat → mL → List Value → Nat × Nat → mS → Prop) : Prop :=
  match E.1 with
  | .iconst _ => K E.2.1 lv (.int E.2.2.2 :: st) cs S
  | .bipush _ => K E.2.1 lv (.int E.2.2.2 :: st) cs S
  | .sipush _ => K E.2.1 lv (.int E.2.2.2 :: st) cs S
  | .ldc i => match I.2.1 i with
    | some (.inr (.inl v)) => K E.2.1 lv (.int v :: st) cs S
    | _ => False
  | .ldc2_w i => match I.2.1 i with
    | some (.inr (.inr (.inl v))) => K E.2.1 lv (.long v :: st) cs S
    | _ => False
  | .aconst_null => K E.2.1 lv (.null :: st) cs S
  | .iload_n n => lI (lget lv n.val) fun x => K E.2.1 lv (.int x :: st) cs S
  | .iload n => lI (lget lv n) fun x => K E.2.1 lv (.int x :: st) cs S
  | .lload_n n => lJ (lget lv n.val) fun x => K E.2.1 lv (.long x :: st) cs S
  | .aload_n n => lQ (lget lv n.val) fun v => K E.2.1 lv (v :: st) cs S
  | .aload n => lQ (lget lv n) fun v => K E.2.1 lv (v :: st) cs S
  | .istore_n n => sI st fun x r => K E.2.1 (lset lv n.val (.int x)) r cs S
  | .istore n => sI st fun x r => K E.2.1 (lset lv n (.int x)) r cs S
  | .astore_n n => sQ st fun v r => K E.2.1 (lset lv n.val v) r cs S
  | .astore n => sQ st fun v r => K E.2.1 (lset lv n v) r cs S
  | .lstore_n n => sJ st fun x r => K E.2.1 (lset2 lv n.val (.long x)) r cs S
  | .iinc n _ => lI (lget lv n) fun x => K E.2.1 (lset lv n (.int (x + E.2.2.2))) st cs S
  | .iadd => sI st fun y r => sI r fun x r => K E.2.1 lv (.int (x + y) :: r) cs S
  | .isub => sI st fun y r => sI r fun x r => K E.2.1 lv (.int (x - y) :: r) cs S
  | .imul => sI st fun y r => sI r fun x r => K E.2.1 lv (.int (x * y) :: r) cs S
  | .idiv => sI st fun y r => sI r fun x r => eZ y (K E.2.1 lv (.int (x / y) :: r) cs S)
  | .irem => sI st fun y r => sI r fun x r => eZ y (K E.2.1 lv (.int (x - x / y * y) :: r) cs S)
  | .iand => sI st fun y r => sI r fun x r => K E.2.1 lv (.int (x &&& y) :: r) cs S
  | .ior => sI st fun y r => sI r fun x r => K E.2.1 lv (.int (x ||| y) :: r) cs S
  | .ixor => sI st fun y r => sI r fun x r => K E.2.1 lv (.int (x ^^^ y) :: r) cs S
  | .ishl => sI st fun y r => sI r fun x r => K E.2.1 lv (.int (x <<< (y &&& 31)) :: r) cs S
  | .ishr => sI st fun y r => sI r fun x r => K E.2.1 lv (.int (x >>> (y &&& 31)) :: r) cs S
  | .iushr => sI st fun y r => sI r fun x r => K E.2.1 lv (.int (x.toUInt32 >>> (y.toUInt32 &&& Int32.toUInt32 31)).toInt32 :: r) cs S
  | .i2b => sI st fun x r => K E.2.1 lv (.int x.toInt8.toInt32 :: r) cs S
  | .i2l => sI st fun x r => K E.2.1 lv (.long x.toInt64 :: r) cs S
  | .l2i => sJ st fun x r => K E.2.1 lv (.int x.toInt32 :: r) cs S
  | .lmul => sJ st fun y r => sJ r fun x r => K E.2.1 lv (.long (x * y) :: r) cs S
  | .lushr => sI st fun y r => sJ r fun x r => K E.2.1 lv (.long (x.toUInt64 >>> (y.toInt64.toUInt64 &&& Int64.toUInt64 63)).toInt64 :: r) cs S
  | .lshr => sI st fun y r => sJ r fun x r => K E.2.1 lv (.long (x >>> (y.toInt64 &&& 63)) :: r) cs S
  | .dup => s1 st fun v r => K E.2.1 lv (v :: v :: r) cs S
  | .pop => s1 st fun _ r => K E.2.1 lv r cs S
  | .dup2 => s1 st fun v r => s1 r fun w r => K E.2.1 lv (v :: w :: v :: w :: r) cs S
  | .ifCond .eq _ => sI st fun x r => eB (x = 0) (K E.2.2.1 lv r cs S) (K E.2.1 lv r cs S)
  | .ifCond .ne _ => sI st fun x r => eB (x = 0) (K E.2.1 lv r cs S) (K E.2.2.1 lv r cs S)
  | .ifCond .lt _ => sI st fun x r => eB (x < 0) (K E.2.2.1 lv r cs S) (K E.2.1 lv r cs S)
  | .ifCond .ge _ => sI st fun x r => eB (0 ≤ x) (K E.2.2.1 lv r cs S) (K E.2.1 lv r cs S)
  | .ifCond .gt _ => sI st fun x r => eB (0 < x) (K E.2.2.1 lv r cs S) (K E.2.1 lv r cs S)
  | .ifCond .le _ => sI st fun x r => eB (x ≤ 0) (K E.2.2.1 lv r cs S) (K E.2.1 lv r cs S)
  | .if_icmp .eq _ => sI st fun y r => sI r fun x r => eB (x = y) (K E.2.2.1 lv r cs S) (K E.2.1 lv r cs S)
  | .if_icmp .ne _ => sI st fun y r => sI r fun x r => eB (x = y) (K E.2.1 lv r cs S) (K E.2.2.1 lv r cs S)
  | .if_icmp .lt _ => sI st fun y r => sI r fun x r => eB (x < y) (K E.2.2.1 lv r cs S) (K E.2.1 lv r cs S)
  | .if_icmp .ge _ => sI st fun y r => sI r fun x r => eB (y ≤ x) (K E.2.2.1 lv r cs S) (K E.2.1 lv r cs S)
  | .if_icmp .gt _ => sI st fun y r => sI r fun x r => eB (y < x) (K E.2.2.1 lv r cs S) (K E.2.1 lv r cs S)
  | .if_icmp .le _ => sI st fun y r => sI r fun x r => eB (x ≤ y) (K E.2.2.1 lv r cs S) (K E.2.1 lv r cs S)
  | .ifnull _ => match st with
    | .null :: r => K E.2.2.1 lv r cs S
    | .ref _ :: r => K E.2.1 lv r cs S
    | _ => False
  | .ifnonnull _ => match st with
    | .null :: r => K E.2.1 lv r cs S
    | .ref _ :: r => K E.2.2.1 lv r cs S
    | _ => False
  | .goto _ => K E.2.2.1 lv st cs S
  | .tableswitch d lo hi offs => sI st fun x r => eB (x.toInt < lo ∨ hi < x.toInt) (K ((pc : Int) + d).toNat lv r cs S) (∀ (j : Nat) (off : Int), offs[j]? = some off → x.toInt = lo + j → K ((pc : Int) + off).toNat lv r cs S)
  | .getfield i => match I.2.1 i with
    | some (.inl (ci, k)) => sA st fun a r => eG G S a ci k fun v => K E.2.1 lv (v :: r) cs S
    | _ => False
  | .putfield i => match I.2.1 i with
    | some (.inl (ci, k)) => eF I ci k (s1 st fun v r => sA r fun a r => eP G S a ci k v fun S' => K E.2.1 lv r cs S')
    | _ => False
  | .getstatic i => match I.2.1 i with
    | some (.inr (.inr (.inr (.inr 100)))) => K E.2.1 lv (.ref (G.2.2.2 1).1 :: st) cs S
    | some (.inr (.inr (.inr (.inr 101)))) => K E.2.1 lv (.ref (G.2.2.2 2).1 :: st) cs S
    | _ => False
  | .iaload => sI st fun i r => sA r fun a r => eL G S a i fun x => K E.2.1 lv (.int x :: r) cs S
  | .baload => sI st fun i r => sA r fun a r => eLb G S a i fun x => K E.2.1 lv (.int x :: r) cs S
  | .aaload => sI st fun i r => sA r fun a r => eLq G S a i fun v => K E.2.1 lv (v :: r) cs S
  | .iastore => sI st fun x r => sI r fun i r => sA r fun a r => eS G S a i x fun S' => K E.2.1 lv r cs S'
  | .bastore => sI st fun x r => sI r fun i r => sA r fun a r => eSb G S a i x fun S' => K E.2.1 lv r cs S'
  | .aastore => sA st fun v r => sI r fun i r => sA r fun a r => eSq G S a i v fun S' => K E.2.1 lv r cs S'
  | .arraylength => sA st fun a r => eN G S a fun x => K E.2.1 lv (.int x :: r) cs S
  | .invokevirtual i => match I.2.1 i with
    | some (.inr (.inr (.inr (.inl q)))) => q.1 = 0 ∧ sArgs q.2.2.2.2.2.1 st [] fun as r => sA r fun a r => (r.map fun v => v.category).sum ≤ 8 ∧ eV G S a q.2.2.2.2.2.2 (eC G R q (.ref a :: as) cs S fun v cs' S' => K E.2.1 lv (v.toList ++ r) cs' S')
    | _ => False
  | .invokestatic i => match I.2.1 i with
    | some (.inr (.inr (.inr (.inl q)))) => match q.1 with
      | 1 => sArgs q.2.2.2.2.2.1 st [] fun as r => (r.map fun v => v.category).sum ≤ 8 ∧ eC G R q as cs S fun v cs' S' => K E.2.1 lv (v.toList ++ r) cs' S'
      | 5 => sI st fun n r => sI r fun dp r => sA r fun a r => sI r fun sp r => sA r fun a0 r => (r.map fun v => v.category).sum ≤ 8 ∧ eY G S R a0 sp a dp n fun S' => K E.2.1 lv r cs S'
      | 6 => sI st fun y r => sI r fun x r => (r.map fun v => v.category).sum ≤ 8 ∧ (1 ≤ R.frames ∧ 60 ≤ R.locals ∧ cs.1 ≤ R.cells ∧ cs.2 ≤ R.slots) ∧ K E.2.1 lv (.int (if x < y then y else x) :: r) cs S
      | _ => False
    | _ => False
  | .new i => match I.2.1 i with
    | some (.inr (.inr (.inr (.inr ci)))) => ci < 9 ∧ (cs.1 + 1 ≤ R.cells ∧ cs.2 + mN ci ≤ R.slots) ∧ K E.2.1 lv (.ref S.1 :: st) (cs.1 + 1, cs.2 + mN ci) (mPush S (.inr (ci, mDef ci)))
    | _ => False
  | .newarray .int => sI st fun n r => eM R n cs (K E.2.1 lv (.ref S.1 :: r) (cs.1 + 1, cs.2 + n.toNatClampNeg) (mPush S (eIn G n.toNatClampNeg (fun _ => 0))))
  | .newarray .byte => sI st fun n r => eM R n cs (K E.2.1 lv (.ref S.1 :: r) (cs.1 + 1, cs.2 + n.toNatClampNeg) (mPush S (eBy G n.toNatClampNeg (fun _ => 0))))
  | .anewarray i => match I.2.1 i with
    | some (.inr (.inr (.inr (.inr ci)))) => mTo ci < 7 ∧ sI st fun n r => eM R n cs (K E.2.1 lv (.ref S.1 :: r) (cs.1 + 1, cs.2 + n.toNatClampNeg) (mPush S (eRf G (mTo ci) n.toNatClampNeg (fun _ => none))))
    | _ => False
  | .invokespecial i => match I.2.1 i with
    | some (.inr (.inr (.inr (.inl q)))) => match q.1 with
      | 2 => sArgs q.2.2.2.2.2.1 st [] fun as r => sA r fun a r => (r.map fun v => v.category).sum ≤ 8 ∧ eC G R q (.ref a :: as) cs S fun v cs' S' => K E.2.1 lv (v.toList ++ r) cs' S'
      | 3 => sArgs q.2.2.2.2.2.1 st [] fun as r => sA r fun a r => (r.map fun v => v.category).sum ≤ 8 ∧ eC G R q (.ref a :: as) cs S fun v cs' S' => K E.2.1 lv (v.toList ++ r) cs' S'
      | 4 => sA st fun a r => (r.map fun v => v.category).sum ≤ 8 ∧ (1 ≤ R.frames ∧ 60 ≤ R.locals) ∧ K E.2.1 lv r cs S
      | _ => False
    | _ => False
  | .ireturn => sI st fun x r => s0 r (eR I.2.2.2 (some (.int x)) mc ms cs (KR (some (.int x)) S))
  | .areturn => sQ st fun v r => s0 r (eR I.2.2.2 (some v) mc ms cs (KR (some v) S))
  | .return_ => s0 st (eR I.2.2.2 none mc ms cs (KR none S))
  | _ => False
/-! the constants of a class: what they ask of the tables -/
def rW (I : mI) (i : Nat) (r : mRf) : List Cond := match r with
  | .inl (ci, k) => [.fieldLink I.1.1 i (mTb ci k).1 (mTb ci k).2.1 (mTb ci k).2.2.1]
  | .inr (.inl v) => [.constant I.1.1 i v]
  | .inr (.inr (.inl v)) => [.constantLong I.1.1 i v]
  | .inr (.inr (.inr (.inl q))) => match q.1 with
    | 0 => [.methodLink I.1.1 i q.2.1, .instanceMethod q.2.1, .selects q.2.1.cls q.2.1 q.2.1, .initialized q.2.1.cls, .code q.2.1 q.2.2.1 q.2.2.2.1 q.2.2.2.2.1]
    | 1 => [.methodLink I.1.1 i q.2.1, .static q.2.1, .initialized q.2.1.cls, .code q.2.1 q.2.2.1 q.2.2.2.1 q.2.2.2.2.1]
    | 2 => [.methodLink I.1.1 i q.2.1, .instanceMethod q.2.1, .initialized q.2.1.cls, .code q.2.1 q.2.2.1 q.2.2.2.1 none]
    | 3 => [.instanceMethod q.2.1, .initialized q.2.1.cls, .code q.2.1 q.2.2.1 q.2.2.2.1 none]
    | 4 => [.methodLink I.1.1 i objectInit, .instanceMethod objectInit, .code objectInit ⟨#[0xb1]⟩ 1 none]
    | 5 => [.methodLink I.1.1 i arraycopyName, .native arraycopyName, .static arraycopyName, .initialized "java/lang/System"]
    | _ => [.methodLink I.1.1 i Lib.Math.max.name, .static Lib.Math.max.name, .initialized "java/lang/Math", .code Lib.Math.max.name Lib.Math.max.code 2 (some .int)]
  | .inr (.inr (.inr (.inr n))) => if n = 100 then [.fieldLink I.1.1 i RX5 "FIRST" "[I"] else if n = 101 then [.fieldLink I.1.1 i RX5 "ROUND" "[I"] else [.classLink I.1.1 i (mRn n), .instantiable (mRn n) (mN n), .initialized (mRn n)]
def qB (q : mC) : Bool := decide (q.2.1.cls ≠ "java/lang/invoke/MethodHandle" ∧ q.2.1.cls ≠ "java/lang/invoke/VarHandle" ∧ (parseMethodDescriptor q.2.1.desc).map (fun d => d.parameters.length) = some q.2.2.2.2.2.1)
def rB (I : mI) (i : Nat) (r : mRf) : Bool := match r with
  | .inl (ci, k) => decide (ci < 9) && decide (k < mN ci)
  | .inr (.inl _) => true
  | .inr (.inr (.inl _)) => true
  | .inr (.inr (.inr (.inl q))) => match q.1 with
    | 0 => qB q && decide (q.2.2.2.2.2.2 < 9) && decide (mRn q.2.2.2.2.2.2 = q.2.1.cls)
    | 1 => qB q
    | 2 => qB q && decide (q.2.1.name = "<init>") && decide (q.2.2.2.2.1 = none)
    | 3 => qB q && decide (q.2.1.name = "<init>") && decide (q.2.2.2.2.1 = none) && decide ((i, q.2.1) ∈ mNest) && decide (I.1.1 = RX7)
    | _ => true
  | .inr (.inr (.inr (.inr n))) => decide (n < 9) || decide (n = 100) || decide (n = 101)
def cpOK (I : mI) : Prop := ∀ (i : Nat) (r : mRf), I.2.1 i = some r → (∀ w ∈ rW I i r, w ∈ mT) ∧ rB I i r = true
theorem gX0 : ∀ w ∈ wsX00, goodWord w = true := by decide +kernel
theorem gX1 : ∀ w ∈ wsX10, goodWord w = true := by decide +kernel
theorem gX2 : ∀ w ∈ wsX20, goodWord w = true := by decide +kernel
theorem gX3 : ∀ w ∈ wsX30, goodWord w = true := by decide +kernel
theorem gX4 : ∀ w ∈ wsX40, goodWord w = true := by decide +kernel
theorem gX5 : ∀ w ∈ wsX50, goodWord w = true := by decide +kernel
theorem gX6 : ∀ w ∈ wsX60, goodWord w = true := by decide +kernel
theorem gX7 : ∀ w ∈ wsX70, goodWord w = true := by decide +kernel
theorem gX8 : ∀ w ∈ wsX80, goodWord w = true := by decide +kernel
def clGood (ci : Nat) : Prop := vwCl[ci]? = some (mRn ci, mTb ci, mN ci) ∧ (∀ w ∈ u_ws (mRn ci) (mTb ci) (mN ci), w ∈ mT) ∧ (∀ k, k < mN ci → parseFieldDescriptor (mTb ci k).2.2.1 = some (mFt ci k)) ∧ (∀ a, a < mN ci → ∀ b, b < mN ci → a ≠ b → (mTb ci a).2.1 ≠ (mTb ci b).2.1) ∧ ∀ k, k < mN ci → (mTb ci k).1 = mRn ci
theorem clOK : ∀ ci, ci < 9 → clGood ci
  | 0, _ => ⟨rfl, fun w h => mT_in (inX0 w h) (gX0 w h), tyX0_ok, nmX0, by decide +kernel⟩
  | 1, _ => ⟨rfl, fun w h => mT_in (inX1 w h) (gX1 w h), tyX1_ok, nmX1, by decide +kernel⟩
  | 2, _ => ⟨rfl, fun w h => mT_in (inX2 w h) (gX2 w h), tyX2_ok, nmX2, by decide +kernel⟩
  | 3, _ => ⟨rfl, fun w h => mT_in (inX3 w h) (gX3 w h), tyX3_ok, nmX3, by decide +kernel⟩
  | 4, _ => ⟨rfl, fun w h => mT_in (inX4 w h) (gX4 w h), tyX4_ok, nmX4, by decide +kernel⟩
  | 5, _ => ⟨rfl, fun w h => mT_in (inX5 w h) (gX5 w h), tyX5_ok, nmX5, by decide +kernel⟩
  | 6, _ => ⟨rfl, fun w h => mT_in (inX6 w h) (gX6 w h), tyX6_ok, nmX6, by decide +kernel⟩
  | 7, _ => ⟨rfl, fun w h => mT_in (inX7 w h) (gX7 w h), tyX7_ok, nmX7, by decide +kernel⟩
  | 8, _ => ⟨rfl, fun w h => mT_in (inX8 w h) (gX8 w h), tyX8_ok, nmX8, by decide +kernel⟩
  | n + 9, h => absurd h (by omega)
theorem mDef_ok (ci : Nat) : ∀ j, j < mN ci → defaultValue (mFt ci j) = vp_V (mDef ci) j := by
  intro j hj
  simp [vp_V, mDef, hj]
theorem mTo_lt {ci : Nat} (h : mTo ci < 7) : ci < 9 ∧ mRn ci ∈ mOver ∧ ∀ G : mG, (mTys G)[mTo ci]? = some (G.2.1 (mTo ci), .object (mRn ci)) := by
  unfold mTo at h
  split at h
  · exact ⟨by decide, by decide, fun _ => rfl⟩
  · exact ⟨by decide, by decide, fun _ => rfl⟩
  · exact ⟨by decide, by decide, fun _ => rfl⟩
  · exact ⟨by decide, by decide, fun _ => rfl⟩
  · omega
theorem acI : Cond.arrayClass .int ∈ mT := mT_in (by decide +kernel) rfl
theorem acB : Cond.arrayClass .byte ∈ mT := mT_in (by decide +kernel) rfl
end
section
/-- the local that an instruction writes (the second half of a long counted) -/
def iSl : Instr → Option Nat
  | .istore_n n | .astore_n n => some n.val
  | .istore n | .astore n => some n
  | .lstore_n n => some (n.val + 1)
  | .iinc n _ => some n
  | _ => none
section SND
variable {p : Program} {l : Launch} {e : Env} {R : Room} {s : State} {m : MethodId} {args : Array Value} {below : List Frame} {meth : Method} {c : Code}
/-- the facts of a walk -/
def mCx (G : mG) (I : mI) (p : Program) (s : State) (m : MethodId) (args : Array Value) (meth : Method) (c : Code) (cc : ByteArray) (nL : Nat) : Prop :=
  p.tables.exec = Jvm.exec ∧ c.code = cc ∧ c.maxLocals = nL ∧ s.vm.findClass I.1.1 = some m.cls ∧ (∀ w ∈ mT, w.before args s = true) ∧ mK G s ∧ meth.sig.returnType = I.2.2.2 ∧ meth.locks = false ∧ (I.2.2.1 = true → meth.name = "<init>") ∧ (I.2.2.1 = true → mRn I.1.2 = I.1.1)
def mQc (G : mG) (KR : Option Value → mS → Prop) : Array Value → State → Outcome → State → Prop := fun _ _ o t => ∃ (v : Option Value) (S' : mS), o = .returned v ∧ KR v S' ∧ mr G S' t.heap
/-- from here the walk comes to its end -/
def gd (p : Program) (l : Launch) (e : Env) (R : Room) (s : State) (m : MethodId) (args : Array Value) (below : List Frame) (meth : Method) (c : Code) (G : mG) (nL : Nat) (Q : State → Prop) (pc : Nat) (lv : mL) (st : List Value) (cs : Nat × Nat) (S : mS) : Prop :=
  ∀ (ls : Array Slot) (H : Heap) (locs : List Loc), lv_has ls nL lv → mr G S H → (∀ q ∈ locs, mb G ≤ q.base) → W p l e R s m args below meth c H locs cs.1 cs.2 Q (F0 m pc ls st)
variable {G : mG} {I : mI} {cc : ByteArray} {nL mc ms : Nat} {KR : Option Value → mS → Prop} {pc : Nat} {E : mE} {lv : mL} {st : List Value} {cs : Nat × Nat} {S : mS} {K : Nat → mL → List Value → Nat × Nat → mS → Prop}
theorem m_locs {G : mG} {locs : List Loc} {L : Loc} {a : Nat} (h : ∀ q ∈ locs, mb G ≤ q.base) (hL : L.base = a) (ha : mb G ≤ a) : ∀ q ∈ locs ++ [L], mb G ≤ q.base := by
  intro q hq
  rcases List.mem_append.mp hq with h1 | h1
  · exact h q h1
  · rw [List.mem_singleton.mp h1, hL]; exact ha
theorem m_locsL {G : mG} {locs L : List Loc} (h : ∀ q ∈ locs, mb G ≤ q.base) (hL : ∀ q ∈ L, mb G ≤ q.base) : ∀ q ∈ locs ++ L, mb G ≤ q.base := by
  intro q hq
  rcases List.mem_append.mp hq with h1 | h1
  · exact h q h1
  · exact hL q h1
theorem mT_good : GoodIn mT mT := fun w h => ⟨h, good_of_word (List.mem_filter.mp h).2⟩
theorem mWs_good {y : MethodName} {b : ByteArray} {n : Nat} {r : Option FieldType} (h : Cond.code y b n r ∈ mT) : GoodIn mT (mWs y b n r) := fun w hw => by
  rcases List.mem_cons.mp hw with h1 | h1
  · rw [h1]; exact mT_good _ h
  · exact mT_good _ h1
theorem m_blind {G : mG} {av : List Value} {S : mS} : FrameBlind (va_Pc av (fun U => mr G S U.heap ∧ mK G U)) := fun a U g mk q => ⟨q.1, q.2.1, mK.same (s := U) (U := U.calling g mk a) rfl q.2.2⟩
theorem m_after {rest : List Value} {np : Nat} {Q : State → Prop} {ls : Array Slot} {H : Heap} {locs : List Loc} {K0 : Option Value → mS → Prop} {a' : Array Value} {st : List Value} {rm : Room}
    (hr : va_Run p l e R s m args below meth c H locs cs.1 cs.2 rm.cells rm.slots (F0 m pc ls st) rest (mQc G K0 a') (fun q => mb G ≤ q)) (hl : lv_has ls nL lv) (hL : ∀ q ∈ locs, mb G ≤ q.base) (hnp : np = pc + 3)
    (kk : ∀ (v : Option Value) (S' : mS), K0 v S' → gd p l e R s m args below meth c G nL Q np lv (v.toList ++ rest) (cs.1 + rm.cells, cs.2 + rm.slots) S') : W p l e R s m args below meth c H locs cs.1 cs.2 Q (F0 m pc ls st) := by
  subst hnp
  intro T hT X
  obtain ⟨v, st₀, t, T', L, h0, X', hL', e1, e2, ⟨v', S', hv, hk, hr'⟩, stp⟩ := hr T hT X
  cases hv
  rw [← e1] at hr'
  obtain ⟨t2, a1, b1⟩ := kk _ S' hk ls T'.heap (locs ++ L) hl hr' (m_locsL hL hL') T' rfl X'
  exact ⟨t2, stp t2 a1, b1⟩

set_option maxHeartbeats 4000000 in
theorem st_ok {Q : State → Prop} (hQ : Q = MQ below (mQc G KR) args s mc ms (fun q => mb G ≤ q) ∨ ∀ v S9, ¬ KR v S9) (X : mCx G I p s m args meth c cc nL) (hcp : cpOK I) (hE : okE cc pc E = true) (hlv : ∀ i, iSl E.1 = some i → i < nL) (hs : step G R I mc ms KR pc E lv st cs S K)
    (hK : ∀ (pc' : Nat) (lv' : mL) (st' : List Value) (cs' : Nat × Nat) (S' : mS), K pc' lv' st' cs' S' → gd p l e R s m args below meth c G nL Q pc' lv' st' cs' S') :
    gd p l e R s m args below meth c G nL Q pc lv st cs S := by
  obtain ⟨hx, hb, hml, hown, hts, hKn, hret, hlocks, hini, hrn⟩ := X
  obtain ⟨ins, np, tg, val⟩ := E
  have hI := okE.t hE
  intro ls H locs hl hr hL
  cases ins with
  | iconst n =>
    obtain ⟨d, hnp⟩ := okE.d hE 1 rfl (by decide)
    subst hnp
    have h := hs
    exact lv_iconst hx hb d (of_decide_eq_true hI) (hK _ _ _ _ _ h ls H locs hl hr hL)
  | bipush n =>
    obtain ⟨d, hnp⟩ := okE.d hE 2 rfl (by decide)
    subst hnp
    have h := hs
    exact lv_bipush hx hb d (of_decide_eq_true hI) (hK _ _ _ _ _ h ls H locs hl hr hL)
  | sipush n =>
    obtain ⟨d, hnp⟩ := okE.d hE 3 rfl (by decide)
    subst hnp
    have h := hs
    exact lv_sipush hx hb d (of_decide_eq_true hI) (hK _ _ _ _ _ h ls H locs hl hr hL)
  | ldc i =>
    obtain ⟨d, hnp⟩ := okE.d hE 2 rfl (by decide)
    subst hnp
    simp only [step] at hs
    split at hs
    · rename_i v hv
      have hw := (hcp _ _ hv).1
      exact lv_ldc hx hb hown (hts _ (hw _ List.mem_cons_self)) d (hK _ _ _ _ _ hs ls H locs hl hr hL)
    · exact hs.elim
  | ldc2_w i =>
    obtain ⟨d, hnp⟩ := okE.d hE 3 rfl (by decide)
    subst hnp
    simp only [step] at hs
    split at hs
    · rename_i v hv
      have hw := (hcp _ _ hv).1
      exact lv_ldc2 hx hb hown (hts _ (hw _ List.mem_cons_self)) d (hK _ _ _ _ _ hs ls H locs hl hr hL)
    · exact hs.elim
  | aconst_null =>
    obtain ⟨d, hnp⟩ := okE.d hE 1 rfl (by decide)
    subst hnp
    have h := hs
    exact lv_null hx hb d (hK _ _ _ _ _ h ls H locs hl hr hL)
  | iload_n n =>
    obtain ⟨d, hnp⟩ := okE.d hE 1 rfl (by decide)
    subst hnp
    obtain ⟨x, hg, h⟩ := lI.inv hs
    exact lv_iload_n hx hb d rfl (hl.2.2 _ (lget_mem hg)) (hK _ _ _ _ _ h ls H locs hl hr hL)
  | iload n =>
    obtain ⟨d, hnp⟩ := okE.d hE 2 rfl (by decide)
    subst hnp
    obtain ⟨x, hg, h⟩ := lI.inv hs
    exact lv_iload hx hb d (hl.2.2 _ (lget_mem hg)) (hK _ _ _ _ _ h ls H locs hl hr hL)
  | lload_n n =>
    obtain ⟨d, hnp⟩ := okE.d hE 1 rfl (by decide)
    subst hnp
    obtain ⟨x, hg, h⟩ := lJ.inv hs
    exact lv_lload_n hx hb d rfl (hl.2.2 _ (lget_mem hg)) (hK _ _ _ _ _ h ls H locs hl hr hL)
  | aload_n n =>
    obtain ⟨d, hnp⟩ := okE.d hE 1 rfl (by decide)
    subst hnp
    simp only [step] at hs
    obtain ⟨v, hg, hv, h⟩ := lQ.inv hs
    rcases hv with rfl | ⟨a, rfl⟩
    · exact lv_aload_nN hx hb d rfl (hl.2.2 _ (lget_mem hg)) (hK _ _ _ _ _ h ls H locs hl hr hL)
    · exact lv_aload_n hx hb d rfl (hl.2.2 _ (lget_mem hg)) (hK _ _ _ _ _ h ls H locs hl hr hL)
  | aload n =>
    obtain ⟨d, hnp⟩ := okE.d hE 2 rfl (by decide)
    subst hnp
    simp only [step] at hs
    obtain ⟨v, hg, hv, h⟩ := lQ.inv hs
    rcases hv with rfl | ⟨a, rfl⟩
    · exact lv_aloadN hx hb d (hl.2.2 _ (lget_mem hg)) (hK _ _ _ _ _ h ls H locs hl hr hL)
    · exact lv_aload hx hb d (hl.2.2 _ (lget_mem hg)) (hK _ _ _ _ _ h ls H locs hl hr hL)
  | istore_n n =>
    obtain ⟨d, hnp⟩ := okE.d hE 1 rfl (by decide)
    subst hnp
    obtain ⟨x, r, rfl, h⟩ := sI.inv hs
    exact lv_istore_n hx hb d rfl hl (hlv _ rfl) rfl (fun ls' hl' => hK _ _ _ _ _ h ls' H locs (lv_le hl' (fun q hq => lins_mem hq)) hr hL)
  | istore n =>
    obtain ⟨d, hnp⟩ := okE.d hE 2 rfl (by decide)
    subst hnp
    obtain ⟨x, r, rfl, h⟩ := sI.inv hs
    exact lv_istore hx hb d hl (hlv _ rfl) rfl (fun ls' hl' => hK _ _ _ _ _ h ls' H locs (lv_le hl' (fun q hq => lins_mem hq)) hr hL)
  | astore_n n =>
    obtain ⟨d, hnp⟩ := okE.d hE 1 rfl (by decide)
    subst hnp
    simp only [step] at hs
    obtain ⟨v, r, rfl, hv, h⟩ := sQ.inv hs
    rcases hv with rfl | ⟨a, rfl⟩
    · exact lv_astore_nN hx hb d rfl hl (hlv _ rfl) rfl (fun ls' hl' => hK _ _ _ _ _ h ls' H locs (lv_le hl' (fun q hq => lins_mem hq)) hr hL)
    · exact lv_astore_n hx hb d rfl hl (hlv _ rfl) rfl (fun ls' hl' => hK _ _ _ _ _ h ls' H locs (lv_le hl' (fun q hq => lins_mem hq)) hr hL)
  | astore n =>
    obtain ⟨d, hnp⟩ := okE.d hE 2 rfl (by decide)
    subst hnp
    simp only [step] at hs
    obtain ⟨v, r, rfl, hv, h⟩ := sQ.inv hs
    rcases hv with rfl | ⟨a, rfl⟩
    · exact lv_astoreN hx hb d hl (hlv _ rfl) rfl (fun ls' hl' => hK _ _ _ _ _ h ls' H locs (lv_le hl' (fun q hq => lins_mem hq)) hr hL)
    · exact lv_astore hx hb d hl (hlv _ rfl) rfl (fun ls' hl' => hK _ _ _ _ _ h ls' H locs (lv_le hl' (fun q hq => lins_mem hq)) hr hL)
  | lstore_n n =>
    obtain ⟨d, hnp⟩ := okE.d hE 1 rfl (by decide)
    subst hnp
    obtain ⟨x, r, rfl, h⟩ := sJ.inv hs
    exact lv_lstore_n hx hb d rfl hl (hlv _ rfl) rfl (fun ls' hl' => hK _ _ _ _ _ h ls' H locs (lv_le hl' (fun q hq => lins_mem hq)) hr hL)
  | iinc n k =>
    obtain ⟨d, hnp⟩ := okE.d hE 3 rfl (by decide)
    subst hnp
    obtain ⟨x, hg, h⟩ := lI.inv hs
    obtain ⟨j, hj⟩ := List.getElem?_of_mem (lget_mem hg)
    exact lv_iinc hx hb d hl hj (by rw [of_decide_eq_true hI]) (hlv _ rfl) rfl (fun ls' hl' => hK _ _ _ _ _ h ls' H locs (lv_le hl' (fun q hq => lins_mem hq)) hr hL)
  | iadd =>
    obtain ⟨d, hnp⟩ := okE.d hE 1 rfl (by decide)
    subst hnp
    obtain ⟨y, r, rfl, h⟩ := sI.inv hs
    obtain ⟨x, r, rfl, h⟩ := sI.inv h
    exact lv_iadd hx hb d (hK _ _ _ _ _ h ls H locs hl hr hL)
  | isub =>
    obtain ⟨d, hnp⟩ := okE.d hE 1 rfl (by decide)
    subst hnp
    obtain ⟨y, r, rfl, h⟩ := sI.inv hs
    obtain ⟨x, r, rfl, h⟩ := sI.inv h
    exact lv_isub hx hb d (hK _ _ _ _ _ h ls H locs hl hr hL)
  | imul =>
    obtain ⟨d, hnp⟩ := okE.d hE 1 rfl (by decide)
    subst hnp
    obtain ⟨y, r, rfl, h⟩ := sI.inv hs
    obtain ⟨x, r, rfl, h⟩ := sI.inv h
    exact lv_imul hx hb d (hK _ _ _ _ _ h ls H locs hl hr hL)
  | iand =>
    obtain ⟨d, hnp⟩ := okE.d hE 1 rfl (by decide)
    subst hnp
    obtain ⟨y, r, rfl, h⟩ := sI.inv hs
    obtain ⟨x, r, rfl, h⟩ := sI.inv h
    exact lv_iand hx hb d (hK _ _ _ _ _ h ls H locs hl hr hL)
  | ior =>
    obtain ⟨d, hnp⟩ := okE.d hE 1 rfl (by decide)
    subst hnp
    obtain ⟨y, r, rfl, h⟩ := sI.inv hs
    obtain ⟨x, r, rfl, h⟩ := sI.inv h
    exact lv_ior hx hb d (hK _ _ _ _ _ h ls H locs hl hr hL)
  | ixor =>
    obtain ⟨d, hnp⟩ := okE.d hE 1 rfl (by decide)
    subst hnp
    obtain ⟨y, r, rfl, h⟩ := sI.inv hs
    obtain ⟨x, r, rfl, h⟩ := sI.inv h
    exact lv_ixor hx hb d (hK _ _ _ _ _ h ls H locs hl hr hL)
  | ishl =>
    obtain ⟨d, hnp⟩ := okE.d hE 1 rfl (by decide)
    subst hnp
    obtain ⟨y, r, rfl, h⟩ := sI.inv hs
    obtain ⟨x, r, rfl, h⟩ := sI.inv h
    exact lv_ishl hx hb d (hK _ _ _ _ _ h ls H locs hl hr hL)
  | ishr =>
    obtain ⟨d, hnp⟩ := okE.d hE 1 rfl (by decide)
    subst hnp
    obtain ⟨y, r, rfl, h⟩ := sI.inv hs
    obtain ⟨x, r, rfl, h⟩ := sI.inv h
    exact lv_ishr hx hb d (hK _ _ _ _ _ h ls H locs hl hr hL)
  | iushr =>
    obtain ⟨d, hnp⟩ := okE.d hE 1 rfl (by decide)
    subst hnp
    obtain ⟨y, r, rfl, h⟩ := sI.inv hs
    obtain ⟨x, r, rfl, h⟩ := sI.inv h
    exact lv_iushr hx hb d rfl (hK _ _ _ _ _ h ls H locs hl hr hL)
  | idiv =>
    obtain ⟨d, hnp⟩ := okE.d hE 1 rfl (by decide)
    subst hnp
    obtain ⟨y, r, rfl, h⟩ := sI.inv hs
    obtain ⟨x, r, rfl, h⟩ := sI.inv h
    obtain ⟨hz, h⟩ := h
    exact lv_idiv hx hb d hz (hK _ _ _ _ _ h ls H locs hl hr hL)
  | irem =>
    obtain ⟨d, hnp⟩ := okE.d hE 1 rfl (by decide)
    subst hnp
    obtain ⟨y, r, rfl, h⟩ := sI.inv hs
    obtain ⟨x, r, rfl, h⟩ := sI.inv h
    obtain ⟨hz, h⟩ := h
    exact lv_irem hx hb d hz (hK _ _ _ _ _ h ls H locs hl hr hL)
  | i2b =>
    obtain ⟨d, hnp⟩ := okE.d hE 1 rfl (by decide)
    subst hnp
    obtain ⟨x, r, rfl, h⟩ := sI.inv hs
    exact lv_i2b hx hb d rfl (hK _ _ _ _ _ h ls H locs hl hr hL)
  | i2l =>
    obtain ⟨d, hnp⟩ := okE.d hE 1 rfl (by decide)
    subst hnp
    obtain ⟨x, r, rfl, h⟩ := sI.inv hs
    exact lv_i2l hx hb d rfl (hK _ _ _ _ _ h ls H locs hl hr hL)
  | l2i =>
    obtain ⟨d, hnp⟩ := okE.d hE 1 rfl (by decide)
    subst hnp
    obtain ⟨x, r, rfl, h⟩ := sJ.inv hs
    exact lv_l2i hx hb d rfl (hK _ _ _ _ _ h ls H locs hl hr hL)
  | lmul =>
    obtain ⟨d, hnp⟩ := okE.d hE 1 rfl (by decide)
    subst hnp
    obtain ⟨y, r, rfl, h⟩ := sJ.inv hs
    obtain ⟨x, r, rfl, h⟩ := sJ.inv h
    exact lv_lmul hx hb d (hK _ _ _ _ _ h ls H locs hl hr hL)
  | lushr =>
    obtain ⟨d, hnp⟩ := okE.d hE 1 rfl (by decide)
    subst hnp
    obtain ⟨y, r, rfl, h⟩ := sI.inv hs
    obtain ⟨x, r, rfl, h⟩ := sJ.inv h
    exact lv_lushr hx hb d rfl (hK _ _ _ _ _ h ls H locs hl hr hL)
  | lshr =>
    obtain ⟨d, hnp⟩ := okE.d hE 1 rfl (by decide)
    subst hnp
    obtain ⟨y, r, rfl, h⟩ := sI.inv hs
    obtain ⟨x, r, rfl, h⟩ := sJ.inv h
    exact lv_lshr hx hb d rfl (hK _ _ _ _ _ h ls H locs hl hr hL)
  | dup =>
    obtain ⟨d, hnp⟩ := okE.d hE 1 rfl (by decide)
    subst hnp
    simp only [step] at hs
    obtain ⟨v, r, rfl, hc, h⟩ := s1.inv hs
    exact lv_dup hx hb d hc (hK _ _ _ _ _ h ls H locs hl hr hL)
  | pop =>
    obtain ⟨d, hnp⟩ := okE.d hE 1 rfl (by decide)
    subst hnp
    simp only [step] at hs
    obtain ⟨v, r, rfl, hc, h⟩ := s1.inv hs
    exact lv_pop hx hb d hc (hK _ _ _ _ _ h ls H locs hl hr hL)
  | dup2 =>
    obtain ⟨d, hnp⟩ := okE.d hE 1 rfl (by decide)
    subst hnp
    simp only [step] at hs
    obtain ⟨v, r, rfl, hc, h⟩ := s1.inv hs
    obtain ⟨v2, r, rfl, hc2, h⟩ := s1.inv h
    exact lv_dup2_11 hx hb d hc hc2 (hK _ _ _ _ _ h ls H locs hl hr hL)
  | ifCond co off =>
    obtain ⟨d, hnp⟩ := okE.d hE 3 rfl (by decide)
    subst hnp
    cases co with
    | eq =>
      obtain ⟨x, r, rfl, h⟩ := sI.inv hs
      exact lv_if_eq hx hb d (of_decide_eq_true hI) (fun q => hK _ _ _ _ _ (h.1 q) ls H locs hl hr hL) (fun q => hK _ _ _ _ _ (h.2 q) ls H locs hl hr hL)
    | ne =>
      obtain ⟨x, r, rfl, h⟩ := sI.inv hs
      exact lv_if_ne hx hb d (of_decide_eq_true hI) (fun q => hK _ _ _ _ _ (h.2 q) ls H locs hl hr hL) (fun q => hK _ _ _ _ _ (h.1 q) ls H locs hl hr hL)
    | lt =>
      obtain ⟨x, r, rfl, h⟩ := sI.inv hs
      exact lv_if_lt hx hb d (of_decide_eq_true hI) (fun q => hK _ _ _ _ _ (h.1 q) ls H locs hl hr hL) (fun q => hK _ _ _ _ _ (h.2 q) ls H locs hl hr hL)
    | ge =>
      obtain ⟨x, r, rfl, h⟩ := sI.inv hs
      exact lv_if_ge hx hb d (of_decide_eq_true hI) (fun q => hK _ _ _ _ _ (h.1 q) ls H locs hl hr hL) (fun q => hK _ _ _ _ _ (h.2 q) ls H locs hl hr hL)
    | gt =>
      obtain ⟨x, r, rfl, h⟩ := sI.inv hs
      exact lv_if_gt hx hb d (of_decide_eq_true hI) (fun q => hK _ _ _ _ _ (h.1 q) ls H locs hl hr hL) (fun q => hK _ _ _ _ _ (h.2 q) ls H locs hl hr hL)
    | le =>
      obtain ⟨x, r, rfl, h⟩ := sI.inv hs
      exact lv_if_le hx hb d (of_decide_eq_true hI) (fun q => hK _ _ _ _ _ (h.1 q) ls H locs hl hr hL) (fun q => hK _ _ _ _ _ (h.2 q) ls H locs hl hr hL)
  | if_icmp co off =>
    obtain ⟨d, hnp⟩ := okE.d hE 3 rfl (by decide)
    subst hnp
    cases co with
    | eq =>
      obtain ⟨y, r, rfl, h⟩ := sI.inv hs
      obtain ⟨x, r, rfl, h⟩ := sI.inv h
      exact lv_icmp_eq hx hb d (of_decide_eq_true hI) (fun q => hK _ _ _ _ _ (h.1 q) ls H locs hl hr hL) (fun q => hK _ _ _ _ _ (h.2 q) ls H locs hl hr hL)
    | ne =>
      obtain ⟨y, r, rfl, h⟩ := sI.inv hs
      obtain ⟨x, r, rfl, h⟩ := sI.inv h
      exact lv_icmp_ne hx hb d (of_decide_eq_true hI) (fun q => hK _ _ _ _ _ (h.2 q) ls H locs hl hr hL) (fun q => hK _ _ _ _ _ (h.1 q) ls H locs hl hr hL)
    | lt =>
      obtain ⟨y, r, rfl, h⟩ := sI.inv hs
      obtain ⟨x, r, rfl, h⟩ := sI.inv h
      exact lv_icmp_lt hx hb d (of_decide_eq_true hI) (fun q => hK _ _ _ _ _ (h.1 q) ls H locs hl hr hL) (fun q => hK _ _ _ _ _ (h.2 q) ls H locs hl hr hL)
    | ge =>
      obtain ⟨y, r, rfl, h⟩ := sI.inv hs
      obtain ⟨x, r, rfl, h⟩ := sI.inv h
      exact lv_icmp_ge hx hb d (of_decide_eq_true hI) (fun q => hK _ _ _ _ _ (h.1 q) ls H locs hl hr hL) (fun q => hK _ _ _ _ _ (h.2 q) ls H locs hl hr hL)
    | gt =>
      obtain ⟨y, r, rfl, h⟩ := sI.inv hs
      obtain ⟨x, r, rfl, h⟩ := sI.inv h
      exact lv_icmp_gt hx hb d (of_decide_eq_true hI) (fun q => hK _ _ _ _ _ (h.1 q) ls H locs hl hr hL) (fun q => hK _ _ _ _ _ (h.2 q) ls H locs hl hr hL)
    | le =>
      obtain ⟨y, r, rfl, h⟩ := sI.inv hs
      obtain ⟨x, r, rfl, h⟩ := sI.inv h
      exact lv_icmp_le hx hb d (of_decide_eq_true hI) (fun q => hK _ _ _ _ _ (h.1 q) ls H locs hl hr hL) (fun q => hK _ _ _ _ _ (h.2 q) ls H locs hl hr hL)
  | ifnull off =>
    obtain ⟨d, hnp⟩ := okE.d hE 3 rfl (by decide)
    subst hnp
    simp only [step] at hs
    split at hs
    · exact lv_ifnullN hx hb d (of_decide_eq_true hI) (hK _ _ _ _ _ hs ls H locs hl hr hL)
    · exact lv_ifnull hx hb d (hK _ _ _ _ _ hs ls H locs hl hr hL)
    · exact hs.elim
  | ifnonnull off =>
    obtain ⟨d, hnp⟩ := okE.d hE 3 rfl (by decide)
    subst hnp
    simp only [step] at hs
    split at hs
    · exact lv_ifnonnullN hx hb d (hK _ _ _ _ _ hs ls H locs hl hr hL)
    · exact lv_ifnonnull hx hb d (of_decide_eq_true hI) (hK _ _ _ _ _ hs ls H locs hl hr hL)
    · exact hs.elim
  | goto off =>
    obtain ⟨d, hnp⟩ := okE.d hE 3 rfl (by decide)
    subst hnp
    have h := hs
    exact lv_goto hx hb d (of_decide_eq_true hI) (hK _ _ _ _ _ h ls H locs hl hr hL)
  | tableswitch df lo hi offs =>
    have d := okE.w hE
    obtain ⟨x, r, rfl, h⟩ := sI.inv hs
    simp only [okI, Bool.and_eq_true, decide_eq_true_eq, List.all_eq_true] at hI
    obtain ⟨⟨hd, ho⟩, hz⟩ := hI
    by_cases hc : x.toInt < lo ∨ hi < x.toInt
    · exact lv_tableOut hx hb d hc (Int.toNat_of_nonneg hd).symm (hK _ _ _ _ _ (h.1 hc) ls H locs hl hr hL)
    · have h9 := h.2 hc
      have q1 : ¬ x.toInt < lo := fun q => hc (Or.inl q)
      have q2 : ¬ hi < x.toInt := fun q => hc (Or.inr q)
      have q3 : (x.toInt - lo).toNat < offs.size := by omega
      have q4 : offs[(x.toInt - lo).toNat]? = some offs[(x.toInt - lo).toNat] := Array.getElem?_eq_getElem q3
      have q5 := ho _ (Array.getElem_mem_toList q3)
      exact lv_tableIn hx hb d q1 q2 q4 (Int.toNat_of_nonneg q5).symm (hK _ _ _ _ _ (h9 _ _ q4 (by omega)) ls H locs hl hr hL)
  | getfield i =>
    obtain ⟨d, hnp⟩ := okE.d hE 3 rfl (by decide)
    subst hnp
    simp only [step] at hs
    split at hs
    · rename_i ci k hv
      obtain ⟨hw, hq⟩ := hcp _ _ hv
      simp only [rB, Bool.and_eq_true, decide_eq_true_eq] at hq
      obtain ⟨g1, g2, -, -, -⟩ := clOK ci hq.1
      obtain ⟨a, r, rfl, h⟩ := sA.inv hs
      obtain ⟨fs, v, ha, hv2, h⟩ := h
      exact va_get hx hb hts g2 hown hKn.1 (hr.one ha) 0 rfl g1 k hq.2 (hts _ (hw _ List.mem_cons_self)) (fun _ h9 => h9) hv2 d (hK _ _ _ _ _ h ls H locs hl hr hL)
    · exact hs.elim
  | putfield i =>
    obtain ⟨d, hnp⟩ := okE.d hE 3 rfl (by decide)
    subst hnp
    simp only [step] at hs
    split at hs
    · rename_i ci k hv
      obtain ⟨hw, hq⟩ := hcp _ _ hv
      simp only [rB, Bool.and_eq_true, decide_eq_true_eq] at hq
      obtain ⟨g1, g2, g3, g4, g5⟩ := clOK ci hq.1
      obtain ⟨hf, hs⟩ := hs
      obtain ⟨v, r, rfl, hc, h⟩ := s1.inv hs
      obtain ⟨a, r, rfl, h⟩ := sA.inv h
      obtain ⟨fs, ha, hlt, hn, hft, h⟩ := h
      refine r_put hx hb hts g2 (mFt ci) g3 g4 hown hKn.1 hr ha g1 k hq.2 (hts _ (hw _ List.mem_cons_self)) ?_ hn hft hlt d (fun H1 L hLb hr1 => hK _ _ _ _ _ h ls H1 _ hl hr1 (m_locs hL hLb ha.1))
      rcases hf with hf | ⟨hf, hi, hci⟩
      · exact Or.inl hf
      · refine Or.inr ⟨hf, hini hi, ?_⟩
        rw [g5 k hq.2, hci]
        exact hrn hi
    · exact hs.elim
  | getstatic i =>
    obtain ⟨d, hnp⟩ := okE.d hE 3 rfl (by decide)
    subst hnp
    simp only [step] at hs
    split at hs
    · rename_i hv
      have hw := (hcp _ _ hv).1
      exact r_gets hx hb hKn.2.2.1 hr hown (hts _ (hw _ List.mem_cons_self)) d (hK _ _ _ _ _ hs ls H locs hl hr hL)
    · rename_i hv
      have hw := (hcp _ _ hv).1
      exact r_gets hx hb hKn.2.2.2.1 hr hown (hts _ (hw _ List.mem_cons_self)) d (hK _ _ _ _ _ hs ls H locs hl hr hL)
    · exact hs.elim
  | iaload =>
    obtain ⟨d, hnp⟩ := okE.d hE 1 rfl (by decide)
    subst hnp
    obtain ⟨i, r, rfl, h⟩ := sI.inv hs
    obtain ⟨a, r, rfl, h⟩ := sA.inv h
    rcases h with ⟨n, f, ha, hi, h⟩ | ⟨j, hj, rfl, hi, h⟩
    · exact va_iald hx hb hKn.1 (hr.one ha) 0 0 rfl rfl hi d (hK _ _ _ _ _ h ls H locs hl hr hL)
    · exact r_xld hx hb (hKn.2.1 j hj).2 hr (hKn.2.1 j hj).1 hi d (hK _ _ _ _ _ h ls H locs hl hr hL)
  | baload =>
    obtain ⟨d, hnp⟩ := okE.d hE 1 rfl (by decide)
    subst hnp
    obtain ⟨i, r, rfl, h⟩ := sI.inv hs
    obtain ⟨a, r, rfl, h⟩ := sA.inv h
    obtain ⟨n, f, ha, hi, h⟩ := h
    exact va_bald hx hb hKn.1 (hr.one ha) 0 1 rfl rfl hi d (hK _ _ _ _ _ h ls H locs hl hr hL)
  | aaload =>
    obtain ⟨d, hnp⟩ := okE.d hE 1 rfl (by decide)
    subst hnp
    obtain ⟨i, r, rfl, h⟩ := sI.inv hs
    obtain ⟨a, r, rfl, h⟩ := sA.inv h
    obtain ⟨t, n, f, ht, ha, hi, h⟩ := h
    have ht2 : ∃ ty, (mTys G)[t]? = some (G.2.1 t, ty) ∧ ty.isReference = true := by
      rcases (show t = 2 ∨ t = 3 ∨ t = 4 ∨ t = 5 ∨ t = 6 by omega) with rfl | rfl | rfl | rfl | rfl <;> exact ⟨_, rfl, rfl⟩
    obtain ⟨ty, ht3, ht4⟩ := ht2
    exact r_aald hx hb hKn.1 hr ht3 ht4 ha hi d (hK _ _ _ _ _ h ls H locs hl hr hL)
  | iastore =>
    obtain ⟨d, hnp⟩ := okE.d hE 1 rfl (by decide)
    subst hnp
    obtain ⟨x, r, rfl, h⟩ := sI.inv hs
    obtain ⟨i, r, rfl, h⟩ := sI.inv h
    obtain ⟨a, r, rfl, h⟩ := sA.inv h
    obtain ⟨n, f, ha, hi, h⟩ := h
    exact r_iast hx hb hKn.1 hr ha hi d (fun H1 L hLb hr1 => hK _ _ _ _ _ h ls H1 _ hl hr1 (m_locs hL hLb ha.1))
  | bastore =>
    obtain ⟨d, hnp⟩ := okE.d hE 1 rfl (by decide)
    subst hnp
    obtain ⟨x, r, rfl, h⟩ := sI.inv hs
    obtain ⟨i, r, rfl, h⟩ := sI.inv h
    obtain ⟨a, r, rfl, h⟩ := sA.inv h
    obtain ⟨n, f, ha, hi, h⟩ := h
    exact r_bast hx hb hKn.1 hr ha hi d (fun H1 L hLb hr1 => hK _ _ _ _ _ h ls H1 _ hl hr1 (m_locs hL hLb ha.1))
  | aastore =>
    obtain ⟨d, hnp⟩ := okE.d hE 1 rfl (by decide)
    subst hnp
    obtain ⟨v, r, rfl, h⟩ := sA.inv hs
    obtain ⟨i, r, rfl, h⟩ := sI.inv h
    obtain ⟨a, r, rfl, h⟩ := sA.inv h
    obtain ⟨t, n, f, ci, r0, vs, ht, ha, hv, hi, h⟩ := h
    have ht2 : (mTys G)[t]? = some (G.2.1 t, .object r0.1) ∧ vwCl[ci]? = some r0 := by
      unfold mEl at ht
      split at ht <;> first | (cases ht; exact ⟨rfl, rfl⟩) | cases ht
    exact r_aast hx hb hKn.1 hr ht2.1 ht2.2 ha hv hi d (fun H1 L hLb hr1 => hK _ _ _ _ _ h ls H1 _ hl hr1 (m_locs hL hLb ha.1))
  | arraylength =>
    obtain ⟨d, hnp⟩ := okE.d hE 1 rfl (by decide)
    subst hnp
    obtain ⟨a, r, rfl, h⟩ := sA.inv hs
    rcases h with ⟨t, n, x, ht, ha, h⟩ | ⟨j, hj, rfl, h⟩
    · have ht2 : ∃ ty, (mTys G)[t]? = some (G.2.1 t, ty) := by
        rcases (show t = 0 ∨ t = 1 ∨ t = 2 ∨ t = 3 ∨ t = 4 ∨ t = 5 ∨ t = 6 by omega) with rfl | rfl | rfl | rfl | rfl | rfl | rfl <;> exact ⟨_, rfl⟩
      obtain ⟨ty, ht3⟩ := ht2
      exact va_alen hx hb hKn.1 (hr.one ha) 0 t rfl ht3 rfl d (hK _ _ _ _ _ h ls H locs hl hr hL)
    · exact r_xlen hx hb (hKn.2.1 j hj).2 hr (hKn.2.1 j hj).1 d (hK _ _ _ _ _ h ls H locs hl hr hL)
  | invokevirtual i =>
    obtain ⟨d, hnp⟩ := okE.d hE 3 rfl (by decide)
    subst hnp
    simp only [step] at hs
    split at hs
    · rename_i q hv
      obtain ⟨hk0, hs⟩ := hs
      obtain ⟨hw, hq⟩ := hcp _ _ hv
      simp only [rB, hk0, qB, Bool.and_eq_true, decide_eq_true_eq] at hq
      simp only [rW, hk0] at hw
      obtain ⟨⟨hq1, hq2⟩, hq3⟩ := hq
      obtain ⟨as, r, hn, rfl, h⟩ := sArgs.inv hs
      obtain ⟨a, r, rfl, hrm, h⟩ := sA.inv h
      obtain ⟨⟨fs, ha⟩, rm, K0, hcon, hR, hC, h⟩ := h
      rw [List.append_nil] at hcon
      have hw1 : ∀ w : Cond, w ∈ _ → w.before args s = true := fun w h9 => hts w (hw w h9)
      refine m_after (va_runV (As := as) (rest := r) (C := q.2.1.cls) ⟨hx, hb, hml, hown, hts⟩ (hcon l) (ws := mWs q.2.1 q.2.2.1 q.2.2.2.1 q.2.2.2.2.1) (n := q.2.2.2.2.2.1) (bytes := q.2.2.1) (maxL := q.2.2.2.1) (ret := q.2.2.2.2.1) ⟨callB_of _ hts (mWs_good (hw _ (List.mem_of_getElem? (i := 4) rfl))) rfl rfl rfl (hw1 _ (List.mem_of_getElem? (i := 3) rfl)) (hw1 _ (List.mem_of_getElem? (i := 0) rfl)) hq1 hR, hw1 _ (List.mem_of_getElem? (i := 1) rfl), hw1 _ (List.mem_of_getElem? (i := 2) rfl)⟩ ⟨m_blind, ?_, fun U hU hW => ⟨rfl, by rw [hU]; exact hr, mK.moved hW hKn⟩⟩ rfl hn hl.1 rfl (lv_room hrm) d hC) hl hL rfl (fun v S9 h9 => hK _ _ _ _ _ (h v S9 h9))
      have g1 := (clOK q.2.2.2.2.2.2 hq2).1
      have h8 := va_recv hKn.1 (hr.one ha) g1 (q0 := 0) rfl
      rw [show (mRn q.2.2.2.2.2.2, mTb q.2.2.2.2.2.2, mN q.2.2.2.2.2.2).1 = q.2.1.cls from hq3] at h8
      exact h8
    · exact hs.elim
  | invokestatic i =>
    obtain ⟨d, hnp⟩ := okE.d hE 3 rfl (by decide)
    subst hnp
    simp only [step] at hs
    split at hs
    · rename_i q hv
      obtain ⟨hw, hq⟩ := hcp _ _ hv
      split at hs
      · rename_i hk0
        simp only [rB, hk0, qB, decide_eq_true_eq] at hq
        simp only [rW, hk0] at hw
        obtain ⟨as, r, hn, rfl, hrm, h⟩ := sArgs.inv hs
        obtain ⟨rm, K0, hcon, hR, hC, h⟩ := h
        rw [List.append_nil] at hcon
        have hw1 : ∀ w : Cond, w ∈ _ → w.before args s = true := fun w h9 => hts w (hw w h9)
        exact m_after (va_runS (As := as) (rest := r) ⟨hx, hb, hml, hown, hts⟩ (hcon l) (ws := mWs q.2.1 q.2.2.1 q.2.2.2.1 q.2.2.2.2.1) (n := q.2.2.2.2.2.1) (bytes := q.2.2.1) (maxL := q.2.2.2.1) (ret := q.2.2.2.2.1) ⟨callB_of _ hts (mWs_good (hw _ (List.mem_of_getElem? (i := 3) rfl))) rfl rfl rfl (hw1 _ (List.mem_of_getElem? (i := 2) rfl)) (hw1 _ (List.mem_of_getElem? (i := 0) rfl)) hq hR, hw1 _ (List.mem_of_getElem? (i := 1) rfl)⟩ ⟨m_blind, fun U hU hW => ⟨rfl, by rw [hU]; exact hr, mK.moved hW hKn⟩⟩ rfl hn hl.1 rfl (lv_room hrm) d hC) hl hL rfl (fun v S9 h9 => hK _ _ _ _ _ (h v S9 h9))
      · rename_i hk0
        simp only [rW, hk0] at hw
        have hw1 : ∀ w : Cond, w ∈ _ → w.before args s = true := fun w h9 => hts w (hw w h9)
        obtain ⟨n, r1, rfl, h1⟩ := sI.inv hs
        obtain ⟨dp, r2, rfl, h2⟩ := sI.inv h1
        obtain ⟨a, r3, rfl, h3⟩ := sA.inv h2
        obtain ⟨sp, r4, rfl, h4⟩ := sI.inv h3
        obtain ⟨a0, r, rfl, hrm, h⟩ := sA.inv h4
        obtain ⟨⟨z1, z2, z3⟩, hf, hlo, h⟩ := h
        have hlo2 : (r.map fun v => v.category).sum + (nativeFrameWords "java/lang/System" "arraycopy" 5 + 11) ≤ R.locals := by
          have h8 : nativeFrameWords "java/lang/System" "arraycopy" 5 ≤ 41 := by decide
          omega
        rcases h with ⟨n0, n1, f, g, ha0, ha1, h4, h5, hft, h⟩ | ⟨j, n1, g, hj, rfl, ha1, h4, h5, h⟩
        · refine r_copy hx hb (hml.trans hl.1.symm) hown (hw1 _ (List.mem_of_getElem? (i := 0) rfl)) (hw1 _ (List.mem_of_getElem? (i := 1) rfl)) (hw1 _ (List.mem_of_getElem? (i := 2) rfl)) (hw1 _ (List.mem_of_getElem? (i := 3) rfl)) hKn.1 hr (t1 := 1) (n0 := n0) (f := f) (ty := .byte) (hr.at ha0) ((hKn.1.2 1 (G.2.1 1, .byte) rfl).1 n0 (fun j => .int (f j))) (fun q => by cases q) (by show (arrV _ _ _).slots.size = _; rw [arrV_size]) (fun j hj => by show (arrV _ _ _).slots[_]? = _; rw [arrV_read _ _ hj]) ha1 rfl rfl z1 z2 z3 h4 h5 hft hf hlo2 d (fun H1 L hLb hr1 => hK _ _ _ _ _ h ls H1 _ hl hr1 (m_locsL hL (fun q hq9 => by rw [hLb q hq9]; exact ha1.1)))
        · obtain ⟨hlt, scr, x1, x2, x3, x4, x5⟩ := hKn.2.1 j hj
          refine r_copy hx hb (hml.trans hl.1.symm) hown (hw1 _ (List.mem_of_getElem? (i := 0) rfl)) (hw1 _ (List.mem_of_getElem? (i := 1) rfl)) (hw1 _ (List.mem_of_getElem? (i := 2) rfl)) (hw1 _ (List.mem_of_getElem? (i := 3) rfl)) hKn.1 hr (t1 := 0) (n0 := (G.2.2.2 j).2.1) (f := (G.2.2.2 j).2.2) (ty := .int) (src := scr) (by rw [hr.2.2.1 _ hlt]; exact x1) x2 x3 x4 x5 ha1 rfl rfl z1 z2 z3 h4 h5 (fun _ _ => rfl) hf hlo2 d (fun H1 L hLb hr1 => hK _ _ _ _ _ h ls H1 _ hl hr1 (m_locsL hL (fun q hq9 => by rw [hLb q hq9]; exact ha1.1)))
      · rename_i hk0
        simp only [rW, hk0] at hw
        have hw1 : ∀ w : Cond, w ∈ _ → w.before args s = true := fun w h9 => hts w (hw w h9)
        obtain ⟨y, r, rfl, h⟩ := sI.inv hs
        obtain ⟨x, r, rfl, hrm, ⟨hf, hlo, hc1, hc2⟩, h⟩ := sI.inv h
        exact va_mmax hx hb (hml.trans hl.1.symm) hown (hw1 _ (List.mem_of_getElem? (i := 0) rfl)) (hw1 _ (List.mem_of_getElem? (i := 1) rfl)) (hw1 _ (List.mem_of_getElem? (i := 2) rfl)) (hw1 _ (List.mem_of_getElem? (i := 3) rfl)) hf (by omega) hc1 hc2 d (hK _ _ _ _ _ h ls H locs hl hr hL)
      · exact hs.elim
    · exact hs.elim
  | invokespecial i =>
    obtain ⟨d, hnp⟩ := okE.d hE 3 rfl (by decide)
    subst hnp
    simp only [step] at hs
    split at hs
    · rename_i q hv
      obtain ⟨hw, hq⟩ := hcp _ _ hv
      split at hs
      · rename_i hk0
        simp only [rB, hk0, qB, Bool.and_eq_true, decide_eq_true_eq] at hq
        simp only [rW, hk0] at hw
        obtain ⟨⟨hq1, hq2⟩, hq3⟩ := hq
        obtain ⟨as, r, hn, rfl, h⟩ := sArgs.inv hs
        obtain ⟨a, r, rfl, hrm, h⟩ := sA.inv h
        obtain ⟨rm, K0, hcon, hR, hC, h⟩ := h
        rw [List.append_nil, hq3] at hcon
        have hw1 : ∀ w : Cond, w ∈ _ → w.before args s = true := fun w h9 => hts w (hw w h9)
        exact m_after (va_runI (As := as) (rest := r) ⟨hx, hb, hml, hown, hts⟩ (hcon l) (ws := mWs q.2.1 q.2.2.1 q.2.2.2.1 none) (n := q.2.2.2.2.2.1) (bytes := q.2.2.1) (maxL := q.2.2.2.1) ⟨callB_of _ hts (mWs_good (hw _ (List.mem_of_getElem? (i := 3) rfl))) rfl rfl rfl (hw1 _ (List.mem_of_getElem? (i := 2) rfl)) (hw1 _ (List.mem_of_getElem? (i := 0) rfl)) hq1 hR, hq2, hw1 _ (List.mem_of_getElem? (i := 1) rfl)⟩ ⟨m_blind, fun U hU hW => ⟨rfl, by rw [hU]; exact hr, mK.moved hW hKn⟩⟩ rfl hn hl.1 rfl (lv_room hrm) d hC) hl hL rfl (fun v S9 h9 => hK _ _ _ _ _ (h v S9 h9))
      · rename_i hk0
        simp only [rB, hk0, qB, Bool.and_eq_true, decide_eq_true_eq] at hq
        simp only [rW, hk0] at hw
        obtain ⟨⟨⟨⟨hq1, hq2⟩, hq3⟩, hq4⟩, hq5⟩ := hq
        obtain ⟨as, r, hn, rfl, h⟩ := sArgs.inv hs
        obtain ⟨a, r, rfl, hrm, h⟩ := sA.inv h
        obtain ⟨rm, K0, hcon, hR, hC, h⟩ := h
        rw [List.append_nil, hq3] at hcon
        have hw1 : ∀ w : Cond, w ∈ _ → w.before args s = true := fun w h9 => hts w (hw w h9)
        have hnw := hKn.2.2.2.2.1 _ hq4
        rw [hq5] at hown
        exact m_after (va_runIN (As := as) (rest := r) (host := RX7) ⟨hx, hb, hml, hown, hts⟩ (hcon l) (ws := mWs q.2.1 q.2.2.1 q.2.2.2.1 none) (n := q.2.2.2.2.2.1) (bytes := q.2.2.1) (maxL := q.2.2.2.1) ⟨va_cnB _ hts (mWs_good (hw _ (List.mem_of_getElem? (i := 2) rfl))) rfl rfl rfl hnw (hw1 _ (List.mem_of_getElem? (i := 1) rfl)) hq1 hR, hq2, hw1 _ (List.mem_of_getElem? (i := 0) rfl)⟩ ⟨m_blind, fun U hU hW => ⟨rfl, by rw [hU]; exact hr, mK.moved hW hKn⟩⟩ rfl hn hl.1 rfl (lv_room hrm) d hC) hl hL rfl (fun v S9 h9 => hK _ _ _ _ _ (h v S9 h9))
      · rename_i hk0
        simp only [rW, hk0] at hw
        have hw1 : ∀ w : Cond, w ∈ _ → w.before args s = true := fun w h9 => hts w (hw w h9)
        obtain ⟨a, r, rfl, hrm, ⟨hf, hlo⟩, h⟩ := sA.inv hs
        refine W.objInit hx hb hown (hw1 _ (List.mem_of_getElem? (i := 0) rfl)) (hw1 _ (List.mem_of_getElem? (i := 1) rfl)) (hw1 _ (List.mem_of_getElem? (i := 2) rfl)) rfl (by rw [hml]; exact hl.1) rfl d hf ?_ (W.eq (g2 := F0 m (pc + 3) ls r) rfl (hK _ _ _ _ _ h ls H locs hl hr hL))
        show 2 * 0 + _ + 12 ≤ _
        omega
      · exact hs.elim
    · exact hs.elim
  | new i =>
    obtain ⟨d, hnp⟩ := okE.d hE 3 rfl (by decide)
    subst hnp
    simp only [step] at hs
    split at hs
    · rename_i ci hv
      obtain ⟨hw, hq⟩ := hcp _ _ hv
      obtain ⟨hci, ⟨hc1, hc2⟩, h⟩ := hs
      obtain ⟨g1, g2, g3, g4, g5⟩ := clOK ci hci
      have e1 : rW I i (.inr (.inr (.inr (.inr ci)))) = [.classLink I.1.1 i (mRn ci), .instantiable (mRn ci) (mN ci), .initialized (mRn ci)] := by
        simp only [rW]
        rw [if_neg (by omega), if_neg (by omega)]
      rw [e1] at hw
      have hw1 : ∀ w : Cond, w ∈ _ → w.before args s = true := fun w h9 => hts w (hw w h9)
      exact r_new hx hb hts g2 (mFt ci) g3 hown (hw1 _ (List.mem_of_getElem? (i := 0) rfl)) (hw1 _ (List.mem_of_getElem? (i := 1) rfl)) (hw1 _ (List.mem_of_getElem? (i := 2) rfl)) hKn.1 hr g1 (mDef_ok ci) hc1 hc2 d (fun H1 hr1 => hK _ _ _ _ _ h ls H1 locs hl hr1 hL)
    · exact hs.elim
  | newarray at0 =>
    obtain ⟨d, hnp⟩ := okE.d hE 2 rfl (by decide)
    subst hnp
    cases at0 with
    | int =>
      obtain ⟨n, r, rfl, h⟩ := sI.inv hs
      obtain ⟨hn, hn2, ⟨hc1, hc2⟩, h⟩ := h
      exact r_newa (atype := .int) hx hb (hts _ acI) hKn.1 (t0 := 0) rfl (fun A h9 => h9) hr rfl hn rfl (by show _ * _ ≤ _; simp only [componentBytes, newarray.typeOf]; omega) hc1 hc2 d (fun H1 hr1 => hK _ _ _ _ _ h ls H1 locs hl hr1 hL)
    | byte =>
      obtain ⟨n, r, rfl, h⟩ := sI.inv hs
      obtain ⟨hn, hn2, ⟨hc1, hc2⟩, h⟩ := h
      exact r_newa (atype := .byte) hx hb (hts _ acB) hKn.1 (t0 := 1) rfl (fun A h9 => h9) hr rfl hn rfl (by show _ * _ ≤ _; simp only [componentBytes, newarray.typeOf]; omega) hc1 hc2 d (fun H1 hr1 => hK _ _ _ _ _ h ls H1 locs hl hr1 hL)
    | _ => exact False.elim hs
  | anewarray i =>
    obtain ⟨d, hnp⟩ := okE.d hE 3 rfl (by decide)
    subst hnp
    simp only [step] at hs
    split at hs
    · rename_i ci hv
      obtain ⟨hw, hq⟩ := hcp _ _ hv
      obtain ⟨hci, hs⟩ := hs
      obtain ⟨g1, g2, g3⟩ := mTo_lt hci
      have e1 : rW I i (.inr (.inr (.inr (.inr ci)))) = [.classLink I.1.1 i (mRn ci), .instantiable (mRn ci) (mN ci), .initialized (mRn ci)] := by
        simp only [rW]
        rw [if_neg (by omega), if_neg (by omega)]
      rw [e1] at hw
      have hw1 : ∀ w : Cond, w ∈ _ → w.before args s = true := fun w h9 => hts w (hw w h9)
      obtain ⟨n, r, rfl, h⟩ := sI.inv hs
      obtain ⟨hn, hn2, ⟨hc1, hc2⟩, h⟩ := h
      exact r_newq hx hb hown (hw1 _ (List.mem_of_getElem? (i := 0) rfl)) (hKn.2.2.2.2.2.1 _ g2) hKn.1 (g3 G) hr hn rfl (by omega) hc1 hc2 d (fun H1 hr1 => hK _ _ _ _ _ h ls H1 locs hl hr1 hL)
    · exact hs.elim
  | ireturn =>
    obtain ⟨d, hnp⟩ := okE.d hE 1 rfl (by decide)
    subst hnp
    obtain ⟨x, r, rfl, h⟩ := sI.inv hs
    obtain ⟨rfl, h⟩ := s0.inv h
    obtain ⟨hcs, ⟨ty, ht, hn⟩, h⟩ := h
    rcases hQ with rfl | hQ
    · exact W.widen hcs.1 hcs.2 (W.zret hx hb (hret.trans ht) hn (fun t ht9 hW9 => ⟨_, S, rfl, h, by rw [ht9]; exact hr⟩) hL d hlocks)
    · exact (hQ _ _ h).elim
  | areturn =>
    obtain ⟨d, hnp⟩ := okE.d hE 1 rfl (by decide)
    subst hnp
    simp only [step] at hs
    obtain ⟨v, r, rfl, hv, h⟩ := sQ.inv hs
    obtain ⟨rfl, h⟩ := s0.inv h
    obtain ⟨hcs, hty, h⟩ := h
    have hty2 : ∃ ty, I.2.2.2 = some ty ∧ ((∃ n, ty = .object n) ∨ ∃ t, ty = .array t) := by
      rcases hv with rfl | ⟨a, rfl⟩ <;> exact hty
    obtain ⟨ty, ht, hty3⟩ := hty2
    rcases hQ with rfl | hQ
    · exact W.widen hcs.1 hcs.2 (W.aret hx hb (hret.trans ht) hty3 hv (fun t ht9 hW9 => ⟨_, S, rfl, h, by rw [ht9]; exact hr⟩) hL d hlocks)
    · exact (hQ _ _ h).elim
  | return_ =>
    obtain ⟨d, hnp⟩ := okE.d hE 1 rfl (by decide)
    subst hnp
    obtain ⟨rfl, h⟩ := s0.inv hs
    obtain ⟨hcs, ht, h⟩ := h
    rcases hQ with rfl | hQ
    · exact W.widen hcs.1 hcs.2 (W.vret hx hb (hret.trans ht) (fun t ht9 hW9 => ⟨_, S, rfl, h, by rw [ht9]; exact hr⟩) hL d hlocks)
    · exact (hQ _ _ h).elim
  | _ => exact False.elim hs
end SND
end
section
/-- tables as trees: a place is found by halving -/
def nd {α : Type} (k : Nat) (x y : Nat → Option α) : Nat → Option α := fun i => bif Nat.blt i k then x i else y i
def lf {α : Type} (k : Nat) (e : α) : Nat → Option α := fun i => bif Nat.beq i k then some e else none
def tAll {α : Type} (P : Nat → α → Prop) (t : Nat → Option α) : Prop := ∀ (i : Nat) (e : α), t i = some e → P i e
theorem nd_all {α : Type} {P : Nat → α → Prop} {k : Nat} {x y : Nat → Option α} (hx : tAll P x) (hy : tAll P y) : tAll P (nd k x y) := by
  intro i e h
  unfold nd at h
  cases hb : Nat.blt i k with
  | true => rw [hb] at h; exact hx i e h
  | false => rw [hb] at h; exact hy i e h
theorem lf_all {α : Type} {P : Nat → α → Prop} {k : Nat} {e : α} (h : P k e) : tAll P (lf k e) := by
  intro i e' h'
  unfold lf at h'
  cases hb : Nat.beq i k with
  | true =>
    rw [hb] at h'
    have h1 : e = e' := Option.some.inj h'
    rw [← h1, Nat.eq_of_beq_eq_true hb]
    exact h
  | false => rw [hb] at h'; cases h'
def okC (cc : ByteArray) (nL : Nat) (pc : Nat) (E : mE) : Prop := okE cc pc E = true ∧ ∀ i, iSl E.1 = some i → i < nL
def okD (cc : ByteArray) (nL : Nat) (pc : Nat) (E : mE) : Bool := okE cc pc E && (match iSl E.1 with | some i => decide (i < nL) | none => true)
theorem okD_ok {cc : ByteArray} {nL pc : Nat} {E : mE} (h : okD cc nL pc E = true) : okC cc nL pc E := by
  unfold okD at h
  simp only [Bool.and_eq_true] at h
  refine ⟨h.1, fun i hi => ?_⟩
  have h2 := h.2
  rw [hi] at h2
  exact of_decide_eq_true h2
def vc (G : mG) (R : Room) (I : mI) (mc ms : Nat) (KR : Option Value → mS → Prop) (ct : Nat → Option mE) (cuts : Nat → Option Nat) (J : Nat → mL → List Value → Nat × Nat → mS → Prop) : Nat → Nat → mL → List Value → Nat × Nat → mS → Prop
  | 0, _, _, _, _, _ => False
  | f + 1, pc, lv, st, cs, S => match ct pc with
    | none => False
    | some E => step G R I mc ms KR pc E lv st cs S (fun pc' lv' st' cs' S' => match cuts pc' with
      | some k => J pc' (ltrim k lv') st' cs' S'
      | none => vc G R I mc ms KR ct cuts J f pc' lv' st' cs' S')
/-- from this point on the method comes to its end, whoever called it -/
def Gd (G : mG) (I : mI) (cc : ByteArray) (nL : Nat) (R : Room) (mc ms : Nat) (KR : Option Value → mS → Prop) (pc : Nat) (lv : mL) (st : List Value) (cs : Nat × Nat) (S : mS) : Prop :=
  ∀ (p : Program) (l : Launch) (e : Env) (s : State) (m : MethodId) (args : Array Value) (below : List Frame) (meth : Method) (c : Code), mCx G I p s m args meth c cc nL → gd p l e R s m args below meth c G nL (MQ below (mQc G KR) args s mc ms (fun q => mb G ≤ q)) pc lv st cs S
theorem Gd.of {G : mG} {I : mI} {cc : ByteArray} {nL : Nat} {R : Room} {mc ms : Nat} {KR : Option Value → mS → Prop} {ct : Nat → Option mE} {cuts : Nat → Option Nat} (hcp : cpOK I) (hct : tAll (okC cc nL) ct) :
    ∀ (f : Nat) {pc : Nat} {lv : mL} {st : List Value} {cs : Nat × Nat} {S : mS}, vc G R I mc ms KR ct cuts (Gd G I cc nL R mc ms KR) f pc lv st cs S → Gd G I cc nL R mc ms KR pc lv st cs S := by
  intro f
  induction f with
  | zero => intro pc lv st cs S h; exact h.elim
  | succ f ih =>
    intro pc lv st cs S h p l e s m args below meth c X
    unfold vc at h
    split at h
    · exact h.elim
    · rename_i E hE
      obtain ⟨h1, h2⟩ := hct pc E hE
      refine st_ok (Or.inl rfl) X hcp h1 h2 h (fun pc' lv' st' cs' S' hk => ?_)
      split at hk
      · intro ls H locs hl hr hL
        exact hk p l e s m args below meth c X ls H locs (lv_le hl (fun q hq => (List.mem_filter.mp hq).1)) hr hL
      · exact ih hk p l e s m args below meth c X
theorem mCon.of {G : mG} {I : mI} {cc : ByteArray} {nL : Nat} {rm : Room} {KR : Option Value → mS → Prop} {av : List Value} {S : mS} {y : MethodName} {ret : Option FieldType} (hy : plainName y.cls = true) (ho : y.cls = I.1.1) (hr : ret = I.2.2.2) (hi : I.2.2.1 = true → y.name = "<init>") (hn : I.2.2.1 = true → mRn I.1.2 = I.1.1) (hl : (lg_sl av).length ≤ nL)
    (h : Gd G I cc nL rm rm.cells rm.slots KR 0 (lv_args 0 av) [] (0, 0) S) : mCon G y cc nL ret rm av S KR := by
  intro l
  refine Met.ofW (cc := cc) (maxL := nL) (ret := ret) hy rfl ?_
  intro p e s m args below meth c s₁ B hml hv
  obtain ⟨rfl, hrp, hK⟩ := hv
  have hts := atoms_spec (ws := mWs y cc nL ret) B.pre
  have hown : s.vm.findClass I.1.1 = some m.cls := by rw [← ho]; exact findClass_of_methodNamed B.named
  rw [lg_entry_eq]
  exact h p l e s m _ below meth c ⟨B.exec, B.bytes, hml, hown, fun w hw => hts w (List.mem_cons_of_mem _ hw), hK, B.returns.trans hr, B.notSynchronized, fun h9 => (name_of_methodNamed B.named B.method).1.trans (hi h9), hn⟩ _ _ [] (lv_entry av hl) hrp (fun q h => by cases h)
def rmD (d : Nat) : Room := { frames := d, cells := 0, slots := 0, locals := 70 * d }
end
section
theorem lw_in0 {w : Cond} (h : w ∈ k2_sels lw_privs) : w ∈ lw_tbl := List.mem_append_left _ h
theorem lw_inT {w : Cond} (h : w ∈ tables_1) : w ∈ lw_tbl := List.mem_append_right _ h
theorem lw_in1 {w : Cond} (h : w ∈ tables_1_1) : w ∈ lw_tbl := lw_inT (List.mem_append_left _ h)
theorem lw_in2 {w : Cond} (h : w ∈ tables_1_2) : w ∈ lw_tbl := lw_inT (List.mem_append_right _ (List.mem_append_left _ h))
theorem lw_in3 {w : Cond} (h : w ∈ tables_1_3) : w ∈ lw_tbl := lw_inT (List.mem_append_right _ (List.mem_append_right _ (List.mem_append_left _ h)))
theorem lw_in4 {w : Cond} (h : w ∈ tables_1_4) : w ∈ lw_tbl := lw_inT (List.mem_append_right _ (List.mem_append_right _ (List.mem_append_right _ (List.mem_append_left _ h))))
theorem lw_in5 {w : Cond} (h : w ∈ tables_1_5) : w ∈ lw_tbl := lw_inT (List.mem_append_right _ (List.mem_append_right _ (List.mem_append_right _ (List.mem_append_right _ h))))
set_option maxRecDepth 100000 in
theorem wd_0 : Cond.methodLink RX4 3 objectInit ∈ mT := mT_in (lw_in1 (List.mem_of_getElem? (i := 31) rfl)) rfl
set_option maxRecDepth 100000 in
theorem wd_1 : Cond.instanceMethod objectInit ∈ mT := mT_in (lw_in1 (List.mem_of_getElem? (i := 18) rfl)) rfl
set_option maxRecDepth 100000 in
theorem wd_2 : Cond.code objectInit ⟨#[0xb1]⟩ 1 none ∈ mT := mT_in (lw_in1 (List.mem_of_getElem? (i := 19) rfl)) rfl
set_option maxRecDepth 100000 in
theorem wd_3 : Cond.methodLink RX4 9 Lib.Math.max.name ∈ mT := mT_in (lw_in1 (List.mem_of_getElem? (i := 32) rfl)) rfl
set_option maxRecDepth 100000 in
theorem wd_4 : Cond.static Lib.Math.max.name ∈ mT := mT_in (lw_in1 (List.mem_of_getElem? (i := 33) rfl)) rfl
set_option maxRecDepth 100000 in
theorem wd_5 : Cond.initialized "java/lang/Math" ∈ mT := mT_in (lw_in1 (List.mem_of_getElem? (i := 4) rfl)) rfl
set_option maxRecDepth 100000 in
theorem wd_6 : Cond.code Lib.Math.max.name Lib.Math.max.code 2 (some .int) ∈ mT := mT_in (lw_in1 (List.mem_of_getElem? (i := 34) rfl)) rfl
set_option maxRecDepth 100000 in
theorem wd_7 : Cond.fieldLink RX4 15 (mTb 4 0).1 (mTb 4 0).2.1 (mTb 4 0).2.2.1 ∈ mT := mT_in (lw_in1 (List.mem_of_getElem? (i := 35) rfl)) rfl
set_option maxRecDepth 100000 in
theorem wd_8 : Cond.fieldLink RX4 21 (mTb 4 1).1 (mTb 4 1).2.1 (mTb 4 1).2.2.1 ∈ mT := mT_in (lw_in1 (List.mem_of_getElem? (i := 36) rfl)) rfl
set_option maxRecDepth 100000 in
theorem wd_9 : Cond.methodLink RX4 25 arraycopyName ∈ mT := mT_in (lw_in1 (List.mem_of_getElem? (i := 126) rfl)) rfl
set_option maxRecDepth 100000 in
theorem wd_10 : Cond.native arraycopyName ∈ mT := mT_in (lw_in1 (List.mem_of_getElem? (i := 106) rfl)) rfl
set_option maxRecDepth 100000 in
theorem wd_11 : Cond.static arraycopyName ∈ mT := mT_in (lw_in1 (List.mem_of_getElem? (i := 105) rfl)) rfl
set_option maxRecDepth 100000 in
theorem wd_12 : Cond.initialized "java/lang/System" ∈ mT := mT_in (lw_in1 (List.mem_of_getElem? (i := 6) rfl)) rfl
set_option maxRecDepth 100000 in
theorem wd_13 : Cond.methodLink RX4 31 yX4_addPart ∈ mT := mT_in (lw_in2 (List.mem_of_getElem? (i := 62) rfl)) rfl
set_option maxRecDepth 100000 in
theorem wd_14 : Cond.instanceMethod yX4_addPart ∈ mT := mT_in (lw_in1 (List.mem_of_getElem? (i := 123) rfl)) rfl
set_option maxRecDepth 100000 in
theorem wd_15 : Cond.initialized RX4 ∈ mT := mT_in (lw_in1 (List.mem_of_getElem? (i := 3) rfl)) rfl
set_option maxRecDepth 100000 in
theorem wd_16 : Cond.code yX4_addPart cX4_addPart 4 none ∈ mT := mT_in (lw_in1 (List.mem_of_getElem? (i := 125) rfl)) rfl
set_option maxRecDepth 100000 in
theorem wd_17 : Cond.selects RX4 yX4_addPart yX4_addPart ∈ mT := mT_in (lw_in1 (List.mem_of_getElem? (i := 124) rfl)) rfl
set_option maxRecDepth 100000 in
theorem wd_18 : Cond.methodLink RX4 35 yX4_at ∈ mT := mT_in (lw_in2 (List.mem_of_getElem? (i := 163) rfl)) rfl
set_option maxRecDepth 100000 in
theorem wd_19 : Cond.instanceMethod yX4_at ∈ mT := mT_in (lw_in2 (List.mem_of_getElem? (i := 69) rfl)) rfl
set_option maxRecDepth 100000 in
theorem wd_20 : Cond.code yX4_at cX4_at 2 (some .int) ∈ mT := mT_in (lw_in2 (List.mem_of_getElem? (i := 71) rfl)) rfl
set_option maxRecDepth 100000 in
theorem wd_21 : Cond.selects RX4 yX4_at yX4_at ∈ mT := mT_in (lw_in2 (List.mem_of_getElem? (i := 70) rfl)) rfl
set_option maxRecDepth 100000 in
theorem wd_22 : Cond.methodLink RX5 3 objectInit ∈ mT := mT_in (lw_in1 (List.mem_of_getElem? (i := 25) rfl)) rfl
set_option maxRecDepth 100000 in
theorem wd_23 : Cond.classLink RX5 9 (mRn 4) ∈ mT := mT_in (lw_in1 (List.mem_of_getElem? (i := 26) rfl)) rfl
set_option maxRecDepth 100000 in
theorem wd_24 : Cond.instantiable (mRn 4) (mN 4) ∈ mT := mT_in (lw_in1 (List.mem_of_getElem? (i := 27) rfl)) rfl
set_option maxRecDepth 100000 in
theorem wd_25 : Cond.methodLink RX5 13 yX4_init ∈ mT := mT_in (lw_in1 (List.mem_of_getElem? (i := 28) rfl)) rfl
set_option maxRecDepth 100000 in
theorem wd_26 : Cond.instanceMethod yX4_init ∈ mT := mT_in (lw_in1 (List.mem_of_getElem? (i := 29) rfl)) rfl
set_option maxRecDepth 100000 in
theorem wd_27 : Cond.code yX4_init cX4_init 2 none ∈ mT := mT_in (lw_in1 (List.mem_of_getElem? (i := 30) rfl)) rfl
set_option maxRecDepth 100000 in
theorem wd_28 : Cond.fieldLink RX5 16 (mTb 5 0).1 (mTb 5 0).2.1 (mTb 5 0).2.2.1 ∈ mT := mT_in (lw_in1 (List.mem_of_getElem? (i := 49) rfl)) rfl
set_option maxRecDepth 100000 in
theorem wd_29 : Cond.fieldLink RX5 20 (mTb 5 1).1 (mTb 5 1).2.1 (mTb 5 1).2.2.1 ∈ mT := mT_in (lw_in1 (List.mem_of_getElem? (i := 54) rfl)) rfl
set_option maxRecDepth 100000 in
theorem wd_30 : Cond.fieldLink RX5 23 (mTb 5 2).1 (mTb 5 2).2.1 (mTb 5 2).2.2.1 ∈ mT := mT_in (lw_in1 (List.mem_of_getElem? (i := 56) rfl)) rfl
set_option maxRecDepth 100000 in
theorem wd_31 : Cond.fieldLink RX5 27 (mTb 5 3).1 (mTb 5 3).2.1 (mTb 5 3).2.2.1 ∈ mT := mT_in (lw_in1 (List.mem_of_getElem? (i := 57) rfl)) rfl
set_option maxRecDepth 100000 in
theorem wd_32 : Cond.fieldLink RX5 30 (mTb 4 1).1 (mTb 4 1).2.1 (mTb 4 1).2.2.1 ∈ mT := mT_in (lw_in1 (List.mem_of_getElem? (i := 37) rfl)) rfl
set_option maxRecDepth 100000 in
theorem wd_33 : Cond.methodLink RX5 34 yX4_add ∈ mT := mT_in (lw_in1 (List.mem_of_getElem? (i := 100) rfl)) rfl
set_option maxRecDepth 100000 in
theorem wd_34 : Cond.instanceMethod yX4_add ∈ mT := mT_in (lw_in1 (List.mem_of_getElem? (i := 89) rfl)) rfl
set_option maxRecDepth 100000 in
theorem wd_35 : Cond.code yX4_add cX4_add 2 none ∈ mT := mT_in (lw_in1 (List.mem_of_getElem? (i := 91) rfl)) rfl
set_option maxRecDepth 100000 in
theorem wd_36 : Cond.selects RX4 yX4_add yX4_add ∈ mT := mT_in (lw_in1 (List.mem_of_getElem? (i := 90) rfl)) rfl
set_option maxRecDepth 100000 in
theorem wd_37 : Cond.methodLink RX5 37 yX4_addNumber ∈ mT := mT_in (lw_in1 (List.mem_of_getElem? (i := 101) rfl)) rfl
set_option maxRecDepth 100000 in
theorem wd_38 : Cond.instanceMethod yX4_addNumber ∈ mT := mT_in (lw_in1 (List.mem_of_getElem? (i := 93) rfl)) rfl
set_option maxRecDepth 100000 in
theorem wd_39 : Cond.code yX4_addNumber cX4_addNumber 2 none ∈ mT := mT_in (lw_in1 (List.mem_of_getElem? (i := 95) rfl)) rfl
set_option maxRecDepth 100000 in
theorem wd_40 : Cond.selects RX4 yX4_addNumber yX4_addNumber ∈ mT := mT_in (lw_in1 (List.mem_of_getElem? (i := 94) rfl)) rfl
set_option maxRecDepth 100000 in
theorem wd_41 : Cond.fieldLink RX5 40 RX5 "FIRST" "[I" ∈ mT := mT_in (lw_in1 (List.mem_of_getElem? (i := 102) rfl)) rfl
set_option maxRecDepth 100000 in
theorem wd_42 : Cond.methodLink RX5 43 arraycopyName ∈ mT := mT_in (lw_in1 (List.mem_of_getElem? (i := 104) rfl)) rfl
set_option maxRecDepth 100000 in
theorem wd_43 : Cond.methodLink RX5 49 yX4_number ∈ mT := mT_in (lw_in1 (List.mem_of_getElem? (i := 107) rfl)) rfl
set_option maxRecDepth 100000 in
theorem wd_44 : Cond.instanceMethod yX4_number ∈ mT := mT_in (lw_in1 (List.mem_of_getElem? (i := 108) rfl)) rfl
set_option maxRecDepth 100000 in
theorem wd_45 : Cond.code yX4_number cX4_number 2 (some .int) ∈ mT := mT_in (lw_in1 (List.mem_of_getElem? (i := 110) rfl)) rfl
set_option maxRecDepth 100000 in
theorem wd_46 : Cond.selects RX4 yX4_number yX4_number ∈ mT := mT_in (lw_in1 (List.mem_of_getElem? (i := 109) rfl)) rfl
set_option maxRecDepth 100000 in
theorem wd_47 : Cond.methodLink RX5 53 yX5_stretch ∈ mT := mT_in (lw_in1 (List.mem_of_getElem? (i := 111) rfl)) rfl
set_option maxRecDepth 100000 in
theorem wd_48 : Cond.instanceMethod yX5_stretch ∈ mT := mT_in (lw_in1 (List.mem_of_getElem? (i := 113) rfl)) rfl
set_option maxRecDepth 100000 in
theorem wd_49 : Cond.initialized RX5 ∈ mT := mT_in (lw_in1 (List.mem_of_getElem? (i := 2) rfl)) rfl
set_option maxRecDepth 100000 in
theorem wd_50 : Cond.code yX5_stretch cX5_stretch 6 none ∈ mT := mT_in (lw_in1 (List.mem_of_getElem? (i := 114) rfl)) rfl
set_option maxRecDepth 100000 in
theorem wd_51 : Cond.selects RX5 yX5_stretch yX5_stretch ∈ mT := mT_in (lw_in0 (List.mem_of_getElem? (i := 0) rfl)) rfl
set_option maxRecDepth 100000 in
theorem wd_52 : Cond.methodLink RX5 56 yX5_mix ∈ mT := mT_in (lw_in1 (List.mem_of_getElem? (i := 115) rfl)) rfl
set_option maxRecDepth 100000 in
theorem wd_53 : Cond.instanceMethod yX5_mix ∈ mT := mT_in (lw_in1 (List.mem_of_getElem? (i := 117) rfl)) rfl
set_option maxRecDepth 100000 in
theorem wd_54 : Cond.code yX5_mix cX5_mix 14 none ∈ mT := mT_in (lw_in1 (List.mem_of_getElem? (i := 118) rfl)) rfl
set_option maxRecDepth 100000 in
theorem wd_55 : Cond.selects RX5 yX5_mix yX5_mix ∈ mT := mT_in (lw_in0 (List.mem_of_getElem? (i := 1) rfl)) rfl
set_option maxRecDepth 100000 in
theorem wd_56 : Cond.methodLink RX5 59 yX4_empty ∈ mT := mT_in (lw_in1 (List.mem_of_getElem? (i := 121) rfl)) rfl
set_option maxRecDepth 100000 in
theorem wd_57 : Cond.instanceMethod yX4_empty ∈ mT := mT_in (lw_in1 (List.mem_of_getElem? (i := 85) rfl)) rfl
set_option maxRecDepth 100000 in
theorem wd_58 : Cond.code yX4_empty cX4_empty 1 none ∈ mT := mT_in (lw_in1 (List.mem_of_getElem? (i := 87) rfl)) rfl
set_option maxRecDepth 100000 in
theorem wd_59 : Cond.selects RX4 yX4_empty yX4_empty ∈ mT := mT_in (lw_in1 (List.mem_of_getElem? (i := 86) rfl)) rfl
set_option maxRecDepth 100000 in
theorem wd_60 : Cond.methodLink RX5 62 yX4_addPart ∈ mT := mT_in (lw_in2 (List.mem_of_getElem? (i := 37) rfl)) rfl
set_option maxRecDepth 100000 in
theorem wd_61 : Cond.methodLink RX5 66 yX5_finish ∈ mT := mT_in (lw_in2 (List.mem_of_getElem? (i := 38) rfl)) rfl
set_option maxRecDepth 100000 in
theorem wd_62 : Cond.instanceMethod yX5_finish ∈ mT := mT_in (lw_in1 (List.mem_of_getElem? (i := 97) rfl)) rfl
set_option maxRecDepth 100000 in
theorem wd_63 : Cond.code yX5_finish cX5_finish 4 (some (.object "GossipWatch$Row")) ∈ mT := mT_in (lw_in1 (List.mem_of_getElem? (i := 99) rfl)) rfl
set_option maxRecDepth 100000 in
theorem wd_64 : Cond.selects RX5 yX5_finish yX5_finish ∈ mT := mT_in (lw_in1 (List.mem_of_getElem? (i := 98) rfl)) rfl
set_option maxRecDepth 100000 in
theorem wd_65 : Cond.fieldLink RX5 70 RX5 "ROUND" "[I" ∈ mT := mT_in (lw_in1 (List.mem_of_getElem? (i := 119) rfl)) rfl
set_option maxRecDepth 100000 in
theorem wd_66 : Cond.methodLink RX2 3 objectInit ∈ mT := mT_in (lw_in1 (List.mem_of_getElem? (i := 169) rfl)) rfl
set_option maxRecDepth 100000 in
theorem wd_67 : Cond.classLink RX2 9 (mRn 4) ∈ mT := mT_in (lw_in1 (List.mem_of_getElem? (i := 170) rfl)) rfl
set_option maxRecDepth 100000 in
theorem wd_68 : Cond.methodLink RX2 11 yX4_init ∈ mT := mT_in (lw_in1 (List.mem_of_getElem? (i := 171) rfl)) rfl
set_option maxRecDepth 100000 in
theorem wd_69 : Cond.fieldLink RX2 14 (mTb 2 0).1 (mTb 2 0).2.1 (mTb 2 0).2.2.1 ∈ mT := mT_in (lw_in1 (List.mem_of_getElem? (i := 172) rfl)) rfl
set_option maxRecDepth 100000 in
theorem wd_70 : Cond.fieldLink RX2 20 (mTb 2 1).1 (mTb 2 1).2.1 (mTb 2 1).2.2.1 ∈ mT := mT_in (lw_in1 (List.mem_of_getElem? (i := 174) rfl)) rfl
set_option maxRecDepth 100000 in
theorem wd_71 : Cond.fieldLink RX2 24 (mTb 4 1).1 (mTb 4 1).2.1 (mTb 4 1).2.2.1 ∈ mT := mT_in (lw_in1 (List.mem_of_getElem? (i := 38) rfl)) rfl
set_option maxRecDepth 100000 in
theorem wd_72 : Cond.methodLink RX0 3 objectInit ∈ mT := mT_in (lw_in1 (List.mem_of_getElem? (i := 132) rfl)) rfl
set_option maxRecDepth 100000 in
theorem wd_73 : Cond.classLink RX0 9 (mRn 4) ∈ mT := mT_in (lw_in1 (List.mem_of_getElem? (i := 133) rfl)) rfl
set_option maxRecDepth 100000 in
theorem wd_74 : Cond.methodLink RX0 11 yX4_init ∈ mT := mT_in (lw_in1 (List.mem_of_getElem? (i := 134) rfl)) rfl
set_option maxRecDepth 100000 in
theorem wd_75 : Cond.fieldLink RX0 14 (mTb 0 0).1 (mTb 0 0).2.1 (mTb 0 0).2.2.1 ∈ mT := mT_in (lw_in1 (List.mem_of_getElem? (i := 135) rfl)) rfl
set_option maxRecDepth 100000 in
theorem wd_76 : Cond.fieldLink RX0 20 (mTb 0 1).1 (mTb 0 1).2.1 (mTb 0 1).2.2.1 ∈ mT := mT_in (lw_in1 (List.mem_of_getElem? (i := 136) rfl)) rfl
set_option maxRecDepth 100000 in
theorem wd_77 : Cond.fieldLink RX0 23 (mTb 4 1).1 (mTb 4 1).2.1 (mTb 4 1).2.2.1 ∈ mT := mT_in (lw_in1 (List.mem_of_getElem? (i := 39) rfl)) rfl
set_option maxRecDepth 100000 in
theorem wd_78 : Cond.methodLink RX0 27 yX4_becomePart ∈ mT := mT_in (lw_in2 (List.mem_of_getElem? (i := 201) rfl)) rfl
set_option maxRecDepth 100000 in
theorem wd_79 : Cond.instanceMethod yX4_becomePart ∈ mT := mT_in (lw_in2 (List.mem_of_getElem? (i := 59) rfl)) rfl
set_option maxRecDepth 100000 in
theorem wd_80 : Cond.code yX4_becomePart cX4_becomePart 4 none ∈ mT := mT_in (lw_in2 (List.mem_of_getElem? (i := 61) rfl)) rfl
set_option maxRecDepth 100000 in
theorem wd_81 : Cond.selects RX4 yX4_becomePart yX4_becomePart ∈ mT := mT_in (lw_in2 (List.mem_of_getElem? (i := 60) rfl)) rfl
set_option maxRecDepth 100000 in
theorem wd_82 : Cond.methodLink RX0 31 yX0_rises ∈ mT := mT_in (lw_in2 (List.mem_of_getElem? (i := 202) rfl)) rfl
set_option maxRecDepth 100000 in
theorem wd_83 : Cond.instanceMethod yX0_rises ∈ mT := mT_in (lw_in2 (List.mem_of_getElem? (i := 204) rfl)) rfl
set_option maxRecDepth 100000 in
theorem wd_84 : Cond.initialized RX0 ∈ mT := mT_in (lw_in1 (List.mem_of_getElem? (i := 7) rfl)) rfl
set_option maxRecDepth 100000 in
theorem wd_85 : Cond.code yX0_rises cX0_rises 10 (some .boolean) ∈ mT := mT_in (lw_in2 (List.mem_of_getElem? (i := 205) rfl)) rfl
set_option maxRecDepth 100000 in
theorem wd_86 : Cond.selects RX0 yX0_rises yX0_rises ∈ mT := mT_in (lw_in0 (List.mem_of_getElem? (i := 10) rfl)) rfl
set_option maxRecDepth 100000 in
theorem wd_87 : Cond.methodLink RX0 35 yX4_sameAs ∈ mT := mT_in (lw_in2 (List.mem_of_getElem? (i := 208) rfl)) rfl
set_option maxRecDepth 100000 in
theorem wd_88 : Cond.instanceMethod yX4_sameAs ∈ mT := mT_in (lw_in2 (List.mem_of_getElem? (i := 160) rfl)) rfl
set_option maxRecDepth 100000 in
theorem wd_89 : Cond.code yX4_sameAs cX4_sameAs 6 (some .boolean) ∈ mT := mT_in (lw_in2 (List.mem_of_getElem? (i := 162) rfl)) rfl
set_option maxRecDepth 100000 in
theorem wd_90 : Cond.selects RX4 yX4_sameAs yX4_sameAs ∈ mT := mT_in (lw_in2 (List.mem_of_getElem? (i := 161) rfl)) rfl
set_option maxRecDepth 100000 in
theorem wd_91 : Cond.methodLink RX0 39 yX4_number ∈ mT := mT_in (lw_in2 (List.mem_of_getElem? (i := 230) rfl)) rfl
set_option maxRecDepth 100000 in
theorem wd_92 : Cond.fieldLink RX0 43 (mTb 5 0).1 (mTb 5 0).2.1 (mTb 5 0).2.2.1 ∈ mT := mT_in (lw_in1 (List.mem_of_getElem? (i := 51) rfl)) rfl
set_option maxRecDepth 100000 in
theorem wd_93 : Cond.methodLink RX0 48 yX4_empty ∈ mT := mT_in (lw_in2 (List.mem_of_getElem? (i := 231) rfl)) rfl
set_option maxRecDepth 100000 in
theorem wd_94 : Cond.methodLink RX0 51 yX4_add ∈ mT := mT_in (lw_in2 (List.mem_of_getElem? (i := 232) rfl)) rfl
set_option maxRecDepth 100000 in
theorem wd_95 : Cond.methodLink RX0 54 yX4_addPart ∈ mT := mT_in (lw_in2 (List.mem_of_getElem? (i := 233) rfl)) rfl
set_option maxRecDepth 100000 in
theorem wd_96 : Cond.methodLink RX0 57 yX5_finish ∈ mT := mT_in (lw_in2 (List.mem_of_getElem? (i := 234) rfl)) rfl
set_option maxRecDepth 100000 in
theorem wd_97 : Cond.methodLink RX0 61 yX4_become ∈ mT := mT_in (lw_in2 (List.mem_of_getElem? (i := 207) rfl)) rfl
set_option maxRecDepth 100000 in
theorem wd_98 : Cond.instanceMethod yX4_become ∈ mT := mT_in (lw_in2 (List.mem_of_getElem? (i := 189) rfl)) rfl
set_option maxRecDepth 100000 in
theorem wd_99 : Cond.code yX4_become cX4_become 2 none ∈ mT := mT_in (lw_in2 (List.mem_of_getElem? (i := 191) rfl)) rfl
set_option maxRecDepth 100000 in
theorem wd_100 : Cond.selects RX4 yX4_become yX4_become ∈ mT := mT_in (lw_in2 (List.mem_of_getElem? (i := 190) rfl)) rfl
set_option maxRecDepth 100000 in
theorem wd_101 : Cond.methodLink RX0 65 yX5_join ∈ mT := mT_in (lw_in2 (List.mem_of_getElem? (i := 206) rfl)) rfl
set_option maxRecDepth 100000 in
theorem wd_102 : Cond.instanceMethod yX5_join ∈ mT := mT_in (lw_in2 (List.mem_of_getElem? (i := 34) rfl)) rfl
set_option maxRecDepth 100000 in
theorem wd_103 : Cond.code yX5_join cX5_join 5 (some (.object "GossipWatch$Row")) ∈ mT := mT_in (lw_in2 (List.mem_of_getElem? (i := 36) rfl)) rfl
set_option maxRecDepth 100000 in
theorem wd_104 : Cond.selects RX5 yX5_join yX5_join ∈ mT := mT_in (lw_in2 (List.mem_of_getElem? (i := 35) rfl)) rfl
set_option maxRecDepth 100000 in
theorem wd_105 : Cond.methodLink RX6 3 objectInit ∈ mT := mT_in (lw_in1 (List.mem_of_getElem? (i := 148) rfl)) rfl
set_option maxRecDepth 100000 in
theorem wd_106 : Cond.fieldLink RX6 11 (mTb 6 0).1 (mTb 6 0).2.1 (mTb 6 0).2.2.1 ∈ mT := mT_in (lw_in1 (List.mem_of_getElem? (i := 152) rfl)) rfl
set_option maxRecDepth 100000 in
theorem wd_107 : Cond.classLink RX6 15 (mRn 4) ∈ mT := mT_in (lw_in1 (List.mem_of_getElem? (i := 149) rfl)) rfl
set_option maxRecDepth 100000 in
theorem wd_108 : Cond.fieldLink RX6 17 (mTb 6 1).1 (mTb 6 1).2.1 (mTb 6 1).2.2.1 ∈ mT := mT_in (lw_in1 (List.mem_of_getElem? (i := 153) rfl)) rfl
set_option maxRecDepth 100000 in
theorem wd_109 : Cond.methodLink RX6 21 yX4_init ∈ mT := mT_in (lw_in1 (List.mem_of_getElem? (i := 151) rfl)) rfl
set_option maxRecDepth 100000 in
theorem wd_110 : Cond.fieldLink RX6 24 (mTb 6 2).1 (mTb 6 2).2.1 (mTb 6 2).2.2.1 ∈ mT := mT_in (lw_in1 (List.mem_of_getElem? (i := 154) rfl)) rfl
set_option maxRecDepth 100000 in
theorem wd_111 : Cond.fieldLink RX6 28 (mTb 5 0).1 (mTb 5 0).2.1 (mTb 5 0).2.2.1 ∈ mT := mT_in (lw_in1 (List.mem_of_getElem? (i := 52) rfl)) rfl
set_option maxRecDepth 100000 in
theorem wd_112 : Cond.methodLink RX6 34 yX4_empty ∈ mT := mT_in (lw_in2 (List.mem_of_getElem? (i := 28) rfl)) rfl
set_option maxRecDepth 100000 in
theorem wd_113 : Cond.methodLink RX6 37 yX4_add ∈ mT := mT_in (lw_in2 (List.mem_of_getElem? (i := 29) rfl)) rfl
set_option maxRecDepth 100000 in
theorem wd_114 : Cond.methodLink RX6 40 yX4_addNumber ∈ mT := mT_in (lw_in2 (List.mem_of_getElem? (i := 30) rfl)) rfl
set_option maxRecDepth 100000 in
theorem wd_115 : Cond.methodLink RX6 43 yX5_finish ∈ mT := mT_in (lw_in2 (List.mem_of_getElem? (i := 31) rfl)) rfl
set_option maxRecDepth 100000 in
theorem wd_116 : Cond.methodLink RX6 47 yX4_addPart ∈ mT := mT_in (lw_in2 (List.mem_of_getElem? (i := 32) rfl)) rfl
set_option maxRecDepth 100000 in
theorem wd_117 : Cond.fieldLink RX6 51 (mTb 4 1).1 (mTb 4 1).2.1 (mTb 4 1).2.2.1 ∈ mT := mT_in (lw_in1 (List.mem_of_getElem? (i := 40) rfl)) rfl
set_option maxRecDepth 100000 in
theorem wd_118 : Cond.methodLink RX6 54 yX5_join ∈ mT := mT_in (lw_in2 (List.mem_of_getElem? (i := 33) rfl)) rfl
set_option maxRecDepth 100000 in
theorem wd_119 : Cond.fieldLink RX6 58 (mTb 5 1).1 (mTb 5 1).2.1 (mTb 5 1).2.2.1 ∈ mT := mT_in (lw_in1 (List.mem_of_getElem? (i := 55) rfl)) rfl
set_option maxRecDepth 100000 in
theorem wd_120 : Cond.methodLink RX6 61 yX4_becomePart ∈ mT := mT_in (lw_in2 (List.mem_of_getElem? (i := 58) rfl)) rfl
set_option maxRecDepth 100000 in
theorem wd_121 : Cond.methodLink RX6 64 yX6_splitOf ∈ mT := mT_in (lw_in2 (List.mem_of_getElem? (i := 80) rfl)) rfl
set_option maxRecDepth 100000 in
theorem wd_122 : Cond.initialized RX6 ∈ mT := mT_in (lw_in1 (List.mem_of_getElem? (i := 8) rfl)) rfl
set_option maxRecDepth 100000 in
theorem wd_123 : Cond.code yX6_splitOf cX6_splitOf 3 (some .int) ∈ mT := mT_in (lw_in2 (List.mem_of_getElem? (i := 82) rfl)) rfl
set_option maxRecDepth 100000 in
theorem wd_124 : Cond.static yX6_splitOf ∈ mT := mT_in (lw_in2 (List.mem_of_getElem? (i := 81) rfl)) rfl
set_option maxRecDepth 100000 in
theorem wd_125 : Cond.methodLink RX6 68 yX6_rootOf ∈ mT := mT_in (lw_in2 (List.mem_of_getElem? (i := 83) rfl)) rfl
set_option maxRecDepth 100000 in
theorem wd_126 : Cond.instanceMethod yX6_rootOf ∈ mT := mT_in (lw_in2 (List.mem_of_getElem? (i := 55) rfl)) rfl
set_option maxRecDepth 100000 in
theorem wd_127 : Cond.code yX6_rootOf cX6_rootOf 9 (some (.object "GossipWatch$Row")) ∈ mT := mT_in (lw_in2 (List.mem_of_getElem? (i := 57) rfl)) rfl
set_option maxRecDepth 100000 in
theorem wd_128 : Cond.selects RX6 yX6_rootOf yX6_rootOf ∈ mT := mT_in (lw_in2 (List.mem_of_getElem? (i := 56) rfl)) rfl
set_option maxRecDepth 100000 in
theorem wd_129 : Cond.methodLink RX7 3 objectInit ∈ mT := mT_in (lw_in1 (List.mem_of_getElem? (i := 17) rfl)) rfl
set_option maxRecDepth 100000 in
theorem wd_130 : Cond.classLink RX7 9 (mRn 5) ∈ mT := mT_in (lw_in1 (List.mem_of_getElem? (i := 20) rfl)) rfl
set_option maxRecDepth 100000 in
theorem wd_131 : Cond.instantiable (mRn 5) (mN 5) ∈ mT := mT_in (lw_in1 (List.mem_of_getElem? (i := 21) rfl)) rfl
set_option maxRecDepth 100000 in
theorem wd_132 : Cond.instanceMethod yX5_init ∈ mT := mT_in (lw_in1 (List.mem_of_getElem? (i := 23) rfl)) rfl
set_option maxRecDepth 100000 in
theorem wd_133 : Cond.code yX5_init cX5_init 1 none ∈ mT := mT_in (lw_in1 (List.mem_of_getElem? (i := 24) rfl)) rfl
set_option maxRecDepth 100000 in
theorem wd_134 : Cond.fieldLink RX7 12 (mTb 7 0).1 (mTb 7 0).2.1 (mTb 7 0).2.2.1 ∈ mT := mT_in (lw_in1 (List.mem_of_getElem? (i := 224) rfl)) rfl
set_option maxRecDepth 100000 in
theorem wd_135 : Cond.classLink RX7 16 (mRn 1) ∈ mT := mT_in (lw_in1 (List.mem_of_getElem? (i := 68) rfl)) rfl
set_option maxRecDepth 100000 in
theorem wd_136 : Cond.instantiable (mRn 1) (mN 1) ∈ mT := mT_in (lw_in1 (List.mem_of_getElem? (i := 69) rfl)) rfl
set_option maxRecDepth 100000 in
theorem wd_137 : Cond.initialized (mRn 1) ∈ mT := mT_in (lw_in1 (List.mem_of_getElem? (i := 5) rfl)) rfl
set_option maxRecDepth 100000 in
theorem wd_138 : Cond.instanceMethod yX1_init ∈ mT := mT_in (lw_in1 (List.mem_of_getElem? (i := 71) rfl)) rfl
set_option maxRecDepth 100000 in
theorem wd_139 : Cond.code yX1_init cX1_init 1 none ∈ mT := mT_in (lw_in1 (List.mem_of_getElem? (i := 72) rfl)) rfl
set_option maxRecDepth 100000 in
theorem wd_140 : Cond.fieldLink RX7 19 (mTb 7 1).1 (mTb 7 1).2.1 (mTb 7 1).2.2.1 ∈ mT := mT_in (lw_in1 (List.mem_of_getElem? (i := 225) rfl)) rfl
set_option maxRecDepth 100000 in
theorem wd_141 : Cond.methodLink RX7 23 yX1_makeFrom ∈ mT := mT_in (lw_in1 (List.mem_of_getElem? (i := 80) rfl)) rfl
set_option maxRecDepth 100000 in
theorem wd_142 : Cond.instanceMethod yX1_makeFrom ∈ mT := mT_in (lw_in1 (List.mem_of_getElem? (i := 81) rfl)) rfl
set_option maxRecDepth 100000 in
theorem wd_143 : Cond.code yX1_makeFrom cX1_makeFrom 5 none ∈ mT := mT_in (lw_in1 (List.mem_of_getElem? (i := 83) rfl)) rfl
set_option maxRecDepth 100000 in
theorem wd_144 : Cond.selects RX1 yX1_makeFrom yX1_makeFrom ∈ mT := mT_in (lw_in1 (List.mem_of_getElem? (i := 82) rfl)) rfl
set_option maxRecDepth 100000 in
theorem wd_145 : Cond.classLink RX7 27 (mRn 0) ∈ mT := mT_in (lw_in1 (List.mem_of_getElem? (i := 127) rfl)) rfl
set_option maxRecDepth 100000 in
theorem wd_146 : Cond.instantiable (mRn 0) (mN 0) ∈ mT := mT_in (lw_in1 (List.mem_of_getElem? (i := 128) rfl)) rfl
set_option maxRecDepth 100000 in
theorem wd_147 : Cond.instanceMethod yX0_init ∈ mT := mT_in (lw_in1 (List.mem_of_getElem? (i := 130) rfl)) rfl
set_option maxRecDepth 100000 in
theorem wd_148 : Cond.code yX0_init cX0_init 1 none ∈ mT := mT_in (lw_in1 (List.mem_of_getElem? (i := 131) rfl)) rfl
set_option maxRecDepth 100000 in
theorem wd_149 : Cond.fieldLink RX7 30 (mTb 7 2).1 (mTb 7 2).2.1 (mTb 7 2).2.2.1 ∈ mT := mT_in (lw_in1 (List.mem_of_getElem? (i := 226) rfl)) rfl
set_option maxRecDepth 100000 in
theorem wd_150 : Cond.classLink RX7 34 (mRn 6) ∈ mT := mT_in (lw_in1 (List.mem_of_getElem? (i := 142) rfl)) rfl
set_option maxRecDepth 100000 in
theorem wd_151 : Cond.instantiable (mRn 6) (mN 6) ∈ mT := mT_in (lw_in1 (List.mem_of_getElem? (i := 144) rfl)) rfl
set_option maxRecDepth 100000 in
theorem wd_152 : Cond.fieldLink RX7 36 (mTb 7 3).1 (mTb 7 3).2.1 (mTb 7 3).2.2.1 ∈ mT := mT_in (lw_in1 (List.mem_of_getElem? (i := 227) rfl)) rfl
set_option maxRecDepth 100000 in
theorem wd_153 : Cond.methodLink RX7 40 yX6_init ∈ mT := mT_in (lw_in1 (List.mem_of_getElem? (i := 145) rfl)) rfl
set_option maxRecDepth 100000 in
theorem wd_154 : Cond.instanceMethod yX6_init ∈ mT := mT_in (lw_in1 (List.mem_of_getElem? (i := 146) rfl)) rfl
set_option maxRecDepth 100000 in
theorem wd_155 : Cond.code yX6_init cX6_init 2 none ∈ mT := mT_in (lw_in1 (List.mem_of_getElem? (i := 147) rfl)) rfl
set_option maxRecDepth 100000 in
theorem wd_156 : Cond.classLink RX7 41 (mRn 2) ∈ mT := mT_in (lw_in1 (List.mem_of_getElem? (i := 163) rfl)) rfl
set_option maxRecDepth 100000 in
theorem wd_157 : Cond.instantiable (mRn 2) (mN 2) ∈ mT := mT_in (lw_in1 (List.mem_of_getElem? (i := 165) rfl)) rfl
set_option maxRecDepth 100000 in
theorem wd_158 : Cond.initialized (mRn 2) ∈ mT := mT_in (lw_in1 (List.mem_of_getElem? (i := 9) rfl)) rfl
set_option maxRecDepth 100000 in
theorem wd_159 : Cond.fieldLink RX7 43 (mTb 7 4).1 (mTb 7 4).2.1 (mTb 7 4).2.2.1 ∈ mT := mT_in (lw_in1 (List.mem_of_getElem? (i := 228) rfl)) rfl
set_option maxRecDepth 100000 in
theorem wd_160 : Cond.instanceMethod yX2_init ∈ mT := mT_in (lw_in1 (List.mem_of_getElem? (i := 167) rfl)) rfl
set_option maxRecDepth 100000 in
theorem wd_161 : Cond.code yX2_init cX2_init 1 none ∈ mT := mT_in (lw_in1 (List.mem_of_getElem? (i := 168) rfl)) rfl
set_option maxRecDepth 100000 in
theorem wd_162 : Cond.classLink RX7 48 (mRn 3) ∈ mT := mT_in (lw_in1 (List.mem_of_getElem? (i := 181) rfl)) rfl
set_option maxRecDepth 100000 in
theorem wd_163 : Cond.instantiable (mRn 3) (mN 3) ∈ mT := mT_in (lw_in1 (List.mem_of_getElem? (i := 183) rfl)) rfl
set_option maxRecDepth 100000 in
theorem wd_164 : Cond.initialized (mRn 3) ∈ mT := mT_in (lw_in1 (List.mem_of_getElem? (i := 10) rfl)) rfl
set_option maxRecDepth 100000 in
theorem wd_165 : Cond.fieldLink RX7 50 (mTb 7 5).1 (mTb 7 5).2.1 (mTb 7 5).2.2.1 ∈ mT := mT_in (lw_in1 (List.mem_of_getElem? (i := 229) rfl)) rfl
set_option maxRecDepth 100000 in
theorem wd_166 : Cond.methodLink RX7 54 yX3_init ∈ mT := mT_in (lw_in1 (List.mem_of_getElem? (i := 184) rfl)) rfl
set_option maxRecDepth 100000 in
theorem wd_167 : Cond.instanceMethod yX3_init ∈ mT := mT_in (lw_in1 (List.mem_of_getElem? (i := 185) rfl)) rfl
set_option maxRecDepth 100000 in
theorem wd_168 : Cond.code yX3_init cX3_init 2 none ∈ mT := mT_in (lw_in1 (List.mem_of_getElem? (i := 186) rfl)) rfl
set_option maxRecDepth 100000 in
theorem wd_169 : Cond.classLink RX7 55 (mRn 4) ∈ mT := mT_in (lw_in1 (List.mem_of_getElem? (i := 222) rfl)) rfl
set_option maxRecDepth 100000 in
theorem wd_170 : Cond.methodLink RX7 57 yX4_init ∈ mT := mT_in (lw_in1 (List.mem_of_getElem? (i := 223) rfl)) rfl
set_option maxRecDepth 100000 in
theorem wd_171 : Cond.fieldLink RX7 60 (mTb 7 6).1 (mTb 7 6).2.1 (mTb 7 6).2.2.1 ∈ mT := mT_in (lw_in1 (List.mem_of_getElem? (i := 230) rfl)) rfl
set_option maxRecDepth 100000 in
theorem wd_172 : Cond.fieldLink RX7 64 (mTb 7 7).1 (mTb 7 7).2.1 (mTb 7 7).2.2.1 ∈ mT := mT_in (lw_in1 (List.mem_of_getElem? (i := 231) rfl)) rfl
set_option maxRecDepth 100000 in
theorem wd_173 : Cond.fieldLink RX7 67 (mTb 7 8).1 (mTb 7 8).2.1 (mTb 7 8).2.2.1 ∈ mT := mT_in (lw_in1 (List.mem_of_getElem? (i := 232) rfl)) rfl
set_option maxRecDepth 100000 in
theorem wd_174 : Cond.methodLink RX7 71 yX7_viewOf ∈ mT := mT_in (lw_in2 (List.mem_of_getElem? (i := 16) rfl)) rfl
set_option maxRecDepth 100000 in
theorem wd_175 : Cond.instanceMethod yX7_viewOf ∈ mT := mT_in (lw_in2 (List.mem_of_getElem? (i := 18) rfl)) rfl
set_option maxRecDepth 100000 in
theorem wd_176 : Cond.initialized RX7 ∈ mT := mT_in (lw_in1 (List.mem_of_getElem? (i := 1) rfl)) rfl
set_option maxRecDepth 100000 in
theorem wd_177 : Cond.code yX7_viewOf cX7_viewOf 3 (some (.object "GossipWatch$View")) ∈ mT := mT_in (lw_in2 (List.mem_of_getElem? (i := 19) rfl)) rfl
set_option maxRecDepth 100000 in
theorem wd_178 : Cond.selects RX7 yX7_viewOf yX7_viewOf ∈ mT := mT_in (lw_in0 (List.mem_of_getElem? (i := 2) rfl)) rfl
set_option maxRecDepth 100000 in
theorem wd_179 : Cond.methodLink RX7 75 yX6_isFull ∈ mT := mT_in (lw_in2 (List.mem_of_getElem? (i := 20) rfl)) rfl
set_option maxRecDepth 100000 in
theorem wd_180 : Cond.instanceMethod yX6_isFull ∈ mT := mT_in (lw_in2 (List.mem_of_getElem? (i := 21) rfl)) rfl
set_option maxRecDepth 100000 in
theorem wd_181 : Cond.code yX6_isFull cX6_isFull 1 (some .boolean) ∈ mT := mT_in (lw_in2 (List.mem_of_getElem? (i := 23) rfl)) rfl
set_option maxRecDepth 100000 in
theorem wd_182 : Cond.selects RX6 yX6_isFull yX6_isFull ∈ mT := mT_in (lw_in2 (List.mem_of_getElem? (i := 22) rfl)) rfl
set_option maxRecDepth 100000 in
theorem wd_183 : Cond.methodLink RX7 79 yX6_addLeaf ∈ mT := mT_in (lw_in2 (List.mem_of_getElem? (i := 24) rfl)) rfl
set_option maxRecDepth 100000 in
theorem wd_184 : Cond.instanceMethod yX6_addLeaf ∈ mT := mT_in (lw_in2 (List.mem_of_getElem? (i := 25) rfl)) rfl
set_option maxRecDepth 100000 in
theorem wd_185 : Cond.code yX6_addLeaf cX6_addLeaf 6 none ∈ mT := mT_in (lw_in2 (List.mem_of_getElem? (i := 27) rfl)) rfl
set_option maxRecDepth 100000 in
theorem wd_186 : Cond.selects RX6 yX6_addLeaf yX6_addLeaf ∈ mT := mT_in (lw_in2 (List.mem_of_getElem? (i := 26) rfl)) rfl
set_option maxRecDepth 100000 in
theorem wd_187 : Cond.fieldLink RX7 83 (mTb 6 2).1 (mTb 6 2).2.1 (mTb 6 2).2.2.1 ∈ mT := mT_in (lw_in1 (List.mem_of_getElem? (i := 155) rfl)) rfl
set_option maxRecDepth 100000 in
theorem wd_188 : Cond.methodLink RX7 86 yX7_nextLetter ∈ mT := mT_in (lw_in2 (List.mem_of_getElem? (i := 47) rfl)) rfl
set_option maxRecDepth 100000 in
theorem wd_189 : Cond.instanceMethod yX7_nextLetter ∈ mT := mT_in (lw_in2 (List.mem_of_getElem? (i := 49) rfl)) rfl
set_option maxRecDepth 100000 in
theorem wd_190 : Cond.code yX7_nextLetter cX7_nextLetter 4 (some (.object "GossipWatch$Row")) ∈ mT := mT_in (lw_in2 (List.mem_of_getElem? (i := 50) rfl)) rfl
set_option maxRecDepth 100000 in
theorem wd_191 : Cond.selects RX7 yX7_nextLetter yX7_nextLetter ∈ mT := mT_in (lw_in0 (List.mem_of_getElem? (i := 3) rfl)) rfl
set_option maxRecDepth 100000 in
theorem wd_192 : Cond.methodLink RX7 90 yX4_addNumber ∈ mT := mT_in (lw_in2 (List.mem_of_getElem? (i := 53) rfl)) rfl
set_option maxRecDepth 100000 in
theorem wd_193 : Cond.methodLink RX7 93 yX6_rootOf ∈ mT := mT_in (lw_in2 (List.mem_of_getElem? (i := 54) rfl)) rfl
set_option maxRecDepth 100000 in
theorem wd_194 : Cond.methodLink RX7 97 yX4_addPart ∈ mT := mT_in (lw_in2 (List.mem_of_getElem? (i := 63) rfl)) rfl
set_option maxRecDepth 100000 in
theorem wd_195 : Cond.methodLink RX7 101 yX1_signFor ∈ mT := mT_in (lw_in2 (List.mem_of_getElem? (i := 64) rfl)) rfl
set_option maxRecDepth 100000 in
theorem wd_196 : Cond.instanceMethod yX1_signFor ∈ mT := mT_in (lw_in2 (List.mem_of_getElem? (i := 65) rfl)) rfl
set_option maxRecDepth 100000 in
theorem wd_197 : Cond.code yX1_signFor cX1_signFor 6 (some (.object "GossipWatch$Row")) ∈ mT := mT_in (lw_in2 (List.mem_of_getElem? (i := 67) rfl)) rfl
set_option maxRecDepth 100000 in
theorem wd_198 : Cond.selects RX1 yX1_signFor yX1_signFor ∈ mT := mT_in (lw_in2 (List.mem_of_getElem? (i := 66) rfl)) rfl
set_option maxRecDepth 100000 in
theorem wd_199 : Cond.methodLink RX7 105 yX4_empty ∈ mT := mT_in (lw_in2 (List.mem_of_getElem? (i := 51) rfl)) rfl
set_option maxRecDepth 100000 in
theorem wd_200 : Cond.methodLink RX7 108 yX6_pushProof ∈ mT := mT_in (lw_in2 (List.mem_of_getElem? (i := 76) rfl)) rfl
set_option maxRecDepth 100000 in
theorem wd_201 : Cond.instanceMethod yX6_pushProof ∈ mT := mT_in (lw_in2 (List.mem_of_getElem? (i := 77) rfl)) rfl
set_option maxRecDepth 100000 in
theorem wd_202 : Cond.code yX6_pushProof cX6_pushProof 9 none ∈ mT := mT_in (lw_in2 (List.mem_of_getElem? (i := 79) rfl)) rfl
set_option maxRecDepth 100000 in
theorem wd_203 : Cond.selects RX6 yX6_pushProof yX6_pushProof ∈ mT := mT_in (lw_in2 (List.mem_of_getElem? (i := 78) rfl)) rfl
set_option maxRecDepth 100000 in
theorem wd_204 : Cond.methodLink RX7 112 yX4_addHashesReversed ∈ mT := mT_in (lw_in2 (List.mem_of_getElem? (i := 84) rfl)) rfl
set_option maxRecDepth 100000 in
theorem wd_205 : Cond.instanceMethod yX4_addHashesReversed ∈ mT := mT_in (lw_in2 (List.mem_of_getElem? (i := 85) rfl)) rfl
set_option maxRecDepth 100000 in
theorem wd_206 : Cond.code yX4_addHashesReversed cX4_addHashesReversed 3 none ∈ mT := mT_in (lw_in2 (List.mem_of_getElem? (i := 87) rfl)) rfl
set_option maxRecDepth 100000 in
theorem wd_207 : Cond.selects RX4 yX4_addHashesReversed yX4_addHashesReversed ∈ mT := mT_in (lw_in2 (List.mem_of_getElem? (i := 86) rfl)) rfl
set_option maxRecDepth 100000 in
theorem wd_208 : Cond.methodLink RX7 116 yX6_leafAt ∈ mT := mT_in (lw_in2 (List.mem_of_getElem? (i := 92) rfl)) rfl
set_option maxRecDepth 100000 in
theorem wd_209 : Cond.instanceMethod yX6_leafAt ∈ mT := mT_in (lw_in2 (List.mem_of_getElem? (i := 93) rfl)) rfl
set_option maxRecDepth 100000 in
theorem wd_210 : Cond.code yX6_leafAt cX6_leafAt 2 (some .int) ∈ mT := mT_in (lw_in2 (List.mem_of_getElem? (i := 95) rfl)) rfl
set_option maxRecDepth 100000 in
theorem wd_211 : Cond.selects RX6 yX6_leafAt yX6_leafAt ∈ mT := mT_in (lw_in2 (List.mem_of_getElem? (i := 94) rfl)) rfl
set_option maxRecDepth 100000 in
theorem wd_212 : Cond.methodLink RX7 120 yX6_pushPath ∈ mT := mT_in (lw_in2 (List.mem_of_getElem? (i := 96) rfl)) rfl
set_option maxRecDepth 100000 in
theorem wd_213 : Cond.instanceMethod yX6_pushPath ∈ mT := mT_in (lw_in2 (List.mem_of_getElem? (i := 97) rfl)) rfl
set_option maxRecDepth 100000 in
theorem wd_214 : Cond.code yX6_pushPath cX6_pushPath 9 none ∈ mT := mT_in (lw_in2 (List.mem_of_getElem? (i := 99) rfl)) rfl
set_option maxRecDepth 100000 in
theorem wd_215 : Cond.selects RX6 yX6_pushPath yX6_pushPath ∈ mT := mT_in (lw_in2 (List.mem_of_getElem? (i := 98) rfl)) rfl
set_option maxRecDepth 100000 in
theorem wd_216 : Cond.methodLink RX7 123 yX7_letterOf ∈ mT := mT_in (lw_in2 (List.mem_of_getElem? (i := 104) rfl)) rfl
set_option maxRecDepth 100000 in
theorem wd_217 : Cond.instanceMethod yX7_letterOf ∈ mT := mT_in (lw_in2 (List.mem_of_getElem? (i := 106) rfl)) rfl
set_option maxRecDepth 100000 in
theorem wd_218 : Cond.code yX7_letterOf cX7_letterOf 2 (some (.object "GossipWatch$Letter")) ∈ mT := mT_in (lw_in2 (List.mem_of_getElem? (i := 107) rfl)) rfl
set_option maxRecDepth 100000 in
theorem wd_219 : Cond.selects RX7 yX7_letterOf yX7_letterOf ∈ mT := mT_in (lw_in0 (List.mem_of_getElem? (i := 4) rfl)) rfl
set_option maxRecDepth 100000 in
theorem wd_220 : Cond.fieldLink RX7 127 (mTb 2 0).1 (mTb 2 0).2.1 (mTb 2 0).2.2.1 ∈ mT := mT_in (lw_in1 (List.mem_of_getElem? (i := 173) rfl)) rfl
set_option maxRecDepth 100000 in
theorem wd_221 : Cond.methodLink RX7 130 yX4_has ∈ mT := mT_in (lw_in2 (List.mem_of_getElem? (i := 108) rfl)) rfl
set_option maxRecDepth 100000 in
theorem wd_222 : Cond.instanceMethod yX4_has ∈ mT := mT_in (lw_in2 (List.mem_of_getElem? (i := 109) rfl)) rfl
set_option maxRecDepth 100000 in
theorem wd_223 : Cond.code yX4_has cX4_has 2 (some .boolean) ∈ mT := mT_in (lw_in2 (List.mem_of_getElem? (i := 111) rfl)) rfl
set_option maxRecDepth 100000 in
theorem wd_224 : Cond.selects RX4 yX4_has yX4_has ∈ mT := mT_in (lw_in2 (List.mem_of_getElem? (i := 110) rfl)) rfl
set_option maxRecDepth 100000 in
theorem wd_225 : Cond.methodLink RX7 134 yX4_at ∈ mT := mT_in (lw_in2 (List.mem_of_getElem? (i := 112) rfl)) rfl
set_option maxRecDepth 100000 in
theorem wd_226 : Cond.methodLink RX7 137 yX4_put ∈ mT := mT_in (lw_in2 (List.mem_of_getElem? (i := 113) rfl)) rfl
set_option maxRecDepth 100000 in
theorem wd_227 : Cond.instanceMethod yX4_put ∈ mT := mT_in (lw_in2 (List.mem_of_getElem? (i := 114) rfl)) rfl
set_option maxRecDepth 100000 in
theorem wd_228 : Cond.code yX4_put cX4_put 3 none ∈ mT := mT_in (lw_in2 (List.mem_of_getElem? (i := 116) rfl)) rfl
set_option maxRecDepth 100000 in
theorem wd_229 : Cond.selects RX4 yX4_put yX4_put ∈ mT := mT_in (lw_in2 (List.mem_of_getElem? (i := 115) rfl)) rfl
set_option maxRecDepth 100000 in
theorem wd_230 : Cond.methodLink RX7 141 yX2_hashCount ∈ mT := mT_in (lw_in2 (List.mem_of_getElem? (i := 121) rfl)) rfl
set_option maxRecDepth 100000 in
theorem wd_231 : Cond.instanceMethod yX2_hashCount ∈ mT := mT_in (lw_in2 (List.mem_of_getElem? (i := 122) rfl)) rfl
set_option maxRecDepth 100000 in
theorem wd_232 : Cond.code yX2_hashCount cX2_hashCount 1 (some .int) ∈ mT := mT_in (lw_in2 (List.mem_of_getElem? (i := 124) rfl)) rfl
set_option maxRecDepth 100000 in
theorem wd_233 : Cond.selects RX2 yX2_hashCount yX2_hashCount ∈ mT := mT_in (lw_in2 (List.mem_of_getElem? (i := 123) rfl)) rfl
set_option maxRecDepth 100000 in
theorem wd_234 : Cond.fieldLink RX7 145 (mTb 4 1).1 (mTb 4 1).2.1 (mTb 4 1).2.2.1 ∈ mT := mT_in (lw_in1 (List.mem_of_getElem? (i := 41) rfl)) rfl
set_option maxRecDepth 100000 in
theorem wd_235 : Cond.methodLink RX7 148 yX4_resize ∈ mT := mT_in (lw_in2 (List.mem_of_getElem? (i := 125) rfl)) rfl
set_option maxRecDepth 100000 in
theorem wd_236 : Cond.instanceMethod yX4_resize ∈ mT := mT_in (lw_in2 (List.mem_of_getElem? (i := 126) rfl)) rfl
set_option maxRecDepth 100000 in
theorem wd_237 : Cond.code yX4_resize cX4_resize 3 none ∈ mT := mT_in (lw_in2 (List.mem_of_getElem? (i := 128) rfl)) rfl
set_option maxRecDepth 100000 in
theorem wd_238 : Cond.selects RX4 yX4_resize yX4_resize ∈ mT := mT_in (lw_in2 (List.mem_of_getElem? (i := 127) rfl)) rfl
set_option maxRecDepth 100000 in
theorem wd_239 : Cond.fieldLink RX7 151 (mTb 2 1).1 (mTb 2 1).2.1 (mTb 2 1).2.2.1 ∈ mT := mT_in (lw_in1 (List.mem_of_getElem? (i := 175) rfl)) rfl
set_option maxRecDepth 100000 in
theorem wd_240 : Cond.methodLink RX7 154 yX7_monitorOf ∈ mT := mT_in (lw_in2 (List.mem_of_getElem? (i := 149) rfl)) rfl
set_option maxRecDepth 100000 in
theorem wd_241 : Cond.instanceMethod yX7_monitorOf ∈ mT := mT_in (lw_in2 (List.mem_of_getElem? (i := 151) rfl)) rfl
set_option maxRecDepth 100000 in
theorem wd_242 : Cond.code yX7_monitorOf cX7_monitorOf 2 (some (.object "GossipWatch$Monitor")) ∈ mT := mT_in (lw_in2 (List.mem_of_getElem? (i := 152) rfl)) rfl
set_option maxRecDepth 100000 in
theorem wd_243 : Cond.selects RX7 yX7_monitorOf yX7_monitorOf ∈ mT := mT_in (lw_in0 (List.mem_of_getElem? (i := 5) rfl)) rfl
set_option maxRecDepth 100000 in
theorem wd_244 : Cond.methodLink RX7 158 yX1_haveSigned ∈ mT := mT_in (lw_in2 (List.mem_of_getElem? (i := 153) rfl)) rfl
set_option maxRecDepth 100000 in
theorem wd_245 : Cond.instanceMethod yX1_haveSigned ∈ mT := mT_in (lw_in2 (List.mem_of_getElem? (i := 154) rfl)) rfl
set_option maxRecDepth 100000 in
theorem wd_246 : Cond.code yX1_haveSigned cX1_haveSigned 7 (some .boolean) ∈ mT := mT_in (lw_in2 (List.mem_of_getElem? (i := 156) rfl)) rfl
set_option maxRecDepth 100000 in
theorem wd_247 : Cond.selects RX1 yX1_haveSigned yX1_haveSigned ∈ mT := mT_in (lw_in2 (List.mem_of_getElem? (i := 155) rfl)) rfl
set_option maxRecDepth 100000 in
theorem wd_248 : Cond.methodLink RX7 162 yX3_takeHead ∈ mT := mT_in (lw_in2 (List.mem_of_getElem? (i := 164) rfl)) rfl
set_option maxRecDepth 100000 in
theorem wd_249 : Cond.instanceMethod yX3_takeHead ∈ mT := mT_in (lw_in2 (List.mem_of_getElem? (i := 165) rfl)) rfl
set_option maxRecDepth 100000 in
theorem wd_250 : Cond.code yX3_takeHead cX3_takeHead 3 (some .int) ∈ mT := mT_in (lw_in2 (List.mem_of_getElem? (i := 167) rfl)) rfl
set_option maxRecDepth 100000 in
theorem wd_251 : Cond.selects RX3 yX3_takeHead yX3_takeHead ∈ mT := mT_in (lw_in2 (List.mem_of_getElem? (i := 166) rfl)) rfl
set_option maxRecDepth 100000 in
theorem wd_252 : Cond.methodLink RX7 166 yX3_noted ∈ mT := mT_in (lw_in2 (List.mem_of_getElem? (i := 192) rfl)) rfl
set_option maxRecDepth 100000 in
theorem wd_253 : Cond.instanceMethod yX3_noted ∈ mT := mT_in (lw_in2 (List.mem_of_getElem? (i := 193) rfl)) rfl
set_option maxRecDepth 100000 in
theorem wd_254 : Cond.code yX3_noted cX3_noted 2 (some .int) ∈ mT := mT_in (lw_in2 (List.mem_of_getElem? (i := 195) rfl)) rfl
set_option maxRecDepth 100000 in
theorem wd_255 : Cond.selects RX3 yX3_noted yX3_noted ∈ mT := mT_in (lw_in2 (List.mem_of_getElem? (i := 194) rfl)) rfl
set_option maxRecDepth 100000 in
theorem wd_256 : Cond.methodLink RX7 169 yX4_number ∈ mT := mT_in (lw_in2 (List.mem_of_getElem? (i := 196) rfl)) rfl
set_option maxRecDepth 100000 in
theorem wd_257 : Cond.methodLink RX7 172 yX0_ofProof ∈ mT := mT_in (lw_in2 (List.mem_of_getElem? (i := 197) rfl)) rfl
set_option maxRecDepth 100000 in
theorem wd_258 : Cond.instanceMethod yX0_ofProof ∈ mT := mT_in (lw_in2 (List.mem_of_getElem? (i := 198) rfl)) rfl
set_option maxRecDepth 100000 in
theorem wd_259 : Cond.code yX0_ofProof cX0_ofProof 11 (some (.object "GossipWatch$Row")) ∈ mT := mT_in (lw_in2 (List.mem_of_getElem? (i := 200) rfl)) rfl
set_option maxRecDepth 100000 in
theorem wd_260 : Cond.selects RX0 yX0_ofProof yX0_ofProof ∈ mT := mT_in (lw_in2 (List.mem_of_getElem? (i := 199) rfl)) rfl
set_option maxRecDepth 100000 in
theorem wd_261 : Cond.methodLink RX7 176 yX3_takeProof ∈ mT := mT_in (lw_in2 (List.mem_of_getElem? (i := 209) rfl)) rfl
set_option maxRecDepth 100000 in
theorem wd_262 : Cond.instanceMethod yX3_takeProof ∈ mT := mT_in (lw_in2 (List.mem_of_getElem? (i := 210) rfl)) rfl
set_option maxRecDepth 100000 in
theorem wd_263 : Cond.code yX3_takeProof cX3_takeProof 5 (some .int) ∈ mT := mT_in (lw_in2 (List.mem_of_getElem? (i := 212) rfl)) rfl
set_option maxRecDepth 100000 in
theorem wd_264 : Cond.selects RX3 yX3_takeProof yX3_takeProof ∈ mT := mT_in (lw_in2 (List.mem_of_getElem? (i := 211) rfl)) rfl
set_option maxRecDepth 100000 in
theorem wd_265 : Cond.methodLink RX7 180 yX0_ofPath ∈ mT := mT_in (lw_in2 (List.mem_of_getElem? (i := 226) rfl)) rfl
set_option maxRecDepth 100000 in
theorem wd_266 : Cond.instanceMethod yX0_ofPath ∈ mT := mT_in (lw_in2 (List.mem_of_getElem? (i := 227) rfl)) rfl
set_option maxRecDepth 100000 in
theorem wd_267 : Cond.code yX0_ofPath cX0_ofPath 5 (some (.object "GossipWatch$Row")) ∈ mT := mT_in (lw_in2 (List.mem_of_getElem? (i := 229) rfl)) rfl
set_option maxRecDepth 100000 in
theorem wd_268 : Cond.selects RX0 yX0_ofPath yX0_ofPath ∈ mT := mT_in (lw_in2 (List.mem_of_getElem? (i := 228) rfl)) rfl
set_option maxRecDepth 100000 in
theorem wd_269 : Cond.methodLink RX7 184 yX3_countAccepting ∈ mT := mT_in (lw_in2 (List.mem_of_getElem? (i := 235) rfl)) rfl
set_option maxRecDepth 100000 in
theorem wd_270 : Cond.instanceMethod yX3_countAccepting ∈ mT := mT_in (lw_in2 (List.mem_of_getElem? (i := 236) rfl)) rfl
set_option maxRecDepth 100000 in
theorem wd_271 : Cond.code yX3_countAccepting cX3_countAccepting 5 (some .int) ∈ mT := mT_in (lw_in2 (List.mem_of_getElem? (i := 238) rfl)) rfl
set_option maxRecDepth 100000 in
theorem wd_272 : Cond.selects RX3 yX3_countAccepting yX3_countAccepting ∈ mT := mT_in (lw_in2 (List.mem_of_getElem? (i := 237) rfl)) rfl
set_option maxRecDepth 100000 in
theorem wd_273 : Cond.fieldLink RX7 187 (mTb 3 4).1 (mTb 3 4).2.1 (mTb 3 4).2.2.1 ∈ mT := mT_in (lw_in1 (List.mem_of_getElem? (i := 198) rfl)) rfl
set_option maxRecDepth 100000 in
theorem wd_274 : Cond.fieldLink RX7 190 (mTb 3 0).1 (mTb 3 0).2.1 (mTb 3 0).2.2.1 ∈ mT := mT_in (lw_in1 (List.mem_of_getElem? (i := 193) rfl)) rfl
set_option maxRecDepth 100000 in
theorem wd_275 : Cond.methodLink RX7 194 yX3_countOf ∈ mT := mT_in (lw_in3 (List.mem_of_getElem? (i := 7) rfl)) rfl
set_option maxRecDepth 100000 in
theorem wd_276 : Cond.instanceMethod yX3_countOf ∈ mT := mT_in (lw_in3 (List.mem_of_getElem? (i := 8) rfl)) rfl
set_option maxRecDepth 100000 in
theorem wd_277 : Cond.code yX3_countOf cX3_countOf 2 (some .int) ∈ mT := mT_in (lw_in3 (List.mem_of_getElem? (i := 10) rfl)) rfl
set_option maxRecDepth 100000 in
theorem wd_278 : Cond.selects RX3 yX3_countOf yX3_countOf ∈ mT := mT_in (lw_in3 (List.mem_of_getElem? (i := 9) rfl)) rfl
set_option maxRecDepth 100000 in
theorem wd_279 : Cond.methodLink RX7 197 yX3_hasHead ∈ mT := mT_in (lw_in3 (List.mem_of_getElem? (i := 15) rfl)) rfl
set_option maxRecDepth 100000 in
theorem wd_280 : Cond.instanceMethod yX3_hasHead ∈ mT := mT_in (lw_in3 (List.mem_of_getElem? (i := 16) rfl)) rfl
set_option maxRecDepth 100000 in
theorem wd_281 : Cond.code yX3_hasHead cX3_hasHead 2 (some .boolean) ∈ mT := mT_in (lw_in3 (List.mem_of_getElem? (i := 18) rfl)) rfl
set_option maxRecDepth 100000 in
theorem wd_282 : Cond.selects RX3 yX3_hasHead yX3_hasHead ∈ mT := mT_in (lw_in3 (List.mem_of_getElem? (i := 17) rfl)) rfl
set_option maxRecDepth 100000 in
theorem wd_283 : Cond.methodLink RX7 200 yX3_ofFact ∈ mT := mT_in (lw_in3 (List.mem_of_getElem? (i := 23) rfl)) rfl
set_option maxRecDepth 100000 in
theorem wd_284 : Cond.instanceMethod yX3_ofFact ∈ mT := mT_in (lw_in3 (List.mem_of_getElem? (i := 24) rfl)) rfl
set_option maxRecDepth 100000 in
theorem wd_285 : Cond.code yX3_ofFact cX3_ofFact 3 (some .int) ∈ mT := mT_in (lw_in3 (List.mem_of_getElem? (i := 26) rfl)) rfl
set_option maxRecDepth 100000 in
theorem wd_286 : Cond.selects RX3 yX3_ofFact yX3_ofFact ∈ mT := mT_in (lw_in3 (List.mem_of_getElem? (i := 25) rfl)) rfl
set_option maxRecDepth 100000 in
theorem wd_287 : Cond.methodLink RX7 204 yX3_ofRecord ∈ mT := mT_in (lw_in3 (List.mem_of_getElem? (i := 36) rfl)) rfl
set_option maxRecDepth 100000 in
theorem wd_288 : Cond.instanceMethod yX3_ofRecord ∈ mT := mT_in (lw_in3 (List.mem_of_getElem? (i := 37) rfl)) rfl
set_option maxRecDepth 100000 in
theorem wd_289 : Cond.code yX3_ofRecord cX3_ofRecord 3 (some .int) ∈ mT := mT_in (lw_in3 (List.mem_of_getElem? (i := 39) rfl)) rfl
set_option maxRecDepth 100000 in
theorem wd_290 : Cond.selects RX3 yX3_ofRecord yX3_ofRecord ∈ mT := mT_in (lw_in3 (List.mem_of_getElem? (i := 38) rfl)) rfl
set_option maxRecDepth 100000 in
theorem wd_291 : Cond.methodLink RX7 207 yX3_hasRecord ∈ mT := mT_in (lw_in3 (List.mem_of_getElem? (i := 48) rfl)) rfl
set_option maxRecDepth 100000 in
theorem wd_292 : Cond.instanceMethod yX3_hasRecord ∈ mT := mT_in (lw_in3 (List.mem_of_getElem? (i := 41) rfl)) rfl
set_option maxRecDepth 100000 in
theorem wd_293 : Cond.code yX3_hasRecord cX3_hasRecord 2 (some .boolean) ∈ mT := mT_in (lw_in3 (List.mem_of_getElem? (i := 43) rfl)) rfl
set_option maxRecDepth 100000 in
theorem wd_294 : Cond.selects RX3 yX3_hasRecord yX3_hasRecord ∈ mT := mT_in (lw_in3 (List.mem_of_getElem? (i := 42) rfl)) rfl
set_option maxRecDepth 100000 in
theorem wd_295 : Cond.methodLink RX7 210 yX3_writeRecord ∈ mT := mT_in (lw_in3 (List.mem_of_getElem? (i := 49) rfl)) rfl
set_option maxRecDepth 100000 in
theorem wd_296 : Cond.instanceMethod yX3_writeRecord ∈ mT := mT_in (lw_in3 (List.mem_of_getElem? (i := 50) rfl)) rfl
set_option maxRecDepth 100000 in
theorem wd_297 : Cond.code yX3_writeRecord cX3_writeRecord 6 none ∈ mT := mT_in (lw_in3 (List.mem_of_getElem? (i := 52) rfl)) rfl
set_option maxRecDepth 100000 in
theorem wd_298 : Cond.selects RX3 yX3_writeRecord yX3_writeRecord ∈ mT := mT_in (lw_in3 (List.mem_of_getElem? (i := 51) rfl)) rfl
set_option maxRecDepth 100000 in
theorem wd_299 : Cond.methodLink RX7 214 yX7_bothAreSigned ∈ mT := mT_in (lw_in3 (List.mem_of_getElem? (i := 73) rfl)) rfl
set_option maxRecDepth 100000 in
theorem wd_300 : Cond.instanceMethod yX7_bothAreSigned ∈ mT := mT_in (lw_in3 (List.mem_of_getElem? (i := 75) rfl)) rfl
set_option maxRecDepth 100000 in
theorem wd_301 : Cond.code yX7_bothAreSigned cX7_bothAreSigned 1 (some .boolean) ∈ mT := mT_in (lw_in3 (List.mem_of_getElem? (i := 76) rfl)) rfl
set_option maxRecDepth 100000 in
theorem wd_302 : Cond.selects RX7 yX7_bothAreSigned yX7_bothAreSigned ∈ mT := mT_in (lw_in0 (List.mem_of_getElem? (i := 15) rfl)) rfl
set_option maxRecDepth 100000 in
theorem wd_303 : Cond.methodLink RX7 217 yX7_isFork ∈ mT := mT_in (lw_in3 (List.mem_of_getElem? (i := 77) rfl)) rfl
set_option maxRecDepth 100000 in
theorem wd_304 : Cond.instanceMethod yX7_isFork ∈ mT := mT_in (lw_in3 (List.mem_of_getElem? (i := 79) rfl)) rfl
set_option maxRecDepth 100000 in
theorem wd_305 : Cond.code yX7_isFork cX7_isFork 1 (some .boolean) ∈ mT := mT_in (lw_in3 (List.mem_of_getElem? (i := 80) rfl)) rfl
set_option maxRecDepth 100000 in
theorem wd_306 : Cond.selects RX7 yX7_isFork yX7_isFork ∈ mT := mT_in (lw_in0 (List.mem_of_getElem? (i := 16) rfl)) rfl
set_option maxRecDepth 100000 in
theorem wd_307 : Cond.methodLink RX7 220 yX7_endsWithWholeHashes ∈ mT := mT_in (lw_in3 (List.mem_of_getElem? (i := 82) rfl)) rfl
set_option maxRecDepth 100000 in
theorem wd_308 : Cond.instanceMethod yX7_endsWithWholeHashes ∈ mT := mT_in (lw_in3 (List.mem_of_getElem? (i := 84) rfl)) rfl
set_option maxRecDepth 100000 in
theorem wd_309 : Cond.code yX7_endsWithWholeHashes cX7_endsWithWholeHashes 1 (some .boolean) ∈ mT := mT_in (lw_in3 (List.mem_of_getElem? (i := 85) rfl)) rfl
set_option maxRecDepth 100000 in
theorem wd_310 : Cond.selects RX7 yX7_endsWithWholeHashes yX7_endsWithWholeHashes ∈ mT := mT_in (lw_in0 (List.mem_of_getElem? (i := 17) rfl)) rfl
set_option maxRecDepth 100000 in
theorem wd_311 : Cond.methodLink RX7 223 yX7_isBreach ∈ mT := mT_in (lw_in3 (List.mem_of_getElem? (i := 86) rfl)) rfl
set_option maxRecDepth 100000 in
theorem wd_312 : Cond.instanceMethod yX7_isBreach ∈ mT := mT_in (lw_in3 (List.mem_of_getElem? (i := 88) rfl)) rfl
set_option maxRecDepth 100000 in
theorem wd_313 : Cond.code yX7_isBreach cX7_isBreach 4 (some .boolean) ∈ mT := mT_in (lw_in3 (List.mem_of_getElem? (i := 89) rfl)) rfl
set_option maxRecDepth 100000 in
theorem wd_314 : Cond.selects RX7 yX7_isBreach yX7_isBreach ∈ mT := mT_in (lw_in0 (List.mem_of_getElem? (i := 18) rfl)) rfl
set_option maxRecDepth 100000 in
theorem wd_315 : Cond.fieldLink RX7 226 (mTb 5 0).1 (mTb 5 0).2.1 (mTb 5 0).2.2.1 ∈ mT := mT_in (lw_in1 (List.mem_of_getElem? (i := 53) rfl)) rfl
set_option maxRecDepth 100000 in
theorem wd_316 : Cond.methodLink RX7 229 yX4_become ∈ mT := mT_in (lw_in3 (List.mem_of_getElem? (i := 94) rfl)) rfl
set_option maxRecDepth 100000 in
theorem wd_317 : Cond.methodLink RX7 232 yX5_finish ∈ mT := mT_in (lw_in3 (List.mem_of_getElem? (i := 95) rfl)) rfl
set_option maxRecDepth 100000 in
theorem wd_318 : Cond.methodLink RX7 236 yX4_add ∈ mT := mT_in (lw_in2 (List.mem_of_getElem? (i := 52) rfl)) rfl
set_option maxRecDepth 100000 in
theorem wd_319 : Cond.methodLink RX7 239 yX4_sameAs ∈ mT := mT_in (lw_in3 (List.mem_of_getElem? (i := 81) rfl)) rfl
set_option maxRecDepth 100000 in
theorem wd_320 : Cond.methodLink RX3 3 objectInit ∈ mT := mT_in (lw_in1 (List.mem_of_getElem? (i := 187) rfl)) rfl
set_option maxRecDepth 100000 in
theorem wd_321 : Cond.classLink RX3 11 (mRn 4) ∈ mT := mT_in (lw_in1 (List.mem_of_getElem? (i := 188) rfl)) rfl
set_option maxRecDepth 100000 in
theorem wd_322 : Cond.fieldLink RX3 13 (mTb 3 0).1 (mTb 3 0).2.1 (mTb 3 0).2.2.1 ∈ mT := mT_in (lw_in1 (List.mem_of_getElem? (i := 192) rfl)) rfl
set_option maxRecDepth 100000 in
theorem wd_323 : Cond.fieldLink RX3 17 (mTb 3 1).1 (mTb 3 1).2.1 (mTb 3 1).2.2.1 ∈ mT := mT_in (lw_in1 (List.mem_of_getElem? (i := 194) rfl)) rfl
set_option maxRecDepth 100000 in
theorem wd_324 : Cond.fieldLink RX3 20 (mTb 3 2).1 (mTb 3 2).2.1 (mTb 3 2).2.2.1 ∈ mT := mT_in (lw_in1 (List.mem_of_getElem? (i := 195) rfl)) rfl
set_option maxRecDepth 100000 in
theorem wd_325 : Cond.fieldLink RX3 26 (mTb 3 3).1 (mTb 3 3).2.1 (mTb 3 3).2.2.1 ∈ mT := mT_in (lw_in1 (List.mem_of_getElem? (i := 196) rfl)) rfl
set_option maxRecDepth 100000 in
theorem wd_326 : Cond.methodLink RX3 29 yX4_init ∈ mT := mT_in (lw_in1 (List.mem_of_getElem? (i := 191) rfl)) rfl
set_option maxRecDepth 100000 in
theorem wd_327 : Cond.fieldLink RX3 32 (mTb 3 7).1 (mTb 3 7).2.1 (mTb 3 7).2.2.1 ∈ mT := mT_in (lw_in1 (List.mem_of_getElem? (i := 201) rfl)) rfl
set_option maxRecDepth 100000 in
theorem wd_328 : Cond.fieldLink RX3 36 (mTb 3 8).1 (mTb 3 8).2.1 (mTb 3 8).2.2.1 ∈ mT := mT_in (lw_in1 (List.mem_of_getElem? (i := 202) rfl)) rfl
set_option maxRecDepth 100000 in
theorem wd_329 : Cond.methodLink RX3 39 yX3_holdsLike ∈ mT := mT_in (lw_in2 (List.mem_of_getElem? (i := 168) rfl)) rfl
set_option maxRecDepth 100000 in
theorem wd_330 : Cond.instanceMethod yX3_holdsLike ∈ mT := mT_in (lw_in2 (List.mem_of_getElem? (i := 170) rfl)) rfl
set_option maxRecDepth 100000 in
theorem wd_331 : Cond.code yX3_holdsLike cX3_holdsLike 3 (some .boolean) ∈ mT := mT_in (lw_in2 (List.mem_of_getElem? (i := 171) rfl)) rfl
set_option maxRecDepth 100000 in
theorem wd_332 : Cond.selects RX3 yX3_holdsLike yX3_holdsLike ∈ mT := mT_in (lw_in0 (List.mem_of_getElem? (i := 6) rfl)) rfl
set_option maxRecDepth 100000 in
theorem wd_333 : Cond.fieldLink RX3 43 (mTb 3 6).1 (mTb 3 6).2.1 (mTb 3 6).2.2.1 ∈ mT := mT_in (lw_in1 (List.mem_of_getElem? (i := 200) rfl)) rfl
set_option maxRecDepth 100000 in
theorem wd_334 : Cond.fieldLink RX3 46 (mTb 3 4).1 (mTb 3 4).2.1 (mTb 3 4).2.2.1 ∈ mT := mT_in (lw_in1 (List.mem_of_getElem? (i := 197) rfl)) rfl
set_option maxRecDepth 100000 in
theorem wd_335 : Cond.methodLink RX3 49 yX3_raiseForks ∈ mT := mT_in (lw_in2 (List.mem_of_getElem? (i := 173) rfl)) rfl
set_option maxRecDepth 100000 in
theorem wd_336 : Cond.instanceMethod yX3_raiseForks ∈ mT := mT_in (lw_in2 (List.mem_of_getElem? (i := 175) rfl)) rfl
set_option maxRecDepth 100000 in
theorem wd_337 : Cond.code yX3_raiseForks cX3_raiseForks 3 (some .boolean) ∈ mT := mT_in (lw_in2 (List.mem_of_getElem? (i := 176) rfl)) rfl
set_option maxRecDepth 100000 in
theorem wd_338 : Cond.selects RX3 yX3_raiseForks yX3_raiseForks ∈ mT := mT_in (lw_in0 (List.mem_of_getElem? (i := 7) rfl)) rfl
set_option maxRecDepth 100000 in
theorem wd_339 : Cond.methodLink RX3 52 yX3_raiseBreachesOfHead ∈ mT := mT_in (lw_in2 (List.mem_of_getElem? (i := 181) rfl)) rfl
set_option maxRecDepth 100000 in
theorem wd_340 : Cond.instanceMethod yX3_raiseBreachesOfHead ∈ mT := mT_in (lw_in2 (List.mem_of_getElem? (i := 183) rfl)) rfl
set_option maxRecDepth 100000 in
theorem wd_341 : Cond.code yX3_raiseBreachesOfHead cX3_raiseBreachesOfHead 3 (some .boolean) ∈ mT := mT_in (lw_in2 (List.mem_of_getElem? (i := 184) rfl)) rfl
set_option maxRecDepth 100000 in
theorem wd_342 : Cond.selects RX3 yX3_raiseBreachesOfHead yX3_raiseBreachesOfHead ∈ mT := mT_in (lw_in0 (List.mem_of_getElem? (i := 9) rfl)) rfl
set_option maxRecDepth 100000 in
theorem wd_343 : Cond.methodLink RX3 55 yX4_become ∈ mT := mT_in (lw_in2 (List.mem_of_getElem? (i := 188) rfl)) rfl
set_option maxRecDepth 100000 in
theorem wd_344 : Cond.methodLink RX3 59 yX3_headAccepting ∈ mT := mT_in (lw_in2 (List.mem_of_getElem? (i := 213) rfl)) rfl
set_option maxRecDepth 100000 in
theorem wd_345 : Cond.instanceMethod yX3_headAccepting ∈ mT := mT_in (lw_in2 (List.mem_of_getElem? (i := 215) rfl)) rfl
set_option maxRecDepth 100000 in
theorem wd_346 : Cond.code yX3_headAccepting cX3_headAccepting 5 (some .int) ∈ mT := mT_in (lw_in2 (List.mem_of_getElem? (i := 216) rfl)) rfl
set_option maxRecDepth 100000 in
theorem wd_347 : Cond.selects RX3 yX3_headAccepting yX3_headAccepting ∈ mT := mT_in (lw_in0 (List.mem_of_getElem? (i := 11) rfl)) rfl
set_option maxRecDepth 100000 in
theorem wd_348 : Cond.methodLink RX3 63 yX3_hasFactLike ∈ mT := mT_in (lw_in2 (List.mem_of_getElem? (i := 218) rfl)) rfl
set_option maxRecDepth 100000 in
theorem wd_349 : Cond.instanceMethod yX3_hasFactLike ∈ mT := mT_in (lw_in2 (List.mem_of_getElem? (i := 220) rfl)) rfl
set_option maxRecDepth 100000 in
theorem wd_350 : Cond.code yX3_hasFactLike cX3_hasFactLike 5 (some .boolean) ∈ mT := mT_in (lw_in2 (List.mem_of_getElem? (i := 221) rfl)) rfl
set_option maxRecDepth 100000 in
theorem wd_351 : Cond.selects RX3 yX3_hasFactLike yX3_hasFactLike ∈ mT := mT_in (lw_in0 (List.mem_of_getElem? (i := 12) rfl)) rfl
set_option maxRecDepth 100000 in
theorem wd_352 : Cond.fieldLink RX3 67 (mTb 3 5).1 (mTb 3 5).2.1 (mTb 3 5).2.2.1 ∈ mT := mT_in (lw_in1 (List.mem_of_getElem? (i := 199) rfl)) rfl
set_option maxRecDepth 100000 in
theorem wd_353 : Cond.methodLink RX3 70 yX3_raiseBreachesOfFact ∈ mT := mT_in (lw_in2 (List.mem_of_getElem? (i := 222) rfl)) rfl
set_option maxRecDepth 100000 in
theorem wd_354 : Cond.instanceMethod yX3_raiseBreachesOfFact ∈ mT := mT_in (lw_in2 (List.mem_of_getElem? (i := 224) rfl)) rfl
set_option maxRecDepth 100000 in
theorem wd_355 : Cond.code yX3_raiseBreachesOfFact cX3_raiseBreachesOfFact 4 (some .boolean) ∈ mT := mT_in (lw_in2 (List.mem_of_getElem? (i := 225) rfl)) rfl
set_option maxRecDepth 100000 in
theorem wd_356 : Cond.selects RX3 yX3_raiseBreachesOfFact yX3_raiseBreachesOfFact ∈ mT := mT_in (lw_in0 (List.mem_of_getElem? (i := 13) rfl)) rfl
set_option maxRecDepth 100000 in
theorem wd_357 : Cond.methodLink RX3 73 yX4_sameAs ∈ mT := mT_in (lw_in2 (List.mem_of_getElem? (i := 172) rfl)) rfl
set_option maxRecDepth 100000 in
theorem wd_358 : Cond.methodLink RX3 77 yX3_hasFact ∈ mT := mT_in (lw_in3 (List.mem_of_getElem? (i := 27) rfl)) rfl
set_option maxRecDepth 100000 in
theorem wd_359 : Cond.instanceMethod yX3_hasFact ∈ mT := mT_in (lw_in3 (List.mem_of_getElem? (i := 29) rfl)) rfl
set_option maxRecDepth 100000 in
theorem wd_360 : Cond.code yX3_hasFact cX3_hasFact 2 (some .boolean) ∈ mT := mT_in (lw_in3 (List.mem_of_getElem? (i := 30) rfl)) rfl
set_option maxRecDepth 100000 in
theorem wd_361 : Cond.selects RX3 yX3_hasFact yX3_hasFact ∈ mT := mT_in (lw_in0 (List.mem_of_getElem? (i := 14) rfl)) rfl
set_option maxRecDepth 100000 in
theorem wd_362 : Cond.methodLink RX3 81 yX4_at ∈ mT := mT_in (lw_in2 (List.mem_of_getElem? (i := 217) rfl)) rfl
set_option maxRecDepth 100000 in
theorem wd_363 : Cond.methodLink RX3 85 yX4_number ∈ mT := mT_in (lw_in3 (List.mem_of_getElem? (i := 31) rfl)) rfl
set_option maxRecDepth 100000 in
theorem wd_364 : Cond.fieldLink RX3 88 (mTb 4 1).1 (mTb 4 1).2.1 (mTb 4 1).2.2.1 ∈ mT := mT_in (lw_in1 (List.mem_of_getElem? (i := 42) rfl)) rfl
set_option maxRecDepth 100000 in
theorem wd_365 : Cond.methodLink RX3 91 yX3_hasRecord ∈ mT := mT_in (lw_in3 (List.mem_of_getElem? (i := 40) rfl)) rfl
set_option maxRecDepth 100000 in
theorem wd_366 : Cond.methodLink RX3 94 yX3_hasHead ∈ mT := mT_in (lw_in3 (List.mem_of_getElem? (i := 53) rfl)) rfl
set_option maxRecDepth 100000 in
theorem wd_367 : Cond.methodLink RX3 97 yX4_empty ∈ mT := mT_in (lw_in3 (List.mem_of_getElem? (i := 54) rfl)) rfl
set_option maxRecDepth 100000 in
theorem wd_368 : Cond.methodLink RX3 100 yX4_add ∈ mT := mT_in (lw_in3 (List.mem_of_getElem? (i := 55) rfl)) rfl
set_option maxRecDepth 100000 in
theorem wd_369 : Cond.methodLink RX3 103 yX4_addPart ∈ mT := mT_in (lw_in3 (List.mem_of_getElem? (i := 56) rfl)) rfl
set_option maxRecDepth 100000 in
theorem wd_370 : Cond.methodLink RX3 107 yX3_raise ∈ mT := mT_in (lw_in2 (List.mem_of_getElem? (i := 177) rfl)) rfl
set_option maxRecDepth 100000 in
theorem wd_371 : Cond.instanceMethod yX3_raise ∈ mT := mT_in (lw_in2 (List.mem_of_getElem? (i := 179) rfl)) rfl
set_option maxRecDepth 100000 in
theorem wd_372 : Cond.code yX3_raise cX3_raise 6 (some .boolean) ∈ mT := mT_in (lw_in2 (List.mem_of_getElem? (i := 180) rfl)) rfl
set_option maxRecDepth 100000 in
theorem wd_373 : Cond.selects RX3 yX3_raise yX3_raise ∈ mT := mT_in (lw_in0 (List.mem_of_getElem? (i := 8) rfl)) rfl
set_option maxRecDepth 100000 in
theorem wd_374 : Cond.methodLink RX3 111 yX3_belies ∈ mT := mT_in (lw_in2 (List.mem_of_getElem? (i := 185) rfl)) rfl
set_option maxRecDepth 100000 in
theorem wd_375 : Cond.code yX3_belies cX3_belies 2 (some .boolean) ∈ mT := mT_in (lw_in2 (List.mem_of_getElem? (i := 187) rfl)) rfl
set_option maxRecDepth 100000 in
theorem wd_376 : Cond.static yX3_belies ∈ mT := mT_in (lw_in2 (List.mem_of_getElem? (i := 186) rfl)) rfl
set_option maxRecDepth 100000 in
theorem wd_377 : Cond.methodLink RX1 3 objectInit ∈ mT := mT_in (lw_in1 (List.mem_of_getElem? (i := 73) rfl)) rfl
set_option maxRecDepth 100000 in
theorem wd_378 : Cond.classLink RX1 9 (mRn 4) ∈ mT := mT_in (lw_in1 (List.mem_of_getElem? (i := 74) rfl)) rfl
set_option maxRecDepth 100000 in
theorem wd_379 : Cond.methodLink RX1 13 yX4_init ∈ mT := mT_in (lw_in1 (List.mem_of_getElem? (i := 75) rfl)) rfl
set_option maxRecDepth 100000 in
theorem wd_380 : Cond.fieldLink RX1 16 (mTb 1 0).1 (mTb 1 0).2.1 (mTb 1 0).2.2.1 ∈ mT := mT_in (lw_in1 (List.mem_of_getElem? (i := 76) rfl)) rfl
set_option maxRecDepth 100000 in
theorem wd_381 : Cond.methodLink RX1 20 yX4_empty ∈ mT := mT_in (lw_in1 (List.mem_of_getElem? (i := 84) rfl)) rfl
set_option maxRecDepth 100000 in
theorem wd_382 : Cond.fieldLink RX1 23 (mTb 5 0).1 (mTb 5 0).2.1 (mTb 5 0).2.2.1 ∈ mT := mT_in (lw_in1 (List.mem_of_getElem? (i := 50) rfl)) rfl
set_option maxRecDepth 100000 in
theorem wd_383 : Cond.methodLink RX1 28 yX4_add ∈ mT := mT_in (lw_in1 (List.mem_of_getElem? (i := 88) rfl)) rfl
set_option maxRecDepth 100000 in
theorem wd_384 : Cond.methodLink RX1 31 yX4_addNumber ∈ mT := mT_in (lw_in1 (List.mem_of_getElem? (i := 92) rfl)) rfl
set_option maxRecDepth 100000 in
theorem wd_385 : Cond.methodLink RX1 34 yX5_finish ∈ mT := mT_in (lw_in1 (List.mem_of_getElem? (i := 96) rfl)) rfl
set_option maxRecDepth 100000 in
theorem wd_386 : Cond.methodLink RX1 38 yX4_addPart ∈ mT := mT_in (lw_in1 (List.mem_of_getElem? (i := 122) rfl)) rfl
set_option maxRecDepth 100000 in
theorem wd_387 : Cond.methodLink RX1 42 yX4_at ∈ mT := mT_in (lw_in2 (List.mem_of_getElem? (i := 68) rfl)) rfl
set_option maxRecDepth 100000 in
theorem wd_388 : Cond.methodLink RX1 46 yX4_number ∈ mT := mT_in (lw_in2 (List.mem_of_getElem? (i := 157) rfl)) rfl
set_option maxRecDepth 100000 in
theorem wd_389 : Cond.methodLink RX1 49 yX1_signFor ∈ mT := mT_in (lw_in2 (List.mem_of_getElem? (i := 158) rfl)) rfl
set_option maxRecDepth 100000 in
theorem wd_390 : Cond.methodLink RX1 53 yX4_sameAs ∈ mT := mT_in (lw_in2 (List.mem_of_getElem? (i := 159) rfl)) rfl
set_option maxRecDepth 100000 in
theorem wd_391 : Cond.fieldLink RX8 1 (mTb 8 6).1 (mTb 8 6).2.1 (mTb 8 6).2.2.1 ∈ mT := mT_in (lw_in3 (List.mem_of_getElem? (i := 207) rfl)) rfl
set_option maxRecDepth 100000 in
theorem wd_392 : Cond.fieldLink RX8 7 (mTb 8 5).1 (mTb 8 5).2.1 (mTb 8 5).2.2.1 ∈ mT := mT_in (lw_in3 (List.mem_of_getElem? (i := 206) rfl)) rfl
set_option maxRecDepth 100000 in
theorem wd_393 : Cond.methodLink RX8 11 yX8_put ∈ mT := mT_in (lw_in3 (List.mem_of_getElem? (i := 181) rfl)) rfl
set_option maxRecDepth 100000 in
theorem wd_394 : Cond.instanceMethod yX8_put ∈ mT := mT_in (lw_in3 (List.mem_of_getElem? (i := 183) rfl)) rfl
set_option maxRecDepth 100000 in
theorem wd_395 : Cond.initialized RX8 ∈ mT := mT_in (lw_in1 (List.mem_of_getElem? (i := 11) rfl)) rfl
set_option maxRecDepth 100000 in
theorem wd_396 : Cond.code yX8_put cX8_put 2 none ∈ mT := mT_in (lw_in3 (List.mem_of_getElem? (i := 184) rfl)) rfl
set_option maxRecDepth 100000 in
theorem wd_397 : Cond.selects RX8 yX8_put yX8_put ∈ mT := mT_in (lw_in0 (List.mem_of_getElem? (i := 20) rfl)) rfl
set_option maxRecDepth 100000 in
theorem wd_398 : Cond.constantLong RX8 15 (8) ∈ mT := mT_in (lw_in3 (List.mem_of_getElem? (i := 193) rfl)) rfl
set_option maxRecDepth 100000 in
theorem wd_399 : Cond.methodLink RX8 17 yX8_putNumber ∈ mT := mT_in (lw_in3 (List.mem_of_getElem? (i := 185) rfl)) rfl
set_option maxRecDepth 100000 in
theorem wd_400 : Cond.instanceMethod yX8_putNumber ∈ mT := mT_in (lw_in3 (List.mem_of_getElem? (i := 187) rfl)) rfl
set_option maxRecDepth 100000 in
theorem wd_401 : Cond.code yX8_putNumber cX8_putNumber 5 none ∈ mT := mT_in (lw_in3 (List.mem_of_getElem? (i := 188) rfl)) rfl
set_option maxRecDepth 100000 in
theorem wd_402 : Cond.selects RX8 yX8_putNumber yX8_putNumber ∈ mT := mT_in (lw_in0 (List.mem_of_getElem? (i := 21) rfl)) rfl
set_option maxRecDepth 100000 in
theorem wd_403 : Cond.fieldLink RX8 21 (mTb 8 3).1 (mTb 8 3).2.1 (mTb 8 3).2.2.1 ∈ mT := mT_in (lw_in3 (List.mem_of_getElem? (i := 204) rfl)) rfl
set_option maxRecDepth 100000 in
theorem wd_404 : Cond.fieldLink RX8 25 (mTb 8 1).1 (mTb 8 1).2.1 (mTb 8 1).2.2.1 ∈ mT := mT_in (lw_in3 (List.mem_of_getElem? (i := 202) rfl)) rfl
set_option maxRecDepth 100000 in
theorem wd_405 : Cond.methodLink RX8 28 yX8_block ∈ mT := mT_in (lw_in3 (List.mem_of_getElem? (i := 194) rfl)) rfl
set_option maxRecDepth 100000 in
theorem wd_406 : Cond.instanceMethod yX8_block ∈ mT := mT_in (lw_in3 (List.mem_of_getElem? (i := 196) rfl)) rfl
set_option maxRecDepth 100000 in
theorem wd_407 : Cond.code yX8_block cX8_block 6 none ∈ mT := mT_in (lw_in3 (List.mem_of_getElem? (i := 197) rfl)) rfl
set_option maxRecDepth 100000 in
theorem wd_408 : Cond.selects RX8 yX8_block yX8_block ∈ mT := mT_in (lw_in0 (List.mem_of_getElem? (i := 23) rfl)) rfl
set_option maxRecDepth 100000 in
theorem wd_409 : Cond.fieldLink RX8 31 (mTb 8 7).1 (mTb 8 7).2.1 (mTb 8 7).2.2.1 ∈ mT := mT_in (lw_in3 (List.mem_of_getElem? (i := 208) rfl)) rfl
set_option maxRecDepth 100000 in
theorem wd_410 : Cond.fieldLink RX8 34 (mTb 8 2).1 (mTb 8 2).2.1 (mTb 8 2).2.2.1 ∈ mT := mT_in (lw_in3 (List.mem_of_getElem? (i := 203) rfl)) rfl
set_option maxRecDepth 100000 in
theorem wd_411 : Cond.methodLink RX8 37 yX8_turned ∈ mT := mT_in (lw_in3 (List.mem_of_getElem? (i := 198) rfl)) rfl
set_option maxRecDepth 100000 in
theorem wd_412 : Cond.code yX8_turned cX8_turned 2 (some .int) ∈ mT := mT_in (lw_in3 (List.mem_of_getElem? (i := 200) rfl)) rfl
set_option maxRecDepth 100000 in
theorem wd_413 : Cond.static yX8_turned ∈ mT := mT_in (lw_in3 (List.mem_of_getElem? (i := 199) rfl)) rfl
set_option maxRecDepth 100000 in
theorem wd_414 : Cond.fieldLink RX8 41 (mTb 8 4).1 (mTb 8 4).2.1 (mTb 8 4).2.2.1 ∈ mT := mT_in (lw_in3 (List.mem_of_getElem? (i := 205) rfl)) rfl
set_option maxRecDepth 100000 in
theorem wd_415 : Cond.fieldLink RX8 44 (mTb 8 0).1 (mTb 8 0).2.1 (mTb 8 0).2.2.1 ∈ mT := mT_in (lw_in3 (List.mem_of_getElem? (i := 201) rfl)) rfl
set_option maxRecDepth 100000 in
theorem wd_416 : Cond.methodLink RX8 47 objectInit ∈ mT := mT_in (lw_in3 (List.mem_of_getElem? (i := 104) rfl)) rfl
set_option maxRecDepth 100000 in
theorem wd_417 : Cond.constant RX8 53 (1116352408) ∈ mT := mT_in (lw_in3 (List.mem_of_getElem? (i := 105) rfl)) rfl
set_option maxRecDepth 100000 in
theorem wd_418 : Cond.constant RX8 54 (1899447441) ∈ mT := mT_in (lw_in3 (List.mem_of_getElem? (i := 106) rfl)) rfl
set_option maxRecDepth 100000 in
theorem wd_419 : Cond.constant RX8 55 (-1245643825) ∈ mT := mT_in (lw_in3 (List.mem_of_getElem? (i := 107) rfl)) rfl
set_option maxRecDepth 100000 in
theorem wd_420 : Cond.constant RX8 56 (-373957723) ∈ mT := mT_in (lw_in3 (List.mem_of_getElem? (i := 108) rfl)) rfl
set_option maxRecDepth 100000 in
theorem wd_421 : Cond.constant RX8 57 (961987163) ∈ mT := mT_in (lw_in3 (List.mem_of_getElem? (i := 109) rfl)) rfl
set_option maxRecDepth 100000 in
theorem wd_422 : Cond.constant RX8 58 (1508970993) ∈ mT := mT_in (lw_in3 (List.mem_of_getElem? (i := 110) rfl)) rfl
set_option maxRecDepth 100000 in
theorem wd_423 : Cond.constant RX8 59 (-1841331548) ∈ mT := mT_in (lw_in3 (List.mem_of_getElem? (i := 111) rfl)) rfl
set_option maxRecDepth 100000 in
theorem wd_424 : Cond.constant RX8 60 (-1424204075) ∈ mT := mT_in (lw_in3 (List.mem_of_getElem? (i := 112) rfl)) rfl
set_option maxRecDepth 100000 in
theorem wd_425 : Cond.constant RX8 61 (-670586216) ∈ mT := mT_in (lw_in3 (List.mem_of_getElem? (i := 113) rfl)) rfl
set_option maxRecDepth 100000 in
theorem wd_426 : Cond.constant RX8 62 (310598401) ∈ mT := mT_in (lw_in3 (List.mem_of_getElem? (i := 114) rfl)) rfl
set_option maxRecDepth 100000 in
theorem wd_427 : Cond.constant RX8 63 (607225278) ∈ mT := mT_in (lw_in3 (List.mem_of_getElem? (i := 115) rfl)) rfl
set_option maxRecDepth 100000 in
theorem wd_428 : Cond.constant RX8 64 (1426881987) ∈ mT := mT_in (lw_in3 (List.mem_of_getElem? (i := 116) rfl)) rfl
set_option maxRecDepth 100000 in
theorem wd_429 : Cond.constant RX8 65 (1925078388) ∈ mT := mT_in (lw_in3 (List.mem_of_getElem? (i := 117) rfl)) rfl
set_option maxRecDepth 100000 in
theorem wd_430 : Cond.constant RX8 66 (-2132889090) ∈ mT := mT_in (lw_in3 (List.mem_of_getElem? (i := 118) rfl)) rfl
set_option maxRecDepth 100000 in
theorem wd_431 : Cond.constant RX8 67 (-1680079193) ∈ mT := mT_in (lw_in3 (List.mem_of_getElem? (i := 119) rfl)) rfl
set_option maxRecDepth 100000 in
theorem wd_432 : Cond.constant RX8 68 (-1046744716) ∈ mT := mT_in (lw_in3 (List.mem_of_getElem? (i := 120) rfl)) rfl
set_option maxRecDepth 100000 in
theorem wd_433 : Cond.constant RX8 69 (-459576895) ∈ mT := mT_in (lw_in3 (List.mem_of_getElem? (i := 121) rfl)) rfl
set_option maxRecDepth 100000 in
theorem wd_434 : Cond.constant RX8 70 (-272742522) ∈ mT := mT_in (lw_in3 (List.mem_of_getElem? (i := 122) rfl)) rfl
set_option maxRecDepth 100000 in
theorem wd_435 : Cond.constant RX8 71 (264347078) ∈ mT := mT_in (lw_in3 (List.mem_of_getElem? (i := 123) rfl)) rfl
set_option maxRecDepth 100000 in
theorem wd_436 : Cond.constant RX8 72 (604807628) ∈ mT := mT_in (lw_in3 (List.mem_of_getElem? (i := 124) rfl)) rfl
set_option maxRecDepth 100000 in
theorem wd_437 : Cond.constant RX8 73 (770255983) ∈ mT := mT_in (lw_in3 (List.mem_of_getElem? (i := 125) rfl)) rfl
set_option maxRecDepth 100000 in
theorem wd_438 : Cond.constant RX8 74 (1249150122) ∈ mT := mT_in (lw_in3 (List.mem_of_getElem? (i := 126) rfl)) rfl
set_option maxRecDepth 100000 in
theorem wd_439 : Cond.constant RX8 75 (1555081692) ∈ mT := mT_in (lw_in3 (List.mem_of_getElem? (i := 127) rfl)) rfl
set_option maxRecDepth 100000 in
theorem wd_440 : Cond.constant RX8 76 (1996064986) ∈ mT := mT_in (lw_in3 (List.mem_of_getElem? (i := 128) rfl)) rfl
set_option maxRecDepth 100000 in
theorem wd_441 : Cond.constant RX8 77 (-1740746414) ∈ mT := mT_in (lw_in3 (List.mem_of_getElem? (i := 129) rfl)) rfl
set_option maxRecDepth 100000 in
theorem wd_442 : Cond.constant RX8 78 (-1473132947) ∈ mT := mT_in (lw_in3 (List.mem_of_getElem? (i := 130) rfl)) rfl
set_option maxRecDepth 100000 in
theorem wd_443 : Cond.constant RX8 79 (-1341970488) ∈ mT := mT_in (lw_in3 (List.mem_of_getElem? (i := 131) rfl)) rfl
set_option maxRecDepth 100000 in
theorem wd_444 : Cond.constant RX8 80 (-1084653625) ∈ mT := mT_in (lw_in3 (List.mem_of_getElem? (i := 132) rfl)) rfl
set_option maxRecDepth 100000 in
theorem wd_445 : Cond.constant RX8 81 (-958395405) ∈ mT := mT_in (lw_in3 (List.mem_of_getElem? (i := 133) rfl)) rfl
set_option maxRecDepth 100000 in
theorem wd_446 : Cond.constant RX8 82 (-710438585) ∈ mT := mT_in (lw_in3 (List.mem_of_getElem? (i := 134) rfl)) rfl
set_option maxRecDepth 100000 in
theorem wd_447 : Cond.constant RX8 83 (113926993) ∈ mT := mT_in (lw_in3 (List.mem_of_getElem? (i := 135) rfl)) rfl
set_option maxRecDepth 100000 in
theorem wd_448 : Cond.constant RX8 84 (338241895) ∈ mT := mT_in (lw_in3 (List.mem_of_getElem? (i := 136) rfl)) rfl
set_option maxRecDepth 100000 in
theorem wd_449 : Cond.constant RX8 85 (666307205) ∈ mT := mT_in (lw_in3 (List.mem_of_getElem? (i := 137) rfl)) rfl
set_option maxRecDepth 100000 in
theorem wd_450 : Cond.constant RX8 86 (773529912) ∈ mT := mT_in (lw_in3 (List.mem_of_getElem? (i := 138) rfl)) rfl
set_option maxRecDepth 100000 in
theorem wd_451 : Cond.constant RX8 87 (1294757372) ∈ mT := mT_in (lw_in3 (List.mem_of_getElem? (i := 139) rfl)) rfl
set_option maxRecDepth 100000 in
theorem wd_452 : Cond.constant RX8 88 (1396182291) ∈ mT := mT_in (lw_in3 (List.mem_of_getElem? (i := 140) rfl)) rfl
set_option maxRecDepth 100000 in
theorem wd_453 : Cond.constant RX8 89 (1695183700) ∈ mT := mT_in (lw_in3 (List.mem_of_getElem? (i := 141) rfl)) rfl
set_option maxRecDepth 100000 in
theorem wd_454 : Cond.constant RX8 90 (1986661051) ∈ mT := mT_in (lw_in3 (List.mem_of_getElem? (i := 142) rfl)) rfl
set_option maxRecDepth 100000 in
theorem wd_455 : Cond.constant RX8 91 (-2117940946) ∈ mT := mT_in (lw_in3 (List.mem_of_getElem? (i := 143) rfl)) rfl
set_option maxRecDepth 100000 in
theorem wd_456 : Cond.constant RX8 92 (-1838011259) ∈ mT := mT_in (lw_in3 (List.mem_of_getElem? (i := 144) rfl)) rfl
set_option maxRecDepth 100000 in
theorem wd_457 : Cond.constant RX8 93 (-1564481375) ∈ mT := mT_in (lw_in3 (List.mem_of_getElem? (i := 145) rfl)) rfl
set_option maxRecDepth 100000 in
theorem wd_458 : Cond.constant RX8 94 (-1474664885) ∈ mT := mT_in (lw_in3 (List.mem_of_getElem? (i := 146) rfl)) rfl
set_option maxRecDepth 100000 in
theorem wd_459 : Cond.constant RX8 95 (-1035236496) ∈ mT := mT_in (lw_in3 (List.mem_of_getElem? (i := 147) rfl)) rfl
set_option maxRecDepth 100000 in
theorem wd_460 : Cond.constant RX8 96 (-949202525) ∈ mT := mT_in (lw_in3 (List.mem_of_getElem? (i := 148) rfl)) rfl
set_option maxRecDepth 100000 in
theorem wd_461 : Cond.constant RX8 97 (-778901479) ∈ mT := mT_in (lw_in3 (List.mem_of_getElem? (i := 149) rfl)) rfl
set_option maxRecDepth 100000 in
theorem wd_462 : Cond.constant RX8 98 (-694614492) ∈ mT := mT_in (lw_in3 (List.mem_of_getElem? (i := 150) rfl)) rfl
set_option maxRecDepth 100000 in
theorem wd_463 : Cond.constant RX8 99 (-200395387) ∈ mT := mT_in (lw_in3 (List.mem_of_getElem? (i := 151) rfl)) rfl
set_option maxRecDepth 100000 in
theorem wd_464 : Cond.constant RX8 100 (275423344) ∈ mT := mT_in (lw_in3 (List.mem_of_getElem? (i := 152) rfl)) rfl
set_option maxRecDepth 100000 in
theorem wd_465 : Cond.constant RX8 101 (430227734) ∈ mT := mT_in (lw_in3 (List.mem_of_getElem? (i := 153) rfl)) rfl
set_option maxRecDepth 100000 in
theorem wd_466 : Cond.constant RX8 102 (506948616) ∈ mT := mT_in (lw_in3 (List.mem_of_getElem? (i := 154) rfl)) rfl
set_option maxRecDepth 100000 in
theorem wd_467 : Cond.constant RX8 103 (659060556) ∈ mT := mT_in (lw_in3 (List.mem_of_getElem? (i := 155) rfl)) rfl
set_option maxRecDepth 100000 in
theorem wd_468 : Cond.constant RX8 104 (883997877) ∈ mT := mT_in (lw_in3 (List.mem_of_getElem? (i := 156) rfl)) rfl
set_option maxRecDepth 100000 in
theorem wd_469 : Cond.constant RX8 105 (958139571) ∈ mT := mT_in (lw_in3 (List.mem_of_getElem? (i := 157) rfl)) rfl
set_option maxRecDepth 100000 in
theorem wd_470 : Cond.constant RX8 106 (1322822218) ∈ mT := mT_in (lw_in3 (List.mem_of_getElem? (i := 158) rfl)) rfl
set_option maxRecDepth 100000 in
theorem wd_471 : Cond.constant RX8 107 (1537002063) ∈ mT := mT_in (lw_in3 (List.mem_of_getElem? (i := 159) rfl)) rfl
set_option maxRecDepth 100000 in
theorem wd_472 : Cond.constant RX8 108 (1747873779) ∈ mT := mT_in (lw_in3 (List.mem_of_getElem? (i := 160) rfl)) rfl
set_option maxRecDepth 100000 in
theorem wd_473 : Cond.constant RX8 109 (1955562222) ∈ mT := mT_in (lw_in3 (List.mem_of_getElem? (i := 161) rfl)) rfl
set_option maxRecDepth 100000 in
theorem wd_474 : Cond.constant RX8 110 (2024104815) ∈ mT := mT_in (lw_in3 (List.mem_of_getElem? (i := 162) rfl)) rfl
set_option maxRecDepth 100000 in
theorem wd_475 : Cond.constant RX8 111 (-2067236844) ∈ mT := mT_in (lw_in3 (List.mem_of_getElem? (i := 163) rfl)) rfl
set_option maxRecDepth 100000 in
theorem wd_476 : Cond.constant RX8 112 (-1933114872) ∈ mT := mT_in (lw_in3 (List.mem_of_getElem? (i := 164) rfl)) rfl
set_option maxRecDepth 100000 in
theorem wd_477 : Cond.constant RX8 113 (-1866530822) ∈ mT := mT_in (lw_in3 (List.mem_of_getElem? (i := 165) rfl)) rfl
set_option maxRecDepth 100000 in
theorem wd_478 : Cond.constant RX8 114 (-1538233109) ∈ mT := mT_in (lw_in3 (List.mem_of_getElem? (i := 166) rfl)) rfl
set_option maxRecDepth 100000 in
theorem wd_479 : Cond.constant RX8 115 (-1090935817) ∈ mT := mT_in (lw_in3 (List.mem_of_getElem? (i := 167) rfl)) rfl
set_option maxRecDepth 100000 in
theorem wd_480 : Cond.constant RX8 116 (-965641998) ∈ mT := mT_in (lw_in3 (List.mem_of_getElem? (i := 168) rfl)) rfl
set_option maxRecDepth 100000 in
theorem wd_481 : Cond.constant RX8 117 (1779033703) ∈ mT := mT_in (lw_in3 (List.mem_of_getElem? (i := 169) rfl)) rfl
set_option maxRecDepth 100000 in
theorem wd_482 : Cond.constant RX8 118 (-1150833019) ∈ mT := mT_in (lw_in3 (List.mem_of_getElem? (i := 170) rfl)) rfl
set_option maxRecDepth 100000 in
theorem wd_483 : Cond.constant RX8 119 (1013904242) ∈ mT := mT_in (lw_in3 (List.mem_of_getElem? (i := 171) rfl)) rfl
set_option maxRecDepth 100000 in
theorem wd_484 : Cond.constant RX8 120 (-1521486534) ∈ mT := mT_in (lw_in3 (List.mem_of_getElem? (i := 172) rfl)) rfl
set_option maxRecDepth 100000 in
theorem wd_485 : Cond.constant RX8 121 (1359893119) ∈ mT := mT_in (lw_in3 (List.mem_of_getElem? (i := 173) rfl)) rfl
set_option maxRecDepth 100000 in
theorem wd_486 : Cond.constant RX8 122 (-1694144372) ∈ mT := mT_in (lw_in3 (List.mem_of_getElem? (i := 174) rfl)) rfl
set_option maxRecDepth 100000 in
theorem wd_487 : Cond.constant RX8 123 (528734635) ∈ mT := mT_in (lw_in3 (List.mem_of_getElem? (i := 175) rfl)) rfl
set_option maxRecDepth 100000 in
theorem wd_488 : Cond.constant RX8 124 (1541459225) ∈ mT := mT_in (lw_in3 (List.mem_of_getElem? (i := 176) rfl)) rfl
set_option maxRecDepth 100000 in
theorem wd_489 : Cond.fieldLink RX8 125 (mTb 8 8).1 (mTb 8 8).2.1 (mTb 8 8).2.2.1 ∈ mT := mT_in (lw_in3 (List.mem_of_getElem? (i := 209) rfl)) rfl
set_option maxRecDepth 100000 in
theorem wd_490 : Cond.fieldLink RX8 128 (mTb 8 9).1 (mTb 8 9).2.1 (mTb 8 9).2.2.1 ∈ mT := mT_in (lw_in3 (List.mem_of_getElem? (i := 210) rfl)) rfl
set_option maxRecDepth 100000 in
theorem wd_491 : Cond.fieldLink RX8 131 (mTb 8 10).1 (mTb 8 10).2.1 (mTb 8 10).2.2.1 ∈ mT := mT_in (lw_in3 (List.mem_of_getElem? (i := 211) rfl)) rfl
set_option maxRecDepth 100000 in
theorem wd_492 : Cond.fieldLink RX8 134 (mTb 8 11).1 (mTb 8 11).2.1 (mTb 8 11).2.2.1 ∈ mT := mT_in (lw_in3 (List.mem_of_getElem? (i := 212) rfl)) rfl
set_option maxRecDepth 100000 in
theorem wd_493 : Cond.fieldLink RX8 137 (mTb 8 12).1 (mTb 8 12).2.1 (mTb 8 12).2.2.1 ∈ mT := mT_in (lw_in3 (List.mem_of_getElem? (i := 213) rfl)) rfl
set_option maxRecDepth 100000 in
theorem wd_494 : Cond.fieldLink RX8 140 (mTb 8 13).1 (mTb 8 13).2.1 (mTb 8 13).2.2.1 ∈ mT := mT_in (lw_in3 (List.mem_of_getElem? (i := 214) rfl)) rfl
set_option maxRecDepth 100000 in
theorem wd_495 : Cond.fieldLink RX8 143 (mTb 8 15).1 (mTb 8 15).2.1 (mTb 8 15).2.2.1 ∈ mT := mT_in (lw_in3 (List.mem_of_getElem? (i := 216) rfl)) rfl
set_option maxRecDepth 100000 in
theorem wd_496 : Cond.fieldLink RX8 146 (mTb 8 16).1 (mTb 8 16).2.1 (mTb 8 16).2.2.1 ∈ mT := mT_in (lw_in3 (List.mem_of_getElem? (i := 217) rfl)) rfl
set_option maxRecDepth 100000 in
theorem wd_497 : Cond.fieldLink RX8 149 (mTb 8 18).1 (mTb 8 18).2.1 (mTb 8 18).2.2.1 ∈ mT := mT_in (lw_in3 (List.mem_of_getElem? (i := 219) rfl)) rfl
set_option maxRecDepth 100000 in
theorem wd_498 : Cond.fieldLink RX8 152 (mTb 8 19).1 (mTb 8 19).2.1 (mTb 8 19).2.2.1 ∈ mT := mT_in (lw_in3 (List.mem_of_getElem? (i := 220) rfl)) rfl
set_option maxRecDepth 100000 in
theorem wd_499 : Cond.fieldLink RX8 155 (mTb 8 20).1 (mTb 8 20).2.1 (mTb 8 20).2.2.1 ∈ mT := mT_in (lw_in3 (List.mem_of_getElem? (i := 221) rfl)) rfl
set_option maxRecDepth 100000 in
theorem wd_500 : Cond.fieldLink RX8 158 (mTb 8 21).1 (mTb 8 21).2.1 (mTb 8 21).2.2.1 ∈ mT := mT_in (lw_in3 (List.mem_of_getElem? (i := 222) rfl)) rfl
set_option maxRecDepth 100000 in
theorem wd_501 : Cond.fieldLink RX8 161 (mTb 8 22).1 (mTb 8 22).2.1 (mTb 8 22).2.2.1 ∈ mT := mT_in (lw_in3 (List.mem_of_getElem? (i := 223) rfl)) rfl
set_option maxRecDepth 100000 in
theorem wd_502 : Cond.fieldLink RX8 164 (mTb 8 23).1 (mTb 8 23).2.1 (mTb 8 23).2.2.1 ∈ mT := mT_in (lw_in3 (List.mem_of_getElem? (i := 224) rfl)) rfl
set_option maxRecDepth 100000 in
theorem wd_503 : Cond.fieldLink RX8 167 (mTb 8 24).1 (mTb 8 24).2.1 (mTb 8 24).2.2.1 ∈ mT := mT_in (lw_in3 (List.mem_of_getElem? (i := 225) rfl)) rfl
set_option maxRecDepth 100000 in
theorem wd_504 : Cond.fieldLink RX8 170 (mTb 8 25).1 (mTb 8 25).2.1 (mTb 8 25).2.2.1 ∈ mT := mT_in (lw_in3 (List.mem_of_getElem? (i := 226) rfl)) rfl
set_option maxRecDepth 100000 in
theorem wd_505 : Cond.fieldLink RX8 173 (mTb 8 26).1 (mTb 8 26).2.1 (mTb 8 26).2.2.1 ∈ mT := mT_in (lw_in3 (List.mem_of_getElem? (i := 227) rfl)) rfl
set_option maxRecDepth 100000 in
theorem wd_506 : Cond.fieldLink RX8 176 (mTb 8 27).1 (mTb 8 27).2.1 (mTb 8 27).2.2.1 ∈ mT := mT_in (lw_in3 (List.mem_of_getElem? (i := 228) rfl)) rfl
set_option maxRecDepth 100000 in
theorem wd_507 : Cond.fieldLink RX8 179 (mTb 8 28).1 (mTb 8 28).2.1 (mTb 8 28).2.2.1 ∈ mT := mT_in (lw_in3 (List.mem_of_getElem? (i := 229) rfl)) rfl
set_option maxRecDepth 100000 in
theorem wd_508 : Cond.fieldLink RX8 182 (mTb 8 29).1 (mTb 8 29).2.1 (mTb 8 29).2.2.1 ∈ mT := mT_in (lw_in3 (List.mem_of_getElem? (i := 230) rfl)) rfl
set_option maxRecDepth 100000 in
theorem wd_509 : Cond.fieldLink RX8 185 (mTb 8 30).1 (mTb 8 30).2.1 (mTb 8 30).2.2.1 ∈ mT := mT_in (lw_in3 (List.mem_of_getElem? (i := 231) rfl)) rfl
set_option maxRecDepth 100000 in
theorem wd_510 : Cond.fieldLink RX8 188 (mTb 8 31).1 (mTb 8 31).2.1 (mTb 8 31).2.2.1 ∈ mT := mT_in (lw_in3 (List.mem_of_getElem? (i := 232) rfl)) rfl
set_option maxRecDepth 100000 in
theorem wd_511 : Cond.fieldLink RX8 191 (mTb 8 33).1 (mTb 8 33).2.1 (mTb 8 33).2.2.1 ∈ mT := mT_in (lw_in3 (List.mem_of_getElem? (i := 234) rfl)) rfl
set_option maxRecDepth 100000 in
theorem wd_512 : Cond.fieldLink RX8 194 (mTb 8 34).1 (mTb 8 34).2.1 (mTb 8 34).2.2.1 ∈ mT := mT_in (lw_in3 (List.mem_of_getElem? (i := 235) rfl)) rfl
set_option maxRecDepth 100000 in
theorem wd_513 : Cond.methodLink RX8 197 yX8_start ∈ mT := mT_in (lw_in3 (List.mem_of_getElem? (i := 177) rfl)) rfl
set_option maxRecDepth 100000 in
theorem wd_514 : Cond.instanceMethod yX8_start ∈ mT := mT_in (lw_in3 (List.mem_of_getElem? (i := 179) rfl)) rfl
set_option maxRecDepth 100000 in
theorem wd_515 : Cond.code yX8_start cX8_start 1 none ∈ mT := mT_in (lw_in3 (List.mem_of_getElem? (i := 180) rfl)) rfl
set_option maxRecDepth 100000 in
theorem wd_516 : Cond.selects RX8 yX8_start yX8_start ∈ mT := mT_in (lw_in0 (List.mem_of_getElem? (i := 19) rfl)) rfl
set_option maxRecDepth 100000 in
theorem wd_517 : Cond.methodLink RX8 200 yX8_sum ∈ mT := mT_in (lw_in3 (List.mem_of_getElem? (i := 189) rfl)) rfl
set_option maxRecDepth 100000 in
theorem wd_518 : Cond.instanceMethod yX8_sum ∈ mT := mT_in (lw_in3 (List.mem_of_getElem? (i := 191) rfl)) rfl
set_option maxRecDepth 100000 in
theorem wd_519 : Cond.code yX8_sum cX8_sum 5 none ∈ mT := mT_in (lw_in3 (List.mem_of_getElem? (i := 192) rfl)) rfl
set_option maxRecDepth 100000 in
theorem wd_520 : Cond.selects RX8 yX8_sum yX8_sum ∈ mT := mT_in (lw_in0 (List.mem_of_getElem? (i := 22) rfl)) rfl
set_option maxRecDepth 100000 in
theorem wd_521 : Cond.methodLink RX8 203 yX8_in ∈ mT := mT_in (lw_in4 (List.mem_of_getElem? (i := 74) rfl)) rfl
set_option maxRecDepth 100000 in
theorem wd_522 : Cond.code yX8_in cX8_in 3 (some .boolean) ∈ mT := mT_in (lw_in4 (List.mem_of_getElem? (i := 76) rfl)) rfl
set_option maxRecDepth 100000 in
theorem wd_523 : Cond.static yX8_in ∈ mT := mT_in (lw_in4 (List.mem_of_getElem? (i := 75) rfl)) rfl
set_option maxRecDepth 100000 in
theorem wd_524 : Cond.methodLink RX8 207 yX8_isView ∈ mT := mT_in (lw_in4 (List.mem_of_getElem? (i := 71) rfl)) rfl
set_option maxRecDepth 100000 in
theorem wd_525 : Cond.code yX8_isView cX8_isView 2 (some .boolean) ∈ mT := mT_in (lw_in4 (List.mem_of_getElem? (i := 73) rfl)) rfl
set_option maxRecDepth 100000 in
theorem wd_526 : Cond.static yX8_isView ∈ mT := mT_in (lw_in4 (List.mem_of_getElem? (i := 72) rfl)) rfl
set_option maxRecDepth 100000 in
theorem wd_527 : Cond.methodLink RX8 211 yX8_putRow ∈ mT := mT_in (lw_in4 (List.mem_of_getElem? (i := 108) rfl)) rfl
set_option maxRecDepth 100000 in
theorem wd_528 : Cond.instanceMethod yX8_putRow ∈ mT := mT_in (lw_in4 (List.mem_of_getElem? (i := 110) rfl)) rfl
set_option maxRecDepth 100000 in
theorem wd_529 : Cond.code yX8_putRow cX8_putRow 5 none ∈ mT := mT_in (lw_in4 (List.mem_of_getElem? (i := 111) rfl)) rfl
set_option maxRecDepth 100000 in
theorem wd_530 : Cond.selects RX8 yX8_putRow yX8_putRow ∈ mT := mT_in (lw_in0 (List.mem_of_getElem? (i := 29) rfl)) rfl
set_option maxRecDepth 100000 in
theorem wd_531 : Cond.methodLink RX8 215 yX8_half ∈ mT := mT_in (lw_in4 (List.mem_of_getElem? (i := 101) rfl)) rfl
set_option maxRecDepth 100000 in
theorem wd_532 : Cond.code yX8_half cX8_half 2 (some .int) ∈ mT := mT_in (lw_in4 (List.mem_of_getElem? (i := 103) rfl)) rfl
set_option maxRecDepth 100000 in
theorem wd_533 : Cond.static yX8_half ∈ mT := mT_in (lw_in4 (List.mem_of_getElem? (i := 102) rfl)) rfl
set_option maxRecDepth 100000 in
theorem wd_534 : Cond.methodLink RX8 219 yX8_root ∈ mT := mT_in (lw_in4 (List.mem_of_getElem? (i := 97) rfl)) rfl
set_option maxRecDepth 100000 in
theorem wd_535 : Cond.instanceMethod yX8_root ∈ mT := mT_in (lw_in4 (List.mem_of_getElem? (i := 99) rfl)) rfl
set_option maxRecDepth 100000 in
theorem wd_536 : Cond.code yX8_root cX8_root 6 none ∈ mT := mT_in (lw_in4 (List.mem_of_getElem? (i := 100) rfl)) rfl
set_option maxRecDepth 100000 in
theorem wd_537 : Cond.selects RX8 yX8_root yX8_root ∈ mT := mT_in (lw_in0 (List.mem_of_getElem? (i := 27) rfl)) rfl
set_option maxRecDepth 100000 in
theorem wd_538 : Cond.methodLink RX8 223 yX8_joined ∈ mT := mT_in (lw_in4 (List.mem_of_getElem? (i := 104) rfl)) rfl
set_option maxRecDepth 100000 in
theorem wd_539 : Cond.instanceMethod yX8_joined ∈ mT := mT_in (lw_in4 (List.mem_of_getElem? (i := 106) rfl)) rfl
set_option maxRecDepth 100000 in
theorem wd_540 : Cond.code yX8_joined cX8_joined 6 none ∈ mT := mT_in (lw_in4 (List.mem_of_getElem? (i := 107) rfl)) rfl
set_option maxRecDepth 100000 in
theorem wd_541 : Cond.selects RX8 yX8_joined yX8_joined ∈ mT := mT_in (lw_in0 (List.mem_of_getElem? (i := 28) rfl)) rfl
set_option maxRecDepth 100000 in
theorem wd_542 : Cond.fieldLink RX8 227 (mTb 8 14).1 (mTb 8 14).2.1 (mTb 8 14).2.2.1 ∈ mT := mT_in (lw_in3 (List.mem_of_getElem? (i := 215) rfl)) rfl
set_option maxRecDepth 100000 in
theorem wd_543 : Cond.methodLink RX8 230 yX8_adds ∈ mT := mT_in (lw_in4 (List.mem_of_getElem? (i := 89) rfl)) rfl
set_option maxRecDepth 100000 in
theorem wd_544 : Cond.instanceMethod yX8_adds ∈ mT := mT_in (lw_in4 (List.mem_of_getElem? (i := 91) rfl)) rfl
set_option maxRecDepth 100000 in
theorem wd_545 : Cond.code yX8_adds cX8_adds 2 none ∈ mT := mT_in (lw_in4 (List.mem_of_getElem? (i := 92) rfl)) rfl
set_option maxRecDepth 100000 in
theorem wd_546 : Cond.selects RX8 yX8_adds yX8_adds ∈ mT := mT_in (lw_in0 (List.mem_of_getElem? (i := 25) rfl)) rfl
set_option maxRecDepth 100000 in
theorem wd_547 : Cond.methodLink RX8 233 yX8_begins ∈ mT := mT_in (lw_in4 (List.mem_of_getElem? (i := 85) rfl)) rfl
set_option maxRecDepth 100000 in
theorem wd_548 : Cond.instanceMethod yX8_begins ∈ mT := mT_in (lw_in4 (List.mem_of_getElem? (i := 87) rfl)) rfl
set_option maxRecDepth 100000 in
theorem wd_549 : Cond.code yX8_begins cX8_begins 3 none ∈ mT := mT_in (lw_in4 (List.mem_of_getElem? (i := 88) rfl)) rfl
set_option maxRecDepth 100000 in
theorem wd_550 : Cond.selects RX8 yX8_begins yX8_begins ∈ mT := mT_in (lw_in0 (List.mem_of_getElem? (i := 24) rfl)) rfl
set_option maxRecDepth 100000 in
theorem wd_551 : Cond.methodLink RX8 237 yX8_addsNumber ∈ mT := mT_in (lw_in4 (List.mem_of_getElem? (i := 93) rfl)) rfl
set_option maxRecDepth 100000 in
theorem wd_552 : Cond.instanceMethod yX8_addsNumber ∈ mT := mT_in (lw_in4 (List.mem_of_getElem? (i := 95) rfl)) rfl
set_option maxRecDepth 100000 in
theorem wd_553 : Cond.code yX8_addsNumber cX8_addsNumber 3 none ∈ mT := mT_in (lw_in4 (List.mem_of_getElem? (i := 96) rfl)) rfl
set_option maxRecDepth 100000 in
theorem wd_554 : Cond.selects RX8 yX8_addsNumber yX8_addsNumber ∈ mT := mT_in (lw_in0 (List.mem_of_getElem? (i := 26) rfl)) rfl
set_option maxRecDepth 100000 in
theorem wd_555 : Cond.methodLink RX8 240 yX8_addsHash ∈ mT := mT_in (lw_in4 (List.mem_of_getElem? (i := 112) rfl)) rfl
set_option maxRecDepth 100000 in
theorem wd_556 : Cond.instanceMethod yX8_addsHash ∈ mT := mT_in (lw_in4 (List.mem_of_getElem? (i := 114) rfl)) rfl
set_option maxRecDepth 100000 in
theorem wd_557 : Cond.code yX8_addsHash cX8_addsHash 3 none ∈ mT := mT_in (lw_in4 (List.mem_of_getElem? (i := 115) rfl)) rfl
set_option maxRecDepth 100000 in
theorem wd_558 : Cond.selects RX8 yX8_addsHash yX8_addsHash ∈ mT := mT_in (lw_in0 (List.mem_of_getElem? (i := 30) rfl)) rfl
set_option maxRecDepth 100000 in
theorem wd_559 : Cond.methodLink RX8 243 yX8_signs ∈ mT := mT_in (lw_in4 (List.mem_of_getElem? (i := 116) rfl)) rfl
set_option maxRecDepth 100000 in
theorem wd_560 : Cond.instanceMethod yX8_signs ∈ mT := mT_in (lw_in4 (List.mem_of_getElem? (i := 118) rfl)) rfl
set_option maxRecDepth 100000 in
theorem wd_561 : Cond.code yX8_signs cX8_signs 4 none ∈ mT := mT_in (lw_in4 (List.mem_of_getElem? (i := 119) rfl)) rfl
set_option maxRecDepth 100000 in
theorem wd_562 : Cond.selects RX8 yX8_signs yX8_signs ∈ mT := mT_in (lw_in0 (List.mem_of_getElem? (i := 31) rfl)) rfl
set_option maxRecDepth 100000 in
theorem wd_563 : Cond.methodLink RX8 246 yX8_ends ∈ mT := mT_in (lw_in4 (List.mem_of_getElem? (i := 120) rfl)) rfl
set_option maxRecDepth 100000 in
theorem wd_564 : Cond.instanceMethod yX8_ends ∈ mT := mT_in (lw_in4 (List.mem_of_getElem? (i := 122) rfl)) rfl
set_option maxRecDepth 100000 in
theorem wd_565 : Cond.code yX8_ends cX8_ends 1 (some .int) ∈ mT := mT_in (lw_in4 (List.mem_of_getElem? (i := 123) rfl)) rfl
set_option maxRecDepth 100000 in
theorem wd_566 : Cond.selects RX8 yX8_ends yX8_ends ∈ mT := mT_in (lw_in0 (List.mem_of_getElem? (i := 32) rfl)) rfl
set_option maxRecDepth 100000 in
theorem wd_567 : Cond.fieldLink RX8 250 (mTb 8 17).1 (mTb 8 17).2.1 (mTb 8 17).2.2.1 ∈ mT := mT_in (lw_in3 (List.mem_of_getElem? (i := 218) rfl)) rfl
set_option maxRecDepth 100000 in
theorem wd_568 : Cond.methodLink RX8 253 yX8_note ∈ mT := mT_in (lw_in4 (List.mem_of_getElem? (i := 128) rfl)) rfl
set_option maxRecDepth 100000 in
theorem wd_569 : Cond.instanceMethod yX8_note ∈ mT := mT_in (lw_in4 (List.mem_of_getElem? (i := 130) rfl)) rfl
set_option maxRecDepth 100000 in
theorem wd_570 : Cond.code yX8_note cX8_note 3 none ∈ mT := mT_in (lw_in4 (List.mem_of_getElem? (i := 131) rfl)) rfl
set_option maxRecDepth 100000 in
theorem wd_571 : Cond.selects RX8 yX8_note yX8_note ∈ mT := mT_in (lw_in0 (List.mem_of_getElem? (i := 33) rfl)) rfl
set_option maxRecDepth 100000 in
theorem wd_572 : Cond.methodLink RX8 256 yX8_addsNoted ∈ mT := mT_in (lw_in4 (List.mem_of_getElem? (i := 132) rfl)) rfl
set_option maxRecDepth 100000 in
theorem wd_573 : Cond.instanceMethod yX8_addsNoted ∈ mT := mT_in (lw_in4 (List.mem_of_getElem? (i := 134) rfl)) rfl
set_option maxRecDepth 100000 in
theorem wd_574 : Cond.code yX8_addsNoted cX8_addsNoted 2 none ∈ mT := mT_in (lw_in4 (List.mem_of_getElem? (i := 135) rfl)) rfl
set_option maxRecDepth 100000 in
theorem wd_575 : Cond.selects RX8 yX8_addsNoted yX8_addsNoted ∈ mT := mT_in (lw_in0 (List.mem_of_getElem? (i := 34) rfl)) rfl
set_option maxRecDepth 100000 in
theorem wd_576 : Cond.methodLink RX8 259 yX8_isLetter ∈ mT := mT_in (lw_in4 (List.mem_of_getElem? (i := 144) rfl)) rfl
set_option maxRecDepth 100000 in
theorem wd_577 : Cond.instanceMethod yX8_isLetter ∈ mT := mT_in (lw_in4 (List.mem_of_getElem? (i := 146) rfl)) rfl
set_option maxRecDepth 100000 in
theorem wd_578 : Cond.code yX8_isLetter cX8_isLetter 2 (some .boolean) ∈ mT := mT_in (lw_in4 (List.mem_of_getElem? (i := 147) rfl)) rfl
set_option maxRecDepth 100000 in
theorem wd_579 : Cond.selects RX8 yX8_isLetter yX8_isLetter ∈ mT := mT_in (lw_in0 (List.mem_of_getElem? (i := 35) rfl)) rfl
set_option maxRecDepth 100000 in
theorem wd_580 : Cond.methodLink RX8 263 yX8_headOf ∈ mT := mT_in (lw_in4 (List.mem_of_getElem? (i := 152) rfl)) rfl
set_option maxRecDepth 100000 in
theorem wd_581 : Cond.code yX8_headOf cX8_headOf 1 (some .int) ∈ mT := mT_in (lw_in4 (List.mem_of_getElem? (i := 154) rfl)) rfl
set_option maxRecDepth 100000 in
theorem wd_582 : Cond.static yX8_headOf ∈ mT := mT_in (lw_in4 (List.mem_of_getElem? (i := 153) rfl)) rfl
set_option maxRecDepth 100000 in
theorem wd_583 : Cond.methodLink RX8 266 yX8_number ∈ mT := mT_in (lw_in4 (List.mem_of_getElem? (i := 183) rfl)) rfl
set_option maxRecDepth 100000 in
theorem wd_584 : Cond.code yX8_number cX8_number 2 (some .int) ∈ mT := mT_in (lw_in4 (List.mem_of_getElem? (i := 185) rfl)) rfl
set_option maxRecDepth 100000 in
theorem wd_585 : Cond.static yX8_number ∈ mT := mT_in (lw_in4 (List.mem_of_getElem? (i := 184) rfl)) rfl
set_option maxRecDepth 100000 in
theorem wd_586 : Cond.methodLink RX8 270 yX8_isSame ∈ mT := mT_in (lw_in4 (List.mem_of_getElem? (i := 186) rfl)) rfl
set_option maxRecDepth 100000 in
theorem wd_587 : Cond.code yX8_isSame cX8_isSame 6 (some .boolean) ∈ mT := mT_in (lw_in4 (List.mem_of_getElem? (i := 188) rfl)) rfl
set_option maxRecDepth 100000 in
theorem wd_588 : Cond.static yX8_isSame ∈ mT := mT_in (lw_in4 (List.mem_of_getElem? (i := 187) rfl)) rfl
set_option maxRecDepth 100000 in
theorem wd_589 : Cond.methodLink RX8 274 yX8_copies ∈ mT := mT_in (lw_in4 (List.mem_of_getElem? (i := 219) rfl)) rfl
set_option maxRecDepth 100000 in
theorem wd_590 : Cond.instanceMethod yX8_copies ∈ mT := mT_in (lw_in4 (List.mem_of_getElem? (i := 221) rfl)) rfl
set_option maxRecDepth 100000 in
theorem wd_591 : Cond.code yX8_copies cX8_copies 5 none ∈ mT := mT_in (lw_in4 (List.mem_of_getElem? (i := 222) rfl)) rfl
set_option maxRecDepth 100000 in
theorem wd_592 : Cond.selects RX8 yX8_copies yX8_copies ∈ mT := mT_in (lw_in0 (List.mem_of_getElem? (i := 44) rfl)) rfl
set_option maxRecDepth 100000 in
theorem wd_593 : Cond.methodLink RX8 277 yX8_isSigned ∈ mT := mT_in (lw_in4 (List.mem_of_getElem? (i := 179) rfl)) rfl
set_option maxRecDepth 100000 in
theorem wd_594 : Cond.instanceMethod yX8_isSigned ∈ mT := mT_in (lw_in4 (List.mem_of_getElem? (i := 181) rfl)) rfl
set_option maxRecDepth 100000 in
theorem wd_595 : Cond.code yX8_isSigned cX8_isSigned 3 (some .boolean) ∈ mT := mT_in (lw_in4 (List.mem_of_getElem? (i := 182) rfl)) rfl
set_option maxRecDepth 100000 in
theorem wd_596 : Cond.selects RX8 yX8_isSigned yX8_isSigned ∈ mT := mT_in (lw_in0 (List.mem_of_getElem? (i := 37) rfl)) rfl
set_option maxRecDepth 100000 in
theorem wd_597 : Cond.methodLink RX8 281 yX8_headAt ∈ mT := mT_in (lw_in4 (List.mem_of_getElem? (i := 189) rfl)) rfl
set_option maxRecDepth 100000 in
theorem wd_598 : Cond.code yX8_headAt cX8_headAt 2 (some .int) ∈ mT := mT_in (lw_in4 (List.mem_of_getElem? (i := 191) rfl)) rfl
set_option maxRecDepth 100000 in
theorem wd_599 : Cond.static yX8_headAt ∈ mT := mT_in (lw_in4 (List.mem_of_getElem? (i := 190) rfl)) rfl
set_option maxRecDepth 100000 in
theorem wd_600 : Cond.methodLink RX8 284 yX8_isAgainst ∈ mT := mT_in (lw_in4 (List.mem_of_getElem? (i := 192) rfl)) rfl
set_option maxRecDepth 100000 in
theorem wd_601 : Cond.instanceMethod yX8_isAgainst ∈ mT := mT_in (lw_in4 (List.mem_of_getElem? (i := 194) rfl)) rfl
set_option maxRecDepth 100000 in
theorem wd_602 : Cond.code yX8_isAgainst cX8_isAgainst 6 (some .boolean) ∈ mT := mT_in (lw_in4 (List.mem_of_getElem? (i := 195) rfl)) rfl
set_option maxRecDepth 100000 in
theorem wd_603 : Cond.selects RX8 yX8_isAgainst yX8_isAgainst ∈ mT := mT_in (lw_in0 (List.mem_of_getElem? (i := 38) rfl)) rfl
set_option maxRecDepth 100000 in
theorem wd_604 : Cond.methodLink RX8 288 yX8_records ∈ mT := mT_in (lw_in4 (List.mem_of_getElem? (i := 199) rfl)) rfl
set_option maxRecDepth 100000 in
theorem wd_605 : Cond.instanceMethod yX8_records ∈ mT := mT_in (lw_in4 (List.mem_of_getElem? (i := 201) rfl)) rfl
set_option maxRecDepth 100000 in
theorem wd_606 : Cond.code yX8_records cX8_records 7 none ∈ mT := mT_in (lw_in4 (List.mem_of_getElem? (i := 202) rfl)) rfl
set_option maxRecDepth 100000 in
theorem wd_607 : Cond.selects RX8 yX8_records yX8_records ∈ mT := mT_in (lw_in0 (List.mem_of_getElem? (i := 39) rfl)) rfl
set_option maxRecDepth 100000 in
theorem wd_608 : Cond.methodLink RX8 292 yX8_factAt ∈ mT := mT_in (lw_in4 (List.mem_of_getElem? (i := 196) rfl)) rfl
set_option maxRecDepth 100000 in
theorem wd_609 : Cond.code yX8_factAt cX8_factAt 2 (some .int) ∈ mT := mT_in (lw_in4 (List.mem_of_getElem? (i := 198) rfl)) rfl
set_option maxRecDepth 100000 in
theorem wd_610 : Cond.static yX8_factAt ∈ mT := mT_in (lw_in4 (List.mem_of_getElem? (i := 197) rfl)) rfl
set_option maxRecDepth 100000 in
theorem wd_611 : Cond.methodLink RX8 295 yX8_leads ∈ mT := mT_in (lw_in4 (List.mem_of_getElem? (i := 215) rfl)) rfl
set_option maxRecDepth 100000 in
theorem wd_612 : Cond.instanceMethod yX8_leads ∈ mT := mT_in (lw_in4 (List.mem_of_getElem? (i := 217) rfl)) rfl
set_option maxRecDepth 100000 in
theorem wd_613 : Cond.code yX8_leads cX8_leads 14 (some .boolean) ∈ mT := mT_in (lw_in4 (List.mem_of_getElem? (i := 218) rfl)) rfl
set_option maxRecDepth 100000 in
theorem wd_614 : Cond.selects RX8 yX8_leads yX8_leads ∈ mT := mT_in (lw_in0 (List.mem_of_getElem? (i := 43) rfl)) rfl
set_option maxRecDepth 100000 in
theorem wd_615 : Cond.methodLink RX8 299 yX8_isWay ∈ mT := mT_in (lw_in4 (List.mem_of_getElem? (i := 223) rfl)) rfl
set_option maxRecDepth 100000 in
theorem wd_616 : Cond.instanceMethod yX8_isWay ∈ mT := mT_in (lw_in4 (List.mem_of_getElem? (i := 225) rfl)) rfl
set_option maxRecDepth 100000 in
theorem wd_617 : Cond.code yX8_isWay cX8_isWay 13 (some .boolean) ∈ mT := mT_in (lw_in4 (List.mem_of_getElem? (i := 226) rfl)) rfl
set_option maxRecDepth 100000 in
theorem wd_618 : Cond.selects RX8 yX8_isWay yX8_isWay ∈ mT := mT_in (lw_in0 (List.mem_of_getElem? (i := 45) rfl)) rfl
set_option maxRecDepth 100000 in
theorem wd_619 : Cond.methodLink RX8 302 yX8_accepts ∈ mT := mT_in (lw_in4 (List.mem_of_getElem? (i := 211) rfl)) rfl
set_option maxRecDepth 100000 in
theorem wd_620 : Cond.instanceMethod yX8_accepts ∈ mT := mT_in (lw_in4 (List.mem_of_getElem? (i := 213) rfl)) rfl
set_option maxRecDepth 100000 in
theorem wd_621 : Cond.code yX8_accepts cX8_accepts 6 (some .boolean) ∈ mT := mT_in (lw_in4 (List.mem_of_getElem? (i := 214) rfl)) rfl
set_option maxRecDepth 100000 in
theorem wd_622 : Cond.selects RX8 yX8_accepts yX8_accepts ∈ mT := mT_in (lw_in0 (List.mem_of_getElem? (i := 42) rfl)) rfl
set_option maxRecDepth 100000 in
theorem wd_623 : Cond.methodLink RX8 306 yX8_isOther ∈ mT := mT_in (lw_in4 (List.mem_of_getElem? (i := 227) rfl)) rfl
set_option maxRecDepth 100000 in
theorem wd_624 : Cond.instanceMethod yX8_isOther ∈ mT := mT_in (lw_in4 (List.mem_of_getElem? (i := 229) rfl)) rfl
set_option maxRecDepth 100000 in
theorem wd_625 : Cond.code yX8_isOther cX8_isOther 6 (some .boolean) ∈ mT := mT_in (lw_in4 (List.mem_of_getElem? (i := 230) rfl)) rfl
set_option maxRecDepth 100000 in
theorem wd_626 : Cond.selects RX8 yX8_isOther yX8_isOther ∈ mT := mT_in (lw_in0 (List.mem_of_getElem? (i := 46) rfl)) rfl
set_option maxRecDepth 100000 in
theorem wd_627 : Cond.methodLink RX8 309 yX8_takesHead ∈ mT := mT_in (lw_in4 (List.mem_of_getElem? (i := 175) rfl)) rfl
set_option maxRecDepth 100000 in
theorem wd_628 : Cond.instanceMethod yX8_takesHead ∈ mT := mT_in (lw_in4 (List.mem_of_getElem? (i := 177) rfl)) rfl
set_option maxRecDepth 100000 in
theorem wd_629 : Cond.code yX8_takesHead cX8_takesHead 7 (some .int) ∈ mT := mT_in (lw_in4 (List.mem_of_getElem? (i := 178) rfl)) rfl
set_option maxRecDepth 100000 in
theorem wd_630 : Cond.selects RX8 yX8_takesHead yX8_takesHead ∈ mT := mT_in (lw_in0 (List.mem_of_getElem? (i := 36) rfl)) rfl
set_option maxRecDepth 100000 in
theorem wd_631 : Cond.methodLink RX8 313 yX8_answered ∈ mT := mT_in (lw_in4 (List.mem_of_getElem? (i := 203) rfl)) rfl
set_option maxRecDepth 100000 in
theorem wd_632 : Cond.instanceMethod yX8_answered ∈ mT := mT_in (lw_in4 (List.mem_of_getElem? (i := 205) rfl)) rfl
set_option maxRecDepth 100000 in
theorem wd_633 : Cond.code yX8_answered cX8_answered 3 (some .int) ∈ mT := mT_in (lw_in4 (List.mem_of_getElem? (i := 206) rfl)) rfl
set_option maxRecDepth 100000 in
theorem wd_634 : Cond.selects RX8 yX8_answered yX8_answered ∈ mT := mT_in (lw_in0 (List.mem_of_getElem? (i := 40) rfl)) rfl
set_option maxRecDepth 100000 in
theorem wd_635 : Cond.methodLink RX8 316 yX8_takesProof ∈ mT := mT_in (lw_in4 (List.mem_of_getElem? (i := 207) rfl)) rfl
set_option maxRecDepth 100000 in
theorem wd_636 : Cond.instanceMethod yX8_takesProof ∈ mT := mT_in (lw_in4 (List.mem_of_getElem? (i := 209) rfl)) rfl
set_option maxRecDepth 100000 in
theorem wd_637 : Cond.code yX8_takesProof cX8_takesProof 8 (some .int) ∈ mT := mT_in (lw_in4 (List.mem_of_getElem? (i := 210) rfl)) rfl
set_option maxRecDepth 100000 in
theorem wd_638 : Cond.selects RX8 yX8_takesProof yX8_takesProof ∈ mT := mT_in (lw_in0 (List.mem_of_getElem? (i := 41) rfl)) rfl
set_option maxRecDepth 100000 in
theorem wd_639 : Cond.methodLink RX8 319 yX8_isRecord ∈ mT := mT_in (lw_in5 (List.mem_of_getElem? (i := 11) rfl)) rfl
set_option maxRecDepth 100000 in
theorem wd_640 : Cond.instanceMethod yX8_isRecord ∈ mT := mT_in (lw_in5 (List.mem_of_getElem? (i := 13) rfl)) rfl
set_option maxRecDepth 100000 in
theorem wd_641 : Cond.code yX8_isRecord cX8_isRecord 3 (some .boolean) ∈ mT := mT_in (lw_in5 (List.mem_of_getElem? (i := 14) rfl)) rfl
set_option maxRecDepth 100000 in
theorem wd_642 : Cond.selects RX8 yX8_isRecord yX8_isRecord ∈ mT := mT_in (lw_in0 (List.mem_of_getElem? (i := 47) rfl)) rfl
set_option maxRecDepth 100000 in
theorem wd_643 : Cond.fieldLink RX8 322 (mTb 8 32).1 (mTb 8 32).2.1 (mTb 8 32).2.2.1 ∈ mT := mT_in (lw_in3 (List.mem_of_getElem? (i := 233) rfl)) rfl
set_option maxRecDepth 100000 in
theorem wd_644 : Cond.methodLink RX8 325 yX8_lays ∈ mT := mT_in (lw_in5 (List.mem_of_getElem? (i := 19) rfl)) rfl
set_option maxRecDepth 100000 in
theorem wd_645 : Cond.instanceMethod yX8_lays ∈ mT := mT_in (lw_in5 (List.mem_of_getElem? (i := 21) rfl)) rfl
set_option maxRecDepth 100000 in
theorem wd_646 : Cond.code yX8_lays cX8_lays 5 none ∈ mT := mT_in (lw_in5 (List.mem_of_getElem? (i := 22) rfl)) rfl
set_option maxRecDepth 100000 in
theorem wd_647 : Cond.selects RX8 yX8_lays yX8_lays ∈ mT := mT_in (lw_in0 (List.mem_of_getElem? (i := 48) rfl)) rfl
set_option maxRecDepth 100000 in
theorem wd_648 : Cond.classLink RL 7 (mRn 7) ∈ mT := mT_in (lw_in1 (List.mem_of_getElem? (i := 12) rfl)) rfl
set_option maxRecDepth 100000 in
theorem wd_649 : Cond.instantiable (mRn 7) (mN 7) ∈ mT := mT_in (lw_in1 (List.mem_of_getElem? (i := 13) rfl)) rfl
set_option maxRecDepth 100000 in
theorem wd_650 : Cond.methodLink RL 9 yL_cell ∈ mT := mT_in (lw_in3 (List.mem_of_getElem? (i := 96) rfl)) rfl
set_option maxRecDepth 100000 in
theorem wd_651 : Cond.initialized RL ∈ mT := mT_in (lw_in1 (List.mem_of_getElem? (i := 0) rfl)) rfl
set_option maxRecDepth 100000 in
theorem wd_652 : Cond.code yL_cell cL_cell 2 (some .int) ∈ mT := mT_in (lw_in3 (List.mem_of_getElem? (i := 98) rfl)) rfl
set_option maxRecDepth 100000 in
theorem wd_653 : Cond.static yL_cell ∈ mT := mT_in (lw_in3 (List.mem_of_getElem? (i := 97) rfl)) rfl
set_option maxRecDepth 100000 in
theorem wd_654 : Cond.methodLink RL 15 yX7_init ∈ mT := mT_in (lw_in1 (List.mem_of_getElem? (i := 14) rfl)) rfl
set_option maxRecDepth 100000 in
theorem wd_655 : Cond.instanceMethod yX7_init ∈ mT := mT_in (lw_in1 (List.mem_of_getElem? (i := 15) rfl)) rfl
set_option maxRecDepth 100000 in
theorem wd_656 : Cond.code yX7_init cX7_init 4 none ∈ mT := mT_in (lw_in1 (List.mem_of_getElem? (i := 16) rfl)) rfl
set_option maxRecDepth 100000 in
theorem wd_657 : Cond.classLink RL 18 (mRn 8) ∈ mT := mT_in (lw_in3 (List.mem_of_getElem? (i := 99) rfl)) rfl
set_option maxRecDepth 100000 in
theorem wd_658 : Cond.instantiable (mRn 8) (mN 8) ∈ mT := mT_in (lw_in3 (List.mem_of_getElem? (i := 100) rfl)) rfl
set_option maxRecDepth 100000 in
theorem wd_659 : Cond.methodLink RL 20 yX8_init ∈ mT := mT_in (lw_in3 (List.mem_of_getElem? (i := 101) rfl)) rfl
set_option maxRecDepth 100000 in
theorem wd_660 : Cond.instanceMethod yX8_init ∈ mT := mT_in (lw_in3 (List.mem_of_getElem? (i := 102) rfl)) rfl
set_option maxRecDepth 100000 in
theorem wd_661 : Cond.code yX8_init cX8_init 5 none ∈ mT := mT_in (lw_in3 (List.mem_of_getElem? (i := 103) rfl)) rfl
set_option maxRecDepth 100000 in
theorem wd_662 : Cond.methodLink RL 21 yX7_append ∈ mT := mT_in (lw_in2 (List.mem_of_getElem? (i := 12) rfl)) rfl
set_option maxRecDepth 100000 in
theorem wd_663 : Cond.instanceMethod yX7_append ∈ mT := mT_in (lw_in2 (List.mem_of_getElem? (i := 13) rfl)) rfl
set_option maxRecDepth 100000 in
theorem wd_664 : Cond.code yX7_append cX7_append 5 (some .int) ∈ mT := mT_in (lw_in2 (List.mem_of_getElem? (i := 15) rfl)) rfl
set_option maxRecDepth 100000 in
theorem wd_665 : Cond.selects RX7 yX7_append yX7_append ∈ mT := mT_in (lw_in2 (List.mem_of_getElem? (i := 14) rfl)) rfl
set_option maxRecDepth 100000 in
theorem wd_666 : Cond.methodLink RL 25 yX8_append ∈ mT := mT_in (lw_in4 (List.mem_of_getElem? (i := 67) rfl)) rfl
set_option maxRecDepth 100000 in
theorem wd_667 : Cond.instanceMethod yX8_append ∈ mT := mT_in (lw_in4 (List.mem_of_getElem? (i := 68) rfl)) rfl
set_option maxRecDepth 100000 in
theorem wd_668 : Cond.code yX8_append cX8_append 5 (some .int) ∈ mT := mT_in (lw_in4 (List.mem_of_getElem? (i := 70) rfl)) rfl
set_option maxRecDepth 100000 in
theorem wd_669 : Cond.selects RX8 yX8_append yX8_append ∈ mT := mT_in (lw_in4 (List.mem_of_getElem? (i := 69) rfl)) rfl
set_option maxRecDepth 100000 in
theorem wd_670 : Cond.methodLink RL 26 yX7_leaves ∈ mT := mT_in (lw_in2 (List.mem_of_getElem? (i := 39) rfl)) rfl
set_option maxRecDepth 100000 in
theorem wd_671 : Cond.instanceMethod yX7_leaves ∈ mT := mT_in (lw_in2 (List.mem_of_getElem? (i := 40) rfl)) rfl
set_option maxRecDepth 100000 in
theorem wd_672 : Cond.code yX7_leaves cX7_leaves 4 (some .int) ∈ mT := mT_in (lw_in2 (List.mem_of_getElem? (i := 42) rfl)) rfl
set_option maxRecDepth 100000 in
theorem wd_673 : Cond.selects RX7 yX7_leaves yX7_leaves ∈ mT := mT_in (lw_in2 (List.mem_of_getElem? (i := 41) rfl)) rfl
set_option maxRecDepth 100000 in
theorem wd_674 : Cond.methodLink RL 30 yX8_leaves ∈ mT := mT_in (lw_in4 (List.mem_of_getElem? (i := 77) rfl)) rfl
set_option maxRecDepth 100000 in
theorem wd_675 : Cond.instanceMethod yX8_leaves ∈ mT := mT_in (lw_in4 (List.mem_of_getElem? (i := 78) rfl)) rfl
set_option maxRecDepth 100000 in
theorem wd_676 : Cond.code yX8_leaves cX8_leaves 3 (some .int) ∈ mT := mT_in (lw_in4 (List.mem_of_getElem? (i := 80) rfl)) rfl
set_option maxRecDepth 100000 in
theorem wd_677 : Cond.selects RX8 yX8_leaves yX8_leaves ∈ mT := mT_in (lw_in4 (List.mem_of_getElem? (i := 79) rfl)) rfl
set_option maxRecDepth 100000 in
theorem wd_678 : Cond.methodLink RL 31 yX7_head ∈ mT := mT_in (lw_in2 (List.mem_of_getElem? (i := 43) rfl)) rfl
set_option maxRecDepth 100000 in
theorem wd_679 : Cond.instanceMethod yX7_head ∈ mT := mT_in (lw_in2 (List.mem_of_getElem? (i := 44) rfl)) rfl
set_option maxRecDepth 100000 in
theorem wd_680 : Cond.code yX7_head cX7_head 6 (some .int) ∈ mT := mT_in (lw_in2 (List.mem_of_getElem? (i := 46) rfl)) rfl
set_option maxRecDepth 100000 in
theorem wd_681 : Cond.selects RX7 yX7_head yX7_head ∈ mT := mT_in (lw_in2 (List.mem_of_getElem? (i := 45) rfl)) rfl
set_option maxRecDepth 100000 in
theorem wd_682 : Cond.methodLink RL 34 yX8_head ∈ mT := mT_in (lw_in4 (List.mem_of_getElem? (i := 81) rfl)) rfl
set_option maxRecDepth 100000 in
theorem wd_683 : Cond.instanceMethod yX8_head ∈ mT := mT_in (lw_in4 (List.mem_of_getElem? (i := 82) rfl)) rfl
set_option maxRecDepth 100000 in
theorem wd_684 : Cond.code yX8_head cX8_head 5 (some .int) ∈ mT := mT_in (lw_in4 (List.mem_of_getElem? (i := 84) rfl)) rfl
set_option maxRecDepth 100000 in
theorem wd_685 : Cond.selects RX8 yX8_head yX8_head ∈ mT := mT_in (lw_in4 (List.mem_of_getElem? (i := 83) rfl)) rfl
set_option maxRecDepth 100000 in
theorem wd_686 : Cond.methodLink RL 35 yX7_proof ∈ mT := mT_in (lw_in2 (List.mem_of_getElem? (i := 72) rfl)) rfl
set_option maxRecDepth 100000 in
theorem wd_687 : Cond.instanceMethod yX7_proof ∈ mT := mT_in (lw_in2 (List.mem_of_getElem? (i := 73) rfl)) rfl
set_option maxRecDepth 100000 in
theorem wd_688 : Cond.code yX7_proof cX7_proof 7 (some .int) ∈ mT := mT_in (lw_in2 (List.mem_of_getElem? (i := 75) rfl)) rfl
set_option maxRecDepth 100000 in
theorem wd_689 : Cond.selects RX7 yX7_proof yX7_proof ∈ mT := mT_in (lw_in2 (List.mem_of_getElem? (i := 74) rfl)) rfl
set_option maxRecDepth 100000 in
theorem wd_690 : Cond.methodLink RL 39 yX8_proof ∈ mT := mT_in (lw_in4 (List.mem_of_getElem? (i := 124) rfl)) rfl
set_option maxRecDepth 100000 in
theorem wd_691 : Cond.instanceMethod yX8_proof ∈ mT := mT_in (lw_in4 (List.mem_of_getElem? (i := 125) rfl)) rfl
set_option maxRecDepth 100000 in
theorem wd_692 : Cond.code yX8_proof cX8_proof 11 (some .int) ∈ mT := mT_in (lw_in4 (List.mem_of_getElem? (i := 127) rfl)) rfl
set_option maxRecDepth 100000 in
theorem wd_693 : Cond.selects RX8 yX8_proof yX8_proof ∈ mT := mT_in (lw_in4 (List.mem_of_getElem? (i := 126) rfl)) rfl
set_option maxRecDepth 100000 in
theorem wd_694 : Cond.methodLink RL 40 yX7_path ∈ mT := mT_in (lw_in2 (List.mem_of_getElem? (i := 88) rfl)) rfl
set_option maxRecDepth 100000 in
theorem wd_695 : Cond.instanceMethod yX7_path ∈ mT := mT_in (lw_in2 (List.mem_of_getElem? (i := 89) rfl)) rfl
set_option maxRecDepth 100000 in
theorem wd_696 : Cond.code yX7_path cX7_path 7 (some .int) ∈ mT := mT_in (lw_in2 (List.mem_of_getElem? (i := 91) rfl)) rfl
set_option maxRecDepth 100000 in
theorem wd_697 : Cond.selects RX7 yX7_path yX7_path ∈ mT := mT_in (lw_in2 (List.mem_of_getElem? (i := 90) rfl)) rfl
set_option maxRecDepth 100000 in
theorem wd_698 : Cond.methodLink RL 43 yX8_path ∈ mT := mT_in (lw_in4 (List.mem_of_getElem? (i := 136) rfl)) rfl
set_option maxRecDepth 100000 in
theorem wd_699 : Cond.instanceMethod yX8_path ∈ mT := mT_in (lw_in4 (List.mem_of_getElem? (i := 137) rfl)) rfl
set_option maxRecDepth 100000 in
theorem wd_700 : Cond.code yX8_path cX8_path 10 (some .int) ∈ mT := mT_in (lw_in4 (List.mem_of_getElem? (i := 139) rfl)) rfl
set_option maxRecDepth 100000 in
theorem wd_701 : Cond.selects RX8 yX8_path yX8_path ∈ mT := mT_in (lw_in4 (List.mem_of_getElem? (i := 138) rfl)) rfl
set_option maxRecDepth 100000 in
theorem wd_702 : Cond.methodLink RL 44 yX7_alter ∈ mT := mT_in (lw_in2 (List.mem_of_getElem? (i := 100) rfl)) rfl
set_option maxRecDepth 100000 in
theorem wd_703 : Cond.instanceMethod yX7_alter ∈ mT := mT_in (lw_in2 (List.mem_of_getElem? (i := 101) rfl)) rfl
set_option maxRecDepth 100000 in
theorem wd_704 : Cond.code yX7_alter cX7_alter 5 (some .int) ∈ mT := mT_in (lw_in2 (List.mem_of_getElem? (i := 103) rfl)) rfl
set_option maxRecDepth 100000 in
theorem wd_705 : Cond.selects RX7 yX7_alter yX7_alter ∈ mT := mT_in (lw_in2 (List.mem_of_getElem? (i := 102) rfl)) rfl
set_option maxRecDepth 100000 in
theorem wd_706 : Cond.methodLink RL 47 yX8_alter ∈ mT := mT_in (lw_in4 (List.mem_of_getElem? (i := 140) rfl)) rfl
set_option maxRecDepth 100000 in
theorem wd_707 : Cond.instanceMethod yX8_alter ∈ mT := mT_in (lw_in4 (List.mem_of_getElem? (i := 141) rfl)) rfl
set_option maxRecDepth 100000 in
theorem wd_708 : Cond.code yX8_alter cX8_alter 5 (some .int) ∈ mT := mT_in (lw_in4 (List.mem_of_getElem? (i := 143) rfl)) rfl
set_option maxRecDepth 100000 in
theorem wd_709 : Cond.selects RX8 yX8_alter yX8_alter ∈ mT := mT_in (lw_in4 (List.mem_of_getElem? (i := 142) rfl)) rfl
set_option maxRecDepth 100000 in
theorem wd_710 : Cond.methodLink RL 48 yX7_cut ∈ mT := mT_in (lw_in2 (List.mem_of_getElem? (i := 117) rfl)) rfl
set_option maxRecDepth 100000 in
theorem wd_711 : Cond.instanceMethod yX7_cut ∈ mT := mT_in (lw_in2 (List.mem_of_getElem? (i := 118) rfl)) rfl
set_option maxRecDepth 100000 in
theorem wd_712 : Cond.code yX7_cut cX7_cut 5 (some .int) ∈ mT := mT_in (lw_in2 (List.mem_of_getElem? (i := 120) rfl)) rfl
set_option maxRecDepth 100000 in
theorem wd_713 : Cond.selects RX7 yX7_cut yX7_cut ∈ mT := mT_in (lw_in2 (List.mem_of_getElem? (i := 119) rfl)) rfl
set_option maxRecDepth 100000 in
theorem wd_714 : Cond.methodLink RL 51 yX8_cut ∈ mT := mT_in (lw_in4 (List.mem_of_getElem? (i := 148) rfl)) rfl
set_option maxRecDepth 100000 in
theorem wd_715 : Cond.instanceMethod yX8_cut ∈ mT := mT_in (lw_in4 (List.mem_of_getElem? (i := 149) rfl)) rfl
set_option maxRecDepth 100000 in
theorem wd_716 : Cond.code yX8_cut cX8_cut 4 (some .int) ∈ mT := mT_in (lw_in4 (List.mem_of_getElem? (i := 151) rfl)) rfl
set_option maxRecDepth 100000 in
theorem wd_717 : Cond.selects RX8 yX8_cut yX8_cut ∈ mT := mT_in (lw_in4 (List.mem_of_getElem? (i := 150) rfl)) rfl
set_option maxRecDepth 100000 in
theorem wd_718 : Cond.methodLink RL 52 yX7_sign ∈ mT := mT_in (lw_in2 (List.mem_of_getElem? (i := 129) rfl)) rfl
set_option maxRecDepth 100000 in
theorem wd_719 : Cond.instanceMethod yX7_sign ∈ mT := mT_in (lw_in2 (List.mem_of_getElem? (i := 130) rfl)) rfl
set_option maxRecDepth 100000 in
theorem wd_720 : Cond.code yX7_sign cX7_sign 4 (some .boolean) ∈ mT := mT_in (lw_in2 (List.mem_of_getElem? (i := 132) rfl)) rfl
set_option maxRecDepth 100000 in
theorem wd_721 : Cond.selects RX7 yX7_sign yX7_sign ∈ mT := mT_in (lw_in2 (List.mem_of_getElem? (i := 131) rfl)) rfl
set_option maxRecDepth 100000 in
theorem wd_722 : Cond.methodLink RL 56 yX8_sign ∈ mT := mT_in (lw_in4 (List.mem_of_getElem? (i := 155) rfl)) rfl
set_option maxRecDepth 100000 in
theorem wd_723 : Cond.instanceMethod yX8_sign ∈ mT := mT_in (lw_in4 (List.mem_of_getElem? (i := 156) rfl)) rfl
set_option maxRecDepth 100000 in
theorem wd_724 : Cond.code yX8_sign cX8_sign 3 (some .boolean) ∈ mT := mT_in (lw_in4 (List.mem_of_getElem? (i := 158) rfl)) rfl
set_option maxRecDepth 100000 in
theorem wd_725 : Cond.selects RX8 yX8_sign yX8_sign ∈ mT := mT_in (lw_in4 (List.mem_of_getElem? (i := 157) rfl)) rfl
set_option maxRecDepth 100000 in
theorem wd_726 : Cond.methodLink RL 57 yX7_clear ∈ mT := mT_in (lw_in2 (List.mem_of_getElem? (i := 133) rfl)) rfl
set_option maxRecDepth 100000 in
theorem wd_727 : Cond.instanceMethod yX7_clear ∈ mT := mT_in (lw_in2 (List.mem_of_getElem? (i := 134) rfl)) rfl
set_option maxRecDepth 100000 in
theorem wd_728 : Cond.code yX7_clear cX7_clear 2 (some .int) ∈ mT := mT_in (lw_in2 (List.mem_of_getElem? (i := 136) rfl)) rfl
set_option maxRecDepth 100000 in
theorem wd_729 : Cond.selects RX7 yX7_clear yX7_clear ∈ mT := mT_in (lw_in2 (List.mem_of_getElem? (i := 135) rfl)) rfl
set_option maxRecDepth 100000 in
theorem wd_730 : Cond.methodLink RL 61 yX8_clear ∈ mT := mT_in (lw_in4 (List.mem_of_getElem? (i := 159) rfl)) rfl
set_option maxRecDepth 100000 in
theorem wd_731 : Cond.instanceMethod yX8_clear ∈ mT := mT_in (lw_in4 (List.mem_of_getElem? (i := 160) rfl)) rfl
set_option maxRecDepth 100000 in
theorem wd_732 : Cond.code yX8_clear cX8_clear 2 (some .int) ∈ mT := mT_in (lw_in4 (List.mem_of_getElem? (i := 162) rfl)) rfl
set_option maxRecDepth 100000 in
theorem wd_733 : Cond.selects RX8 yX8_clear yX8_clear ∈ mT := mT_in (lw_in4 (List.mem_of_getElem? (i := 161) rfl)) rfl
set_option maxRecDepth 100000 in
theorem wd_734 : Cond.methodLink RL 62 yX7_letters ∈ mT := mT_in (lw_in2 (List.mem_of_getElem? (i := 137) rfl)) rfl
set_option maxRecDepth 100000 in
theorem wd_735 : Cond.instanceMethod yX7_letters ∈ mT := mT_in (lw_in2 (List.mem_of_getElem? (i := 138) rfl)) rfl
set_option maxRecDepth 100000 in
theorem wd_736 : Cond.code yX7_letters cX7_letters 1 (some .int) ∈ mT := mT_in (lw_in2 (List.mem_of_getElem? (i := 140) rfl)) rfl
set_option maxRecDepth 100000 in
theorem wd_737 : Cond.selects RX7 yX7_letters yX7_letters ∈ mT := mT_in (lw_in2 (List.mem_of_getElem? (i := 139) rfl)) rfl
set_option maxRecDepth 100000 in
theorem wd_738 : Cond.methodLink RL 65 yX8_letters ∈ mT := mT_in (lw_in4 (List.mem_of_getElem? (i := 163) rfl)) rfl
set_option maxRecDepth 100000 in
theorem wd_739 : Cond.instanceMethod yX8_letters ∈ mT := mT_in (lw_in4 (List.mem_of_getElem? (i := 164) rfl)) rfl
set_option maxRecDepth 100000 in
theorem wd_740 : Cond.code yX8_letters cX8_letters 1 (some .int) ∈ mT := mT_in (lw_in4 (List.mem_of_getElem? (i := 166) rfl)) rfl
set_option maxRecDepth 100000 in
theorem wd_741 : Cond.selects RX8 yX8_letters yX8_letters ∈ mT := mT_in (lw_in4 (List.mem_of_getElem? (i := 165) rfl)) rfl
set_option maxRecDepth 100000 in
theorem wd_742 : Cond.methodLink RL 66 yX7_letter ∈ mT := mT_in (lw_in2 (List.mem_of_getElem? (i := 141) rfl)) rfl
set_option maxRecDepth 100000 in
theorem wd_743 : Cond.instanceMethod yX7_letter ∈ mT := mT_in (lw_in2 (List.mem_of_getElem? (i := 142) rfl)) rfl
set_option maxRecDepth 100000 in
theorem wd_744 : Cond.code yX7_letter cX7_letter 4 (some .int) ∈ mT := mT_in (lw_in2 (List.mem_of_getElem? (i := 144) rfl)) rfl
set_option maxRecDepth 100000 in
theorem wd_745 : Cond.selects RX7 yX7_letter yX7_letter ∈ mT := mT_in (lw_in2 (List.mem_of_getElem? (i := 143) rfl)) rfl
set_option maxRecDepth 100000 in
theorem wd_746 : Cond.methodLink RL 69 yX8_letter ∈ mT := mT_in (lw_in4 (List.mem_of_getElem? (i := 167) rfl)) rfl
set_option maxRecDepth 100000 in
theorem wd_747 : Cond.instanceMethod yX8_letter ∈ mT := mT_in (lw_in4 (List.mem_of_getElem? (i := 168) rfl)) rfl
set_option maxRecDepth 100000 in
theorem wd_748 : Cond.code yX8_letter cX8_letter 3 (some .int) ∈ mT := mT_in (lw_in4 (List.mem_of_getElem? (i := 170) rfl)) rfl
set_option maxRecDepth 100000 in
theorem wd_749 : Cond.selects RX8 yX8_letter yX8_letter ∈ mT := mT_in (lw_in4 (List.mem_of_getElem? (i := 169) rfl)) rfl
set_option maxRecDepth 100000 in
theorem wd_750 : Cond.methodLink RL 70 yX7_take ∈ mT := mT_in (lw_in2 (List.mem_of_getElem? (i := 145) rfl)) rfl
set_option maxRecDepth 100000 in
theorem wd_751 : Cond.instanceMethod yX7_take ∈ mT := mT_in (lw_in2 (List.mem_of_getElem? (i := 146) rfl)) rfl
set_option maxRecDepth 100000 in
theorem wd_752 : Cond.code yX7_take cX7_take 7 (some .int) ∈ mT := mT_in (lw_in2 (List.mem_of_getElem? (i := 148) rfl)) rfl
set_option maxRecDepth 100000 in
theorem wd_753 : Cond.selects RX7 yX7_take yX7_take ∈ mT := mT_in (lw_in2 (List.mem_of_getElem? (i := 147) rfl)) rfl
set_option maxRecDepth 100000 in
theorem wd_754 : Cond.methodLink RL 73 yX8_take ∈ mT := mT_in (lw_in4 (List.mem_of_getElem? (i := 171) rfl)) rfl
set_option maxRecDepth 100000 in
theorem wd_755 : Cond.instanceMethod yX8_take ∈ mT := mT_in (lw_in4 (List.mem_of_getElem? (i := 172) rfl)) rfl
set_option maxRecDepth 100000 in
theorem wd_756 : Cond.code yX8_take cX8_take 5 (some .int) ∈ mT := mT_in (lw_in4 (List.mem_of_getElem? (i := 174) rfl)) rfl
set_option maxRecDepth 100000 in
theorem wd_757 : Cond.selects RX8 yX8_take yX8_take ∈ mT := mT_in (lw_in4 (List.mem_of_getElem? (i := 173) rfl)) rfl
set_option maxRecDepth 100000 in
theorem wd_758 : Cond.methodLink RL 74 yX7_gossip ∈ mT := mT_in (lw_in2 (List.mem_of_getElem? (i := 239) rfl)) rfl
set_option maxRecDepth 100000 in
theorem wd_759 : Cond.instanceMethod yX7_gossip ∈ mT := mT_in (lw_in3 (List.mem_of_getElem? (i := 0) rfl)) rfl
set_option maxRecDepth 100000 in
theorem wd_760 : Cond.code yX7_gossip cX7_gossip 7 (some .int) ∈ mT := mT_in (lw_in3 (List.mem_of_getElem? (i := 2) rfl)) rfl
set_option maxRecDepth 100000 in
theorem wd_761 : Cond.selects RX7 yX7_gossip yX7_gossip ∈ mT := mT_in (lw_in3 (List.mem_of_getElem? (i := 1) rfl)) rfl
set_option maxRecDepth 100000 in
theorem wd_762 : Cond.methodLink RL 77 yX8_gossip ∈ mT := mT_in (lw_in4 (List.mem_of_getElem? (i := 231) rfl)) rfl
set_option maxRecDepth 100000 in
theorem wd_763 : Cond.instanceMethod yX8_gossip ∈ mT := mT_in (lw_in4 (List.mem_of_getElem? (i := 232) rfl)) rfl
set_option maxRecDepth 100000 in
theorem wd_764 : Cond.code yX8_gossip cX8_gossip 5 (some .int) ∈ mT := mT_in (lw_in4 (List.mem_of_getElem? (i := 234) rfl)) rfl
set_option maxRecDepth 100000 in
theorem wd_765 : Cond.selects RX8 yX8_gossip yX8_gossip ∈ mT := mT_in (lw_in4 (List.mem_of_getElem? (i := 233) rfl)) rfl
set_option maxRecDepth 100000 in
theorem wd_766 : Cond.methodLink RL 78 yX7_holds ∈ mT := mT_in (lw_in3 (List.mem_of_getElem? (i := 3) rfl)) rfl
set_option maxRecDepth 100000 in
theorem wd_767 : Cond.instanceMethod yX7_holds ∈ mT := mT_in (lw_in3 (List.mem_of_getElem? (i := 4) rfl)) rfl
set_option maxRecDepth 100000 in
theorem wd_768 : Cond.code yX7_holds cX7_holds 4 (some .int) ∈ mT := mT_in (lw_in3 (List.mem_of_getElem? (i := 6) rfl)) rfl
set_option maxRecDepth 100000 in
theorem wd_769 : Cond.selects RX7 yX7_holds yX7_holds ∈ mT := mT_in (lw_in3 (List.mem_of_getElem? (i := 5) rfl)) rfl
set_option maxRecDepth 100000 in
theorem wd_770 : Cond.methodLink RL 81 yX8_holds ∈ mT := mT_in (lw_in4 (List.mem_of_getElem? (i := 235) rfl)) rfl
set_option maxRecDepth 100000 in
theorem wd_771 : Cond.instanceMethod yX8_holds ∈ mT := mT_in (lw_in4 (List.mem_of_getElem? (i := 236) rfl)) rfl
set_option maxRecDepth 100000 in
theorem wd_772 : Cond.code yX8_holds cX8_holds 3 (some .int) ∈ mT := mT_in (lw_in4 (List.mem_of_getElem? (i := 238) rfl)) rfl
set_option maxRecDepth 100000 in
theorem wd_773 : Cond.selects RX8 yX8_holds yX8_holds ∈ mT := mT_in (lw_in4 (List.mem_of_getElem? (i := 237) rfl)) rfl
set_option maxRecDepth 100000 in
theorem wd_774 : Cond.methodLink RL 82 yX7_held ∈ mT := mT_in (lw_in3 (List.mem_of_getElem? (i := 11) rfl)) rfl
set_option maxRecDepth 100000 in
theorem wd_775 : Cond.instanceMethod yX7_held ∈ mT := mT_in (lw_in3 (List.mem_of_getElem? (i := 12) rfl)) rfl
set_option maxRecDepth 100000 in
theorem wd_776 : Cond.code yX7_held cX7_held 5 (some .int) ∈ mT := mT_in (lw_in3 (List.mem_of_getElem? (i := 14) rfl)) rfl
set_option maxRecDepth 100000 in
theorem wd_777 : Cond.selects RX7 yX7_held yX7_held ∈ mT := mT_in (lw_in3 (List.mem_of_getElem? (i := 13) rfl)) rfl
set_option maxRecDepth 100000 in
theorem wd_778 : Cond.methodLink RL 85 yX8_held ∈ mT := mT_in (lw_in4 (List.mem_of_getElem? (i := 239) rfl)) rfl
set_option maxRecDepth 100000 in
theorem wd_779 : Cond.instanceMethod yX8_held ∈ mT := mT_in (lw_in5 (List.mem_of_getElem? (i := 0) rfl)) rfl
set_option maxRecDepth 100000 in
theorem wd_780 : Cond.code yX8_held cX8_held 4 (some .int) ∈ mT := mT_in (lw_in5 (List.mem_of_getElem? (i := 2) rfl)) rfl
set_option maxRecDepth 100000 in
theorem wd_781 : Cond.selects RX8 yX8_held yX8_held ∈ mT := mT_in (lw_in5 (List.mem_of_getElem? (i := 1) rfl)) rfl
set_option maxRecDepth 100000 in
theorem wd_782 : Cond.methodLink RL 86 yX7_fact ∈ mT := mT_in (lw_in3 (List.mem_of_getElem? (i := 19) rfl)) rfl
set_option maxRecDepth 100000 in
theorem wd_783 : Cond.instanceMethod yX7_fact ∈ mT := mT_in (lw_in3 (List.mem_of_getElem? (i := 20) rfl)) rfl
set_option maxRecDepth 100000 in
theorem wd_784 : Cond.code yX7_fact cX7_fact 5 (some .int) ∈ mT := mT_in (lw_in3 (List.mem_of_getElem? (i := 22) rfl)) rfl
set_option maxRecDepth 100000 in
theorem wd_785 : Cond.selects RX7 yX7_fact yX7_fact ∈ mT := mT_in (lw_in3 (List.mem_of_getElem? (i := 21) rfl)) rfl
set_option maxRecDepth 100000 in
theorem wd_786 : Cond.methodLink RL 89 yX8_fact ∈ mT := mT_in (lw_in5 (List.mem_of_getElem? (i := 3) rfl)) rfl
set_option maxRecDepth 100000 in
theorem wd_787 : Cond.instanceMethod yX8_fact ∈ mT := mT_in (lw_in5 (List.mem_of_getElem? (i := 4) rfl)) rfl
set_option maxRecDepth 100000 in
theorem wd_788 : Cond.code yX8_fact cX8_fact 5 (some .int) ∈ mT := mT_in (lw_in5 (List.mem_of_getElem? (i := 6) rfl)) rfl
set_option maxRecDepth 100000 in
theorem wd_789 : Cond.selects RX8 yX8_fact yX8_fact ∈ mT := mT_in (lw_in5 (List.mem_of_getElem? (i := 5) rfl)) rfl
set_option maxRecDepth 100000 in
theorem wd_790 : Cond.methodLink RL 90 yX7_record ∈ mT := mT_in (lw_in3 (List.mem_of_getElem? (i := 32) rfl)) rfl
set_option maxRecDepth 100000 in
theorem wd_791 : Cond.instanceMethod yX7_record ∈ mT := mT_in (lw_in3 (List.mem_of_getElem? (i := 33) rfl)) rfl
set_option maxRecDepth 100000 in
theorem wd_792 : Cond.code yX7_record cX7_record 5 (some .int) ∈ mT := mT_in (lw_in3 (List.mem_of_getElem? (i := 35) rfl)) rfl
set_option maxRecDepth 100000 in
theorem wd_793 : Cond.selects RX7 yX7_record yX7_record ∈ mT := mT_in (lw_in3 (List.mem_of_getElem? (i := 34) rfl)) rfl
set_option maxRecDepth 100000 in
theorem wd_794 : Cond.methodLink RL 93 yX8_record ∈ mT := mT_in (lw_in5 (List.mem_of_getElem? (i := 7) rfl)) rfl
set_option maxRecDepth 100000 in
theorem wd_795 : Cond.instanceMethod yX8_record ∈ mT := mT_in (lw_in5 (List.mem_of_getElem? (i := 8) rfl)) rfl
set_option maxRecDepth 100000 in
theorem wd_796 : Cond.code yX8_record cX8_record 5 (some .int) ∈ mT := mT_in (lw_in5 (List.mem_of_getElem? (i := 10) rfl)) rfl
set_option maxRecDepth 100000 in
theorem wd_797 : Cond.selects RX8 yX8_record yX8_record ∈ mT := mT_in (lw_in5 (List.mem_of_getElem? (i := 9) rfl)) rfl
set_option maxRecDepth 100000 in
theorem wd_798 : Cond.methodLink RL 94 yX7_lay ∈ mT := mT_in (lw_in3 (List.mem_of_getElem? (i := 44) rfl)) rfl
set_option maxRecDepth 100000 in
theorem wd_799 : Cond.instanceMethod yX7_lay ∈ mT := mT_in (lw_in3 (List.mem_of_getElem? (i := 45) rfl)) rfl
set_option maxRecDepth 100000 in
theorem wd_800 : Cond.code yX7_lay cX7_lay 4 (some .int) ∈ mT := mT_in (lw_in3 (List.mem_of_getElem? (i := 47) rfl)) rfl
set_option maxRecDepth 100000 in
theorem wd_801 : Cond.selects RX7 yX7_lay yX7_lay ∈ mT := mT_in (lw_in3 (List.mem_of_getElem? (i := 46) rfl)) rfl
set_option maxRecDepth 100000 in
theorem wd_802 : Cond.methodLink RL 97 yX8_lay ∈ mT := mT_in (lw_in5 (List.mem_of_getElem? (i := 15) rfl)) rfl
set_option maxRecDepth 100000 in
theorem wd_803 : Cond.instanceMethod yX8_lay ∈ mT := mT_in (lw_in5 (List.mem_of_getElem? (i := 16) rfl)) rfl
set_option maxRecDepth 100000 in
theorem wd_804 : Cond.code yX8_lay cX8_lay 7 (some .int) ∈ mT := mT_in (lw_in5 (List.mem_of_getElem? (i := 18) rfl)) rfl
set_option maxRecDepth 100000 in
theorem wd_805 : Cond.selects RX8 yX8_lay yX8_lay ∈ mT := mT_in (lw_in5 (List.mem_of_getElem? (i := 17) rfl)) rfl
set_option maxRecDepth 100000 in
theorem wd_806 : Cond.methodLink RL 98 yX7_desk ∈ mT := mT_in (lw_in3 (List.mem_of_getElem? (i := 57) rfl)) rfl
set_option maxRecDepth 100000 in
theorem wd_807 : Cond.instanceMethod yX7_desk ∈ mT := mT_in (lw_in3 (List.mem_of_getElem? (i := 58) rfl)) rfl
set_option maxRecDepth 100000 in
theorem wd_808 : Cond.code yX7_desk cX7_desk 2 (some .int) ∈ mT := mT_in (lw_in3 (List.mem_of_getElem? (i := 60) rfl)) rfl
set_option maxRecDepth 100000 in
theorem wd_809 : Cond.selects RX7 yX7_desk yX7_desk ∈ mT := mT_in (lw_in3 (List.mem_of_getElem? (i := 59) rfl)) rfl
set_option maxRecDepth 100000 in
theorem wd_810 : Cond.methodLink RL 102 yX8_desk ∈ mT := mT_in (lw_in5 (List.mem_of_getElem? (i := 23) rfl)) rfl
set_option maxRecDepth 100000 in
theorem wd_811 : Cond.instanceMethod yX8_desk ∈ mT := mT_in (lw_in5 (List.mem_of_getElem? (i := 24) rfl)) rfl
set_option maxRecDepth 100000 in
theorem wd_812 : Cond.code yX8_desk cX8_desk 2 (some .int) ∈ mT := mT_in (lw_in5 (List.mem_of_getElem? (i := 26) rfl)) rfl
set_option maxRecDepth 100000 in
theorem wd_813 : Cond.selects RX8 yX8_desk yX8_desk ∈ mT := mT_in (lw_in5 (List.mem_of_getElem? (i := 25) rfl)) rfl
set_option maxRecDepth 100000 in
theorem wd_814 : Cond.methodLink RL 103 yX7_patch ∈ mT := mT_in (lw_in3 (List.mem_of_getElem? (i := 61) rfl)) rfl
set_option maxRecDepth 100000 in
theorem wd_815 : Cond.instanceMethod yX7_patch ∈ mT := mT_in (lw_in3 (List.mem_of_getElem? (i := 62) rfl)) rfl
set_option maxRecDepth 100000 in
theorem wd_816 : Cond.code yX7_patch cX7_patch 3 (some .boolean) ∈ mT := mT_in (lw_in3 (List.mem_of_getElem? (i := 64) rfl)) rfl
set_option maxRecDepth 100000 in
theorem wd_817 : Cond.selects RX7 yX7_patch yX7_patch ∈ mT := mT_in (lw_in3 (List.mem_of_getElem? (i := 63) rfl)) rfl
set_option maxRecDepth 100000 in
theorem wd_818 : Cond.methodLink RL 107 yX8_patch ∈ mT := mT_in (lw_in5 (List.mem_of_getElem? (i := 27) rfl)) rfl
set_option maxRecDepth 100000 in
theorem wd_819 : Cond.instanceMethod yX8_patch ∈ mT := mT_in (lw_in5 (List.mem_of_getElem? (i := 28) rfl)) rfl
set_option maxRecDepth 100000 in
theorem wd_820 : Cond.code yX8_patch cX8_patch 3 (some .boolean) ∈ mT := mT_in (lw_in5 (List.mem_of_getElem? (i := 30) rfl)) rfl
set_option maxRecDepth 100000 in
theorem wd_821 : Cond.selects RX8 yX8_patch yX8_patch ∈ mT := mT_in (lw_in5 (List.mem_of_getElem? (i := 29) rfl)) rfl
set_option maxRecDepth 100000 in
theorem wd_822 : Cond.methodLink RL 108 yX7_trim ∈ mT := mT_in (lw_in3 (List.mem_of_getElem? (i := 65) rfl)) rfl
set_option maxRecDepth 100000 in
theorem wd_823 : Cond.instanceMethod yX7_trim ∈ mT := mT_in (lw_in3 (List.mem_of_getElem? (i := 66) rfl)) rfl
set_option maxRecDepth 100000 in
theorem wd_824 : Cond.code yX7_trim cX7_trim 2 (some .boolean) ∈ mT := mT_in (lw_in3 (List.mem_of_getElem? (i := 68) rfl)) rfl
set_option maxRecDepth 100000 in
theorem wd_825 : Cond.selects RX7 yX7_trim yX7_trim ∈ mT := mT_in (lw_in3 (List.mem_of_getElem? (i := 67) rfl)) rfl
set_option maxRecDepth 100000 in
theorem wd_826 : Cond.methodLink RL 111 yX8_trim ∈ mT := mT_in (lw_in5 (List.mem_of_getElem? (i := 31) rfl)) rfl
set_option maxRecDepth 100000 in
theorem wd_827 : Cond.instanceMethod yX8_trim ∈ mT := mT_in (lw_in5 (List.mem_of_getElem? (i := 32) rfl)) rfl
set_option maxRecDepth 100000 in
theorem wd_828 : Cond.code yX8_trim cX8_trim 3 (some .boolean) ∈ mT := mT_in (lw_in5 (List.mem_of_getElem? (i := 34) rfl)) rfl
set_option maxRecDepth 100000 in
theorem wd_829 : Cond.selects RX8 yX8_trim yX8_trim ∈ mT := mT_in (lw_in5 (List.mem_of_getElem? (i := 33) rfl)) rfl
set_option maxRecDepth 100000 in
theorem wd_830 : Cond.methodLink RL 112 yX7_audit ∈ mT := mT_in (lw_in3 (List.mem_of_getElem? (i := 69) rfl)) rfl
set_option maxRecDepth 100000 in
theorem wd_831 : Cond.instanceMethod yX7_audit ∈ mT := mT_in (lw_in3 (List.mem_of_getElem? (i := 70) rfl)) rfl
set_option maxRecDepth 100000 in
theorem wd_832 : Cond.code yX7_audit cX7_audit 2 (some .boolean) ∈ mT := mT_in (lw_in3 (List.mem_of_getElem? (i := 72) rfl)) rfl
set_option maxRecDepth 100000 in
theorem wd_833 : Cond.selects RX7 yX7_audit yX7_audit ∈ mT := mT_in (lw_in3 (List.mem_of_getElem? (i := 71) rfl)) rfl
set_option maxRecDepth 100000 in
theorem wd_834 : Cond.methodLink RL 116 yX8_audit ∈ mT := mT_in (lw_in5 (List.mem_of_getElem? (i := 35) rfl)) rfl
set_option maxRecDepth 100000 in
theorem wd_835 : Cond.instanceMethod yX8_audit ∈ mT := mT_in (lw_in5 (List.mem_of_getElem? (i := 36) rfl)) rfl
set_option maxRecDepth 100000 in
theorem wd_836 : Cond.code yX8_audit cX8_audit 6 (some .boolean) ∈ mT := mT_in (lw_in5 (List.mem_of_getElem? (i := 38) rfl)) rfl
set_option maxRecDepth 100000 in
theorem wd_837 : Cond.selects RX8 yX8_audit yX8_audit ∈ mT := mT_in (lw_in5 (List.mem_of_getElem? (i := 37) rfl)) rfl
set_option maxRecDepth 100000 in
theorem wd_838 : Cond.methodLink RL 117 yX7_hash ∈ mT := mT_in (lw_in3 (List.mem_of_getElem? (i := 90) rfl)) rfl
set_option maxRecDepth 100000 in
theorem wd_839 : Cond.instanceMethod yX7_hash ∈ mT := mT_in (lw_in3 (List.mem_of_getElem? (i := 91) rfl)) rfl
set_option maxRecDepth 100000 in
theorem wd_840 : Cond.code yX7_hash cX7_hash 2 (some .int) ∈ mT := mT_in (lw_in3 (List.mem_of_getElem? (i := 93) rfl)) rfl
set_option maxRecDepth 100000 in
theorem wd_841 : Cond.selects RX7 yX7_hash yX7_hash ∈ mT := mT_in (lw_in3 (List.mem_of_getElem? (i := 92) rfl)) rfl
set_option maxRecDepth 100000 in
theorem wd_842 : Cond.methodLink RL 120 yX8_hash ∈ mT := mT_in (lw_in5 (List.mem_of_getElem? (i := 39) rfl)) rfl
set_option maxRecDepth 100000 in
theorem wd_843 : Cond.instanceMethod yX8_hash ∈ mT := mT_in (lw_in5 (List.mem_of_getElem? (i := 40) rfl)) rfl
set_option maxRecDepth 100000 in
theorem wd_844 : Cond.code yX8_hash cX8_hash 2 (some .int) ∈ mT := mT_in (lw_in5 (List.mem_of_getElem? (i := 42) rfl)) rfl
set_option maxRecDepth 100000 in
theorem wd_845 : Cond.selects RX8 yX8_hash yX8_hash ∈ mT := mT_in (lw_in5 (List.mem_of_getElem? (i := 41) rfl)) rfl
end
section
def cpX4 : Nat → Option mRf := (nd 21 (nd 9 (lf 3 (.inr (.inr (.inr (.inl (4, objectInit, ByteArray.empty, 0, none, 0, 0)))))) (nd 15 (lf 9 (.inr (.inr (.inr (.inl (6, objectInit, ByteArray.empty, 0, none, 0, 0)))))) (lf 15 (.inl (4, 0))))) (nd 31 (nd 25 (lf 21 (.inl (4, 1))) (lf 25 (.inr (.inr (.inr (.inl (5, objectInit, ByteArray.empty, 0, none, 0, 0))))))) (nd 35 (lf 31 (.inr (.inr (.inr (.inl (0, yX4_addPart, cX4_addPart, 4, none, 3, 4)))))) (lf 35 (.inr (.inr (.inr (.inl (0, yX4_at, cX4_at, 2, (some .int), 1, 4)))))))))
abbrev miX4 (ini : Bool) (ret : Option FieldType) : mI := ((RX4, 4), cpX4, ini, ret)
theorem cqX4_3 (ini : Bool) (ret : Option FieldType) : (∀ w ∈ rW (miX4 ini ret) 3 (.inr (.inr (.inr (.inl (4, objectInit, ByteArray.empty, 0, none, 0, 0))))), w ∈ mT) ∧ rB (miX4 ini ret) 3 (.inr (.inr (.inr (.inl (4, objectInit, ByteArray.empty, 0, none, 0, 0))))) = true := ⟨(List.forall_mem_cons.mpr ⟨wd_0, (List.forall_mem_cons.mpr ⟨wd_1, (List.forall_mem_cons.mpr ⟨wd_2, (fun _ h => absurd h List.not_mem_nil)⟩)⟩)⟩), (show rB (miX4 false none) 3 (.inr (.inr (.inr (.inl (4, objectInit, ByteArray.empty, 0, none, 0, 0))))) = true by decide +kernel)⟩
theorem cqX4_9 (ini : Bool) (ret : Option FieldType) : (∀ w ∈ rW (miX4 ini ret) 9 (.inr (.inr (.inr (.inl (6, objectInit, ByteArray.empty, 0, none, 0, 0))))), w ∈ mT) ∧ rB (miX4 ini ret) 9 (.inr (.inr (.inr (.inl (6, objectInit, ByteArray.empty, 0, none, 0, 0))))) = true := ⟨(List.forall_mem_cons.mpr ⟨wd_3, (List.forall_mem_cons.mpr ⟨wd_4, (List.forall_mem_cons.mpr ⟨wd_5, (List.forall_mem_cons.mpr ⟨wd_6, (fun _ h => absurd h List.not_mem_nil)⟩)⟩)⟩)⟩), (show rB (miX4 false none) 9 (.inr (.inr (.inr (.inl (6, objectInit, ByteArray.empty, 0, none, 0, 0))))) = true by decide +kernel)⟩
theorem cqX4_15 (ini : Bool) (ret : Option FieldType) : (∀ w ∈ rW (miX4 ini ret) 15 (.inl (4, 0)), w ∈ mT) ∧ rB (miX4 ini ret) 15 (.inl (4, 0)) = true := ⟨(List.forall_mem_cons.mpr ⟨wd_7, (fun _ h => absurd h List.not_mem_nil)⟩), (show rB (miX4 false none) 15 (.inl (4, 0)) = true by decide +kernel)⟩
theorem cqX4_21 (ini : Bool) (ret : Option FieldType) : (∀ w ∈ rW (miX4 ini ret) 21 (.inl (4, 1)), w ∈ mT) ∧ rB (miX4 ini ret) 21 (.inl (4, 1)) = true := ⟨(List.forall_mem_cons.mpr ⟨wd_8, (fun _ h => absurd h List.not_mem_nil)⟩), (show rB (miX4 false none) 21 (.inl (4, 1)) = true by decide +kernel)⟩
theorem cqX4_25 (ini : Bool) (ret : Option FieldType) : (∀ w ∈ rW (miX4 ini ret) 25 (.inr (.inr (.inr (.inl (5, objectInit, ByteArray.empty, 0, none, 0, 0))))), w ∈ mT) ∧ rB (miX4 ini ret) 25 (.inr (.inr (.inr (.inl (5, objectInit, ByteArray.empty, 0, none, 0, 0))))) = true := ⟨(List.forall_mem_cons.mpr ⟨wd_9, (List.forall_mem_cons.mpr ⟨wd_10, (List.forall_mem_cons.mpr ⟨wd_11, (List.forall_mem_cons.mpr ⟨wd_12, (fun _ h => absurd h List.not_mem_nil)⟩)⟩)⟩)⟩), (show rB (miX4 false none) 25 (.inr (.inr (.inr (.inl (5, objectInit, ByteArray.empty, 0, none, 0, 0))))) = true by decide +kernel)⟩
theorem cqX4_31 (ini : Bool) (ret : Option FieldType) : (∀ w ∈ rW (miX4 ini ret) 31 (.inr (.inr (.inr (.inl (0, yX4_addPart, cX4_addPart, 4, none, 3, 4))))), w ∈ mT) ∧ rB (miX4 ini ret) 31 (.inr (.inr (.inr (.inl (0, yX4_addPart, cX4_addPart, 4, none, 3, 4))))) = true := ⟨(List.forall_mem_cons.mpr ⟨wd_13, (List.forall_mem_cons.mpr ⟨wd_14, (List.forall_mem_cons.mpr ⟨wd_17, (List.forall_mem_cons.mpr ⟨wd_15, (List.forall_mem_cons.mpr ⟨wd_16, (fun _ h => absurd h List.not_mem_nil)⟩)⟩)⟩)⟩)⟩), (show rB (miX4 false none) 31 (.inr (.inr (.inr (.inl (0, yX4_addPart, cX4_addPart, 4, none, 3, 4))))) = true by decide +kernel)⟩
theorem cqX4_35 (ini : Bool) (ret : Option FieldType) : (∀ w ∈ rW (miX4 ini ret) 35 (.inr (.inr (.inr (.inl (0, yX4_at, cX4_at, 2, (some .int), 1, 4))))), w ∈ mT) ∧ rB (miX4 ini ret) 35 (.inr (.inr (.inr (.inl (0, yX4_at, cX4_at, 2, (some .int), 1, 4))))) = true := ⟨(List.forall_mem_cons.mpr ⟨wd_18, (List.forall_mem_cons.mpr ⟨wd_19, (List.forall_mem_cons.mpr ⟨wd_21, (List.forall_mem_cons.mpr ⟨wd_15, (List.forall_mem_cons.mpr ⟨wd_20, (fun _ h => absurd h List.not_mem_nil)⟩)⟩)⟩)⟩)⟩), (show rB (miX4 false none) 35 (.inr (.inr (.inr (.inl (0, yX4_at, cX4_at, 2, (some .int), 1, 4))))) = true by decide +kernel)⟩
theorem ckX4 (ini : Bool) (ret : Option FieldType) : cpOK (miX4 ini ret) := (show tAll (fun i r => (∀ w ∈ rW (miX4 ini ret) i r, w ∈ mT) ∧ rB (miX4 ini ret) i r = true) cpX4 from (nd_all (nd_all (lf_all (cqX4_3 ini ret)) (nd_all (lf_all (cqX4_9 ini ret)) (lf_all (cqX4_15 ini ret)))) (nd_all (nd_all (lf_all (cqX4_21 ini ret)) (lf_all (cqX4_25 ini ret))) (nd_all (lf_all (cqX4_31 ini ret)) (lf_all (cqX4_35 ini ret))))))
def cpX5 : Nat → Option mRf := (nd 37 (nd 20 (nd 13 (nd 9 (lf 3 (.inr (.inr (.inr (.inl (4, objectInit, ByteArray.empty, 0, none, 0, 0)))))) (lf 9 (.inr (.inr (.inr (.inr 4)))))) (nd 16 (lf 13 (.inr (.inr (.inr (.inl (2, yX4_init, cX4_init, 2, none, 1, 4)))))) (lf 16 (.inl (5, 0))))) (nd 27 (nd 23 (lf 20 (.inl (5, 1))) (lf 23 (.inl (5, 2)))) (nd 30 (lf 27 (.inl (5, 3))) (nd 34 (lf 30 (.inl (4, 1))) (lf 34 (.inr (.inr (.inr (.inl (0, yX4_add, cX4_add, 2, none, 1, 4)))))))))) (nd 56 (nd 43 (nd 40 (lf 37 (.inr (.inr (.inr (.inl (0, yX4_addNumber, cX4_addNumber, 2, none, 1, 4)))))) (lf 40 (.inr (.inr (.inr (.inr 100)))))) (nd 49 (lf 43 (.inr (.inr (.inr (.inl (5, objectInit, ByteArray.empty, 0, none, 0, 0)))))) (nd 53 (lf 49 (.inr (.inr (.inr (.inl (0, yX4_number, cX4_number, 2, (some .int), 1, 4)))))) (lf 53 (.inr (.inr (.inr (.inl (0, yX5_stretch, cX5_stretch, 6, none, 0, 5))))))))) (nd 62 (nd 59 (lf 56 (.inr (.inr (.inr (.inl (0, yX5_mix, cX5_mix, 14, none, 0, 5)))))) (lf 59 (.inr (.inr (.inr (.inl (0, yX4_empty, cX4_empty, 1, none, 0, 4))))))) (nd 66 (lf 62 (.inr (.inr (.inr (.inl (0, yX4_addPart, cX4_addPart, 4, none, 3, 4)))))) (nd 70 (lf 66 (.inr (.inr (.inr (.inl (0, yX5_finish, cX5_finish, 4, (some (.object "GossipWatch$Row")), 0, 5)))))) (lf 70 (.inr (.inr (.inr (.inr 101))))))))))
abbrev miX5 (ini : Bool) (ret : Option FieldType) : mI := ((RX5, 5), cpX5, ini, ret)
theorem cqX5_3 (ini : Bool) (ret : Option FieldType) : (∀ w ∈ rW (miX5 ini ret) 3 (.inr (.inr (.inr (.inl (4, objectInit, ByteArray.empty, 0, none, 0, 0))))), w ∈ mT) ∧ rB (miX5 ini ret) 3 (.inr (.inr (.inr (.inl (4, objectInit, ByteArray.empty, 0, none, 0, 0))))) = true := ⟨(List.forall_mem_cons.mpr ⟨wd_22, (List.forall_mem_cons.mpr ⟨wd_1, (List.forall_mem_cons.mpr ⟨wd_2, (fun _ h => absurd h List.not_mem_nil)⟩)⟩)⟩), (show rB (miX5 false none) 3 (.inr (.inr (.inr (.inl (4, objectInit, ByteArray.empty, 0, none, 0, 0))))) = true by decide +kernel)⟩
theorem cqX5_9 (ini : Bool) (ret : Option FieldType) : (∀ w ∈ rW (miX5 ini ret) 9 (.inr (.inr (.inr (.inr 4)))), w ∈ mT) ∧ rB (miX5 ini ret) 9 (.inr (.inr (.inr (.inr 4)))) = true := ⟨(List.forall_mem_cons.mpr ⟨wd_23, (List.forall_mem_cons.mpr ⟨wd_24, (List.forall_mem_cons.mpr ⟨wd_15, (fun _ h => absurd h List.not_mem_nil)⟩)⟩)⟩), (show rB (miX5 false none) 9 (.inr (.inr (.inr (.inr 4)))) = true by decide +kernel)⟩
theorem cqX5_13 (ini : Bool) (ret : Option FieldType) : (∀ w ∈ rW (miX5 ini ret) 13 (.inr (.inr (.inr (.inl (2, yX4_init, cX4_init, 2, none, 1, 4))))), w ∈ mT) ∧ rB (miX5 ini ret) 13 (.inr (.inr (.inr (.inl (2, yX4_init, cX4_init, 2, none, 1, 4))))) = true := ⟨(List.forall_mem_cons.mpr ⟨wd_25, (List.forall_mem_cons.mpr ⟨wd_26, (List.forall_mem_cons.mpr ⟨wd_15, (List.forall_mem_cons.mpr ⟨wd_27, (fun _ h => absurd h List.not_mem_nil)⟩)⟩)⟩)⟩), (show rB (miX5 false none) 13 (.inr (.inr (.inr (.inl (2, yX4_init, cX4_init, 2, none, 1, 4))))) = true by decide +kernel)⟩
theorem cqX5_16 (ini : Bool) (ret : Option FieldType) : (∀ w ∈ rW (miX5 ini ret) 16 (.inl (5, 0)), w ∈ mT) ∧ rB (miX5 ini ret) 16 (.inl (5, 0)) = true := ⟨(List.forall_mem_cons.mpr ⟨wd_28, (fun _ h => absurd h List.not_mem_nil)⟩), (show rB (miX5 false none) 16 (.inl (5, 0)) = true by decide +kernel)⟩
theorem cqX5_20 (ini : Bool) (ret : Option FieldType) : (∀ w ∈ rW (miX5 ini ret) 20 (.inl (5, 1)), w ∈ mT) ∧ rB (miX5 ini ret) 20 (.inl (5, 1)) = true := ⟨(List.forall_mem_cons.mpr ⟨wd_29, (fun _ h => absurd h List.not_mem_nil)⟩), (show rB (miX5 false none) 20 (.inl (5, 1)) = true by decide +kernel)⟩
theorem cqX5_23 (ini : Bool) (ret : Option FieldType) : (∀ w ∈ rW (miX5 ini ret) 23 (.inl (5, 2)), w ∈ mT) ∧ rB (miX5 ini ret) 23 (.inl (5, 2)) = true := ⟨(List.forall_mem_cons.mpr ⟨wd_30, (fun _ h => absurd h List.not_mem_nil)⟩), (show rB (miX5 false none) 23 (.inl (5, 2)) = true by decide +kernel)⟩
theorem cqX5_27 (ini : Bool) (ret : Option FieldType) : (∀ w ∈ rW (miX5 ini ret) 27 (.inl (5, 3)), w ∈ mT) ∧ rB (miX5 ini ret) 27 (.inl (5, 3)) = true := ⟨(List.forall_mem_cons.mpr ⟨wd_31, (fun _ h => absurd h List.not_mem_nil)⟩), (show rB (miX5 false none) 27 (.inl (5, 3)) = true by decide +kernel)⟩
theorem cqX5_30 (ini : Bool) (ret : Option FieldType) : (∀ w ∈ rW (miX5 ini ret) 30 (.inl (4, 1)), w ∈ mT) ∧ rB (miX5 ini ret) 30 (.inl (4, 1)) = true := ⟨(List.forall_mem_cons.mpr ⟨wd_32, (fun _ h => absurd h List.not_mem_nil)⟩), (show rB (miX5 false none) 30 (.inl (4, 1)) = true by decide +kernel)⟩
theorem cqX5_34 (ini : Bool) (ret : Option FieldType) : (∀ w ∈ rW (miX5 ini ret) 34 (.inr (.inr (.inr (.inl (0, yX4_add, cX4_add, 2, none, 1, 4))))), w ∈ mT) ∧ rB (miX5 ini ret) 34 (.inr (.inr (.inr (.inl (0, yX4_add, cX4_add, 2, none, 1, 4))))) = true := ⟨(List.forall_mem_cons.mpr ⟨wd_33, (List.forall_mem_cons.mpr ⟨wd_34, (List.forall_mem_cons.mpr ⟨wd_36, (List.forall_mem_cons.mpr ⟨wd_15, (List.forall_mem_cons.mpr ⟨wd_35, (fun _ h => absurd h List.not_mem_nil)⟩)⟩)⟩)⟩)⟩), (show rB (miX5 false none) 34 (.inr (.inr (.inr (.inl (0, yX4_add, cX4_add, 2, none, 1, 4))))) = true by decide +kernel)⟩
theorem cqX5_37 (ini : Bool) (ret : Option FieldType) : (∀ w ∈ rW (miX5 ini ret) 37 (.inr (.inr (.inr (.inl (0, yX4_addNumber, cX4_addNumber, 2, none, 1, 4))))), w ∈ mT) ∧ rB (miX5 ini ret) 37 (.inr (.inr (.inr (.inl (0, yX4_addNumber, cX4_addNumber, 2, none, 1, 4))))) = true := ⟨(List.forall_mem_cons.mpr ⟨wd_37, (List.forall_mem_cons.mpr ⟨wd_38, (List.forall_mem_cons.mpr ⟨wd_40, (List.forall_mem_cons.mpr ⟨wd_15, (List.forall_mem_cons.mpr ⟨wd_39, (fun _ h => absurd h List.not_mem_nil)⟩)⟩)⟩)⟩)⟩), (show rB (miX5 false none) 37 (.inr (.inr (.inr (.inl (0, yX4_addNumber, cX4_addNumber, 2, none, 1, 4))))) = true by decide +kernel)⟩
theorem cqX5_40 (ini : Bool) (ret : Option FieldType) : (∀ w ∈ rW (miX5 ini ret) 40 (.inr (.inr (.inr (.inr 100)))), w ∈ mT) ∧ rB (miX5 ini ret) 40 (.inr (.inr (.inr (.inr 100)))) = true := ⟨(List.forall_mem_cons.mpr ⟨wd_41, (fun _ h => absurd h List.not_mem_nil)⟩), (show rB (miX5 false none) 40 (.inr (.inr (.inr (.inr 100)))) = true by decide +kernel)⟩
theorem cqX5_43 (ini : Bool) (ret : Option FieldType) : (∀ w ∈ rW (miX5 ini ret) 43 (.inr (.inr (.inr (.inl (5, objectInit, ByteArray.empty, 0, none, 0, 0))))), w ∈ mT) ∧ rB (miX5 ini ret) 43 (.inr (.inr (.inr (.inl (5, objectInit, ByteArray.empty, 0, none, 0, 0))))) = true := ⟨(List.forall_mem_cons.mpr ⟨wd_42, (List.forall_mem_cons.mpr ⟨wd_10, (List.forall_mem_cons.mpr ⟨wd_11, (List.forall_mem_cons.mpr ⟨wd_12, (fun _ h => absurd h List.not_mem_nil)⟩)⟩)⟩)⟩), (show rB (miX5 false none) 43 (.inr (.inr (.inr (.inl (5, objectInit, ByteArray.empty, 0, none, 0, 0))))) = true by decide +kernel)⟩
theorem cqX5_49 (ini : Bool) (ret : Option FieldType) : (∀ w ∈ rW (miX5 ini ret) 49 (.inr (.inr (.inr (.inl (0, yX4_number, cX4_number, 2, (some .int), 1, 4))))), w ∈ mT) ∧ rB (miX5 ini ret) 49 (.inr (.inr (.inr (.inl (0, yX4_number, cX4_number, 2, (some .int), 1, 4))))) = true := ⟨(List.forall_mem_cons.mpr ⟨wd_43, (List.forall_mem_cons.mpr ⟨wd_44, (List.forall_mem_cons.mpr ⟨wd_46, (List.forall_mem_cons.mpr ⟨wd_15, (List.forall_mem_cons.mpr ⟨wd_45, (fun _ h => absurd h List.not_mem_nil)⟩)⟩)⟩)⟩)⟩), (show rB (miX5 false none) 49 (.inr (.inr (.inr (.inl (0, yX4_number, cX4_number, 2, (some .int), 1, 4))))) = true by decide +kernel)⟩
theorem cqX5_53 (ini : Bool) (ret : Option FieldType) : (∀ w ∈ rW (miX5 ini ret) 53 (.inr (.inr (.inr (.inl (0, yX5_stretch, cX5_stretch, 6, none, 0, 5))))), w ∈ mT) ∧ rB (miX5 ini ret) 53 (.inr (.inr (.inr (.inl (0, yX5_stretch, cX5_stretch, 6, none, 0, 5))))) = true := ⟨(List.forall_mem_cons.mpr ⟨wd_47, (List.forall_mem_cons.mpr ⟨wd_48, (List.forall_mem_cons.mpr ⟨wd_51, (List.forall_mem_cons.mpr ⟨wd_49, (List.forall_mem_cons.mpr ⟨wd_50, (fun _ h => absurd h List.not_mem_nil)⟩)⟩)⟩)⟩)⟩), (show rB (miX5 false none) 53 (.inr (.inr (.inr (.inl (0, yX5_stretch, cX5_stretch, 6, none, 0, 5))))) = true by decide +kernel)⟩
theorem cqX5_56 (ini : Bool) (ret : Option FieldType) : (∀ w ∈ rW (miX5 ini ret) 56 (.inr (.inr (.inr (.inl (0, yX5_mix, cX5_mix, 14, none, 0, 5))))), w ∈ mT) ∧ rB (miX5 ini ret) 56 (.inr (.inr (.inr (.inl (0, yX5_mix, cX5_mix, 14, none, 0, 5))))) = true := ⟨(List.forall_mem_cons.mpr ⟨wd_52, (List.forall_mem_cons.mpr ⟨wd_53, (List.forall_mem_cons.mpr ⟨wd_55, (List.forall_mem_cons.mpr ⟨wd_49, (List.forall_mem_cons.mpr ⟨wd_54, (fun _ h => absurd h List.not_mem_nil)⟩)⟩)⟩)⟩)⟩), (show rB (miX5 false none) 56 (.inr (.inr (.inr (.inl (0, yX5_mix, cX5_mix, 14, none, 0, 5))))) = true by decide +kernel)⟩
theorem cqX5_59 (ini : Bool) (ret : Option FieldType) : (∀ w ∈ rW (miX5 ini ret) 59 (.inr (.inr (.inr (.inl (0, yX4_empty, cX4_empty, 1, none, 0, 4))))), w ∈ mT) ∧ rB (miX5 ini ret) 59 (.inr (.inr (.inr (.inl (0, yX4_empty, cX4_empty, 1, none, 0, 4))))) = true := ⟨(List.forall_mem_cons.mpr ⟨wd_56, (List.forall_mem_cons.mpr ⟨wd_57, (List.forall_mem_cons.mpr ⟨wd_59, (List.forall_mem_cons.mpr ⟨wd_15, (List.forall_mem_cons.mpr ⟨wd_58, (fun _ h => absurd h List.not_mem_nil)⟩)⟩)⟩)⟩)⟩), (show rB (miX5 false none) 59 (.inr (.inr (.inr (.inl (0, yX4_empty, cX4_empty, 1, none, 0, 4))))) = true by decide +kernel)⟩
theorem cqX5_62 (ini : Bool) (ret : Option FieldType) : (∀ w ∈ rW (miX5 ini ret) 62 (.inr (.inr (.inr (.inl (0, yX4_addPart, cX4_addPart, 4, none, 3, 4))))), w ∈ mT) ∧ rB (miX5 ini ret) 62 (.inr (.inr (.inr (.inl (0, yX4_addPart, cX4_addPart, 4, none, 3, 4))))) = true := ⟨(List.forall_mem_cons.mpr ⟨wd_60, (List.forall_mem_cons.mpr ⟨wd_14, (List.forall_mem_cons.mpr ⟨wd_17, (List.forall_mem_cons.mpr ⟨wd_15, (List.forall_mem_cons.mpr ⟨wd_16, (fun _ h => absurd h List.not_mem_nil)⟩)⟩)⟩)⟩)⟩), (show rB (miX5 false none) 62 (.inr (.inr (.inr (.inl (0, yX4_addPart, cX4_addPart, 4, none, 3, 4))))) = true by decide +kernel)⟩
theorem cqX5_66 (ini : Bool) (ret : Option FieldType) : (∀ w ∈ rW (miX5 ini ret) 66 (.inr (.inr (.inr (.inl (0, yX5_finish, cX5_finish, 4, (some (.object "GossipWatch$Row")), 0, 5))))), w ∈ mT) ∧ rB (miX5 ini ret) 66 (.inr (.inr (.inr (.inl (0, yX5_finish, cX5_finish, 4, (some (.object "GossipWatch$Row")), 0, 5))))) = true := ⟨(List.forall_mem_cons.mpr ⟨wd_61, (List.forall_mem_cons.mpr ⟨wd_62, (List.forall_mem_cons.mpr ⟨wd_64, (List.forall_mem_cons.mpr ⟨wd_49, (List.forall_mem_cons.mpr ⟨wd_63, (fun _ h => absurd h List.not_mem_nil)⟩)⟩)⟩)⟩)⟩), (show rB (miX5 false none) 66 (.inr (.inr (.inr (.inl (0, yX5_finish, cX5_finish, 4, (some (.object "GossipWatch$Row")), 0, 5))))) = true by decide +kernel)⟩
theorem cqX5_70 (ini : Bool) (ret : Option FieldType) : (∀ w ∈ rW (miX5 ini ret) 70 (.inr (.inr (.inr (.inr 101)))), w ∈ mT) ∧ rB (miX5 ini ret) 70 (.inr (.inr (.inr (.inr 101)))) = true := ⟨(List.forall_mem_cons.mpr ⟨wd_65, (fun _ h => absurd h List.not_mem_nil)⟩), (show rB (miX5 false none) 70 (.inr (.inr (.inr (.inr 101)))) = true by decide +kernel)⟩
theorem ckX5 (ini : Bool) (ret : Option FieldType) : cpOK (miX5 ini ret) := (show tAll (fun i r => (∀ w ∈ rW (miX5 ini ret) i r, w ∈ mT) ∧ rB (miX5 ini ret) i r = true) cpX5 from (nd_all (nd_all (nd_all (nd_all (lf_all (cqX5_3 ini ret)) (lf_all (cqX5_9 ini ret))) (nd_all (lf_all (cqX5_13 ini ret)) (lf_all (cqX5_16 ini ret)))) (nd_all (nd_all (lf_all (cqX5_20 ini ret)) (lf_all (cqX5_23 ini ret))) (nd_all (lf_all (cqX5_27 ini ret)) (nd_all (lf_all (cqX5_30 ini ret)) (lf_all (cqX5_34 ini ret)))))) (nd_all (nd_all (nd_all (lf_all (cqX5_37 ini ret)) (lf_all (cqX5_40 ini ret))) (nd_all (lf_all (cqX5_43 ini ret)) (nd_all (lf_all (cqX5_49 ini ret)) (lf_all (cqX5_53 ini ret))))) (nd_all (nd_all (lf_all (cqX5_56 ini ret)) (lf_all (cqX5_59 ini ret))) (nd_all (lf_all (cqX5_62 ini ret)) (nd_all (lf_all (cqX5_66 ini ret)) (lf_all (cqX5_70 ini ret))))))))
def cpX2 : Nat → Option mRf := (nd 14 (nd 9 (lf 3 (.inr (.inr (.inr (.inl (4, objectInit, ByteArray.empty, 0, none, 0, 0)))))) (nd 11 (lf 9 (.inr (.inr (.inr (.inr 4))))) (lf 11 (.inr (.inr (.inr (.inl (2, yX4_init, cX4_init, 2, none, 1, 4)))))))) (nd 20 (lf 14 (.inl (2, 0))) (nd 24 (lf 20 (.inl (2, 1))) (lf 24 (.inl (4, 1))))))
abbrev miX2 (ini : Bool) (ret : Option FieldType) : mI := ((RX2, 2), cpX2, ini, ret)
theorem cqX2_3 (ini : Bool) (ret : Option FieldType) : (∀ w ∈ rW (miX2 ini ret) 3 (.inr (.inr (.inr (.inl (4, objectInit, ByteArray.empty, 0, none, 0, 0))))), w ∈ mT) ∧ rB (miX2 ini ret) 3 (.inr (.inr (.inr (.inl (4, objectInit, ByteArray.empty, 0, none, 0, 0))))) = true := ⟨(List.forall_mem_cons.mpr ⟨wd_66, (List.forall_mem_cons.mpr ⟨wd_1, (List.forall_mem_cons.mpr ⟨wd_2, (fun _ h => absurd h List.not_mem_nil)⟩)⟩)⟩), (show rB (miX2 false none) 3 (.inr (.inr (.inr (.inl (4, objectInit, ByteArray.empty, 0, none, 0, 0))))) = true by decide +kernel)⟩
theorem cqX2_9 (ini : Bool) (ret : Option FieldType) : (∀ w ∈ rW (miX2 ini ret) 9 (.inr (.inr (.inr (.inr 4)))), w ∈ mT) ∧ rB (miX2 ini ret) 9 (.inr (.inr (.inr (.inr 4)))) = true := ⟨(List.forall_mem_cons.mpr ⟨wd_67, (List.forall_mem_cons.mpr ⟨wd_24, (List.forall_mem_cons.mpr ⟨wd_15, (fun _ h => absurd h List.not_mem_nil)⟩)⟩)⟩), (show rB (miX2 false none) 9 (.inr (.inr (.inr (.inr 4)))) = true by decide +kernel)⟩
theorem cqX2_11 (ini : Bool) (ret : Option FieldType) : (∀ w ∈ rW (miX2 ini ret) 11 (.inr (.inr (.inr (.inl (2, yX4_init, cX4_init, 2, none, 1, 4))))), w ∈ mT) ∧ rB (miX2 ini ret) 11 (.inr (.inr (.inr (.inl (2, yX4_init, cX4_init, 2, none, 1, 4))))) = true := ⟨(List.forall_mem_cons.mpr ⟨wd_68, (List.forall_mem_cons.mpr ⟨wd_26, (List.forall_mem_cons.mpr ⟨wd_15, (List.forall_mem_cons.mpr ⟨wd_27, (fun _ h => absurd h List.not_mem_nil)⟩)⟩)⟩)⟩), (show rB (miX2 false none) 11 (.inr (.inr (.inr (.inl (2, yX4_init, cX4_init, 2, none, 1, 4))))) = true by decide +kernel)⟩
theorem cqX2_14 (ini : Bool) (ret : Option FieldType) : (∀ w ∈ rW (miX2 ini ret) 14 (.inl (2, 0)), w ∈ mT) ∧ rB (miX2 ini ret) 14 (.inl (2, 0)) = true := ⟨(List.forall_mem_cons.mpr ⟨wd_69, (fun _ h => absurd h List.not_mem_nil)⟩), (show rB (miX2 false none) 14 (.inl (2, 0)) = true by decide +kernel)⟩
theorem cqX2_20 (ini : Bool) (ret : Option FieldType) : (∀ w ∈ rW (miX2 ini ret) 20 (.inl (2, 1)), w ∈ mT) ∧ rB (miX2 ini ret) 20 (.inl (2, 1)) = true := ⟨(List.forall_mem_cons.mpr ⟨wd_70, (fun _ h => absurd h List.not_mem_nil)⟩), (show rB (miX2 false none) 20 (.inl (2, 1)) = true by decide +kernel)⟩
theorem cqX2_24 (ini : Bool) (ret : Option FieldType) : (∀ w ∈ rW (miX2 ini ret) 24 (.inl (4, 1)), w ∈ mT) ∧ rB (miX2 ini ret) 24 (.inl (4, 1)) = true := ⟨(List.forall_mem_cons.mpr ⟨wd_71, (fun _ h => absurd h List.not_mem_nil)⟩), (show rB (miX2 false none) 24 (.inl (4, 1)) = true by decide +kernel)⟩
theorem ckX2 (ini : Bool) (ret : Option FieldType) : cpOK (miX2 ini ret) := (show tAll (fun i r => (∀ w ∈ rW (miX2 ini ret) i r, w ∈ mT) ∧ rB (miX2 ini ret) i r = true) cpX2 from (nd_all (nd_all (lf_all (cqX2_3 ini ret)) (nd_all (lf_all (cqX2_9 ini ret)) (lf_all (cqX2_11 ini ret)))) (nd_all (lf_all (cqX2_14 ini ret)) (nd_all (lf_all (cqX2_20 ini ret)) (lf_all (cqX2_24 ini ret))))))
def cpX0 : Nat → Option mRf := (nd 35 (nd 20 (nd 11 (nd 9 (lf 3 (.inr (.inr (.inr (.inl (4, objectInit, ByteArray.empty, 0, none, 0, 0)))))) (lf 9 (.inr (.inr (.inr (.inr 4)))))) (nd 14 (lf 11 (.inr (.inr (.inr (.inl (2, yX4_init, cX4_init, 2, none, 1, 4)))))) (lf 14 (.inl (0, 0))))) (nd 27 (nd 23 (lf 20 (.inl (0, 1))) (lf 23 (.inl (4, 1)))) (nd 31 (lf 27 (.inr (.inr (.inr (.inl (0, yX4_becomePart, cX4_becomePart, 4, none, 3, 4)))))) (lf 31 (.inr (.inr (.inr (.inl (0, yX0_rises, cX0_rises, 10, (some .boolean), 5, 0))))))))) (nd 51 (nd 43 (nd 39 (lf 35 (.inr (.inr (.inr (.inl (0, yX4_sameAs, cX4_sameAs, 6, (some .boolean), 4, 4)))))) (lf 39 (.inr (.inr (.inr (.inl (0, yX4_number, cX4_number, 2, (some .int), 1, 4))))))) (nd 48 (lf 43 (.inl (5, 0))) (lf 48 (.inr (.inr (.inr (.inl (0, yX4_empty, cX4_empty, 1, none, 0, 4)))))))) (nd 57 (nd 54 (lf 51 (.inr (.inr (.inr (.inl (0, yX4_add, cX4_add, 2, none, 1, 4)))))) (lf 54 (.inr (.inr (.inr (.inl (0, yX4_addPart, cX4_addPart, 4, none, 3, 4))))))) (nd 61 (lf 57 (.inr (.inr (.inr (.inl (0, yX5_finish, cX5_finish, 4, (some (.object "GossipWatch$Row")), 0, 5)))))) (nd 65 (lf 61 (.inr (.inr (.inr (.inl (0, yX4_become, cX4_become, 2, none, 1, 4)))))) (lf 65 (.inr (.inr (.inr (.inl (0, yX5_join, cX5_join, 5, (some (.object "GossipWatch$Row")), 4, 5)))))))))))
abbrev miX0 (ini : Bool) (ret : Option FieldType) : mI := ((RX0, 0), cpX0, ini, ret)
theorem cqX0_3 (ini : Bool) (ret : Option FieldType) : (∀ w ∈ rW (miX0 ini ret) 3 (.inr (.inr (.inr (.inl (4, objectInit, ByteArray.empty, 0, none, 0, 0))))), w ∈ mT) ∧ rB (miX0 ini ret) 3 (.inr (.inr (.inr (.inl (4, objectInit, ByteArray.empty, 0, none, 0, 0))))) = true := ⟨(List.forall_mem_cons.mpr ⟨wd_72, (List.forall_mem_cons.mpr ⟨wd_1, (List.forall_mem_cons.mpr ⟨wd_2, (fun _ h => absurd h List.not_mem_nil)⟩)⟩)⟩), (show rB (miX0 false none) 3 (.inr (.inr (.inr (.inl (4, objectInit, ByteArray.empty, 0, none, 0, 0))))) = true by decide +kernel)⟩
theorem cqX0_9 (ini : Bool) (ret : Option FieldType) : (∀ w ∈ rW (miX0 ini ret) 9 (.inr (.inr (.inr (.inr 4)))), w ∈ mT) ∧ rB (miX0 ini ret) 9 (.inr (.inr (.inr (.inr 4)))) = true := ⟨(List.forall_mem_cons.mpr ⟨wd_73, (List.forall_mem_cons.mpr ⟨wd_24, (List.forall_mem_cons.mpr ⟨wd_15, (fun _ h => absurd h List.not_mem_nil)⟩)⟩)⟩), (show rB (miX0 false none) 9 (.inr (.inr (.inr (.inr 4)))) = true by decide +kernel)⟩
theorem cqX0_11 (ini : Bool) (ret : Option FieldType) : (∀ w ∈ rW (miX0 ini ret) 11 (.inr (.inr (.inr (.inl (2, yX4_init, cX4_init, 2, none, 1, 4))))), w ∈ mT) ∧ rB (miX0 ini ret) 11 (.inr (.inr (.inr (.inl (2, yX4_init, cX4_init, 2, none, 1, 4))))) = true := ⟨(List.forall_mem_cons.mpr ⟨wd_74, (List.forall_mem_cons.mpr ⟨wd_26, (List.forall_mem_cons.mpr ⟨wd_15, (List.forall_mem_cons.mpr ⟨wd_27, (fun _ h => absurd h List.not_mem_nil)⟩)⟩)⟩)⟩), (show rB (miX0 false none) 11 (.inr (.inr (.inr (.inl (2, yX4_init, cX4_init, 2, none, 1, 4))))) = true by decide +kernel)⟩
theorem cqX0_14 (ini : Bool) (ret : Option FieldType) : (∀ w ∈ rW (miX0 ini ret) 14 (.inl (0, 0)), w ∈ mT) ∧ rB (miX0 ini ret) 14 (.inl (0, 0)) = true := ⟨(List.forall_mem_cons.mpr ⟨wd_75, (fun _ h => absurd h List.not_mem_nil)⟩), (show rB (miX0 false none) 14 (.inl (0, 0)) = true by decide +kernel)⟩
theorem cqX0_20 (ini : Bool) (ret : Option FieldType) : (∀ w ∈ rW (miX0 ini ret) 20 (.inl (0, 1)), w ∈ mT) ∧ rB (miX0 ini ret) 20 (.inl (0, 1)) = true := ⟨(List.forall_mem_cons.mpr ⟨wd_76, (fun _ h => absurd h List.not_mem_nil)⟩), (show rB (miX0 false none) 20 (.inl (0, 1)) = true by decide +kernel)⟩
theorem cqX0_23 (ini : Bool) (ret : Option FieldType) : (∀ w ∈ rW (miX0 ini ret) 23 (.inl (4, 1)), w ∈ mT) ∧ rB (miX0 ini ret) 23 (.inl (4, 1)) = true := ⟨(List.forall_mem_cons.mpr ⟨wd_77, (fun _ h => absurd h List.not_mem_nil)⟩), (show rB (miX0 false none) 23 (.inl (4, 1)) = true by decide +kernel)⟩
theorem cqX0_27 (ini : Bool) (ret : Option FieldType) : (∀ w ∈ rW (miX0 ini ret) 27 (.inr (.inr (.inr (.inl (0, yX4_becomePart, cX4_becomePart, 4, none, 3, 4))))), w ∈ mT) ∧ rB (miX0 ini ret) 27 (.inr (.inr (.inr (.inl (0, yX4_becomePart, cX4_becomePart, 4, none, 3, 4))))) = true := ⟨(List.forall_mem_cons.mpr ⟨wd_78, (List.forall_mem_cons.mpr ⟨wd_79, (List.forall_mem_cons.mpr ⟨wd_81, (List.forall_mem_cons.mpr ⟨wd_15, (List.forall_mem_cons.mpr ⟨wd_80, (fun _ h => absurd h List.not_mem_nil)⟩)⟩)⟩)⟩)⟩), (show rB (miX0 false none) 27 (.inr (.inr (.inr (.inl (0, yX4_becomePart, cX4_becomePart, 4, none, 3, 4))))) = true by decide +kernel)⟩
theorem cqX0_31 (ini : Bool) (ret : Option FieldType) : (∀ w ∈ rW (miX0 ini ret) 31 (.inr (.inr (.inr (.inl (0, yX0_rises, cX0_rises, 10, (some .boolean), 5, 0))))), w ∈ mT) ∧ rB (miX0 ini ret) 31 (.inr (.inr (.inr (.inl (0, yX0_rises, cX0_rises, 10, (some .boolean), 5, 0))))) = true := ⟨(List.forall_mem_cons.mpr ⟨wd_82, (List.forall_mem_cons.mpr ⟨wd_83, (List.forall_mem_cons.mpr ⟨wd_86, (List.forall_mem_cons.mpr ⟨wd_84, (List.forall_mem_cons.mpr ⟨wd_85, (fun _ h => absurd h List.not_mem_nil)⟩)⟩)⟩)⟩)⟩), (show rB (miX0 false none) 31 (.inr (.inr (.inr (.inl (0, yX0_rises, cX0_rises, 10, (some .boolean), 5, 0))))) = true by decide +kernel)⟩
theorem cqX0_35 (ini : Bool) (ret : Option FieldType) : (∀ w ∈ rW (miX0 ini ret) 35 (.inr (.inr (.inr (.inl (0, yX4_sameAs, cX4_sameAs, 6, (some .boolean), 4, 4))))), w ∈ mT) ∧ rB (miX0 ini ret) 35 (.inr (.inr (.inr (.inl (0, yX4_sameAs, cX4_sameAs, 6, (some .boolean), 4, 4))))) = true := ⟨(List.forall_mem_cons.mpr ⟨wd_87, (List.forall_mem_cons.mpr ⟨wd_88, (List.forall_mem_cons.mpr ⟨wd_90, (List.forall_mem_cons.mpr ⟨wd_15, (List.forall_mem_cons.mpr ⟨wd_89, (fun _ h => absurd h List.not_mem_nil)⟩)⟩)⟩)⟩)⟩), (show rB (miX0 false none) 35 (.inr (.inr (.inr (.inl (0, yX4_sameAs, cX4_sameAs, 6, (some .boolean), 4, 4))))) = true by decide +kernel)⟩
theorem cqX0_39 (ini : Bool) (ret : Option FieldType) : (∀ w ∈ rW (miX0 ini ret) 39 (.inr (.inr (.inr (.inl (0, yX4_number, cX4_number, 2, (some .int), 1, 4))))), w ∈ mT) ∧ rB (miX0 ini ret) 39 (.inr (.inr (.inr (.inl (0, yX4_number, cX4_number, 2, (some .int), 1, 4))))) = true := ⟨(List.forall_mem_cons.mpr ⟨wd_91, (List.forall_mem_cons.mpr ⟨wd_44, (List.forall_mem_cons.mpr ⟨wd_46, (List.forall_mem_cons.mpr ⟨wd_15, (List.forall_mem_cons.mpr ⟨wd_45, (fun _ h => absurd h List.not_mem_nil)⟩)⟩)⟩)⟩)⟩), (show rB (miX0 false none) 39 (.inr (.inr (.inr (.inl (0, yX4_number, cX4_number, 2, (some .int), 1, 4))))) = true by decide +kernel)⟩
theorem cqX0_43 (ini : Bool) (ret : Option FieldType) : (∀ w ∈ rW (miX0 ini ret) 43 (.inl (5, 0)), w ∈ mT) ∧ rB (miX0 ini ret) 43 (.inl (5, 0)) = true := ⟨(List.forall_mem_cons.mpr ⟨wd_92, (fun _ h => absurd h List.not_mem_nil)⟩), (show rB (miX0 false none) 43 (.inl (5, 0)) = true by decide +kernel)⟩
theorem cqX0_48 (ini : Bool) (ret : Option FieldType) : (∀ w ∈ rW (miX0 ini ret) 48 (.inr (.inr (.inr (.inl (0, yX4_empty, cX4_empty, 1, none, 0, 4))))), w ∈ mT) ∧ rB (miX0 ini ret) 48 (.inr (.inr (.inr (.inl (0, yX4_empty, cX4_empty, 1, none, 0, 4))))) = true := ⟨(List.forall_mem_cons.mpr ⟨wd_93, (List.forall_mem_cons.mpr ⟨wd_57, (List.forall_mem_cons.mpr ⟨wd_59, (List.forall_mem_cons.mpr ⟨wd_15, (List.forall_mem_cons.mpr ⟨wd_58, (fun _ h => absurd h List.not_mem_nil)⟩)⟩)⟩)⟩)⟩), (show rB (miX0 false none) 48 (.inr (.inr (.inr (.inl (0, yX4_empty, cX4_empty, 1, none, 0, 4))))) = true by decide +kernel)⟩
theorem cqX0_51 (ini : Bool) (ret : Option FieldType) : (∀ w ∈ rW (miX0 ini ret) 51 (.inr (.inr (.inr (.inl (0, yX4_add, cX4_add, 2, none, 1, 4))))), w ∈ mT) ∧ rB (miX0 ini ret) 51 (.inr (.inr (.inr (.inl (0, yX4_add, cX4_add, 2, none, 1, 4))))) = true := ⟨(List.forall_mem_cons.mpr ⟨wd_94, (List.forall_mem_cons.mpr ⟨wd_34, (List.forall_mem_cons.mpr ⟨wd_36, (List.forall_mem_cons.mpr ⟨wd_15, (List.forall_mem_cons.mpr ⟨wd_35, (fun _ h => absurd h List.not_mem_nil)⟩)⟩)⟩)⟩)⟩), (show rB (miX0 false none) 51 (.inr (.inr (.inr (.inl (0, yX4_add, cX4_add, 2, none, 1, 4))))) = true by decide +kernel)⟩
theorem cqX0_54 (ini : Bool) (ret : Option FieldType) : (∀ w ∈ rW (miX0 ini ret) 54 (.inr (.inr (.inr (.inl (0, yX4_addPart, cX4_addPart, 4, none, 3, 4))))), w ∈ mT) ∧ rB (miX0 ini ret) 54 (.inr (.inr (.inr (.inl (0, yX4_addPart, cX4_addPart, 4, none, 3, 4))))) = true := ⟨(List.forall_mem_cons.mpr ⟨wd_95, (List.forall_mem_cons.mpr ⟨wd_14, (List.forall_mem_cons.mpr ⟨wd_17, (List.forall_mem_cons.mpr ⟨wd_15, (List.forall_mem_cons.mpr ⟨wd_16, (fun _ h => absurd h List.not_mem_nil)⟩)⟩)⟩)⟩)⟩), (show rB (miX0 false none) 54 (.inr (.inr (.inr (.inl (0, yX4_addPart, cX4_addPart, 4, none, 3, 4))))) = true by decide +kernel)⟩
theorem cqX0_57 (ini : Bool) (ret : Option FieldType) : (∀ w ∈ rW (miX0 ini ret) 57 (.inr (.inr (.inr (.inl (0, yX5_finish, cX5_finish, 4, (some (.object "GossipWatch$Row")), 0, 5))))), w ∈ mT) ∧ rB (miX0 ini ret) 57 (.inr (.inr (.inr (.inl (0, yX5_finish, cX5_finish, 4, (some (.object "GossipWatch$Row")), 0, 5))))) = true := ⟨(List.forall_mem_cons.mpr ⟨wd_96, (List.forall_mem_cons.mpr ⟨wd_62, (List.forall_mem_cons.mpr ⟨wd_64, (List.forall_mem_cons.mpr ⟨wd_49, (List.forall_mem_cons.mpr ⟨wd_63, (fun _ h => absurd h List.not_mem_nil)⟩)⟩)⟩)⟩)⟩), (show rB (miX0 false none) 57 (.inr (.inr (.inr (.inl (0, yX5_finish, cX5_finish, 4, (some (.object "GossipWatch$Row")), 0, 5))))) = true by decide +kernel)⟩
theorem cqX0_61 (ini : Bool) (ret : Option FieldType) : (∀ w ∈ rW (miX0 ini ret) 61 (.inr (.inr (.inr (.inl (0, yX4_become, cX4_become, 2, none, 1, 4))))), w ∈ mT) ∧ rB (miX0 ini ret) 61 (.inr (.inr (.inr (.inl (0, yX4_become, cX4_become, 2, none, 1, 4))))) = true := ⟨(List.forall_mem_cons.mpr ⟨wd_97, (List.forall_mem_cons.mpr ⟨wd_98, (List.forall_mem_cons.mpr ⟨wd_100, (List.forall_mem_cons.mpr ⟨wd_15, (List.forall_mem_cons.mpr ⟨wd_99, (fun _ h => absurd h List.not_mem_nil)⟩)⟩)⟩)⟩)⟩), (show rB (miX0 false none) 61 (.inr (.inr (.inr (.inl (0, yX4_become, cX4_become, 2, none, 1, 4))))) = true by decide +kernel)⟩
theorem cqX0_65 (ini : Bool) (ret : Option FieldType) : (∀ w ∈ rW (miX0 ini ret) 65 (.inr (.inr (.inr (.inl (0, yX5_join, cX5_join, 5, (some (.object "GossipWatch$Row")), 4, 5))))), w ∈ mT) ∧ rB (miX0 ini ret) 65 (.inr (.inr (.inr (.inl (0, yX5_join, cX5_join, 5, (some (.object "GossipWatch$Row")), 4, 5))))) = true := ⟨(List.forall_mem_cons.mpr ⟨wd_101, (List.forall_mem_cons.mpr ⟨wd_102, (List.forall_mem_cons.mpr ⟨wd_104, (List.forall_mem_cons.mpr ⟨wd_49, (List.forall_mem_cons.mpr ⟨wd_103, (fun _ h => absurd h List.not_mem_nil)⟩)⟩)⟩)⟩)⟩), (show rB (miX0 false none) 65 (.inr (.inr (.inr (.inl (0, yX5_join, cX5_join, 5, (some (.object "GossipWatch$Row")), 4, 5))))) = true by decide +kernel)⟩
theorem ckX0 (ini : Bool) (ret : Option FieldType) : cpOK (miX0 ini ret) := (show tAll (fun i r => (∀ w ∈ rW (miX0 ini ret) i r, w ∈ mT) ∧ rB (miX0 ini ret) i r = true) cpX0 from (nd_all (nd_all (nd_all (nd_all (lf_all (cqX0_3 ini ret)) (lf_all (cqX0_9 ini ret))) (nd_all (lf_all (cqX0_11 ini ret)) (lf_all (cqX0_14 ini ret)))) (nd_all (nd_all (lf_all (cqX0_20 ini ret)) (lf_all (cqX0_23 ini ret))) (nd_all (lf_all (cqX0_27 ini ret)) (lf_all (cqX0_31 ini ret))))) (nd_all (nd_all (nd_all (lf_all (cqX0_35 ini ret)) (lf_all (cqX0_39 ini ret))) (nd_all (lf_all (cqX0_43 ini ret)) (lf_all (cqX0_48 ini ret)))) (nd_all (nd_all (lf_all (cqX0_51 ini ret)) (lf_all (cqX0_54 ini ret))) (nd_all (lf_all (cqX0_57 ini ret)) (nd_all (lf_all (cqX0_61 ini ret)) (lf_all (cqX0_65 ini ret))))))))
def cpX6 : Nat → Option mRf := (nd 40 (nd 21 (nd 15 (nd 11 (lf 3 (.inr (.inr (.inr (.inl (4, objectInit, ByteArray.empty, 0, none, 0, 0)))))) (lf 11 (.inl (6, 0)))) (nd 17 (lf 15 (.inr (.inr (.inr (.inr 4))))) (lf 17 (.inl (6, 1))))) (nd 28 (nd 24 (lf 21 (.inr (.inr (.inr (.inl (2, yX4_init, cX4_init, 2, none, 1, 4)))))) (lf 24 (.inl (6, 2)))) (nd 34 (lf 28 (.inl (5, 0))) (nd 37 (lf 34 (.inr (.inr (.inr (.inl (0, yX4_empty, cX4_empty, 1, none, 0, 4)))))) (lf 37 (.inr (.inr (.inr (.inl (0, yX4_add, cX4_add, 2, none, 1, 4)))))))))) (nd 54 (nd 47 (nd 43 (lf 40 (.inr (.inr (.inr (.inl (0, yX4_addNumber, cX4_addNumber, 2, none, 1, 4)))))) (lf 43 (.inr (.inr (.inr (.inl (0, yX5_finish, cX5_finish, 4, (some (.object "GossipWatch$Row")), 0, 5))))))) (nd 51 (lf 47 (.inr (.inr (.inr (.inl (0, yX4_addPart, cX4_addPart, 4, none, 3, 4)))))) (lf 51 (.inl (4, 1))))) (nd 61 (nd 58 (lf 54 (.inr (.inr (.inr (.inl (0, yX5_join, cX5_join, 5, (some (.object "GossipWatch$Row")), 4, 5)))))) (lf 58 (.inl (5, 1)))) (nd 64 (lf 61 (.inr (.inr (.inr (.inl (0, yX4_becomePart, cX4_becomePart, 4, none, 3, 4)))))) (nd 68 (lf 64 (.inr (.inr (.inr (.inl (1, yX6_splitOf, cX6_splitOf, 3, (some .int), 1, 6)))))) (lf 68 (.inr (.inr (.inr (.inl (0, yX6_rootOf, cX6_rootOf, 9, (some (.object "GossipWatch$Row")), 3, 6)))))))))))
abbrev miX6 (ini : Bool) (ret : Option FieldType) : mI := ((RX6, 6), cpX6, ini, ret)
theorem cqX6_3 (ini : Bool) (ret : Option FieldType) : (∀ w ∈ rW (miX6 ini ret) 3 (.inr (.inr (.inr (.inl (4, objectInit, ByteArray.empty, 0, none, 0, 0))))), w ∈ mT) ∧ rB (miX6 ini ret) 3 (.inr (.inr (.inr (.inl (4, objectInit, ByteArray.empty, 0, none, 0, 0))))) = true := ⟨(List.forall_mem_cons.mpr ⟨wd_105, (List.forall_mem_cons.mpr ⟨wd_1, (List.forall_mem_cons.mpr ⟨wd_2, (fun _ h => absurd h List.not_mem_nil)⟩)⟩)⟩), (show rB (miX6 false none) 3 (.inr (.inr (.inr (.inl (4, objectInit, ByteArray.empty, 0, none, 0, 0))))) = true by decide +kernel)⟩
theorem cqX6_11 (ini : Bool) (ret : Option FieldType) : (∀ w ∈ rW (miX6 ini ret) 11 (.inl (6, 0)), w ∈ mT) ∧ rB (miX6 ini ret) 11 (.inl (6, 0)) = true := ⟨(List.forall_mem_cons.mpr ⟨wd_106, (fun _ h => absurd h List.not_mem_nil)⟩), (show rB (miX6 false none) 11 (.inl (6, 0)) = true by decide +kernel)⟩
theorem cqX6_15 (ini : Bool) (ret : Option FieldType) : (∀ w ∈ rW (miX6 ini ret) 15 (.inr (.inr (.inr (.inr 4)))), w ∈ mT) ∧ rB (miX6 ini ret) 15 (.inr (.inr (.inr (.inr 4)))) = true := ⟨(List.forall_mem_cons.mpr ⟨wd_107, (List.forall_mem_cons.mpr ⟨wd_24, (List.forall_mem_cons.mpr ⟨wd_15, (fun _ h => absurd h List.not_mem_nil)⟩)⟩)⟩), (show rB (miX6 false none) 15 (.inr (.inr (.inr (.inr 4)))) = true by decide +kernel)⟩
theorem cqX6_17 (ini : Bool) (ret : Option FieldType) : (∀ w ∈ rW (miX6 ini ret) 17 (.inl (6, 1)), w ∈ mT) ∧ rB (miX6 ini ret) 17 (.inl (6, 1)) = true := ⟨(List.forall_mem_cons.mpr ⟨wd_108, (fun _ h => absurd h List.not_mem_nil)⟩), (show rB (miX6 false none) 17 (.inl (6, 1)) = true by decide +kernel)⟩
theorem cqX6_21 (ini : Bool) (ret : Option FieldType) : (∀ w ∈ rW (miX6 ini ret) 21 (.inr (.inr (.inr (.inl (2, yX4_init, cX4_init, 2, none, 1, 4))))), w ∈ mT) ∧ rB (miX6 ini ret) 21 (.inr (.inr (.inr (.inl (2, yX4_init, cX4_init, 2, none, 1, 4))))) = true := ⟨(List.forall_mem_cons.mpr ⟨wd_109, (List.forall_mem_cons.mpr ⟨wd_26, (List.forall_mem_cons.mpr ⟨wd_15, (List.forall_mem_cons.mpr ⟨wd_27, (fun _ h => absurd h List.not_mem_nil)⟩)⟩)⟩)⟩), (show rB (miX6 false none) 21 (.inr (.inr (.inr (.inl (2, yX4_init, cX4_init, 2, none, 1, 4))))) = true by decide +kernel)⟩
theorem cqX6_24 (ini : Bool) (ret : Option FieldType) : (∀ w ∈ rW (miX6 ini ret) 24 (.inl (6, 2)), w ∈ mT) ∧ rB (miX6 ini ret) 24 (.inl (6, 2)) = true := ⟨(List.forall_mem_cons.mpr ⟨wd_110, (fun _ h => absurd h List.not_mem_nil)⟩), (show rB (miX6 false none) 24 (.inl (6, 2)) = true by decide +kernel)⟩
theorem cqX6_28 (ini : Bool) (ret : Option FieldType) : (∀ w ∈ rW (miX6 ini ret) 28 (.inl (5, 0)), w ∈ mT) ∧ rB (miX6 ini ret) 28 (.inl (5, 0)) = true := ⟨(List.forall_mem_cons.mpr ⟨wd_111, (fun _ h => absurd h List.not_mem_nil)⟩), (show rB (miX6 false none) 28 (.inl (5, 0)) = true by decide +kernel)⟩
theorem cqX6_34 (ini : Bool) (ret : Option FieldType) : (∀ w ∈ rW (miX6 ini ret) 34 (.inr (.inr (.inr (.inl (0, yX4_empty, cX4_empty, 1, none, 0, 4))))), w ∈ mT) ∧ rB (miX6 ini ret) 34 (.inr (.inr (.inr (.inl (0, yX4_empty, cX4_empty, 1, none, 0, 4))))) = true := ⟨(List.forall_mem_cons.mpr ⟨wd_112, (List.forall_mem_cons.mpr ⟨wd_57, (List.forall_mem_cons.mpr ⟨wd_59, (List.forall_mem_cons.mpr ⟨wd_15, (List.forall_mem_cons.mpr ⟨wd_58, (fun _ h => absurd h List.not_mem_nil)⟩)⟩)⟩)⟩)⟩), (show rB (miX6 false none) 34 (.inr (.inr (.inr (.inl (0, yX4_empty, cX4_empty, 1, none, 0, 4))))) = true by decide +kernel)⟩
theorem cqX6_37 (ini : Bool) (ret : Option FieldType) : (∀ w ∈ rW (miX6 ini ret) 37 (.inr (.inr (.inr (.inl (0, yX4_add, cX4_add, 2, none, 1, 4))))), w ∈ mT) ∧ rB (miX6 ini ret) 37 (.inr (.inr (.inr (.inl (0, yX4_add, cX4_add, 2, none, 1, 4))))) = true := ⟨(List.forall_mem_cons.mpr ⟨wd_113, (List.forall_mem_cons.mpr ⟨wd_34, (List.forall_mem_cons.mpr ⟨wd_36, (List.forall_mem_cons.mpr ⟨wd_15, (List.forall_mem_cons.mpr ⟨wd_35, (fun _ h => absurd h List.not_mem_nil)⟩)⟩)⟩)⟩)⟩), (show rB (miX6 false none) 37 (.inr (.inr (.inr (.inl (0, yX4_add, cX4_add, 2, none, 1, 4))))) = true by decide +kernel)⟩
theorem cqX6_40 (ini : Bool) (ret : Option FieldType) : (∀ w ∈ rW (miX6 ini ret) 40 (.inr (.inr (.inr (.inl (0, yX4_addNumber, cX4_addNumber, 2, none, 1, 4))))), w ∈ mT) ∧ rB (miX6 ini ret) 40 (.inr (.inr (.inr (.inl (0, yX4_addNumber, cX4_addNumber, 2, none, 1, 4))))) = true := ⟨(List.forall_mem_cons.mpr ⟨wd_114, (List.forall_mem_cons.mpr ⟨wd_38, (List.forall_mem_cons.mpr ⟨wd_40, (List.forall_mem_cons.mpr ⟨wd_15, (List.forall_mem_cons.mpr ⟨wd_39, (fun _ h => absurd h List.not_mem_nil)⟩)⟩)⟩)⟩)⟩), (show rB (miX6 false none) 40 (.inr (.inr (.inr (.inl (0, yX4_addNumber, cX4_addNumber, 2, none, 1, 4))))) = true by decide +kernel)⟩
theorem cqX6_43 (ini : Bool) (ret : Option FieldType) : (∀ w ∈ rW (miX6 ini ret) 43 (.inr (.inr (.inr (.inl (0, yX5_finish, cX5_finish, 4, (some (.object "GossipWatch$Row")), 0, 5))))), w ∈ mT) ∧ rB (miX6 ini ret) 43 (.inr (.inr (.inr (.inl (0, yX5_finish, cX5_finish, 4, (some (.object "GossipWatch$Row")), 0, 5))))) = true := ⟨(List.forall_mem_cons.mpr ⟨wd_115, (List.forall_mem_cons.mpr ⟨wd_62, (List.forall_mem_cons.mpr ⟨wd_64, (List.forall_mem_cons.mpr ⟨wd_49, (List.forall_mem_cons.mpr ⟨wd_63, (fun _ h => absurd h List.not_mem_nil)⟩)⟩)⟩)⟩)⟩), (show rB (miX6 false none) 43 (.inr (.inr (.inr (.inl (0, yX5_finish, cX5_finish, 4, (some (.object "GossipWatch$Row")), 0, 5))))) = true by decide +kernel)⟩
theorem cqX6_47 (ini : Bool) (ret : Option FieldType) : (∀ w ∈ rW (miX6 ini ret) 47 (.inr (.inr (.inr (.inl (0, yX4_addPart, cX4_addPart, 4, none, 3, 4))))), w ∈ mT) ∧ rB (miX6 ini ret) 47 (.inr (.inr (.inr (.inl (0, yX4_addPart, cX4_addPart, 4, none, 3, 4))))) = true := ⟨(List.forall_mem_cons.mpr ⟨wd_116, (List.forall_mem_cons.mpr ⟨wd_14, (List.forall_mem_cons.mpr ⟨wd_17, (List.forall_mem_cons.mpr ⟨wd_15, (List.forall_mem_cons.mpr ⟨wd_16, (fun _ h => absurd h List.not_mem_nil)⟩)⟩)⟩)⟩)⟩), (show rB (miX6 false none) 47 (.inr (.inr (.inr (.inl (0, yX4_addPart, cX4_addPart, 4, none, 3, 4))))) = true by decide +kernel)⟩
theorem cqX6_51 (ini : Bool) (ret : Option FieldType) : (∀ w ∈ rW (miX6 ini ret) 51 (.inl (4, 1)), w ∈ mT) ∧ rB (miX6 ini ret) 51 (.inl (4, 1)) = true := ⟨(List.forall_mem_cons.mpr ⟨wd_117, (fun _ h => absurd h List.not_mem_nil)⟩), (show rB (miX6 false none) 51 (.inl (4, 1)) = true by decide +kernel)⟩
theorem cqX6_54 (ini : Bool) (ret : Option FieldType) : (∀ w ∈ rW (miX6 ini ret) 54 (.inr (.inr (.inr (.inl (0, yX5_join, cX5_join, 5, (some (.object "GossipWatch$Row")), 4, 5))))), w ∈ mT) ∧ rB (miX6 ini ret) 54 (.inr (.inr (.inr (.inl (0, yX5_join, cX5_join, 5, (some (.object "GossipWatch$Row")), 4, 5))))) = true := ⟨(List.forall_mem_cons.mpr ⟨wd_118, (List.forall_mem_cons.mpr ⟨wd_102, (List.forall_mem_cons.mpr ⟨wd_104, (List.forall_mem_cons.mpr ⟨wd_49, (List.forall_mem_cons.mpr ⟨wd_103, (fun _ h => absurd h List.not_mem_nil)⟩)⟩)⟩)⟩)⟩), (show rB (miX6 false none) 54 (.inr (.inr (.inr (.inl (0, yX5_join, cX5_join, 5, (some (.object "GossipWatch$Row")), 4, 5))))) = true by decide +kernel)⟩
theorem cqX6_58 (ini : Bool) (ret : Option FieldType) : (∀ w ∈ rW (miX6 ini ret) 58 (.inl (5, 1)), w ∈ mT) ∧ rB (miX6 ini ret) 58 (.inl (5, 1)) = true := ⟨(List.forall_mem_cons.mpr ⟨wd_119, (fun _ h => absurd h List.not_mem_nil)⟩), (show rB (miX6 false none) 58 (.inl (5, 1)) = true by decide +kernel)⟩
theorem cqX6_61 (ini : Bool) (ret : Option FieldType) : (∀ w ∈ rW (miX6 ini ret) 61 (.inr (.inr (.inr (.inl (0, yX4_becomePart, cX4_becomePart, 4, none, 3, 4))))), w ∈ mT) ∧ rB (miX6 ini ret) 61 (.inr (.inr (.inr (.inl (0, yX4_becomePart, cX4_becomePart, 4, none, 3, 4))))) = true := ⟨(List.forall_mem_cons.mpr ⟨wd_120, (List.forall_mem_cons.mpr ⟨wd_79, (List.forall_mem_cons.mpr ⟨wd_81, (List.forall_mem_cons.mpr ⟨wd_15, (List.forall_mem_cons.mpr ⟨wd_80, (fun _ h => absurd h List.not_mem_nil)⟩)⟩)⟩)⟩)⟩), (show rB (miX6 false none) 61 (.inr (.inr (.inr (.inl (0, yX4_becomePart, cX4_becomePart, 4, none, 3, 4))))) = true by decide +kernel)⟩
theorem cqX6_64 (ini : Bool) (ret : Option FieldType) : (∀ w ∈ rW (miX6 ini ret) 64 (.inr (.inr (.inr (.inl (1, yX6_splitOf, cX6_splitOf, 3, (some .int), 1, 6))))), w ∈ mT) ∧ rB (miX6 ini ret) 64 (.inr (.inr (.inr (.inl (1, yX6_splitOf, cX6_splitOf, 3, (some .int), 1, 6))))) = true := ⟨(List.forall_mem_cons.mpr ⟨wd_121, (List.forall_mem_cons.mpr ⟨wd_124, (List.forall_mem_cons.mpr ⟨wd_122, (List.forall_mem_cons.mpr ⟨wd_123, (fun _ h => absurd h List.not_mem_nil)⟩)⟩)⟩)⟩), (show rB (miX6 false none) 64 (.inr (.inr (.inr (.inl (1, yX6_splitOf, cX6_splitOf, 3, (some .int), 1, 6))))) = true by decide +kernel)⟩
theorem cqX6_68 (ini : Bool) (ret : Option FieldType) : (∀ w ∈ rW (miX6 ini ret) 68 (.inr (.inr (.inr (.inl (0, yX6_rootOf, cX6_rootOf, 9, (some (.object "GossipWatch$Row")), 3, 6))))), w ∈ mT) ∧ rB (miX6 ini ret) 68 (.inr (.inr (.inr (.inl (0, yX6_rootOf, cX6_rootOf, 9, (some (.object "GossipWatch$Row")), 3, 6))))) = true := ⟨(List.forall_mem_cons.mpr ⟨wd_125, (List.forall_mem_cons.mpr ⟨wd_126, (List.forall_mem_cons.mpr ⟨wd_128, (List.forall_mem_cons.mpr ⟨wd_122, (List.forall_mem_cons.mpr ⟨wd_127, (fun _ h => absurd h List.not_mem_nil)⟩)⟩)⟩)⟩)⟩), (show rB (miX6 false none) 68 (.inr (.inr (.inr (.inl (0, yX6_rootOf, cX6_rootOf, 9, (some (.object "GossipWatch$Row")), 3, 6))))) = true by decide +kernel)⟩
theorem ckX6 (ini : Bool) (ret : Option FieldType) : cpOK (miX6 ini ret) := (show tAll (fun i r => (∀ w ∈ rW (miX6 ini ret) i r, w ∈ mT) ∧ rB (miX6 ini ret) i r = true) cpX6 from (nd_all (nd_all (nd_all (nd_all (lf_all (cqX6_3 ini ret)) (lf_all (cqX6_11 ini ret))) (nd_all (lf_all (cqX6_15 ini ret)) (lf_all (cqX6_17 ini ret)))) (nd_all (nd_all (lf_all (cqX6_21 ini ret)) (lf_all (cqX6_24 ini ret))) (nd_all (lf_all (cqX6_28 ini ret)) (nd_all (lf_all (cqX6_34 ini ret)) (lf_all (cqX6_37 ini ret)))))) (nd_all (nd_all (nd_all (lf_all (cqX6_40 ini ret)) (lf_all (cqX6_43 ini ret))) (nd_all (lf_all (cqX6_47 ini ret)) (lf_all (cqX6_51 ini ret)))) (nd_all (nd_all (lf_all (cqX6_54 ini ret)) (lf_all (cqX6_58 ini ret))) (nd_all (lf_all (cqX6_61 ini ret)) (nd_all (lf_all (cqX6_64 ini ret)) (lf_all (cqX6_68 ini ret))))))))
def cpX7 : Nat → Option mRf := (nd 116 (nd 50 (nd 29 (nd 16 (nd 11 (nd 9 (lf 3 (.inr (.inr (.inr (.inl (4, objectInit, ByteArray.empty, 0, none, 0, 0)))))) (lf 9 (.inr (.inr (.inr (.inr 5)))))) (nd 12 (lf 11 (.inr (.inr (.inr (.inl (3, yX5_init, cX5_init, 1, none, 0, 5)))))) (lf 12 (.inl (7, 0))))) (nd 19 (nd 18 (lf 16 (.inr (.inr (.inr (.inr 1))))) (lf 18 (.inr (.inr (.inr (.inl (3, yX1_init, cX1_init, 1, none, 0, 1))))))) (nd 23 (lf 19 (.inl (7, 1))) (nd 27 (lf 23 (.inr (.inr (.inr (.inl (0, yX1_makeFrom, cX1_makeFrom, 5, none, 2, 1)))))) (lf 27 (.inr (.inr (.inr (.inr 0))))))))) (nd 40 (nd 34 (nd 30 (lf 29 (.inr (.inr (.inr (.inl (3, yX0_init, cX0_init, 1, none, 0, 0)))))) (lf 30 (.inl (7, 2)))) (nd 36 (lf 34 (.inr (.inr (.inr (.inr 6))))) (lf 36 (.inl (7, 3))))) (nd 43 (nd 41 (lf 40 (.inr (.inr (.inr (.inl (2, yX6_init, cX6_init, 2, none, 0, 6)))))) (lf 41 (.inr (.inr (.inr (.inr 2)))))) (nd 47 (lf 43 (.inl (7, 4))) (nd 48 (lf 47 (.inr (.inr (.inr (.inl (3, yX2_init, cX2_init, 1, none, 0, 2)))))) (lf 48 (.inr (.inr (.inr (.inr 3)))))))))) (nd 79 (nd 60 (nd 55 (nd 54 (lf 50 (.inl (7, 5))) (lf 54 (.inr (.inr (.inr (.inl (2, yX3_init, cX3_init, 2, none, 0, 3))))))) (nd 57 (lf 55 (.inr (.inr (.inr (.inr 4))))) (lf 57 (.inr (.inr (.inr (.inl (2, yX4_init, cX4_init, 2, none, 1, 4)))))))) (nd 67 (nd 64 (lf 60 (.inl (7, 6))) (lf 64 (.inl (7, 7)))) (nd 71 (lf 67 (.inl (7, 8))) (nd 75 (lf 71 (.inr (.inr (.inr (.inl (0, yX7_viewOf, cX7_viewOf, 3, (some (.object "GossipWatch$View")), 2, 7)))))) (lf 75 (.inr (.inr (.inr (.inl (0, yX6_isFull, cX6_isFull, 1, (some .boolean), 0, 6)))))))))) (nd 97 (nd 86 (nd 83 (lf 79 (.inr (.inr (.inr (.inl (0, yX6_addLeaf, cX6_addLeaf, 6, none, 2, 6)))))) (lf 83 (.inl (6, 2)))) (nd 90 (lf 86 (.inr (.inr (.inr (.inl (0, yX7_nextLetter, cX7_nextLetter, 4, (some (.object "GossipWatch$Row")), 2, 7)))))) (nd 93 (lf 90 (.inr (.inr (.inr (.inl (0, yX4_addNumber, cX4_addNumber, 2, none, 1, 4)))))) (lf 93 (.inr (.inr (.inr (.inl (0, yX6_rootOf, cX6_rootOf, 9, (some (.object "GossipWatch$Row")), 3, 6))))))))) (nd 105 (nd 101 (lf 97 (.inr (.inr (.inr (.inl (0, yX4_addPart, cX4_addPart, 4, none, 3, 4)))))) (lf 101 (.inr (.inr (.inr (.inl (0, yX1_signFor, cX1_signFor, 6, (some (.object "GossipWatch$Row")), 4, 1))))))) (nd 108 (lf 105 (.inr (.inr (.inr (.inl (0, yX4_empty, cX4_empty, 1, none, 0, 4)))))) (nd 112 (lf 108 (.inr (.inr (.inr (.inl (0, yX6_pushProof, cX6_pushProof, 9, none, 4, 6)))))) (lf 112 (.inr (.inr (.inr (.inl (0, yX4_addHashesReversed, cX4_addHashesReversed, 3, none, 1, 4)))))))))))) (nd 180 (nd 148 (nd 130 (nd 123 (nd 120 (lf 116 (.inr (.inr (.inr (.inl (0, yX6_leafAt, cX6_leafAt, 2, (some .int), 1, 6)))))) (lf 120 (.inr (.inr (.inr (.inl (0, yX6_pushPath, cX6_pushPath, 9, none, 4, 6))))))) (nd 127 (lf 123 (.inr (.inr (.inr (.inl (0, yX7_letterOf, cX7_letterOf, 2, (some (.object "GossipWatch$Letter")), 1, 7)))))) (lf 127 (.inl (2, 0))))) (nd 137 (nd 134 (lf 130 (.inr (.inr (.inr (.inl (0, yX4_has, cX4_has, 2, (some .boolean), 1, 4)))))) (lf 134 (.inr (.inr (.inr (.inl (0, yX4_at, cX4_at, 2, (some .int), 1, 4))))))) (nd 141 (lf 137 (.inr (.inr (.inr (.inl (0, yX4_put, cX4_put, 3, none, 2, 4)))))) (nd 145 (lf 141 (.inr (.inr (.inr (.inl (0, yX2_hashCount, cX2_hashCount, 1, (some .int), 0, 2)))))) (lf 145 (.inl (4, 1))))))) (nd 162 (nd 154 (nd 151 (lf 148 (.inr (.inr (.inr (.inl (0, yX4_resize, cX4_resize, 3, none, 1, 4)))))) (lf 151 (.inl (2, 1)))) (nd 158 (lf 154 (.inr (.inr (.inr (.inl (0, yX7_monitorOf, cX7_monitorOf, 2, (some (.object "GossipWatch$Monitor")), 1, 7)))))) (lf 158 (.inr (.inr (.inr (.inl (0, yX1_haveSigned, cX1_haveSigned, 7, (some .boolean), 4, 1)))))))) (nd 169 (nd 166 (lf 162 (.inr (.inr (.inr (.inl (0, yX3_takeHead, cX3_takeHead, 3, (some .int), 1, 3)))))) (lf 166 (.inr (.inr (.inr (.inl (0, yX3_noted, cX3_noted, 2, (some .int), 1, 3))))))) (nd 172 (lf 169 (.inr (.inr (.inr (.inl (0, yX4_number, cX4_number, 2, (some .int), 1, 4)))))) (nd 176 (lf 172 (.inr (.inr (.inr (.inl (0, yX0_ofProof, cX0_ofProof, 11, (some (.object "GossipWatch$Row")), 5, 0)))))) (lf 176 (.inr (.inr (.inr (.inl (0, yX3_takeProof, cX3_takeProof, 5, (some .int), 2, 3))))))))))) (nd 210 (nd 194 (nd 187 (nd 184 (lf 180 (.inr (.inr (.inr (.inl (0, yX0_ofPath, cX0_ofPath, 5, (some (.object "GossipWatch$Row")), 2, 0)))))) (lf 184 (.inr (.inr (.inr (.inl (0, yX3_countAccepting, cX3_countAccepting, 5, (some .int), 2, 3))))))) (nd 190 (lf 187 (.inl (3, 4))) (lf 190 (.inl (3, 0))))) (nd 200 (nd 197 (lf 194 (.inr (.inr (.inr (.inl (0, yX3_countOf, cX3_countOf, 2, (some .int), 1, 3)))))) (lf 197 (.inr (.inr (.inr (.inl (0, yX3_hasHead, cX3_hasHead, 2, (some .boolean), 1, 3))))))) (nd 204 (lf 200 (.inr (.inr (.inr (.inl (0, yX3_ofFact, cX3_ofFact, 3, (some .int), 2, 3)))))) (nd 207 (lf 204 (.inr (.inr (.inr (.inl (0, yX3_ofRecord, cX3_ofRecord, 3, (some .int), 2, 3)))))) (lf 207 (.inr (.inr (.inr (.inl (0, yX3_hasRecord, cX3_hasRecord, 2, (some .boolean), 1, 3)))))))))) (nd 226 (nd 217 (nd 214 (lf 210 (.inr (.inr (.inr (.inl (0, yX3_writeRecord, cX3_writeRecord, 6, none, 2, 3)))))) (lf 214 (.inr (.inr (.inr (.inl (0, yX7_bothAreSigned, cX7_bothAreSigned, 1, (some .boolean), 0, 7))))))) (nd 220 (lf 217 (.inr (.inr (.inr (.inl (0, yX7_isFork, cX7_isFork, 1, (some .boolean), 0, 7)))))) (nd 223 (lf 220 (.inr (.inr (.inr (.inl (0, yX7_endsWithWholeHashes, cX7_endsWithWholeHashes, 1, (some .boolean), 0, 7)))))) (lf 223 (.inr (.inr (.inr (.inl (0, yX7_isBreach, cX7_isBreach, 4, (some .boolean), 0, 7))))))))) (nd 232 (nd 229 (lf 226 (.inl (5, 0))) (lf 229 (.inr (.inr (.inr (.inl (0, yX4_become, cX4_become, 2, none, 1, 4))))))) (nd 236 (lf 232 (.inr (.inr (.inr (.inl (0, yX5_finish, cX5_finish, 4, (some (.object "GossipWatch$Row")), 0, 5)))))) (nd 239 (lf 236 (.inr (.inr (.inr (.inl (0, yX4_add, cX4_add, 2, none, 1, 4)))))) (lf 239 (.inr (.inr (.inr (.inl (0, yX4_sameAs, cX4_sameAs, 6, (some .boolean), 4, 4)))))))))))))
abbrev miX7 (ini : Bool) (ret : Option FieldType) : mI := ((RX7, 7), cpX7, ini, ret)
theorem cqX7_3 (ini : Bool) (ret : Option FieldType) : (∀ w ∈ rW (miX7 ini ret) 3 (.inr (.inr (.inr (.inl (4, objectInit, ByteArray.empty, 0, none, 0, 0))))), w ∈ mT) ∧ rB (miX7 ini ret) 3 (.inr (.inr (.inr (.inl (4, objectInit, ByteArray.empty, 0, none, 0, 0))))) = true := ⟨(List.forall_mem_cons.mpr ⟨wd_129, (List.forall_mem_cons.mpr ⟨wd_1, (List.forall_mem_cons.mpr ⟨wd_2, (fun _ h => absurd h List.not_mem_nil)⟩)⟩)⟩), (show rB (miX7 false none) 3 (.inr (.inr (.inr (.inl (4, objectInit, ByteArray.empty, 0, none, 0, 0))))) = true by decide +kernel)⟩
theorem cqX7_9 (ini : Bool) (ret : Option FieldType) : (∀ w ∈ rW (miX7 ini ret) 9 (.inr (.inr (.inr (.inr 5)))), w ∈ mT) ∧ rB (miX7 ini ret) 9 (.inr (.inr (.inr (.inr 5)))) = true := ⟨(List.forall_mem_cons.mpr ⟨wd_130, (List.forall_mem_cons.mpr ⟨wd_131, (List.forall_mem_cons.mpr ⟨wd_49, (fun _ h => absurd h List.not_mem_nil)⟩)⟩)⟩), (show rB (miX7 false none) 9 (.inr (.inr (.inr (.inr 5)))) = true by decide +kernel)⟩
theorem cqX7_11 (ini : Bool) (ret : Option FieldType) : (∀ w ∈ rW (miX7 ini ret) 11 (.inr (.inr (.inr (.inl (3, yX5_init, cX5_init, 1, none, 0, 5))))), w ∈ mT) ∧ rB (miX7 ini ret) 11 (.inr (.inr (.inr (.inl (3, yX5_init, cX5_init, 1, none, 0, 5))))) = true := ⟨(List.forall_mem_cons.mpr ⟨wd_132, (List.forall_mem_cons.mpr ⟨wd_49, (List.forall_mem_cons.mpr ⟨wd_133, (fun _ h => absurd h List.not_mem_nil)⟩)⟩)⟩), (show rB (miX7 false none) 11 (.inr (.inr (.inr (.inl (3, yX5_init, cX5_init, 1, none, 0, 5))))) = true by decide +kernel)⟩
theorem cqX7_12 (ini : Bool) (ret : Option FieldType) : (∀ w ∈ rW (miX7 ini ret) 12 (.inl (7, 0)), w ∈ mT) ∧ rB (miX7 ini ret) 12 (.inl (7, 0)) = true := ⟨(List.forall_mem_cons.mpr ⟨wd_134, (fun _ h => absurd h List.not_mem_nil)⟩), (show rB (miX7 false none) 12 (.inl (7, 0)) = true by decide +kernel)⟩
theorem cqX7_16 (ini : Bool) (ret : Option FieldType) : (∀ w ∈ rW (miX7 ini ret) 16 (.inr (.inr (.inr (.inr 1)))), w ∈ mT) ∧ rB (miX7 ini ret) 16 (.inr (.inr (.inr (.inr 1)))) = true := ⟨(List.forall_mem_cons.mpr ⟨wd_135, (List.forall_mem_cons.mpr ⟨wd_136, (List.forall_mem_cons.mpr ⟨wd_137, (fun _ h => absurd h List.not_mem_nil)⟩)⟩)⟩), (show rB (miX7 false none) 16 (.inr (.inr (.inr (.inr 1)))) = true by decide +kernel)⟩
theorem cqX7_18 (ini : Bool) (ret : Option FieldType) : (∀ w ∈ rW (miX7 ini ret) 18 (.inr (.inr (.inr (.inl (3, yX1_init, cX1_init, 1, none, 0, 1))))), w ∈ mT) ∧ rB (miX7 ini ret) 18 (.inr (.inr (.inr (.inl (3, yX1_init, cX1_init, 1, none, 0, 1))))) = true := ⟨(List.forall_mem_cons.mpr ⟨wd_138, (List.forall_mem_cons.mpr ⟨wd_137, (List.forall_mem_cons.mpr ⟨wd_139, (fun _ h => absurd h List.not_mem_nil)⟩)⟩)⟩), (show rB (miX7 false none) 18 (.inr (.inr (.inr (.inl (3, yX1_init, cX1_init, 1, none, 0, 1))))) = true by decide +kernel)⟩
theorem cqX7_19 (ini : Bool) (ret : Option FieldType) : (∀ w ∈ rW (miX7 ini ret) 19 (.inl (7, 1)), w ∈ mT) ∧ rB (miX7 ini ret) 19 (.inl (7, 1)) = true := ⟨(List.forall_mem_cons.mpr ⟨wd_140, (fun _ h => absurd h List.not_mem_nil)⟩), (show rB (miX7 false none) 19 (.inl (7, 1)) = true by decide +kernel)⟩
theorem cqX7_23 (ini : Bool) (ret : Option FieldType) : (∀ w ∈ rW (miX7 ini ret) 23 (.inr (.inr (.inr (.inl (0, yX1_makeFrom, cX1_makeFrom, 5, none, 2, 1))))), w ∈ mT) ∧ rB (miX7 ini ret) 23 (.inr (.inr (.inr (.inl (0, yX1_makeFrom, cX1_makeFrom, 5, none, 2, 1))))) = true := ⟨(List.forall_mem_cons.mpr ⟨wd_141, (List.forall_mem_cons.mpr ⟨wd_142, (List.forall_mem_cons.mpr ⟨wd_144, (List.forall_mem_cons.mpr ⟨wd_137, (List.forall_mem_cons.mpr ⟨wd_143, (fun _ h => absurd h List.not_mem_nil)⟩)⟩)⟩)⟩)⟩), (show rB (miX7 false none) 23 (.inr (.inr (.inr (.inl (0, yX1_makeFrom, cX1_makeFrom, 5, none, 2, 1))))) = true by decide +kernel)⟩
theorem cqX7_27 (ini : Bool) (ret : Option FieldType) : (∀ w ∈ rW (miX7 ini ret) 27 (.inr (.inr (.inr (.inr 0)))), w ∈ mT) ∧ rB (miX7 ini ret) 27 (.inr (.inr (.inr (.inr 0)))) = true := ⟨(List.forall_mem_cons.mpr ⟨wd_145, (List.forall_mem_cons.mpr ⟨wd_146, (List.forall_mem_cons.mpr ⟨wd_84, (fun _ h => absurd h List.not_mem_nil)⟩)⟩)⟩), (show rB (miX7 false none) 27 (.inr (.inr (.inr (.inr 0)))) = true by decide +kernel)⟩
theorem cqX7_29 (ini : Bool) (ret : Option FieldType) : (∀ w ∈ rW (miX7 ini ret) 29 (.inr (.inr (.inr (.inl (3, yX0_init, cX0_init, 1, none, 0, 0))))), w ∈ mT) ∧ rB (miX7 ini ret) 29 (.inr (.inr (.inr (.inl (3, yX0_init, cX0_init, 1, none, 0, 0))))) = true := ⟨(List.forall_mem_cons.mpr ⟨wd_147, (List.forall_mem_cons.mpr ⟨wd_84, (List.forall_mem_cons.mpr ⟨wd_148, (fun _ h => absurd h List.not_mem_nil)⟩)⟩)⟩), (show rB (miX7 false none) 29 (.inr (.inr (.inr (.inl (3, yX0_init, cX0_init, 1, none, 0, 0))))) = true by decide +kernel)⟩
theorem cqX7_30 (ini : Bool) (ret : Option FieldType) : (∀ w ∈ rW (miX7 ini ret) 30 (.inl (7, 2)), w ∈ mT) ∧ rB (miX7 ini ret) 30 (.inl (7, 2)) = true := ⟨(List.forall_mem_cons.mpr ⟨wd_149, (fun _ h => absurd h List.not_mem_nil)⟩), (show rB (miX7 false none) 30 (.inl (7, 2)) = true by decide +kernel)⟩
theorem cqX7_34 (ini : Bool) (ret : Option FieldType) : (∀ w ∈ rW (miX7 ini ret) 34 (.inr (.inr (.inr (.inr 6)))), w ∈ mT) ∧ rB (miX7 ini ret) 34 (.inr (.inr (.inr (.inr 6)))) = true := ⟨(List.forall_mem_cons.mpr ⟨wd_150, (List.forall_mem_cons.mpr ⟨wd_151, (List.forall_mem_cons.mpr ⟨wd_122, (fun _ h => absurd h List.not_mem_nil)⟩)⟩)⟩), (show rB (miX7 false none) 34 (.inr (.inr (.inr (.inr 6)))) = true by decide +kernel)⟩
theorem cqX7_36 (ini : Bool) (ret : Option FieldType) : (∀ w ∈ rW (miX7 ini ret) 36 (.inl (7, 3)), w ∈ mT) ∧ rB (miX7 ini ret) 36 (.inl (7, 3)) = true := ⟨(List.forall_mem_cons.mpr ⟨wd_152, (fun _ h => absurd h List.not_mem_nil)⟩), (show rB (miX7 false none) 36 (.inl (7, 3)) = true by decide +kernel)⟩
theorem cqX7_40 (ini : Bool) (ret : Option FieldType) : (∀ w ∈ rW (miX7 ini ret) 40 (.inr (.inr (.inr (.inl (2, yX6_init, cX6_init, 2, none, 0, 6))))), w ∈ mT) ∧ rB (miX7 ini ret) 40 (.inr (.inr (.inr (.inl (2, yX6_init, cX6_init, 2, none, 0, 6))))) = true := ⟨(List.forall_mem_cons.mpr ⟨wd_153, (List.forall_mem_cons.mpr ⟨wd_154, (List.forall_mem_cons.mpr ⟨wd_122, (List.forall_mem_cons.mpr ⟨wd_155, (fun _ h => absurd h List.not_mem_nil)⟩)⟩)⟩)⟩), (show rB (miX7 false none) 40 (.inr (.inr (.inr (.inl (2, yX6_init, cX6_init, 2, none, 0, 6))))) = true by decide +kernel)⟩
theorem cqX7_41 (ini : Bool) (ret : Option FieldType) : (∀ w ∈ rW (miX7 ini ret) 41 (.inr (.inr (.inr (.inr 2)))), w ∈ mT) ∧ rB (miX7 ini ret) 41 (.inr (.inr (.inr (.inr 2)))) = true := ⟨(List.forall_mem_cons.mpr ⟨wd_156, (List.forall_mem_cons.mpr ⟨wd_157, (List.forall_mem_cons.mpr ⟨wd_158, (fun _ h => absurd h List.not_mem_nil)⟩)⟩)⟩), (show rB (miX7 false none) 41 (.inr (.inr (.inr (.inr 2)))) = true by decide +kernel)⟩
theorem cqX7_43 (ini : Bool) (ret : Option FieldType) : (∀ w ∈ rW (miX7 ini ret) 43 (.inl (7, 4)), w ∈ mT) ∧ rB (miX7 ini ret) 43 (.inl (7, 4)) = true := ⟨(List.forall_mem_cons.mpr ⟨wd_159, (fun _ h => absurd h List.not_mem_nil)⟩), (show rB (miX7 false none) 43 (.inl (7, 4)) = true by decide +kernel)⟩
theorem cqX7_47 (ini : Bool) (ret : Option FieldType) : (∀ w ∈ rW (miX7 ini ret) 47 (.inr (.inr (.inr (.inl (3, yX2_init, cX2_init, 1, none, 0, 2))))), w ∈ mT) ∧ rB (miX7 ini ret) 47 (.inr (.inr (.inr (.inl (3, yX2_init, cX2_init, 1, none, 0, 2))))) = true := ⟨(List.forall_mem_cons.mpr ⟨wd_160, (List.forall_mem_cons.mpr ⟨wd_158, (List.forall_mem_cons.mpr ⟨wd_161, (fun _ h => absurd h List.not_mem_nil)⟩)⟩)⟩), (show rB (miX7 false none) 47 (.inr (.inr (.inr (.inl (3, yX2_init, cX2_init, 1, none, 0, 2))))) = true by decide +kernel)⟩
theorem cqX7_48 (ini : Bool) (ret : Option FieldType) : (∀ w ∈ rW (miX7 ini ret) 48 (.inr (.inr (.inr (.inr 3)))), w ∈ mT) ∧ rB (miX7 ini ret) 48 (.inr (.inr (.inr (.inr 3)))) = true := ⟨(List.forall_mem_cons.mpr ⟨wd_162, (List.forall_mem_cons.mpr ⟨wd_163, (List.forall_mem_cons.mpr ⟨wd_164, (fun _ h => absurd h List.not_mem_nil)⟩)⟩)⟩), (show rB (miX7 false none) 48 (.inr (.inr (.inr (.inr 3)))) = true by decide +kernel)⟩
theorem cqX7_50 (ini : Bool) (ret : Option FieldType) : (∀ w ∈ rW (miX7 ini ret) 50 (.inl (7, 5)), w ∈ mT) ∧ rB (miX7 ini ret) 50 (.inl (7, 5)) = true := ⟨(List.forall_mem_cons.mpr ⟨wd_165, (fun _ h => absurd h List.not_mem_nil)⟩), (show rB (miX7 false none) 50 (.inl (7, 5)) = true by decide +kernel)⟩
theorem cqX7_54 (ini : Bool) (ret : Option FieldType) : (∀ w ∈ rW (miX7 ini ret) 54 (.inr (.inr (.inr (.inl (2, yX3_init, cX3_init, 2, none, 0, 3))))), w ∈ mT) ∧ rB (miX7 ini ret) 54 (.inr (.inr (.inr (.inl (2, yX3_init, cX3_init, 2, none, 0, 3))))) = true := ⟨(List.forall_mem_cons.mpr ⟨wd_166, (List.forall_mem_cons.mpr ⟨wd_167, (List.forall_mem_cons.mpr ⟨wd_164, (List.forall_mem_cons.mpr ⟨wd_168, (fun _ h => absurd h List.not_mem_nil)⟩)⟩)⟩)⟩), (show rB (miX7 false none) 54 (.inr (.inr (.inr (.inl (2, yX3_init, cX3_init, 2, none, 0, 3))))) = true by decide +kernel)⟩
theorem cqX7_55 (ini : Bool) (ret : Option FieldType) : (∀ w ∈ rW (miX7 ini ret) 55 (.inr (.inr (.inr (.inr 4)))), w ∈ mT) ∧ rB (miX7 ini ret) 55 (.inr (.inr (.inr (.inr 4)))) = true := ⟨(List.forall_mem_cons.mpr ⟨wd_169, (List.forall_mem_cons.mpr ⟨wd_24, (List.forall_mem_cons.mpr ⟨wd_15, (fun _ h => absurd h List.not_mem_nil)⟩)⟩)⟩), (show rB (miX7 false none) 55 (.inr (.inr (.inr (.inr 4)))) = true by decide +kernel)⟩
theorem cqX7_57 (ini : Bool) (ret : Option FieldType) : (∀ w ∈ rW (miX7 ini ret) 57 (.inr (.inr (.inr (.inl (2, yX4_init, cX4_init, 2, none, 1, 4))))), w ∈ mT) ∧ rB (miX7 ini ret) 57 (.inr (.inr (.inr (.inl (2, yX4_init, cX4_init, 2, none, 1, 4))))) = true := ⟨(List.forall_mem_cons.mpr ⟨wd_170, (List.forall_mem_cons.mpr ⟨wd_26, (List.forall_mem_cons.mpr ⟨wd_15, (List.forall_mem_cons.mpr ⟨wd_27, (fun _ h => absurd h List.not_mem_nil)⟩)⟩)⟩)⟩), (show rB (miX7 false none) 57 (.inr (.inr (.inr (.inl (2, yX4_init, cX4_init, 2, none, 1, 4))))) = true by decide +kernel)⟩
theorem cqX7_60 (ini : Bool) (ret : Option FieldType) : (∀ w ∈ rW (miX7 ini ret) 60 (.inl (7, 6)), w ∈ mT) ∧ rB (miX7 ini ret) 60 (.inl (7, 6)) = true := ⟨(List.forall_mem_cons.mpr ⟨wd_171, (fun _ h => absurd h List.not_mem_nil)⟩), (show rB (miX7 false none) 60 (.inl (7, 6)) = true by decide +kernel)⟩
theorem cqX7_64 (ini : Bool) (ret : Option FieldType) : (∀ w ∈ rW (miX7 ini ret) 64 (.inl (7, 7)), w ∈ mT) ∧ rB (miX7 ini ret) 64 (.inl (7, 7)) = true := ⟨(List.forall_mem_cons.mpr ⟨wd_172, (fun _ h => absurd h List.not_mem_nil)⟩), (show rB (miX7 false none) 64 (.inl (7, 7)) = true by decide +kernel)⟩
theorem cqX7_67 (ini : Bool) (ret : Option FieldType) : (∀ w ∈ rW (miX7 ini ret) 67 (.inl (7, 8)), w ∈ mT) ∧ rB (miX7 ini ret) 67 (.inl (7, 8)) = true := ⟨(List.forall_mem_cons.mpr ⟨wd_173, (fun _ h => absurd h List.not_mem_nil)⟩), (show rB (miX7 false none) 67 (.inl (7, 8)) = true by decide +kernel)⟩
theorem cqX7_71 (ini : Bool) (ret : Option FieldType) : (∀ w ∈ rW (miX7 ini ret) 71 (.inr (.inr (.inr (.inl (0, yX7_viewOf, cX7_viewOf, 3, (some (.object "GossipWatch$View")), 2, 7))))), w ∈ mT) ∧ rB (miX7 ini ret) 71 (.inr (.inr (.inr (.inl (0, yX7_viewOf, cX7_viewOf, 3, (some (.object "GossipWatch$View")), 2, 7))))) = true := ⟨(List.forall_mem_cons.mpr ⟨wd_174, (List.forall_mem_cons.mpr ⟨wd_175, (List.forall_mem_cons.mpr ⟨wd_178, (List.forall_mem_cons.mpr ⟨wd_176, (List.forall_mem_cons.mpr ⟨wd_177, (fun _ h => absurd h List.not_mem_nil)⟩)⟩)⟩)⟩)⟩), (show rB (miX7 false none) 71 (.inr (.inr (.inr (.inl (0, yX7_viewOf, cX7_viewOf, 3, (some (.object "GossipWatch$View")), 2, 7))))) = true by decide +kernel)⟩
theorem cqX7_75 (ini : Bool) (ret : Option FieldType) : (∀ w ∈ rW (miX7 ini ret) 75 (.inr (.inr (.inr (.inl (0, yX6_isFull, cX6_isFull, 1, (some .boolean), 0, 6))))), w ∈ mT) ∧ rB (miX7 ini ret) 75 (.inr (.inr (.inr (.inl (0, yX6_isFull, cX6_isFull, 1, (some .boolean), 0, 6))))) = true := ⟨(List.forall_mem_cons.mpr ⟨wd_179, (List.forall_mem_cons.mpr ⟨wd_180, (List.forall_mem_cons.mpr ⟨wd_182, (List.forall_mem_cons.mpr ⟨wd_122, (List.forall_mem_cons.mpr ⟨wd_181, (fun _ h => absurd h List.not_mem_nil)⟩)⟩)⟩)⟩)⟩), (show rB (miX7 false none) 75 (.inr (.inr (.inr (.inl (0, yX6_isFull, cX6_isFull, 1, (some .boolean), 0, 6))))) = true by decide +kernel)⟩
theorem cqX7_79 (ini : Bool) (ret : Option FieldType) : (∀ w ∈ rW (miX7 ini ret) 79 (.inr (.inr (.inr (.inl (0, yX6_addLeaf, cX6_addLeaf, 6, none, 2, 6))))), w ∈ mT) ∧ rB (miX7 ini ret) 79 (.inr (.inr (.inr (.inl (0, yX6_addLeaf, cX6_addLeaf, 6, none, 2, 6))))) = true := ⟨(List.forall_mem_cons.mpr ⟨wd_183, (List.forall_mem_cons.mpr ⟨wd_184, (List.forall_mem_cons.mpr ⟨wd_186, (List.forall_mem_cons.mpr ⟨wd_122, (List.forall_mem_cons.mpr ⟨wd_185, (fun _ h => absurd h List.not_mem_nil)⟩)⟩)⟩)⟩)⟩), (show rB (miX7 false none) 79 (.inr (.inr (.inr (.inl (0, yX6_addLeaf, cX6_addLeaf, 6, none, 2, 6))))) = true by decide +kernel)⟩
theorem cqX7_83 (ini : Bool) (ret : Option FieldType) : (∀ w ∈ rW (miX7 ini ret) 83 (.inl (6, 2)), w ∈ mT) ∧ rB (miX7 ini ret) 83 (.inl (6, 2)) = true := ⟨(List.forall_mem_cons.mpr ⟨wd_187, (fun _ h => absurd h List.not_mem_nil)⟩), (show rB (miX7 false none) 83 (.inl (6, 2)) = true by decide +kernel)⟩
theorem cqX7_86 (ini : Bool) (ret : Option FieldType) : (∀ w ∈ rW (miX7 ini ret) 86 (.inr (.inr (.inr (.inl (0, yX7_nextLetter, cX7_nextLetter, 4, (some (.object "GossipWatch$Row")), 2, 7))))), w ∈ mT) ∧ rB (miX7 ini ret) 86 (.inr (.inr (.inr (.inl (0, yX7_nextLetter, cX7_nextLetter, 4, (some (.object "GossipWatch$Row")), 2, 7))))) = true := ⟨(List.forall_mem_cons.mpr ⟨wd_188, (List.forall_mem_cons.mpr ⟨wd_189, (List.forall_mem_cons.mpr ⟨wd_191, (List.forall_mem_cons.mpr ⟨wd_176, (List.forall_mem_cons.mpr ⟨wd_190, (fun _ h => absurd h List.not_mem_nil)⟩)⟩)⟩)⟩)⟩), (show rB (miX7 false none) 86 (.inr (.inr (.inr (.inl (0, yX7_nextLetter, cX7_nextLetter, 4, (some (.object "GossipWatch$Row")), 2, 7))))) = true by decide +kernel)⟩
theorem cqX7_90 (ini : Bool) (ret : Option FieldType) : (∀ w ∈ rW (miX7 ini ret) 90 (.inr (.inr (.inr (.inl (0, yX4_addNumber, cX4_addNumber, 2, none, 1, 4))))), w ∈ mT) ∧ rB (miX7 ini ret) 90 (.inr (.inr (.inr (.inl (0, yX4_addNumber, cX4_addNumber, 2, none, 1, 4))))) = true := ⟨(List.forall_mem_cons.mpr ⟨wd_192, (List.forall_mem_cons.mpr ⟨wd_38, (List.forall_mem_cons.mpr ⟨wd_40, (List.forall_mem_cons.mpr ⟨wd_15, (List.forall_mem_cons.mpr ⟨wd_39, (fun _ h => absurd h List.not_mem_nil)⟩)⟩)⟩)⟩)⟩), (show rB (miX7 false none) 90 (.inr (.inr (.inr (.inl (0, yX4_addNumber, cX4_addNumber, 2, none, 1, 4))))) = true by decide +kernel)⟩
theorem cqX7_93 (ini : Bool) (ret : Option FieldType) : (∀ w ∈ rW (miX7 ini ret) 93 (.inr (.inr (.inr (.inl (0, yX6_rootOf, cX6_rootOf, 9, (some (.object "GossipWatch$Row")), 3, 6))))), w ∈ mT) ∧ rB (miX7 ini ret) 93 (.inr (.inr (.inr (.inl (0, yX6_rootOf, cX6_rootOf, 9, (some (.object "GossipWatch$Row")), 3, 6))))) = true := ⟨(List.forall_mem_cons.mpr ⟨wd_193, (List.forall_mem_cons.mpr ⟨wd_126, (List.forall_mem_cons.mpr ⟨wd_128, (List.forall_mem_cons.mpr ⟨wd_122, (List.forall_mem_cons.mpr ⟨wd_127, (fun _ h => absurd h List.not_mem_nil)⟩)⟩)⟩)⟩)⟩), (show rB (miX7 false none) 93 (.inr (.inr (.inr (.inl (0, yX6_rootOf, cX6_rootOf, 9, (some (.object "GossipWatch$Row")), 3, 6))))) = true by decide +kernel)⟩
theorem cqX7_97 (ini : Bool) (ret : Option FieldType) : (∀ w ∈ rW (miX7 ini ret) 97 (.inr (.inr (.inr (.inl (0, yX4_addPart, cX4_addPart, 4, none, 3, 4))))), w ∈ mT) ∧ rB (miX7 ini ret) 97 (.inr (.inr (.inr (.inl (0, yX4_addPart, cX4_addPart, 4, none, 3, 4))))) = true := ⟨(List.forall_mem_cons.mpr ⟨wd_194, (List.forall_mem_cons.mpr ⟨wd_14, (List.forall_mem_cons.mpr ⟨wd_17, (List.forall_mem_cons.mpr ⟨wd_15, (List.forall_mem_cons.mpr ⟨wd_16, (fun _ h => absurd h List.not_mem_nil)⟩)⟩)⟩)⟩)⟩), (show rB (miX7 false none) 97 (.inr (.inr (.inr (.inl (0, yX4_addPart, cX4_addPart, 4, none, 3, 4))))) = true by decide +kernel)⟩
theorem cqX7_101 (ini : Bool) (ret : Option FieldType) : (∀ w ∈ rW (miX7 ini ret) 101 (.inr (.inr (.inr (.inl (0, yX1_signFor, cX1_signFor, 6, (some (.object "GossipWatch$Row")), 4, 1))))), w ∈ mT) ∧ rB (miX7 ini ret) 101 (.inr (.inr (.inr (.inl (0, yX1_signFor, cX1_signFor, 6, (some (.object "GossipWatch$Row")), 4, 1))))) = true := ⟨(List.forall_mem_cons.mpr ⟨wd_195, (List.forall_mem_cons.mpr ⟨wd_196, (List.forall_mem_cons.mpr ⟨wd_198, (List.forall_mem_cons.mpr ⟨wd_137, (List.forall_mem_cons.mpr ⟨wd_197, (fun _ h => absurd h List.not_mem_nil)⟩)⟩)⟩)⟩)⟩), (show rB (miX7 false none) 101 (.inr (.inr (.inr (.inl (0, yX1_signFor, cX1_signFor, 6, (some (.object "GossipWatch$Row")), 4, 1))))) = true by decide +kernel)⟩
theorem cqX7_105 (ini : Bool) (ret : Option FieldType) : (∀ w ∈ rW (miX7 ini ret) 105 (.inr (.inr (.inr (.inl (0, yX4_empty, cX4_empty, 1, none, 0, 4))))), w ∈ mT) ∧ rB (miX7 ini ret) 105 (.inr (.inr (.inr (.inl (0, yX4_empty, cX4_empty, 1, none, 0, 4))))) = true := ⟨(List.forall_mem_cons.mpr ⟨wd_199, (List.forall_mem_cons.mpr ⟨wd_57, (List.forall_mem_cons.mpr ⟨wd_59, (List.forall_mem_cons.mpr ⟨wd_15, (List.forall_mem_cons.mpr ⟨wd_58, (fun _ h => absurd h List.not_mem_nil)⟩)⟩)⟩)⟩)⟩), (show rB (miX7 false none) 105 (.inr (.inr (.inr (.inl (0, yX4_empty, cX4_empty, 1, none, 0, 4))))) = true by decide +kernel)⟩
theorem cqX7_108 (ini : Bool) (ret : Option FieldType) : (∀ w ∈ rW (miX7 ini ret) 108 (.inr (.inr (.inr (.inl (0, yX6_pushProof, cX6_pushProof, 9, none, 4, 6))))), w ∈ mT) ∧ rB (miX7 ini ret) 108 (.inr (.inr (.inr (.inl (0, yX6_pushProof, cX6_pushProof, 9, none, 4, 6))))) = true := ⟨(List.forall_mem_cons.mpr ⟨wd_200, (List.forall_mem_cons.mpr ⟨wd_201, (List.forall_mem_cons.mpr ⟨wd_203, (List.forall_mem_cons.mpr ⟨wd_122, (List.forall_mem_cons.mpr ⟨wd_202, (fun _ h => absurd h List.not_mem_nil)⟩)⟩)⟩)⟩)⟩), (show rB (miX7 false none) 108 (.inr (.inr (.inr (.inl (0, yX6_pushProof, cX6_pushProof, 9, none, 4, 6))))) = true by decide +kernel)⟩
theorem cqX7_112 (ini : Bool) (ret : Option FieldType) : (∀ w ∈ rW (miX7 ini ret) 112 (.inr (.inr (.inr (.inl (0, yX4_addHashesReversed, cX4_addHashesReversed, 3, none, 1, 4))))), w ∈ mT) ∧ rB (miX7 ini ret) 112 (.inr (.inr (.inr (.inl (0, yX4_addHashesReversed, cX4_addHashesReversed, 3, none, 1, 4))))) = true := ⟨(List.forall_mem_cons.mpr ⟨wd_204, (List.forall_mem_cons.mpr ⟨wd_205, (List.forall_mem_cons.mpr ⟨wd_207, (List.forall_mem_cons.mpr ⟨wd_15, (List.forall_mem_cons.mpr ⟨wd_206, (fun _ h => absurd h List.not_mem_nil)⟩)⟩)⟩)⟩)⟩), (show rB (miX7 false none) 112 (.inr (.inr (.inr (.inl (0, yX4_addHashesReversed, cX4_addHashesReversed, 3, none, 1, 4))))) = true by decide +kernel)⟩
theorem cqX7_116 (ini : Bool) (ret : Option FieldType) : (∀ w ∈ rW (miX7 ini ret) 116 (.inr (.inr (.inr (.inl (0, yX6_leafAt, cX6_leafAt, 2, (some .int), 1, 6))))), w ∈ mT) ∧ rB (miX7 ini ret) 116 (.inr (.inr (.inr (.inl (0, yX6_leafAt, cX6_leafAt, 2, (some .int), 1, 6))))) = true := ⟨(List.forall_mem_cons.mpr ⟨wd_208, (List.forall_mem_cons.mpr ⟨wd_209, (List.forall_mem_cons.mpr ⟨wd_211, (List.forall_mem_cons.mpr ⟨wd_122, (List.forall_mem_cons.mpr ⟨wd_210, (fun _ h => absurd h List.not_mem_nil)⟩)⟩)⟩)⟩)⟩), (show rB (miX7 false none) 116 (.inr (.inr (.inr (.inl (0, yX6_leafAt, cX6_leafAt, 2, (some .int), 1, 6))))) = true by decide +kernel)⟩
theorem cqX7_120 (ini : Bool) (ret : Option FieldType) : (∀ w ∈ rW (miX7 ini ret) 120 (.inr (.inr (.inr (.inl (0, yX6_pushPath, cX6_pushPath, 9, none, 4, 6))))), w ∈ mT) ∧ rB (miX7 ini ret) 120 (.inr (.inr (.inr (.inl (0, yX6_pushPath, cX6_pushPath, 9, none, 4, 6))))) = true := ⟨(List.forall_mem_cons.mpr ⟨wd_212, (List.forall_mem_cons.mpr ⟨wd_213, (List.forall_mem_cons.mpr ⟨wd_215, (List.forall_mem_cons.mpr ⟨wd_122, (List.forall_mem_cons.mpr ⟨wd_214, (fun _ h => absurd h List.not_mem_nil)⟩)⟩)⟩)⟩)⟩), (show rB (miX7 false none) 120 (.inr (.inr (.inr (.inl (0, yX6_pushPath, cX6_pushPath, 9, none, 4, 6))))) = true by decide +kernel)⟩
theorem cqX7_123 (ini : Bool) (ret : Option FieldType) : (∀ w ∈ rW (miX7 ini ret) 123 (.inr (.inr (.inr (.inl (0, yX7_letterOf, cX7_letterOf, 2, (some (.object "GossipWatch$Letter")), 1, 7))))), w ∈ mT) ∧ rB (miX7 ini ret) 123 (.inr (.inr (.inr (.inl (0, yX7_letterOf, cX7_letterOf, 2, (some (.object "GossipWatch$Letter")), 1, 7))))) = true := ⟨(List.forall_mem_cons.mpr ⟨wd_216, (List.forall_mem_cons.mpr ⟨wd_217, (List.forall_mem_cons.mpr ⟨wd_219, (List.forall_mem_cons.mpr ⟨wd_176, (List.forall_mem_cons.mpr ⟨wd_218, (fun _ h => absurd h List.not_mem_nil)⟩)⟩)⟩)⟩)⟩), (show rB (miX7 false none) 123 (.inr (.inr (.inr (.inl (0, yX7_letterOf, cX7_letterOf, 2, (some (.object "GossipWatch$Letter")), 1, 7))))) = true by decide +kernel)⟩
theorem cqX7_127 (ini : Bool) (ret : Option FieldType) : (∀ w ∈ rW (miX7 ini ret) 127 (.inl (2, 0)), w ∈ mT) ∧ rB (miX7 ini ret) 127 (.inl (2, 0)) = true := ⟨(List.forall_mem_cons.mpr ⟨wd_220, (fun _ h => absurd h List.not_mem_nil)⟩), (show rB (miX7 false none) 127 (.inl (2, 0)) = true by decide +kernel)⟩
theorem cqX7_130 (ini : Bool) (ret : Option FieldType) : (∀ w ∈ rW (miX7 ini ret) 130 (.inr (.inr (.inr (.inl (0, yX4_has, cX4_has, 2, (some .boolean), 1, 4))))), w ∈ mT) ∧ rB (miX7 ini ret) 130 (.inr (.inr (.inr (.inl (0, yX4_has, cX4_has, 2, (some .boolean), 1, 4))))) = true := ⟨(List.forall_mem_cons.mpr ⟨wd_221, (List.forall_mem_cons.mpr ⟨wd_222, (List.forall_mem_cons.mpr ⟨wd_224, (List.forall_mem_cons.mpr ⟨wd_15, (List.forall_mem_cons.mpr ⟨wd_223, (fun _ h => absurd h List.not_mem_nil)⟩)⟩)⟩)⟩)⟩), (show rB (miX7 false none) 130 (.inr (.inr (.inr (.inl (0, yX4_has, cX4_has, 2, (some .boolean), 1, 4))))) = true by decide +kernel)⟩
theorem cqX7_134 (ini : Bool) (ret : Option FieldType) : (∀ w ∈ rW (miX7 ini ret) 134 (.inr (.inr (.inr (.inl (0, yX4_at, cX4_at, 2, (some .int), 1, 4))))), w ∈ mT) ∧ rB (miX7 ini ret) 134 (.inr (.inr (.inr (.inl (0, yX4_at, cX4_at, 2, (some .int), 1, 4))))) = true := ⟨(List.forall_mem_cons.mpr ⟨wd_225, (List.forall_mem_cons.mpr ⟨wd_19, (List.forall_mem_cons.mpr ⟨wd_21, (List.forall_mem_cons.mpr ⟨wd_15, (List.forall_mem_cons.mpr ⟨wd_20, (fun _ h => absurd h List.not_mem_nil)⟩)⟩)⟩)⟩)⟩), (show rB (miX7 false none) 134 (.inr (.inr (.inr (.inl (0, yX4_at, cX4_at, 2, (some .int), 1, 4))))) = true by decide +kernel)⟩
theorem cqX7_137 (ini : Bool) (ret : Option FieldType) : (∀ w ∈ rW (miX7 ini ret) 137 (.inr (.inr (.inr (.inl (0, yX4_put, cX4_put, 3, none, 2, 4))))), w ∈ mT) ∧ rB (miX7 ini ret) 137 (.inr (.inr (.inr (.inl (0, yX4_put, cX4_put, 3, none, 2, 4))))) = true := ⟨(List.forall_mem_cons.mpr ⟨wd_226, (List.forall_mem_cons.mpr ⟨wd_227, (List.forall_mem_cons.mpr ⟨wd_229, (List.forall_mem_cons.mpr ⟨wd_15, (List.forall_mem_cons.mpr ⟨wd_228, (fun _ h => absurd h List.not_mem_nil)⟩)⟩)⟩)⟩)⟩), (show rB (miX7 false none) 137 (.inr (.inr (.inr (.inl (0, yX4_put, cX4_put, 3, none, 2, 4))))) = true by decide +kernel)⟩
theorem cqX7_141 (ini : Bool) (ret : Option FieldType) : (∀ w ∈ rW (miX7 ini ret) 141 (.inr (.inr (.inr (.inl (0, yX2_hashCount, cX2_hashCount, 1, (some .int), 0, 2))))), w ∈ mT) ∧ rB (miX7 ini ret) 141 (.inr (.inr (.inr (.inl (0, yX2_hashCount, cX2_hashCount, 1, (some .int), 0, 2))))) = true := ⟨(List.forall_mem_cons.mpr ⟨wd_230, (List.forall_mem_cons.mpr ⟨wd_231, (List.forall_mem_cons.mpr ⟨wd_233, (List.forall_mem_cons.mpr ⟨wd_158, (List.forall_mem_cons.mpr ⟨wd_232, (fun _ h => absurd h List.not_mem_nil)⟩)⟩)⟩)⟩)⟩), (show rB (miX7 false none) 141 (.inr (.inr (.inr (.inl (0, yX2_hashCount, cX2_hashCount, 1, (some .int), 0, 2))))) = true by decide +kernel)⟩
theorem cqX7_145 (ini : Bool) (ret : Option FieldType) : (∀ w ∈ rW (miX7 ini ret) 145 (.inl (4, 1)), w ∈ mT) ∧ rB (miX7 ini ret) 145 (.inl (4, 1)) = true := ⟨(List.forall_mem_cons.mpr ⟨wd_234, (fun _ h => absurd h List.not_mem_nil)⟩), (show rB (miX7 false none) 145 (.inl (4, 1)) = true by decide +kernel)⟩
theorem cqX7_148 (ini : Bool) (ret : Option FieldType) : (∀ w ∈ rW (miX7 ini ret) 148 (.inr (.inr (.inr (.inl (0, yX4_resize, cX4_resize, 3, none, 1, 4))))), w ∈ mT) ∧ rB (miX7 ini ret) 148 (.inr (.inr (.inr (.inl (0, yX4_resize, cX4_resize, 3, none, 1, 4))))) = true := ⟨(List.forall_mem_cons.mpr ⟨wd_235, (List.forall_mem_cons.mpr ⟨wd_236, (List.forall_mem_cons.mpr ⟨wd_238, (List.forall_mem_cons.mpr ⟨wd_15, (List.forall_mem_cons.mpr ⟨wd_237, (fun _ h => absurd h List.not_mem_nil)⟩)⟩)⟩)⟩)⟩), (show rB (miX7 false none) 148 (.inr (.inr (.inr (.inl (0, yX4_resize, cX4_resize, 3, none, 1, 4))))) = true by decide +kernel)⟩
theorem cqX7_151 (ini : Bool) (ret : Option FieldType) : (∀ w ∈ rW (miX7 ini ret) 151 (.inl (2, 1)), w ∈ mT) ∧ rB (miX7 ini ret) 151 (.inl (2, 1)) = true := ⟨(List.forall_mem_cons.mpr ⟨wd_239, (fun _ h => absurd h List.not_mem_nil)⟩), (show rB (miX7 false none) 151 (.inl (2, 1)) = true by decide +kernel)⟩
theorem cqX7_154 (ini : Bool) (ret : Option FieldType) : (∀ w ∈ rW (miX7 ini ret) 154 (.inr (.inr (.inr (.inl (0, yX7_monitorOf, cX7_monitorOf, 2, (some (.object "GossipWatch$Monitor")), 1, 7))))), w ∈ mT) ∧ rB (miX7 ini ret) 154 (.inr (.inr (.inr (.inl (0, yX7_monitorOf, cX7_monitorOf, 2, (some (.object "GossipWatch$Monitor")), 1, 7))))) = true := ⟨(List.forall_mem_cons.mpr ⟨wd_240, (List.forall_mem_cons.mpr ⟨wd_241, (List.forall_mem_cons.mpr ⟨wd_243, (List.forall_mem_cons.mpr ⟨wd_176, (List.forall_mem_cons.mpr ⟨wd_242, (fun _ h => absurd h List.not_mem_nil)⟩)⟩)⟩)⟩)⟩), (show rB (miX7 false none) 154 (.inr (.inr (.inr (.inl (0, yX7_monitorOf, cX7_monitorOf, 2, (some (.object "GossipWatch$Monitor")), 1, 7))))) = true by decide +kernel)⟩
theorem cqX7_158 (ini : Bool) (ret : Option FieldType) : (∀ w ∈ rW (miX7 ini ret) 158 (.inr (.inr (.inr (.inl (0, yX1_haveSigned, cX1_haveSigned, 7, (some .boolean), 4, 1))))), w ∈ mT) ∧ rB (miX7 ini ret) 158 (.inr (.inr (.inr (.inl (0, yX1_haveSigned, cX1_haveSigned, 7, (some .boolean), 4, 1))))) = true := ⟨(List.forall_mem_cons.mpr ⟨wd_244, (List.forall_mem_cons.mpr ⟨wd_245, (List.forall_mem_cons.mpr ⟨wd_247, (List.forall_mem_cons.mpr ⟨wd_137, (List.forall_mem_cons.mpr ⟨wd_246, (fun _ h => absurd h List.not_mem_nil)⟩)⟩)⟩)⟩)⟩), (show rB (miX7 false none) 158 (.inr (.inr (.inr (.inl (0, yX1_haveSigned, cX1_haveSigned, 7, (some .boolean), 4, 1))))) = true by decide +kernel)⟩
theorem cqX7_162 (ini : Bool) (ret : Option FieldType) : (∀ w ∈ rW (miX7 ini ret) 162 (.inr (.inr (.inr (.inl (0, yX3_takeHead, cX3_takeHead, 3, (some .int), 1, 3))))), w ∈ mT) ∧ rB (miX7 ini ret) 162 (.inr (.inr (.inr (.inl (0, yX3_takeHead, cX3_takeHead, 3, (some .int), 1, 3))))) = true := ⟨(List.forall_mem_cons.mpr ⟨wd_248, (List.forall_mem_cons.mpr ⟨wd_249, (List.forall_mem_cons.mpr ⟨wd_251, (List.forall_mem_cons.mpr ⟨wd_164, (List.forall_mem_cons.mpr ⟨wd_250, (fun _ h => absurd h List.not_mem_nil)⟩)⟩)⟩)⟩)⟩), (show rB (miX7 false none) 162 (.inr (.inr (.inr (.inl (0, yX3_takeHead, cX3_takeHead, 3, (some .int), 1, 3))))) = true by decide +kernel)⟩
theorem cqX7_166 (ini : Bool) (ret : Option FieldType) : (∀ w ∈ rW (miX7 ini ret) 166 (.inr (.inr (.inr (.inl (0, yX3_noted, cX3_noted, 2, (some .int), 1, 3))))), w ∈ mT) ∧ rB (miX7 ini ret) 166 (.inr (.inr (.inr (.inl (0, yX3_noted, cX3_noted, 2, (some .int), 1, 3))))) = true := ⟨(List.forall_mem_cons.mpr ⟨wd_252, (List.forall_mem_cons.mpr ⟨wd_253, (List.forall_mem_cons.mpr ⟨wd_255, (List.forall_mem_cons.mpr ⟨wd_164, (List.forall_mem_cons.mpr ⟨wd_254, (fun _ h => absurd h List.not_mem_nil)⟩)⟩)⟩)⟩)⟩), (show rB (miX7 false none) 166 (.inr (.inr (.inr (.inl (0, yX3_noted, cX3_noted, 2, (some .int), 1, 3))))) = true by decide +kernel)⟩
theorem cqX7_169 (ini : Bool) (ret : Option FieldType) : (∀ w ∈ rW (miX7 ini ret) 169 (.inr (.inr (.inr (.inl (0, yX4_number, cX4_number, 2, (some .int), 1, 4))))), w ∈ mT) ∧ rB (miX7 ini ret) 169 (.inr (.inr (.inr (.inl (0, yX4_number, cX4_number, 2, (some .int), 1, 4))))) = true := ⟨(List.forall_mem_cons.mpr ⟨wd_256, (List.forall_mem_cons.mpr ⟨wd_44, (List.forall_mem_cons.mpr ⟨wd_46, (List.forall_mem_cons.mpr ⟨wd_15, (List.forall_mem_cons.mpr ⟨wd_45, (fun _ h => absurd h List.not_mem_nil)⟩)⟩)⟩)⟩)⟩), (show rB (miX7 false none) 169 (.inr (.inr (.inr (.inl (0, yX4_number, cX4_number, 2, (some .int), 1, 4))))) = true by decide +kernel)⟩
theorem cqX7_172 (ini : Bool) (ret : Option FieldType) : (∀ w ∈ rW (miX7 ini ret) 172 (.inr (.inr (.inr (.inl (0, yX0_ofProof, cX0_ofProof, 11, (some (.object "GossipWatch$Row")), 5, 0))))), w ∈ mT) ∧ rB (miX7 ini ret) 172 (.inr (.inr (.inr (.inl (0, yX0_ofProof, cX0_ofProof, 11, (some (.object "GossipWatch$Row")), 5, 0))))) = true := ⟨(List.forall_mem_cons.mpr ⟨wd_257, (List.forall_mem_cons.mpr ⟨wd_258, (List.forall_mem_cons.mpr ⟨wd_260, (List.forall_mem_cons.mpr ⟨wd_84, (List.forall_mem_cons.mpr ⟨wd_259, (fun _ h => absurd h List.not_mem_nil)⟩)⟩)⟩)⟩)⟩), (show rB (miX7 false none) 172 (.inr (.inr (.inr (.inl (0, yX0_ofProof, cX0_ofProof, 11, (some (.object "GossipWatch$Row")), 5, 0))))) = true by decide +kernel)⟩
theorem cqX7_176 (ini : Bool) (ret : Option FieldType) : (∀ w ∈ rW (miX7 ini ret) 176 (.inr (.inr (.inr (.inl (0, yX3_takeProof, cX3_takeProof, 5, (some .int), 2, 3))))), w ∈ mT) ∧ rB (miX7 ini ret) 176 (.inr (.inr (.inr (.inl (0, yX3_takeProof, cX3_takeProof, 5, (some .int), 2, 3))))) = true := ⟨(List.forall_mem_cons.mpr ⟨wd_261, (List.forall_mem_cons.mpr ⟨wd_262, (List.forall_mem_cons.mpr ⟨wd_264, (List.forall_mem_cons.mpr ⟨wd_164, (List.forall_mem_cons.mpr ⟨wd_263, (fun _ h => absurd h List.not_mem_nil)⟩)⟩)⟩)⟩)⟩), (show rB (miX7 false none) 176 (.inr (.inr (.inr (.inl (0, yX3_takeProof, cX3_takeProof, 5, (some .int), 2, 3))))) = true by decide +kernel)⟩
theorem cqX7_180 (ini : Bool) (ret : Option FieldType) : (∀ w ∈ rW (miX7 ini ret) 180 (.inr (.inr (.inr (.inl (0, yX0_ofPath, cX0_ofPath, 5, (some (.object "GossipWatch$Row")), 2, 0))))), w ∈ mT) ∧ rB (miX7 ini ret) 180 (.inr (.inr (.inr (.inl (0, yX0_ofPath, cX0_ofPath, 5, (some (.object "GossipWatch$Row")), 2, 0))))) = true := ⟨(List.forall_mem_cons.mpr ⟨wd_265, (List.forall_mem_cons.mpr ⟨wd_266, (List.forall_mem_cons.mpr ⟨wd_268, (List.forall_mem_cons.mpr ⟨wd_84, (List.forall_mem_cons.mpr ⟨wd_267, (fun _ h => absurd h List.not_mem_nil)⟩)⟩)⟩)⟩)⟩), (show rB (miX7 false none) 180 (.inr (.inr (.inr (.inl (0, yX0_ofPath, cX0_ofPath, 5, (some (.object "GossipWatch$Row")), 2, 0))))) = true by decide +kernel)⟩
theorem cqX7_184 (ini : Bool) (ret : Option FieldType) : (∀ w ∈ rW (miX7 ini ret) 184 (.inr (.inr (.inr (.inl (0, yX3_countAccepting, cX3_countAccepting, 5, (some .int), 2, 3))))), w ∈ mT) ∧ rB (miX7 ini ret) 184 (.inr (.inr (.inr (.inl (0, yX3_countAccepting, cX3_countAccepting, 5, (some .int), 2, 3))))) = true := ⟨(List.forall_mem_cons.mpr ⟨wd_269, (List.forall_mem_cons.mpr ⟨wd_270, (List.forall_mem_cons.mpr ⟨wd_272, (List.forall_mem_cons.mpr ⟨wd_164, (List.forall_mem_cons.mpr ⟨wd_271, (fun _ h => absurd h List.not_mem_nil)⟩)⟩)⟩)⟩)⟩), (show rB (miX7 false none) 184 (.inr (.inr (.inr (.inl (0, yX3_countAccepting, cX3_countAccepting, 5, (some .int), 2, 3))))) = true by decide +kernel)⟩
theorem cqX7_187 (ini : Bool) (ret : Option FieldType) : (∀ w ∈ rW (miX7 ini ret) 187 (.inl (3, 4)), w ∈ mT) ∧ rB (miX7 ini ret) 187 (.inl (3, 4)) = true := ⟨(List.forall_mem_cons.mpr ⟨wd_273, (fun _ h => absurd h List.not_mem_nil)⟩), (show rB (miX7 false none) 187 (.inl (3, 4)) = true by decide +kernel)⟩
theorem cqX7_190 (ini : Bool) (ret : Option FieldType) : (∀ w ∈ rW (miX7 ini ret) 190 (.inl (3, 0)), w ∈ mT) ∧ rB (miX7 ini ret) 190 (.inl (3, 0)) = true := ⟨(List.forall_mem_cons.mpr ⟨wd_274, (fun _ h => absurd h List.not_mem_nil)⟩), (show rB (miX7 false none) 190 (.inl (3, 0)) = true by decide +kernel)⟩
theorem cqX7_194 (ini : Bool) (ret : Option FieldType) : (∀ w ∈ rW (miX7 ini ret) 194 (.inr (.inr (.inr (.inl (0, yX3_countOf, cX3_countOf, 2, (some .int), 1, 3))))), w ∈ mT) ∧ rB (miX7 ini ret) 194 (.inr (.inr (.inr (.inl (0, yX3_countOf, cX3_countOf, 2, (some .int), 1, 3))))) = true := ⟨(List.forall_mem_cons.mpr ⟨wd_275, (List.forall_mem_cons.mpr ⟨wd_276, (List.forall_mem_cons.mpr ⟨wd_278, (List.forall_mem_cons.mpr ⟨wd_164, (List.forall_mem_cons.mpr ⟨wd_277, (fun _ h => absurd h List.not_mem_nil)⟩)⟩)⟩)⟩)⟩), (show rB (miX7 false none) 194 (.inr (.inr (.inr (.inl (0, yX3_countOf, cX3_countOf, 2, (some .int), 1, 3))))) = true by decide +kernel)⟩
theorem cqX7_197 (ini : Bool) (ret : Option FieldType) : (∀ w ∈ rW (miX7 ini ret) 197 (.inr (.inr (.inr (.inl (0, yX3_hasHead, cX3_hasHead, 2, (some .boolean), 1, 3))))), w ∈ mT) ∧ rB (miX7 ini ret) 197 (.inr (.inr (.inr (.inl (0, yX3_hasHead, cX3_hasHead, 2, (some .boolean), 1, 3))))) = true := ⟨(List.forall_mem_cons.mpr ⟨wd_279, (List.forall_mem_cons.mpr ⟨wd_280, (List.forall_mem_cons.mpr ⟨wd_282, (List.forall_mem_cons.mpr ⟨wd_164, (List.forall_mem_cons.mpr ⟨wd_281, (fun _ h => absurd h List.not_mem_nil)⟩)⟩)⟩)⟩)⟩), (show rB (miX7 false none) 197 (.inr (.inr (.inr (.inl (0, yX3_hasHead, cX3_hasHead, 2, (some .boolean), 1, 3))))) = true by decide +kernel)⟩
theorem cqX7_200 (ini : Bool) (ret : Option FieldType) : (∀ w ∈ rW (miX7 ini ret) 200 (.inr (.inr (.inr (.inl (0, yX3_ofFact, cX3_ofFact, 3, (some .int), 2, 3))))), w ∈ mT) ∧ rB (miX7 ini ret) 200 (.inr (.inr (.inr (.inl (0, yX3_ofFact, cX3_ofFact, 3, (some .int), 2, 3))))) = true := ⟨(List.forall_mem_cons.mpr ⟨wd_283, (List.forall_mem_cons.mpr ⟨wd_284, (List.forall_mem_cons.mpr ⟨wd_286, (List.forall_mem_cons.mpr ⟨wd_164, (List.forall_mem_cons.mpr ⟨wd_285, (fun _ h => absurd h List.not_mem_nil)⟩)⟩)⟩)⟩)⟩), (show rB (miX7 false none) 200 (.inr (.inr (.inr (.inl (0, yX3_ofFact, cX3_ofFact, 3, (some .int), 2, 3))))) = true by decide +kernel)⟩
theorem cqX7_204 (ini : Bool) (ret : Option FieldType) : (∀ w ∈ rW (miX7 ini ret) 204 (.inr (.inr (.inr (.inl (0, yX3_ofRecord, cX3_ofRecord, 3, (some .int), 2, 3))))), w ∈ mT) ∧ rB (miX7 ini ret) 204 (.inr (.inr (.inr (.inl (0, yX3_ofRecord, cX3_ofRecord, 3, (some .int), 2, 3))))) = true := ⟨(List.forall_mem_cons.mpr ⟨wd_287, (List.forall_mem_cons.mpr ⟨wd_288, (List.forall_mem_cons.mpr ⟨wd_290, (List.forall_mem_cons.mpr ⟨wd_164, (List.forall_mem_cons.mpr ⟨wd_289, (fun _ h => absurd h List.not_mem_nil)⟩)⟩)⟩)⟩)⟩), (show rB (miX7 false none) 204 (.inr (.inr (.inr (.inl (0, yX3_ofRecord, cX3_ofRecord, 3, (some .int), 2, 3))))) = true by decide +kernel)⟩
theorem cqX7_207 (ini : Bool) (ret : Option FieldType) : (∀ w ∈ rW (miX7 ini ret) 207 (.inr (.inr (.inr (.inl (0, yX3_hasRecord, cX3_hasRecord, 2, (some .boolean), 1, 3))))), w ∈ mT) ∧ rB (miX7 ini ret) 207 (.inr (.inr (.inr (.inl (0, yX3_hasRecord, cX3_hasRecord, 2, (some .boolean), 1, 3))))) = true := ⟨(List.forall_mem_cons.mpr ⟨wd_291, (List.forall_mem_cons.mpr ⟨wd_292, (List.forall_mem_cons.mpr ⟨wd_294, (List.forall_mem_cons.mpr ⟨wd_164, (List.forall_mem_cons.mpr ⟨wd_293, (fun _ h => absurd h List.not_mem_nil)⟩)⟩)⟩)⟩)⟩), (show rB (miX7 false none) 207 (.inr (.inr (.inr (.inl (0, yX3_hasRecord, cX3_hasRecord, 2, (some .boolean), 1, 3))))) = true by decide +kernel)⟩
theorem cqX7_210 (ini : Bool) (ret : Option FieldType) : (∀ w ∈ rW (miX7 ini ret) 210 (.inr (.inr (.inr (.inl (0, yX3_writeRecord, cX3_writeRecord, 6, none, 2, 3))))), w ∈ mT) ∧ rB (miX7 ini ret) 210 (.inr (.inr (.inr (.inl (0, yX3_writeRecord, cX3_writeRecord, 6, none, 2, 3))))) = true := ⟨(List.forall_mem_cons.mpr ⟨wd_295, (List.forall_mem_cons.mpr ⟨wd_296, (List.forall_mem_cons.mpr ⟨wd_298, (List.forall_mem_cons.mpr ⟨wd_164, (List.forall_mem_cons.mpr ⟨wd_297, (fun _ h => absurd h List.not_mem_nil)⟩)⟩)⟩)⟩)⟩), (show rB (miX7 false none) 210 (.inr (.inr (.inr (.inl (0, yX3_writeRecord, cX3_writeRecord, 6, none, 2, 3))))) = true by decide +kernel)⟩
theorem cqX7_214 (ini : Bool) (ret : Option FieldType) : (∀ w ∈ rW (miX7 ini ret) 214 (.inr (.inr (.inr (.inl (0, yX7_bothAreSigned, cX7_bothAreSigned, 1, (some .boolean), 0, 7))))), w ∈ mT) ∧ rB (miX7 ini ret) 214 (.inr (.inr (.inr (.inl (0, yX7_bothAreSigned, cX7_bothAreSigned, 1, (some .boolean), 0, 7))))) = true := ⟨(List.forall_mem_cons.mpr ⟨wd_299, (List.forall_mem_cons.mpr ⟨wd_300, (List.forall_mem_cons.mpr ⟨wd_302, (List.forall_mem_cons.mpr ⟨wd_176, (List.forall_mem_cons.mpr ⟨wd_301, (fun _ h => absurd h List.not_mem_nil)⟩)⟩)⟩)⟩)⟩), (show rB (miX7 false none) 214 (.inr (.inr (.inr (.inl (0, yX7_bothAreSigned, cX7_bothAreSigned, 1, (some .boolean), 0, 7))))) = true by decide +kernel)⟩
theorem cqX7_217 (ini : Bool) (ret : Option FieldType) : (∀ w ∈ rW (miX7 ini ret) 217 (.inr (.inr (.inr (.inl (0, yX7_isFork, cX7_isFork, 1, (some .boolean), 0, 7))))), w ∈ mT) ∧ rB (miX7 ini ret) 217 (.inr (.inr (.inr (.inl (0, yX7_isFork, cX7_isFork, 1, (some .boolean), 0, 7))))) = true := ⟨(List.forall_mem_cons.mpr ⟨wd_303, (List.forall_mem_cons.mpr ⟨wd_304, (List.forall_mem_cons.mpr ⟨wd_306, (List.forall_mem_cons.mpr ⟨wd_176, (List.forall_mem_cons.mpr ⟨wd_305, (fun _ h => absurd h List.not_mem_nil)⟩)⟩)⟩)⟩)⟩), (show rB (miX7 false none) 217 (.inr (.inr (.inr (.inl (0, yX7_isFork, cX7_isFork, 1, (some .boolean), 0, 7))))) = true by decide +kernel)⟩
theorem cqX7_220 (ini : Bool) (ret : Option FieldType) : (∀ w ∈ rW (miX7 ini ret) 220 (.inr (.inr (.inr (.inl (0, yX7_endsWithWholeHashes, cX7_endsWithWholeHashes, 1, (some .boolean), 0, 7))))), w ∈ mT) ∧ rB (miX7 ini ret) 220 (.inr (.inr (.inr (.inl (0, yX7_endsWithWholeHashes, cX7_endsWithWholeHashes, 1, (some .boolean), 0, 7))))) = true := ⟨(List.forall_mem_cons.mpr ⟨wd_307, (List.forall_mem_cons.mpr ⟨wd_308, (List.forall_mem_cons.mpr ⟨wd_310, (List.forall_mem_cons.mpr ⟨wd_176, (List.forall_mem_cons.mpr ⟨wd_309, (fun _ h => absurd h List.not_mem_nil)⟩)⟩)⟩)⟩)⟩), (show rB (miX7 false none) 220 (.inr (.inr (.inr (.inl (0, yX7_endsWithWholeHashes, cX7_endsWithWholeHashes, 1, (some .boolean), 0, 7))))) = true by decide +kernel)⟩
theorem cqX7_223 (ini : Bool) (ret : Option FieldType) : (∀ w ∈ rW (miX7 ini ret) 223 (.inr (.inr (.inr (.inl (0, yX7_isBreach, cX7_isBreach, 4, (some .boolean), 0, 7))))), w ∈ mT) ∧ rB (miX7 ini ret) 223 (.inr (.inr (.inr (.inl (0, yX7_isBreach, cX7_isBreach, 4, (some .boolean), 0, 7))))) = true := ⟨(List.forall_mem_cons.mpr ⟨wd_311, (List.forall_mem_cons.mpr ⟨wd_312, (List.forall_mem_cons.mpr ⟨wd_314, (List.forall_mem_cons.mpr ⟨wd_176, (List.forall_mem_cons.mpr ⟨wd_313, (fun _ h => absurd h List.not_mem_nil)⟩)⟩)⟩)⟩)⟩), (show rB (miX7 false none) 223 (.inr (.inr (.inr (.inl (0, yX7_isBreach, cX7_isBreach, 4, (some .boolean), 0, 7))))) = true by decide +kernel)⟩
theorem cqX7_226 (ini : Bool) (ret : Option FieldType) : (∀ w ∈ rW (miX7 ini ret) 226 (.inl (5, 0)), w ∈ mT) ∧ rB (miX7 ini ret) 226 (.inl (5, 0)) = true := ⟨(List.forall_mem_cons.mpr ⟨wd_315, (fun _ h => absurd h List.not_mem_nil)⟩), (show rB (miX7 false none) 226 (.inl (5, 0)) = true by decide +kernel)⟩
theorem cqX7_229 (ini : Bool) (ret : Option FieldType) : (∀ w ∈ rW (miX7 ini ret) 229 (.inr (.inr (.inr (.inl (0, yX4_become, cX4_become, 2, none, 1, 4))))), w ∈ mT) ∧ rB (miX7 ini ret) 229 (.inr (.inr (.inr (.inl (0, yX4_become, cX4_become, 2, none, 1, 4))))) = true := ⟨(List.forall_mem_cons.mpr ⟨wd_316, (List.forall_mem_cons.mpr ⟨wd_98, (List.forall_mem_cons.mpr ⟨wd_100, (List.forall_mem_cons.mpr ⟨wd_15, (List.forall_mem_cons.mpr ⟨wd_99, (fun _ h => absurd h List.not_mem_nil)⟩)⟩)⟩)⟩)⟩), (show rB (miX7 false none) 229 (.inr (.inr (.inr (.inl (0, yX4_become, cX4_become, 2, none, 1, 4))))) = true by decide +kernel)⟩
theorem cqX7_232 (ini : Bool) (ret : Option FieldType) : (∀ w ∈ rW (miX7 ini ret) 232 (.inr (.inr (.inr (.inl (0, yX5_finish, cX5_finish, 4, (some (.object "GossipWatch$Row")), 0, 5))))), w ∈ mT) ∧ rB (miX7 ini ret) 232 (.inr (.inr (.inr (.inl (0, yX5_finish, cX5_finish, 4, (some (.object "GossipWatch$Row")), 0, 5))))) = true := ⟨(List.forall_mem_cons.mpr ⟨wd_317, (List.forall_mem_cons.mpr ⟨wd_62, (List.forall_mem_cons.mpr ⟨wd_64, (List.forall_mem_cons.mpr ⟨wd_49, (List.forall_mem_cons.mpr ⟨wd_63, (fun _ h => absurd h List.not_mem_nil)⟩)⟩)⟩)⟩)⟩), (show rB (miX7 false none) 232 (.inr (.inr (.inr (.inl (0, yX5_finish, cX5_finish, 4, (some (.object "GossipWatch$Row")), 0, 5))))) = true by decide +kernel)⟩
theorem cqX7_236 (ini : Bool) (ret : Option FieldType) : (∀ w ∈ rW (miX7 ini ret) 236 (.inr (.inr (.inr (.inl (0, yX4_add, cX4_add, 2, none, 1, 4))))), w ∈ mT) ∧ rB (miX7 ini ret) 236 (.inr (.inr (.inr (.inl (0, yX4_add, cX4_add, 2, none, 1, 4))))) = true := ⟨(List.forall_mem_cons.mpr ⟨wd_318, (List.forall_mem_cons.mpr ⟨wd_34, (List.forall_mem_cons.mpr ⟨wd_36, (List.forall_mem_cons.mpr ⟨wd_15, (List.forall_mem_cons.mpr ⟨wd_35, (fun _ h => absurd h List.not_mem_nil)⟩)⟩)⟩)⟩)⟩), (show rB (miX7 false none) 236 (.inr (.inr (.inr (.inl (0, yX4_add, cX4_add, 2, none, 1, 4))))) = true by decide +kernel)⟩
theorem cqX7_239 (ini : Bool) (ret : Option FieldType) : (∀ w ∈ rW (miX7 ini ret) 239 (.inr (.inr (.inr (.inl (0, yX4_sameAs, cX4_sameAs, 6, (some .boolean), 4, 4))))), w ∈ mT) ∧ rB (miX7 ini ret) 239 (.inr (.inr (.inr (.inl (0, yX4_sameAs, cX4_sameAs, 6, (some .boolean), 4, 4))))) = true := ⟨(List.forall_mem_cons.mpr ⟨wd_319, (List.forall_mem_cons.mpr ⟨wd_88, (List.forall_mem_cons.mpr ⟨wd_90, (List.forall_mem_cons.mpr ⟨wd_15, (List.forall_mem_cons.mpr ⟨wd_89, (fun _ h => absurd h List.not_mem_nil)⟩)⟩)⟩)⟩)⟩), (show rB (miX7 false none) 239 (.inr (.inr (.inr (.inl (0, yX4_sameAs, cX4_sameAs, 6, (some .boolean), 4, 4))))) = true by decide +kernel)⟩
theorem ckX7 (ini : Bool) (ret : Option FieldType) : cpOK (miX7 ini ret) := (show tAll (fun i r => (∀ w ∈ rW (miX7 ini ret) i r, w ∈ mT) ∧ rB (miX7 ini ret) i r = true) cpX7 from (nd_all (nd_all (nd_all (nd_all (nd_all (nd_all (lf_all (cqX7_3 ini ret)) (lf_all (cqX7_9 ini ret))) (nd_all (lf_all (cqX7_11 ini ret)) (lf_all (cqX7_12 ini ret)))) (nd_all (nd_all (lf_all (cqX7_16 ini ret)) (lf_all (cqX7_18 ini ret))) (nd_all (lf_all (cqX7_19 ini ret)) (nd_all (lf_all (cqX7_23 ini ret)) (lf_all (cqX7_27 ini ret)))))) (nd_all (nd_all (nd_all (lf_all (cqX7_29 ini ret)) (lf_all (cqX7_30 ini ret))) (nd_all (lf_all (cqX7_34 ini ret)) (lf_all (cqX7_36 ini ret)))) (nd_all (nd_all (lf_all (cqX7_40 ini ret)) (lf_all (cqX7_41 ini ret))) (nd_all (lf_all (cqX7_43 ini ret)) (nd_all (lf_all (cqX7_47 ini ret)) (lf_all (cqX7_48 ini ret))))))) (nd_all (nd_all (nd_all (nd_all (lf_all (cqX7_50 ini ret)) (lf_all (cqX7_54 ini ret))) (nd_all (lf_all (cqX7_55 ini ret)) (lf_all (cqX7_57 ini ret)))) (nd_all (nd_all (lf_all (cqX7_60 ini ret)) (lf_all (cqX7_64 ini ret))) (nd_all (lf_all (cqX7_67 ini ret)) (nd_all (lf_all (cqX7_71 ini ret)) (lf_all (cqX7_75 ini ret)))))) (nd_all (nd_all (nd_all (lf_all (cqX7_79 ini ret)) (lf_all (cqX7_83 ini ret))) (nd_all (lf_all (cqX7_86 ini ret)) (nd_all (lf_all (cqX7_90 ini ret)) (lf_all (cqX7_93 ini ret))))) (nd_all (nd_all (lf_all (cqX7_97 ini ret)) (lf_all (cqX7_101 ini ret))) (nd_all (lf_all (cqX7_105 ini ret)) (nd_all (lf_all (cqX7_108 ini ret)) (lf_all (cqX7_112 ini ret)))))))) (nd_all (nd_all (nd_all (nd_all (nd_all (lf_all (cqX7_116 ini ret)) (lf_all (cqX7_120 ini ret))) (nd_all (lf_all (cqX7_123 ini ret)) (lf_all (cqX7_127 ini ret)))) (nd_all (nd_all (lf_all (cqX7_130 ini ret)) (lf_all (cqX7_134 ini ret))) (nd_all (lf_all (cqX7_137 ini ret)) (nd_all (lf_all (cqX7_141 ini ret)) (lf_all (cqX7_145 ini ret)))))) (nd_all (nd_all (nd_all (lf_all (cqX7_148 ini ret)) (lf_all (cqX7_151 ini ret))) (nd_all (lf_all (cqX7_154 ini ret)) (lf_all (cqX7_158 ini ret)))) (nd_all (nd_all (lf_all (cqX7_162 ini ret)) (lf_all (cqX7_166 ini ret))) (nd_all (lf_all (cqX7_169 ini ret)) (nd_all (lf_all (cqX7_172 ini ret)) (lf_all (cqX7_176 ini ret))))))) (nd_all (nd_all (nd_all (nd_all (lf_all (cqX7_180 ini ret)) (lf_all (cqX7_184 ini ret))) (nd_all (lf_all (cqX7_187 ini ret)) (lf_all (cqX7_190 ini ret)))) (nd_all (nd_all (lf_all (cqX7_194 ini ret)) (lf_all (cqX7_197 ini ret))) (nd_all (lf_all (cqX7_200 ini ret)) (nd_all (lf_all (cqX7_204 ini ret)) (lf_all (cqX7_207 ini ret)))))) (nd_all (nd_all (nd_all (lf_all (cqX7_210 ini ret)) (lf_all (cqX7_214 ini ret))) (nd_all (lf_all (cqX7_217 ini ret)) (nd_all (lf_all (cqX7_220 ini ret)) (lf_all (cqX7_223 ini ret))))) (nd_all (nd_all (lf_all (cqX7_226 ini ret)) (lf_all (cqX7_229 ini ret))) (nd_all (lf_all (cqX7_232 ini ret)) (nd_all (lf_all (cqX7_236 ini ret)) (lf_all (cqX7_239 ini ret))))))))))
def cpX3 : Nat → Option mRf := (nd 59 (nd 32 (nd 17 (nd 11 (lf 3 (.inr (.inr (.inr (.inl (4, objectInit, ByteArray.empty, 0, none, 0, 0)))))) (nd 13 (lf 11 (.inr (.inr (.inr (.inr 4))))) (lf 13 (.inl (3, 0))))) (nd 26 (nd 20 (lf 17 (.inl (3, 1))) (lf 20 (.inl (3, 2)))) (nd 29 (lf 26 (.inl (3, 3))) (lf 29 (.inr (.inr (.inr (.inl (2, yX4_init, cX4_init, 2, none, 1, 4))))))))) (nd 46 (nd 39 (nd 36 (lf 32 (.inl (3, 7))) (lf 36 (.inl (3, 8)))) (nd 43 (lf 39 (.inr (.inr (.inr (.inl (0, yX3_holdsLike, cX3_holdsLike, 3, (some .boolean), 1, 3)))))) (lf 43 (.inl (3, 6))))) (nd 52 (nd 49 (lf 46 (.inl (3, 4))) (lf 49 (.inr (.inr (.inr (.inl (0, yX3_raiseForks, cX3_raiseForks, 3, (some .boolean), 1, 3))))))) (nd 55 (lf 52 (.inr (.inr (.inr (.inl (0, yX3_raiseBreachesOfHead, cX3_raiseBreachesOfHead, 3, (some .boolean), 1, 3)))))) (lf 55 (.inr (.inr (.inr (.inl (0, yX4_become, cX4_become, 2, none, 1, 4)))))))))) (nd 88 (nd 73 (nd 67 (nd 63 (lf 59 (.inr (.inr (.inr (.inl (0, yX3_headAccepting, cX3_headAccepting, 5, (some .int), 2, 3)))))) (lf 63 (.inr (.inr (.inr (.inl (0, yX3_hasFactLike, cX3_hasFactLike, 5, (some .boolean), 2, 3))))))) (nd 70 (lf 67 (.inl (3, 5))) (lf 70 (.inr (.inr (.inr (.inl (0, yX3_raiseBreachesOfFact, cX3_raiseBreachesOfFact, 4, (some .boolean), 2, 3)))))))) (nd 81 (nd 77 (lf 73 (.inr (.inr (.inr (.inl (0, yX4_sameAs, cX4_sameAs, 6, (some .boolean), 4, 4)))))) (lf 77 (.inr (.inr (.inr (.inl (0, yX3_hasFact, cX3_hasFact, 2, (some .boolean), 1, 3))))))) (nd 85 (lf 81 (.inr (.inr (.inr (.inl (0, yX4_at, cX4_at, 2, (some .int), 1, 4)))))) (lf 85 (.inr (.inr (.inr (.inl (0, yX4_number, cX4_number, 2, (some .int), 1, 4))))))))) (nd 100 (nd 94 (nd 91 (lf 88 (.inl (4, 1))) (lf 91 (.inr (.inr (.inr (.inl (0, yX3_hasRecord, cX3_hasRecord, 2, (some .boolean), 1, 3))))))) (nd 97 (lf 94 (.inr (.inr (.inr (.inl (0, yX3_hasHead, cX3_hasHead, 2, (some .boolean), 1, 3)))))) (lf 97 (.inr (.inr (.inr (.inl (0, yX4_empty, cX4_empty, 1, none, 0, 4)))))))) (nd 107 (nd 103 (lf 100 (.inr (.inr (.inr (.inl (0, yX4_add, cX4_add, 2, none, 1, 4)))))) (lf 103 (.inr (.inr (.inr (.inl (0, yX4_addPart, cX4_addPart, 4, none, 3, 4))))))) (nd 111 (lf 107 (.inr (.inr (.inr (.inl (0, yX3_raise, cX3_raise, 6, (some .boolean), 4, 3)))))) (lf 111 (.inr (.inr (.inr (.inl (1, yX3_belies, cX3_belies, 2, (some .boolean), 2, 3)))))))))))
abbrev miX3 (ini : Bool) (ret : Option FieldType) : mI := ((RX3, 3), cpX3, ini, ret)
theorem cqX3_3 (ini : Bool) (ret : Option FieldType) : (∀ w ∈ rW (miX3 ini ret) 3 (.inr (.inr (.inr (.inl (4, objectInit, ByteArray.empty, 0, none, 0, 0))))), w ∈ mT) ∧ rB (miX3 ini ret) 3 (.inr (.inr (.inr (.inl (4, objectInit, ByteArray.empty, 0, none, 0, 0))))) = true := ⟨(List.forall_mem_cons.mpr ⟨wd_320, (List.forall_mem_cons.mpr ⟨wd_1, (List.forall_mem_cons.mpr ⟨wd_2, (fun _ h => absurd h List.not_mem_nil)⟩)⟩)⟩), (show rB (miX3 false none) 3 (.inr (.inr (.inr (.inl (4, objectInit, ByteArray.empty, 0, none, 0, 0))))) = true by decide +kernel)⟩
theorem cqX3_11 (ini : Bool) (ret : Option FieldType) : (∀ w ∈ rW (miX3 ini ret) 11 (.inr (.inr (.inr (.inr 4)))), w ∈ mT) ∧ rB (miX3 ini ret) 11 (.inr (.inr (.inr (.inr 4)))) = true := ⟨(List.forall_mem_cons.mpr ⟨wd_321, (List.forall_mem_cons.mpr ⟨wd_24, (List.forall_mem_cons.mpr ⟨wd_15, (fun _ h => absurd h List.not_mem_nil)⟩)⟩)⟩), (show rB (miX3 false none) 11 (.inr (.inr (.inr (.inr 4)))) = true by decide +kernel)⟩
theorem cqX3_13 (ini : Bool) (ret : Option FieldType) : (∀ w ∈ rW (miX3 ini ret) 13 (.inl (3, 0)), w ∈ mT) ∧ rB (miX3 ini ret) 13 (.inl (3, 0)) = true := ⟨(List.forall_mem_cons.mpr ⟨wd_322, (fun _ h => absurd h List.not_mem_nil)⟩), (show rB (miX3 false none) 13 (.inl (3, 0)) = true by decide +kernel)⟩
theorem cqX3_17 (ini : Bool) (ret : Option FieldType) : (∀ w ∈ rW (miX3 ini ret) 17 (.inl (3, 1)), w ∈ mT) ∧ rB (miX3 ini ret) 17 (.inl (3, 1)) = true := ⟨(List.forall_mem_cons.mpr ⟨wd_323, (fun _ h => absurd h List.not_mem_nil)⟩), (show rB (miX3 false none) 17 (.inl (3, 1)) = true by decide +kernel)⟩
theorem cqX3_20 (ini : Bool) (ret : Option FieldType) : (∀ w ∈ rW (miX3 ini ret) 20 (.inl (3, 2)), w ∈ mT) ∧ rB (miX3 ini ret) 20 (.inl (3, 2)) = true := ⟨(List.forall_mem_cons.mpr ⟨wd_324, (fun _ h => absurd h List.not_mem_nil)⟩), (show rB (miX3 false none) 20 (.inl (3, 2)) = true by decide +kernel)⟩
theorem cqX3_26 (ini : Bool) (ret : Option FieldType) : (∀ w ∈ rW (miX3 ini ret) 26 (.inl (3, 3)), w ∈ mT) ∧ rB (miX3 ini ret) 26 (.inl (3, 3)) = true := ⟨(List.forall_mem_cons.mpr ⟨wd_325, (fun _ h => absurd h List.not_mem_nil)⟩), (show rB (miX3 false none) 26 (.inl (3, 3)) = true by decide +kernel)⟩
theorem cqX3_29 (ini : Bool) (ret : Option FieldType) : (∀ w ∈ rW (miX3 ini ret) 29 (.inr (.inr (.inr (.inl (2, yX4_init, cX4_init, 2, none, 1, 4))))), w ∈ mT) ∧ rB (miX3 ini ret) 29 (.inr (.inr (.inr (.inl (2, yX4_init, cX4_init, 2, none, 1, 4))))) = true := ⟨(List.forall_mem_cons.mpr ⟨wd_326, (List.forall_mem_cons.mpr ⟨wd_26, (List.forall_mem_cons.mpr ⟨wd_15, (List.forall_mem_cons.mpr ⟨wd_27, (fun _ h => absurd h List.not_mem_nil)⟩)⟩)⟩)⟩), (show rB (miX3 false none) 29 (.inr (.inr (.inr (.inl (2, yX4_init, cX4_init, 2, none, 1, 4))))) = true by decide +kernel)⟩
theorem cqX3_32 (ini : Bool) (ret : Option FieldType) : (∀ w ∈ rW (miX3 ini ret) 32 (.inl (3, 7)), w ∈ mT) ∧ rB (miX3 ini ret) 32 (.inl (3, 7)) = true := ⟨(List.forall_mem_cons.mpr ⟨wd_327, (fun _ h => absurd h List.not_mem_nil)⟩), (show rB (miX3 false none) 32 (.inl (3, 7)) = true by decide +kernel)⟩
theorem cqX3_36 (ini : Bool) (ret : Option FieldType) : (∀ w ∈ rW (miX3 ini ret) 36 (.inl (3, 8)), w ∈ mT) ∧ rB (miX3 ini ret) 36 (.inl (3, 8)) = true := ⟨(List.forall_mem_cons.mpr ⟨wd_328, (fun _ h => absurd h List.not_mem_nil)⟩), (show rB (miX3 false none) 36 (.inl (3, 8)) = true by decide +kernel)⟩
theorem cqX3_39 (ini : Bool) (ret : Option FieldType) : (∀ w ∈ rW (miX3 ini ret) 39 (.inr (.inr (.inr (.inl (0, yX3_holdsLike, cX3_holdsLike, 3, (some .boolean), 1, 3))))), w ∈ mT) ∧ rB (miX3 ini ret) 39 (.inr (.inr (.inr (.inl (0, yX3_holdsLike, cX3_holdsLike, 3, (some .boolean), 1, 3))))) = true := ⟨(List.forall_mem_cons.mpr ⟨wd_329, (List.forall_mem_cons.mpr ⟨wd_330, (List.forall_mem_cons.mpr ⟨wd_332, (List.forall_mem_cons.mpr ⟨wd_164, (List.forall_mem_cons.mpr ⟨wd_331, (fun _ h => absurd h List.not_mem_nil)⟩)⟩)⟩)⟩)⟩), (show rB (miX3 false none) 39 (.inr (.inr (.inr (.inl (0, yX3_holdsLike, cX3_holdsLike, 3, (some .boolean), 1, 3))))) = true by decide +kernel)⟩
theorem cqX3_43 (ini : Bool) (ret : Option FieldType) : (∀ w ∈ rW (miX3 ini ret) 43 (.inl (3, 6)), w ∈ mT) ∧ rB (miX3 ini ret) 43 (.inl (3, 6)) = true := ⟨(List.forall_mem_cons.mpr ⟨wd_333, (fun _ h => absurd h List.not_mem_nil)⟩), (show rB (miX3 false none) 43 (.inl (3, 6)) = true by decide +kernel)⟩
theorem cqX3_46 (ini : Bool) (ret : Option FieldType) : (∀ w ∈ rW (miX3 ini ret) 46 (.inl (3, 4)), w ∈ mT) ∧ rB (miX3 ini ret) 46 (.inl (3, 4)) = true := ⟨(List.forall_mem_cons.mpr ⟨wd_334, (fun _ h => absurd h List.not_mem_nil)⟩), (show rB (miX3 false none) 46 (.inl (3, 4)) = true by decide +kernel)⟩
theorem cqX3_49 (ini : Bool) (ret : Option FieldType) : (∀ w ∈ rW (miX3 ini ret) 49 (.inr (.inr (.inr (.inl (0, yX3_raiseForks, cX3_raiseForks, 3, (some .boolean), 1, 3))))), w ∈ mT) ∧ rB (miX3 ini ret) 49 (.inr (.inr (.inr (.inl (0, yX3_raiseForks, cX3_raiseForks, 3, (some .boolean), 1, 3))))) = true := ⟨(List.forall_mem_cons.mpr ⟨wd_335, (List.forall_mem_cons.mpr ⟨wd_336, (List.forall_mem_cons.mpr ⟨wd_338, (List.forall_mem_cons.mpr ⟨wd_164, (List.forall_mem_cons.mpr ⟨wd_337, (fun _ h => absurd h List.not_mem_nil)⟩)⟩)⟩)⟩)⟩), (show rB (miX3 false none) 49 (.inr (.inr (.inr (.inl (0, yX3_raiseForks, cX3_raiseForks, 3, (some .boolean), 1, 3))))) = true by decide +kernel)⟩
theorem cqX3_52 (ini : Bool) (ret : Option FieldType) : (∀ w ∈ rW (miX3 ini ret) 52 (.inr (.inr (.inr (.inl (0, yX3_raiseBreachesOfHead, cX3_raiseBreachesOfHead, 3, (some .boolean), 1, 3))))), w ∈ mT) ∧ rB (miX3 ini ret) 52 (.inr (.inr (.inr (.inl (0, yX3_raiseBreachesOfHead, cX3_raiseBreachesOfHead, 3, (some .boolean), 1, 3))))) = true := ⟨(List.forall_mem_cons.mpr ⟨wd_339, (List.forall_mem_cons.mpr ⟨wd_340, (List.forall_mem_cons.mpr ⟨wd_342, (List.forall_mem_cons.mpr ⟨wd_164, (List.forall_mem_cons.mpr ⟨wd_341, (fun _ h => absurd h List.not_mem_nil)⟩)⟩)⟩)⟩)⟩), (show rB (miX3 false none) 52 (.inr (.inr (.inr (.inl (0, yX3_raiseBreachesOfHead, cX3_raiseBreachesOfHead, 3, (some .boolean), 1, 3))))) = true by decide +kernel)⟩
theorem cqX3_55 (ini : Bool) (ret : Option FieldType) : (∀ w ∈ rW (miX3 ini ret) 55 (.inr (.inr (.inr (.inl (0, yX4_become, cX4_become, 2, none, 1, 4))))), w ∈ mT) ∧ rB (miX3 ini ret) 55 (.inr (.inr (.inr (.inl (0, yX4_become, cX4_become, 2, none, 1, 4))))) = true := ⟨(List.forall_mem_cons.mpr ⟨wd_343, (List.forall_mem_cons.mpr ⟨wd_98, (List.forall_mem_cons.mpr ⟨wd_100, (List.forall_mem_cons.mpr ⟨wd_15, (List.forall_mem_cons.mpr ⟨wd_99, (fun _ h => absurd h List.not_mem_nil)⟩)⟩)⟩)⟩)⟩), (show rB (miX3 false none) 55 (.inr (.inr (.inr (.inl (0, yX4_become, cX4_become, 2, none, 1, 4))))) = true by decide +kernel)⟩
theorem cqX3_59 (ini : Bool) (ret : Option FieldType) : (∀ w ∈ rW (miX3 ini ret) 59 (.inr (.inr (.inr (.inl (0, yX3_headAccepting, cX3_headAccepting, 5, (some .int), 2, 3))))), w ∈ mT) ∧ rB (miX3 ini ret) 59 (.inr (.inr (.inr (.inl (0, yX3_headAccepting, cX3_headAccepting, 5, (some .int), 2, 3))))) = true := ⟨(List.forall_mem_cons.mpr ⟨wd_344, (List.forall_mem_cons.mpr ⟨wd_345, (List.forall_mem_cons.mpr ⟨wd_347, (List.forall_mem_cons.mpr ⟨wd_164, (List.forall_mem_cons.mpr ⟨wd_346, (fun _ h => absurd h List.not_mem_nil)⟩)⟩)⟩)⟩)⟩), (show rB (miX3 false none) 59 (.inr (.inr (.inr (.inl (0, yX3_headAccepting, cX3_headAccepting, 5, (some .int), 2, 3))))) = true by decide +kernel)⟩
theorem cqX3_63 (ini : Bool) (ret : Option FieldType) : (∀ w ∈ rW (miX3 ini ret) 63 (.inr (.inr (.inr (.inl (0, yX3_hasFactLike, cX3_hasFactLike, 5, (some .boolean), 2, 3))))), w ∈ mT) ∧ rB (miX3 ini ret) 63 (.inr (.inr (.inr (.inl (0, yX3_hasFactLike, cX3_hasFactLike, 5, (some .boolean), 2, 3))))) = true := ⟨(List.forall_mem_cons.mpr ⟨wd_348, (List.forall_mem_cons.mpr ⟨wd_349, (List.forall_mem_cons.mpr ⟨wd_351, (List.forall_mem_cons.mpr ⟨wd_164, (List.forall_mem_cons.mpr ⟨wd_350, (fun _ h => absurd h List.not_mem_nil)⟩)⟩)⟩)⟩)⟩), (show rB (miX3 false none) 63 (.inr (.inr (.inr (.inl (0, yX3_hasFactLike, cX3_hasFactLike, 5, (some .boolean), 2, 3))))) = true by decide +kernel)⟩
theorem cqX3_67 (ini : Bool) (ret : Option FieldType) : (∀ w ∈ rW (miX3 ini ret) 67 (.inl (3, 5)), w ∈ mT) ∧ rB (miX3 ini ret) 67 (.inl (3, 5)) = true := ⟨(List.forall_mem_cons.mpr ⟨wd_352, (fun _ h => absurd h List.not_mem_nil)⟩), (show rB (miX3 false none) 67 (.inl (3, 5)) = true by decide +kernel)⟩
theorem cqX3_70 (ini : Bool) (ret : Option FieldType) : (∀ w ∈ rW (miX3 ini ret) 70 (.inr (.inr (.inr (.inl (0, yX3_raiseBreachesOfFact, cX3_raiseBreachesOfFact, 4, (some .boolean), 2, 3))))), w ∈ mT) ∧ rB (miX3 ini ret) 70 (.inr (.inr (.inr (.inl (0, yX3_raiseBreachesOfFact, cX3_raiseBreachesOfFact, 4, (some .boolean), 2, 3))))) = true := ⟨(List.forall_mem_cons.mpr ⟨wd_353, (List.forall_mem_cons.mpr ⟨wd_354, (List.forall_mem_cons.mpr ⟨wd_356, (List.forall_mem_cons.mpr ⟨wd_164, (List.forall_mem_cons.mpr ⟨wd_355, (fun _ h => absurd h List.not_mem_nil)⟩)⟩)⟩)⟩)⟩), (show rB (miX3 false none) 70 (.inr (.inr (.inr (.inl (0, yX3_raiseBreachesOfFact, cX3_raiseBreachesOfFact, 4, (some .boolean), 2, 3))))) = true by decide +kernel)⟩
theorem cqX3_73 (ini : Bool) (ret : Option FieldType) : (∀ w ∈ rW (miX3 ini ret) 73 (.inr (.inr (.inr (.inl (0, yX4_sameAs, cX4_sameAs, 6, (some .boolean), 4, 4))))), w ∈ mT) ∧ rB (miX3 ini ret) 73 (.inr (.inr (.inr (.inl (0, yX4_sameAs, cX4_sameAs, 6, (some .boolean), 4, 4))))) = true := ⟨(List.forall_mem_cons.mpr ⟨wd_357, (List.forall_mem_cons.mpr ⟨wd_88, (List.forall_mem_cons.mpr ⟨wd_90, (List.forall_mem_cons.mpr ⟨wd_15, (List.forall_mem_cons.mpr ⟨wd_89, (fun _ h => absurd h List.not_mem_nil)⟩)⟩)⟩)⟩)⟩), (show rB (miX3 false none) 73 (.inr (.inr (.inr (.inl (0, yX4_sameAs, cX4_sameAs, 6, (some .boolean), 4, 4))))) = true by decide +kernel)⟩
theorem cqX3_77 (ini : Bool) (ret : Option FieldType) : (∀ w ∈ rW (miX3 ini ret) 77 (.inr (.inr (.inr (.inl (0, yX3_hasFact, cX3_hasFact, 2, (some .boolean), 1, 3))))), w ∈ mT) ∧ rB (miX3 ini ret) 77 (.inr (.inr (.inr (.inl (0, yX3_hasFact, cX3_hasFact, 2, (some .boolean), 1, 3))))) = true := ⟨(List.forall_mem_cons.mpr ⟨wd_358, (List.forall_mem_cons.mpr ⟨wd_359, (List.forall_mem_cons.mpr ⟨wd_361, (List.forall_mem_cons.mpr ⟨wd_164, (List.forall_mem_cons.mpr ⟨wd_360, (fun _ h => absurd h List.not_mem_nil)⟩)⟩)⟩)⟩)⟩), (show rB (miX3 false none) 77 (.inr (.inr (.inr (.inl (0, yX3_hasFact, cX3_hasFact, 2, (some .boolean), 1, 3))))) = true by decide +kernel)⟩
theorem cqX3_81 (ini : Bool) (ret : Option FieldType) : (∀ w ∈ rW (miX3 ini ret) 81 (.inr (.inr (.inr (.inl (0, yX4_at, cX4_at, 2, (some .int), 1, 4))))), w ∈ mT) ∧ rB (miX3 ini ret) 81 (.inr (.inr (.inr (.inl (0, yX4_at, cX4_at, 2, (some .int), 1, 4))))) = true := ⟨(List.forall_mem_cons.mpr ⟨wd_362, (List.forall_mem_cons.mpr ⟨wd_19, (List.forall_mem_cons.mpr ⟨wd_21, (List.forall_mem_cons.mpr ⟨wd_15, (List.forall_mem_cons.mpr ⟨wd_20, (fun _ h => absurd h List.not_mem_nil)⟩)⟩)⟩)⟩)⟩), (show rB (miX3 false none) 81 (.inr (.inr (.inr (.inl (0, yX4_at, cX4_at, 2, (some .int), 1, 4))))) = true by decide +kernel)⟩
theorem cqX3_85 (ini : Bool) (ret : Option FieldType) : (∀ w ∈ rW (miX3 ini ret) 85 (.inr (.inr (.inr (.inl (0, yX4_number, cX4_number, 2, (some .int), 1, 4))))), w ∈ mT) ∧ rB (miX3 ini ret) 85 (.inr (.inr (.inr (.inl (0, yX4_number, cX4_number, 2, (some .int), 1, 4))))) = true := ⟨(List.forall_mem_cons.mpr ⟨wd_363, (List.forall_mem_cons.mpr ⟨wd_44, (List.forall_mem_cons.mpr ⟨wd_46, (List.forall_mem_cons.mpr ⟨wd_15, (List.forall_mem_cons.mpr ⟨wd_45, (fun _ h => absurd h List.not_mem_nil)⟩)⟩)⟩)⟩)⟩), (show rB (miX3 false none) 85 (.inr (.inr (.inr (.inl (0, yX4_number, cX4_number, 2, (some .int), 1, 4))))) = true by decide +kernel)⟩
theorem cqX3_88 (ini : Bool) (ret : Option FieldType) : (∀ w ∈ rW (miX3 ini ret) 88 (.inl (4, 1)), w ∈ mT) ∧ rB (miX3 ini ret) 88 (.inl (4, 1)) = true := ⟨(List.forall_mem_cons.mpr ⟨wd_364, (fun _ h => absurd h List.not_mem_nil)⟩), (show rB (miX3 false none) 88 (.inl (4, 1)) = true by decide +kernel)⟩
theorem cqX3_91 (ini : Bool) (ret : Option FieldType) : (∀ w ∈ rW (miX3 ini ret) 91 (.inr (.inr (.inr (.inl (0, yX3_hasRecord, cX3_hasRecord, 2, (some .boolean), 1, 3))))), w ∈ mT) ∧ rB (miX3 ini ret) 91 (.inr (.inr (.inr (.inl (0, yX3_hasRecord, cX3_hasRecord, 2, (some .boolean), 1, 3))))) = true := ⟨(List.forall_mem_cons.mpr ⟨wd_365, (List.forall_mem_cons.mpr ⟨wd_292, (List.forall_mem_cons.mpr ⟨wd_294, (List.forall_mem_cons.mpr ⟨wd_164, (List.forall_mem_cons.mpr ⟨wd_293, (fun _ h => absurd h List.not_mem_nil)⟩)⟩)⟩)⟩)⟩), (show rB (miX3 false none) 91 (.inr (.inr (.inr (.inl (0, yX3_hasRecord, cX3_hasRecord, 2, (some .boolean), 1, 3))))) = true by decide +kernel)⟩
theorem cqX3_94 (ini : Bool) (ret : Option FieldType) : (∀ w ∈ rW (miX3 ini ret) 94 (.inr (.inr (.inr (.inl (0, yX3_hasHead, cX3_hasHead, 2, (some .boolean), 1, 3))))), w ∈ mT) ∧ rB (miX3 ini ret) 94 (.inr (.inr (.inr (.inl (0, yX3_hasHead, cX3_hasHead, 2, (some .boolean), 1, 3))))) = true := ⟨(List.forall_mem_cons.mpr ⟨wd_366, (List.forall_mem_cons.mpr ⟨wd_280, (List.forall_mem_cons.mpr ⟨wd_282, (List.forall_mem_cons.mpr ⟨wd_164, (List.forall_mem_cons.mpr ⟨wd_281, (fun _ h => absurd h List.not_mem_nil)⟩)⟩)⟩)⟩)⟩), (show rB (miX3 false none) 94 (.inr (.inr (.inr (.inl (0, yX3_hasHead, cX3_hasHead, 2, (some .boolean), 1, 3))))) = true by decide +kernel)⟩
theorem cqX3_97 (ini : Bool) (ret : Option FieldType) : (∀ w ∈ rW (miX3 ini ret) 97 (.inr (.inr (.inr (.inl (0, yX4_empty, cX4_empty, 1, none, 0, 4))))), w ∈ mT) ∧ rB (miX3 ini ret) 97 (.inr (.inr (.inr (.inl (0, yX4_empty, cX4_empty, 1, none, 0, 4))))) = true := ⟨(List.forall_mem_cons.mpr ⟨wd_367, (List.forall_mem_cons.mpr ⟨wd_57, (List.forall_mem_cons.mpr ⟨wd_59, (List.forall_mem_cons.mpr ⟨wd_15, (List.forall_mem_cons.mpr ⟨wd_58, (fun _ h => absurd h List.not_mem_nil)⟩)⟩)⟩)⟩)⟩), (show rB (miX3 false none) 97 (.inr (.inr (.inr (.inl (0, yX4_empty, cX4_empty, 1, none, 0, 4))))) = true by decide +kernel)⟩
theorem cqX3_100 (ini : Bool) (ret : Option FieldType) : (∀ w ∈ rW (miX3 ini ret) 100 (.inr (.inr (.inr (.inl (0, yX4_add, cX4_add, 2, none, 1, 4))))), w ∈ mT) ∧ rB (miX3 ini ret) 100 (.inr (.inr (.inr (.inl (0, yX4_add, cX4_add, 2, none, 1, 4))))) = true := ⟨(List.forall_mem_cons.mpr ⟨wd_368, (List.forall_mem_cons.mpr ⟨wd_34, (List.forall_mem_cons.mpr ⟨wd_36, (List.forall_mem_cons.mpr ⟨wd_15, (List.forall_mem_cons.mpr ⟨wd_35, (fun _ h => absurd h List.not_mem_nil)⟩)⟩)⟩)⟩)⟩), (show rB (miX3 false none) 100 (.inr (.inr (.inr (.inl (0, yX4_add, cX4_add, 2, none, 1, 4))))) = true by decide +kernel)⟩
theorem cqX3_103 (ini : Bool) (ret : Option FieldType) : (∀ w ∈ rW (miX3 ini ret) 103 (.inr (.inr (.inr (.inl (0, yX4_addPart, cX4_addPart, 4, none, 3, 4))))), w ∈ mT) ∧ rB (miX3 ini ret) 103 (.inr (.inr (.inr (.inl (0, yX4_addPart, cX4_addPart, 4, none, 3, 4))))) = true := ⟨(List.forall_mem_cons.mpr ⟨wd_369, (List.forall_mem_cons.mpr ⟨wd_14, (List.forall_mem_cons.mpr ⟨wd_17, (List.forall_mem_cons.mpr ⟨wd_15, (List.forall_mem_cons.mpr ⟨wd_16, (fun _ h => absurd h List.not_mem_nil)⟩)⟩)⟩)⟩)⟩), (show rB (miX3 false none) 103 (.inr (.inr (.inr (.inl (0, yX4_addPart, cX4_addPart, 4, none, 3, 4))))) = true by decide +kernel)⟩
theorem cqX3_107 (ini : Bool) (ret : Option FieldType) : (∀ w ∈ rW (miX3 ini ret) 107 (.inr (.inr (.inr (.inl (0, yX3_raise, cX3_raise, 6, (some .boolean), 4, 3))))), w ∈ mT) ∧ rB (miX3 ini ret) 107 (.inr (.inr (.inr (.inl (0, yX3_raise, cX3_raise, 6, (some .boolean), 4, 3))))) = true := ⟨(List.forall_mem_cons.mpr ⟨wd_370, (List.forall_mem_cons.mpr ⟨wd_371, (List.forall_mem_cons.mpr ⟨wd_373, (List.forall_mem_cons.mpr ⟨wd_164, (List.forall_mem_cons.mpr ⟨wd_372, (fun _ h => absurd h List.not_mem_nil)⟩)⟩)⟩)⟩)⟩), (show rB (miX3 false none) 107 (.inr (.inr (.inr (.inl (0, yX3_raise, cX3_raise, 6, (some .boolean), 4, 3))))) = true by decide +kernel)⟩
theorem cqX3_111 (ini : Bool) (ret : Option FieldType) : (∀ w ∈ rW (miX3 ini ret) 111 (.inr (.inr (.inr (.inl (1, yX3_belies, cX3_belies, 2, (some .boolean), 2, 3))))), w ∈ mT) ∧ rB (miX3 ini ret) 111 (.inr (.inr (.inr (.inl (1, yX3_belies, cX3_belies, 2, (some .boolean), 2, 3))))) = true := ⟨(List.forall_mem_cons.mpr ⟨wd_374, (List.forall_mem_cons.mpr ⟨wd_376, (List.forall_mem_cons.mpr ⟨wd_164, (List.forall_mem_cons.mpr ⟨wd_375, (fun _ h => absurd h List.not_mem_nil)⟩)⟩)⟩)⟩), (show rB (miX3 false none) 111 (.inr (.inr (.inr (.inl (1, yX3_belies, cX3_belies, 2, (some .boolean), 2, 3))))) = true by decide +kernel)⟩
theorem ckX3 (ini : Bool) (ret : Option FieldType) : cpOK (miX3 ini ret) := (show tAll (fun i r => (∀ w ∈ rW (miX3 ini ret) i r, w ∈ mT) ∧ rB (miX3 ini ret) i r = true) cpX3 from (nd_all (nd_all (nd_all (nd_all (lf_all (cqX3_3 ini ret)) (nd_all (lf_all (cqX3_11 ini ret)) (lf_all (cqX3_13 ini ret)))) (nd_all (nd_all (lf_all (cqX3_17 ini ret)) (lf_all (cqX3_20 ini ret))) (nd_all (lf_all (cqX3_26 ini ret)) (lf_all (cqX3_29 ini ret))))) (nd_all (nd_all (nd_all (lf_all (cqX3_32 ini ret)) (lf_all (cqX3_36 ini ret))) (nd_all (lf_all (cqX3_39 ini ret)) (lf_all (cqX3_43 ini ret)))) (nd_all (nd_all (lf_all (cqX3_46 ini ret)) (lf_all (cqX3_49 ini ret))) (nd_all (lf_all (cqX3_52 ini ret)) (lf_all (cqX3_55 ini ret)))))) (nd_all (nd_all (nd_all (nd_all (lf_all (cqX3_59 ini ret)) (lf_all (cqX3_63 ini ret))) (nd_all (lf_all (cqX3_67 ini ret)) (lf_all (cqX3_70 ini ret)))) (nd_all (nd_all (lf_all (cqX3_73 ini ret)) (lf_all (cqX3_77 ini ret))) (nd_all (lf_all (cqX3_81 ini ret)) (lf_all (cqX3_85 ini ret))))) (nd_all (nd_all (nd_all (lf_all (cqX3_88 ini ret)) (lf_all (cqX3_91 ini ret))) (nd_all (lf_all (cqX3_94 ini ret)) (lf_all (cqX3_97 ini ret)))) (nd_all (nd_all (lf_all (cqX3_100 ini ret)) (lf_all (cqX3_103 ini ret))) (nd_all (lf_all (cqX3_107 ini ret)) (lf_all (cqX3_111 ini ret))))))))
def cpX1 : Nat → Option mRf := (nd 31 (nd 16 (nd 9 (lf 3 (.inr (.inr (.inr (.inl (4, objectInit, ByteArray.empty, 0, none, 0, 0)))))) (nd 13 (lf 9 (.inr (.inr (.inr (.inr 4))))) (lf 13 (.inr (.inr (.inr (.inl (2, yX4_init, cX4_init, 2, none, 1, 4)))))))) (nd 23 (nd 20 (lf 16 (.inl (1, 0))) (lf 20 (.inr (.inr (.inr (.inl (0, yX4_empty, cX4_empty, 1, none, 0, 4))))))) (nd 28 (lf 23 (.inl (5, 0))) (lf 28 (.inr (.inr (.inr (.inl (0, yX4_add, cX4_add, 2, none, 1, 4))))))))) (nd 42 (nd 34 (lf 31 (.inr (.inr (.inr (.inl (0, yX4_addNumber, cX4_addNumber, 2, none, 1, 4)))))) (nd 38 (lf 34 (.inr (.inr (.inr (.inl (0, yX5_finish, cX5_finish, 4, (some (.object "GossipWatch$Row")), 0, 5)))))) (lf 38 (.inr (.inr (.inr (.inl (0, yX4_addPart, cX4_addPart, 4, none, 3, 4)))))))) (nd 49 (nd 46 (lf 42 (.inr (.inr (.inr (.inl (0, yX4_at, cX4_at, 2, (some .int), 1, 4)))))) (lf 46 (.inr (.inr (.inr (.inl (0, yX4_number, cX4_number, 2, (some .int), 1, 4))))))) (nd 53 (lf 49 (.inr (.inr (.inr (.inl (0, yX1_signFor, cX1_signFor, 6, (some (.object "GossipWatch$Row")), 4, 1)))))) (lf 53 (.inr (.inr (.inr (.inl (0, yX4_sameAs, cX4_sameAs, 6, (some .boolean), 4, 4))))))))))
abbrev miX1 (ini : Bool) (ret : Option FieldType) : mI := ((RX1, 1), cpX1, ini, ret)
theorem cqX1_3 (ini : Bool) (ret : Option FieldType) : (∀ w ∈ rW (miX1 ini ret) 3 (.inr (.inr (.inr (.inl (4, objectInit, ByteArray.empty, 0, none, 0, 0))))), w ∈ mT) ∧ rB (miX1 ini ret) 3 (.inr (.inr (.inr (.inl (4, objectInit, ByteArray.empty, 0, none, 0, 0))))) = true := ⟨(List.forall_mem_cons.mpr ⟨wd_377, (List.forall_mem_cons.mpr ⟨wd_1, (List.forall_mem_cons.mpr ⟨wd_2, (fun _ h => absurd h List.not_mem_nil)⟩)⟩)⟩), (show rB (miX1 false none) 3 (.inr (.inr (.inr (.inl (4, objectInit, ByteArray.empty, 0, none, 0, 0))))) = true by decide +kernel)⟩
theorem cqX1_9 (ini : Bool) (ret : Option FieldType) : (∀ w ∈ rW (miX1 ini ret) 9 (.inr (.inr (.inr (.inr 4)))), w ∈ mT) ∧ rB (miX1 ini ret) 9 (.inr (.inr (.inr (.inr 4)))) = true := ⟨(List.forall_mem_cons.mpr ⟨wd_378, (List.forall_mem_cons.mpr ⟨wd_24, (List.forall_mem_cons.mpr ⟨wd_15, (fun _ h => absurd h List.not_mem_nil)⟩)⟩)⟩), (show rB (miX1 false none) 9 (.inr (.inr (.inr (.inr 4)))) = true by decide +kernel)⟩
theorem cqX1_13 (ini : Bool) (ret : Option FieldType) : (∀ w ∈ rW (miX1 ini ret) 13 (.inr (.inr (.inr (.inl (2, yX4_init, cX4_init, 2, none, 1, 4))))), w ∈ mT) ∧ rB (miX1 ini ret) 13 (.inr (.inr (.inr (.inl (2, yX4_init, cX4_init, 2, none, 1, 4))))) = true := ⟨(List.forall_mem_cons.mpr ⟨wd_379, (List.forall_mem_cons.mpr ⟨wd_26, (List.forall_mem_cons.mpr ⟨wd_15, (List.forall_mem_cons.mpr ⟨wd_27, (fun _ h => absurd h List.not_mem_nil)⟩)⟩)⟩)⟩), (show rB (miX1 false none) 13 (.inr (.inr (.inr (.inl (2, yX4_init, cX4_init, 2, none, 1, 4))))) = true by decide +kernel)⟩
theorem cqX1_16 (ini : Bool) (ret : Option FieldType) : (∀ w ∈ rW (miX1 ini ret) 16 (.inl (1, 0)), w ∈ mT) ∧ rB (miX1 ini ret) 16 (.inl (1, 0)) = true := ⟨(List.forall_mem_cons.mpr ⟨wd_380, (fun _ h => absurd h List.not_mem_nil)⟩), (show rB (miX1 false none) 16 (.inl (1, 0)) = true by decide +kernel)⟩
theorem cqX1_20 (ini : Bool) (ret : Option FieldType) : (∀ w ∈ rW (miX1 ini ret) 20 (.inr (.inr (.inr (.inl (0, yX4_empty, cX4_empty, 1, none, 0, 4))))), w ∈ mT) ∧ rB (miX1 ini ret) 20 (.inr (.inr (.inr (.inl (0, yX4_empty, cX4_empty, 1, none, 0, 4))))) = true := ⟨(List.forall_mem_cons.mpr ⟨wd_381, (List.forall_mem_cons.mpr ⟨wd_57, (List.forall_mem_cons.mpr ⟨wd_59, (List.forall_mem_cons.mpr ⟨wd_15, (List.forall_mem_cons.mpr ⟨wd_58, (fun _ h => absurd h List.not_mem_nil)⟩)⟩)⟩)⟩)⟩), (show rB (miX1 false none) 20 (.inr (.inr (.inr (.inl (0, yX4_empty, cX4_empty, 1, none, 0, 4))))) = true by decide +kernel)⟩
theorem cqX1_23 (ini : Bool) (ret : Option FieldType) : (∀ w ∈ rW (miX1 ini ret) 23 (.inl (5, 0)), w ∈ mT) ∧ rB (miX1 ini ret) 23 (.inl (5, 0)) = true := ⟨(List.forall_mem_cons.mpr ⟨wd_382, (fun _ h => absurd h List.not_mem_nil)⟩), (show rB (miX1 false none) 23 (.inl (5, 0)) = true by decide +kernel)⟩
theorem cqX1_28 (ini : Bool) (ret : Option FieldType) : (∀ w ∈ rW (miX1 ini ret) 28 (.inr (.inr (.inr (.inl (0, yX4_add, cX4_add, 2, none, 1, 4))))), w ∈ mT) ∧ rB (miX1 ini ret) 28 (.inr (.inr (.inr (.inl (0, yX4_add, cX4_add, 2, none, 1, 4))))) = true := ⟨(List.forall_mem_cons.mpr ⟨wd_383, (List.forall_mem_cons.mpr ⟨wd_34, (List.forall_mem_cons.mpr ⟨wd_36, (List.forall_mem_cons.mpr ⟨wd_15, (List.forall_mem_cons.mpr ⟨wd_35, (fun _ h => absurd h List.not_mem_nil)⟩)⟩)⟩)⟩)⟩), (show rB (miX1 false none) 28 (.inr (.inr (.inr (.inl (0, yX4_add, cX4_add, 2, none, 1, 4))))) = true by decide +kernel)⟩
theorem cqX1_31 (ini : Bool) (ret : Option FieldType) : (∀ w ∈ rW (miX1 ini ret) 31 (.inr (.inr (.inr (.inl (0, yX4_addNumber, cX4_addNumber, 2, none, 1, 4))))), w ∈ mT) ∧ rB (miX1 ini ret) 31 (.inr (.inr (.inr (.inl (0, yX4_addNumber, cX4_addNumber, 2, none, 1, 4))))) = true := ⟨(List.forall_mem_cons.mpr ⟨wd_384, (List.forall_mem_cons.mpr ⟨wd_38, (List.forall_mem_cons.mpr ⟨wd_40, (List.forall_mem_cons.mpr ⟨wd_15, (List.forall_mem_cons.mpr ⟨wd_39, (fun _ h => absurd h List.not_mem_nil)⟩)⟩)⟩)⟩)⟩), (show rB (miX1 false none) 31 (.inr (.inr (.inr (.inl (0, yX4_addNumber, cX4_addNumber, 2, none, 1, 4))))) = true by decide +kernel)⟩
theorem cqX1_34 (ini : Bool) (ret : Option FieldType) : (∀ w ∈ rW (miX1 ini ret) 34 (.inr (.inr (.inr (.inl (0, yX5_finish, cX5_finish, 4, (some (.object "GossipWatch$Row")), 0, 5))))), w ∈ mT) ∧ rB (miX1 ini ret) 34 (.inr (.inr (.inr (.inl (0, yX5_finish, cX5_finish, 4, (some (.object "GossipWatch$Row")), 0, 5))))) = true := ⟨(List.forall_mem_cons.mpr ⟨wd_385, (List.forall_mem_cons.mpr ⟨wd_62, (List.forall_mem_cons.mpr ⟨wd_64, (List.forall_mem_cons.mpr ⟨wd_49, (List.forall_mem_cons.mpr ⟨wd_63, (fun _ h => absurd h List.not_mem_nil)⟩)⟩)⟩)⟩)⟩), (show rB (miX1 false none) 34 (.inr (.inr (.inr (.inl (0, yX5_finish, cX5_finish, 4, (some (.object "GossipWatch$Row")), 0, 5))))) = true by decide +kernel)⟩
theorem cqX1_38 (ini : Bool) (ret : Option FieldType) : (∀ w ∈ rW (miX1 ini ret) 38 (.inr (.inr (.inr (.inl (0, yX4_addPart, cX4_addPart, 4, none, 3, 4))))), w ∈ mT) ∧ rB (miX1 ini ret) 38 (.inr (.inr (.inr (.inl (0, yX4_addPart, cX4_addPart, 4, none, 3, 4))))) = true := ⟨(List.forall_mem_cons.mpr ⟨wd_386, (List.forall_mem_cons.mpr ⟨wd_14, (List.forall_mem_cons.mpr ⟨wd_17, (List.forall_mem_cons.mpr ⟨wd_15, (List.forall_mem_cons.mpr ⟨wd_16, (fun _ h => absurd h List.not_mem_nil)⟩)⟩)⟩)⟩)⟩), (show rB (miX1 false none) 38 (.inr (.inr (.inr (.inl (0, yX4_addPart, cX4_addPart, 4, none, 3, 4))))) = true by decide +kernel)⟩
theorem cqX1_42 (ini : Bool) (ret : Option FieldType) : (∀ w ∈ rW (miX1 ini ret) 42 (.inr (.inr (.inr (.inl (0, yX4_at, cX4_at, 2, (some .int), 1, 4))))), w ∈ mT) ∧ rB (miX1 ini ret) 42 (.inr (.inr (.inr (.inl (0, yX4_at, cX4_at, 2, (some .int), 1, 4))))) = true := ⟨(List.forall_mem_cons.mpr ⟨wd_387, (List.forall_mem_cons.mpr ⟨wd_19, (List.forall_mem_cons.mpr ⟨wd_21, (List.forall_mem_cons.mpr ⟨wd_15, (List.forall_mem_cons.mpr ⟨wd_20, (fun _ h => absurd h List.not_mem_nil)⟩)⟩)⟩)⟩)⟩), (show rB (miX1 false none) 42 (.inr (.inr (.inr (.inl (0, yX4_at, cX4_at, 2, (some .int), 1, 4))))) = true by decide +kernel)⟩
theorem cqX1_46 (ini : Bool) (ret : Option FieldType) : (∀ w ∈ rW (miX1 ini ret) 46 (.inr (.inr (.inr (.inl (0, yX4_number, cX4_number, 2, (some .int), 1, 4))))), w ∈ mT) ∧ rB (miX1 ini ret) 46 (.inr (.inr (.inr (.inl (0, yX4_number, cX4_number, 2, (some .int), 1, 4))))) = true := ⟨(List.forall_mem_cons.mpr ⟨wd_388, (List.forall_mem_cons.mpr ⟨wd_44, (List.forall_mem_cons.mpr ⟨wd_46, (List.forall_mem_cons.mpr ⟨wd_15, (List.forall_mem_cons.mpr ⟨wd_45, (fun _ h => absurd h List.not_mem_nil)⟩)⟩)⟩)⟩)⟩), (show rB (miX1 false none) 46 (.inr (.inr (.inr (.inl (0, yX4_number, cX4_number, 2, (some .int), 1, 4))))) = true by decide +kernel)⟩
theorem cqX1_49 (ini : Bool) (ret : Option FieldType) : (∀ w ∈ rW (miX1 ini ret) 49 (.inr (.inr (.inr (.inl (0, yX1_signFor, cX1_signFor, 6, (some (.object "GossipWatch$Row")), 4, 1))))), w ∈ mT) ∧ rB (miX1 ini ret) 49 (.inr (.inr (.inr (.inl (0, yX1_signFor, cX1_signFor, 6, (some (.object "GossipWatch$Row")), 4, 1))))) = true := ⟨(List.forall_mem_cons.mpr ⟨wd_389, (List.forall_mem_cons.mpr ⟨wd_196, (List.forall_mem_cons.mpr ⟨wd_198, (List.forall_mem_cons.mpr ⟨wd_137, (List.forall_mem_cons.mpr ⟨wd_197, (fun _ h => absurd h List.not_mem_nil)⟩)⟩)⟩)⟩)⟩), (show rB (miX1 false none) 49 (.inr (.inr (.inr (.inl (0, yX1_signFor, cX1_signFor, 6, (some (.object "GossipWatch$Row")), 4, 1))))) = true by decide +kernel)⟩
theorem cqX1_53 (ini : Bool) (ret : Option FieldType) : (∀ w ∈ rW (miX1 ini ret) 53 (.inr (.inr (.inr (.inl (0, yX4_sameAs, cX4_sameAs, 6, (some .boolean), 4, 4))))), w ∈ mT) ∧ rB (miX1 ini ret) 53 (.inr (.inr (.inr (.inl (0, yX4_sameAs, cX4_sameAs, 6, (some .boolean), 4, 4))))) = true := ⟨(List.forall_mem_cons.mpr ⟨wd_390, (List.forall_mem_cons.mpr ⟨wd_88, (List.forall_mem_cons.mpr ⟨wd_90, (List.forall_mem_cons.mpr ⟨wd_15, (List.forall_mem_cons.mpr ⟨wd_89, (fun _ h => absurd h List.not_mem_nil)⟩)⟩)⟩)⟩)⟩), (show rB (miX1 false none) 53 (.inr (.inr (.inr (.inl (0, yX4_sameAs, cX4_sameAs, 6, (some .boolean), 4, 4))))) = true by decide +kernel)⟩
theorem ckX1 (ini : Bool) (ret : Option FieldType) : cpOK (miX1 ini ret) := (show tAll (fun i r => (∀ w ∈ rW (miX1 ini ret) i r, w ∈ mT) ∧ rB (miX1 ini ret) i r = true) cpX1 from (nd_all (nd_all (nd_all (lf_all (cqX1_3 ini ret)) (nd_all (lf_all (cqX1_9 ini ret)) (lf_all (cqX1_13 ini ret)))) (nd_all (nd_all (lf_all (cqX1_16 ini ret)) (lf_all (cqX1_20 ini ret))) (nd_all (lf_all (cqX1_23 ini ret)) (lf_all (cqX1_28 ini ret))))) (nd_all (nd_all (lf_all (cqX1_31 ini ret)) (nd_all (lf_all (cqX1_34 ini ret)) (lf_all (cqX1_38 ini ret)))) (nd_all (nd_all (lf_all (cqX1_42 ini ret)) (lf_all (cqX1_46 ini ret))) (nd_all (lf_all (cqX1_49 ini ret)) (lf_all (cqX1_53 ini ret)))))))
def cpX8 : Nat → Option mRf := (nd 113 (nd 76 (nd 57 (nd 34 (nd 17 (nd 11 (nd 7 (lf 1 (.inl (8, 6))) (lf 7 (.inl (8, 5)))) (nd 15 (lf 11 (.inr (.inr (.inr (.inl (0, yX8_put, cX8_put, 2, none, 1, 8)))))) (lf 15 (.inr (.inr (.inl (8))))))) (nd 25 (nd 21 (lf 17 (.inr (.inr (.inr (.inl (0, yX8_putNumber, cX8_putNumber, 5, none, 2, 8)))))) (lf 21 (.inl (8, 3)))) (nd 28 (lf 25 (.inl (8, 1))) (nd 31 (lf 28 (.inr (.inr (.inr (.inl (0, yX8_block, cX8_block, 6, none, 1, 8)))))) (lf 31 (.inl (8, 7))))))) (nd 47 (nd 41 (nd 37 (lf 34 (.inl (8, 2))) (lf 37 (.inr (.inr (.inr (.inl (1, yX8_turned, cX8_turned, 2, (some .int), 2, 8))))))) (nd 44 (lf 41 (.inl (8, 4))) (lf 44 (.inl (8, 0))))) (nd 54 (nd 53 (lf 47 (.inr (.inr (.inr (.inl (4, objectInit, ByteArray.empty, 0, none, 0, 0)))))) (lf 53 (.inr (.inl (1116352408))))) (nd 55 (lf 54 (.inr (.inl (1899447441)))) (nd 56 (lf 55 (.inr (.inl (-1245643825)))) (lf 56 (.inr (.inl (-373957723))))))))) (nd 66 (nd 61 (nd 59 (nd 58 (lf 57 (.inr (.inl (961987163)))) (lf 58 (.inr (.inl (1508970993))))) (nd 60 (lf 59 (.inr (.inl (-1841331548)))) (lf 60 (.inr (.inl (-1424204075)))))) (nd 63 (nd 62 (lf 61 (.inr (.inl (-670586216)))) (lf 62 (.inr (.inl (310598401))))) (nd 64 (lf 63 (.inr (.inl (607225278)))) (nd 65 (lf 64 (.inr (.inl (1426881987)))) (lf 65 (.inr (.inl (1925078388)))))))) (nd 71 (nd 68 (nd 67 (lf 66 (.inr (.inl (-2132889090)))) (lf 67 (.inr (.inl (-1680079193))))) (nd 69 (lf 68 (.inr (.inl (-1046744716)))) (nd 70 (lf 69 (.inr (.inl (-459576895)))) (lf 70 (.inr (.inl (-272742522))))))) (nd 73 (nd 72 (lf 71 (.inr (.inl (264347078)))) (lf 72 (.inr (.inl (604807628))))) (nd 74 (lf 73 (.inr (.inl (770255983)))) (nd 75 (lf 74 (.inr (.inl (1249150122)))) (lf 75 (.inr (.inl (1555081692)))))))))) (nd 94 (nd 85 (nd 80 (nd 78 (nd 77 (lf 76 (.inr (.inl (1996064986)))) (lf 77 (.inr (.inl (-1740746414))))) (nd 79 (lf 78 (.inr (.inl (-1473132947)))) (lf 79 (.inr (.inl (-1341970488)))))) (nd 82 (nd 81 (lf 80 (.inr (.inl (-1084653625)))) (lf 81 (.inr (.inl (-958395405))))) (nd 83 (lf 82 (.inr (.inl (-710438585)))) (nd 84 (lf 83 (.inr (.inl (113926993)))) (lf 84 (.inr (.inl (338241895)))))))) (nd 89 (nd 87 (nd 86 (lf 85 (.inr (.inl (666307205)))) (lf 86 (.inr (.inl (773529912))))) (nd 88 (lf 87 (.inr (.inl (1294757372)))) (lf 88 (.inr (.inl (1396182291)))))) (nd 91 (nd 90 (lf 89 (.inr (.inl (1695183700)))) (lf 90 (.inr (.inl (1986661051))))) (nd 92 (lf 91 (.inr (.inl (-2117940946)))) (nd 93 (lf 92 (.inr (.inl (-1838011259)))) (lf 93 (.inr (.inl (-1564481375))))))))) (nd 103 (nd 98 (nd 96 (nd 95 (lf 94 (.inr (.inl (-1474664885)))) (lf 95 (.inr (.inl (-1035236496))))) (nd 97 (lf 96 (.inr (.inl (-949202525)))) (lf 97 (.inr (.inl (-778901479)))))) (nd 100 (nd 99 (lf 98 (.inr (.inl (-694614492)))) (lf 99 (.inr (.inl (-200395387))))) (nd 101 (lf 100 (.inr (.inl (275423344)))) (nd 102 (lf 101 (.inr (.inl (430227734)))) (lf 102 (.inr (.inl (506948616)))))))) (nd 108 (nd 105 (nd 104 (lf 103 (.inr (.inl (659060556)))) (lf 104 (.inr (.inl (883997877))))) (nd 106 (lf 105 (.inr (.inl (958139571)))) (nd 107 (lf 106 (.inr (.inl (1322822218)))) (lf 107 (.inr (.inl (1537002063))))))) (nd 110 (nd 109 (lf 108 (.inr (.inl (1747873779)))) (lf 109 (.inr (.inl (1955562222))))) (nd 111 (lf 110 (.inr (.inl (2024104815)))) (nd 112 (lf 111 (.inr (.inl (-2067236844)))) (lf 112 (.inr (.inl (-1933114872))))))))))) (nd 200 (nd 143 (nd 122 (nd 117 (nd 115 (nd 114 (lf 113 (.inr (.inl (-1866530822)))) (lf 114 (.inr (.inl (-1538233109))))) (nd 116 (lf 115 (.inr (.inl (-1090935817)))) (lf 116 (.inr (.inl (-965641998)))))) (nd 119 (nd 118 (lf 117 (.inr (.inl (1779033703)))) (lf 118 (.inr (.inl (-1150833019))))) (nd 120 (lf 119 (.inr (.inl (1013904242)))) (nd 121 (lf 120 (.inr (.inl (-1521486534)))) (lf 121 (.inr (.inl (1359893119)))))))) (nd 128 (nd 124 (nd 123 (lf 122 (.inr (.inl (-1694144372)))) (lf 123 (.inr (.inl (528734635))))) (nd 125 (lf 124 (.inr (.inl (1541459225)))) (lf 125 (.inl (8, 8))))) (nd 134 (nd 131 (lf 128 (.inl (8, 9))) (lf 131 (.inl (8, 10)))) (nd 137 (lf 134 (.inl (8, 11))) (nd 140 (lf 137 (.inl (8, 12))) (lf 140 (.inl (8, 13)))))))) (nd 170 (nd 155 (nd 149 (nd 146 (lf 143 (.inl (8, 15))) (lf 146 (.inl (8, 16)))) (nd 152 (lf 149 (.inl (8, 18))) (lf 152 (.inl (8, 19))))) (nd 161 (nd 158 (lf 155 (.inl (8, 20))) (lf 158 (.inl (8, 21)))) (nd 164 (lf 161 (.inl (8, 22))) (nd 167 (lf 164 (.inl (8, 23))) (lf 167 (.inl (8, 24))))))) (nd 185 (nd 176 (nd 173 (lf 170 (.inl (8, 25))) (lf 173 (.inl (8, 26)))) (nd 179 (lf 176 (.inl (8, 27))) (nd 182 (lf 179 (.inl (8, 28))) (lf 182 (.inl (8, 29)))))) (nd 191 (nd 188 (lf 185 (.inl (8, 30))) (lf 188 (.inl (8, 31)))) (nd 194 (lf 191 (.inl (8, 33))) (nd 197 (lf 194 (.inl (8, 34))) (lf 197 (.inr (.inr (.inr (.inl (0, yX8_start, cX8_start, 1, none, 0, 8)))))))))))) (nd 263 (nd 233 (nd 215 (nd 207 (nd 203 (lf 200 (.inr (.inr (.inr (.inl (0, yX8_sum, cX8_sum, 5, none, 1, 8)))))) (lf 203 (.inr (.inr (.inr (.inl (1, yX8_in, cX8_in, 3, (some .boolean), 3, 8))))))) (nd 211 (lf 207 (.inr (.inr (.inr (.inl (1, yX8_isView, cX8_isView, 2, (some .boolean), 2, 8)))))) (lf 211 (.inr (.inr (.inr (.inl (0, yX8_putRow, cX8_putRow, 5, none, 3, 8)))))))) (nd 223 (nd 219 (lf 215 (.inr (.inr (.inr (.inl (1, yX8_half, cX8_half, 2, (some .int), 1, 8)))))) (lf 219 (.inr (.inr (.inr (.inl (0, yX8_root, cX8_root, 6, none, 4, 8))))))) (nd 227 (lf 223 (.inr (.inr (.inr (.inl (0, yX8_joined, cX8_joined, 6, none, 5, 8)))))) (nd 230 (lf 227 (.inl (8, 14))) (lf 230 (.inr (.inr (.inr (.inl (0, yX8_adds, cX8_adds, 2, none, 1, 8)))))))))) (nd 246 (nd 240 (nd 237 (lf 233 (.inr (.inr (.inr (.inl (0, yX8_begins, cX8_begins, 3, none, 2, 8)))))) (lf 237 (.inr (.inr (.inr (.inl (0, yX8_addsNumber, cX8_addsNumber, 3, none, 1, 8))))))) (nd 243 (lf 240 (.inr (.inr (.inr (.inl (0, yX8_addsHash, cX8_addsHash, 3, none, 1, 8)))))) (lf 243 (.inr (.inr (.inr (.inl (0, yX8_signs, cX8_signs, 4, none, 3, 8)))))))) (nd 253 (nd 250 (lf 246 (.inr (.inr (.inr (.inl (0, yX8_ends, cX8_ends, 1, (some .int), 0, 8)))))) (lf 250 (.inl (8, 17)))) (nd 256 (lf 253 (.inr (.inr (.inr (.inl (0, yX8_note, cX8_note, 3, none, 2, 8)))))) (nd 259 (lf 256 (.inr (.inr (.inr (.inl (0, yX8_addsNoted, cX8_addsNoted, 2, none, 1, 8)))))) (lf 259 (.inr (.inr (.inr (.inl (0, yX8_isLetter, cX8_isLetter, 2, (some .boolean), 1, 8))))))))))) (nd 295 (nd 277 (nd 270 (nd 266 (lf 263 (.inr (.inr (.inr (.inl (1, yX8_headOf, cX8_headOf, 1, (some .int), 1, 8)))))) (lf 266 (.inr (.inr (.inr (.inl (1, yX8_number, cX8_number, 2, (some .int), 2, 8))))))) (nd 274 (lf 270 (.inr (.inr (.inr (.inl (1, yX8_isSame, cX8_isSame, 6, (some .boolean), 5, 8)))))) (lf 274 (.inr (.inr (.inr (.inl (0, yX8_copies, cX8_copies, 5, none, 3, 8)))))))) (nd 284 (nd 281 (lf 277 (.inr (.inr (.inr (.inl (0, yX8_isSigned, cX8_isSigned, 3, (some .boolean), 2, 8)))))) (lf 281 (.inr (.inr (.inr (.inl (1, yX8_headAt, cX8_headAt, 2, (some .int), 2, 8))))))) (nd 288 (lf 284 (.inr (.inr (.inr (.inl (0, yX8_isAgainst, cX8_isAgainst, 6, (some .boolean), 4, 8)))))) (nd 292 (lf 288 (.inr (.inr (.inr (.inl (0, yX8_records, cX8_records, 7, none, 5, 8)))))) (lf 292 (.inr (.inr (.inr (.inl (1, yX8_factAt, cX8_factAt, 2, (some .int), 2, 8)))))))))) (nd 313 (nd 302 (nd 299 (lf 295 (.inr (.inr (.inr (.inl (0, yX8_leads, cX8_leads, 14, (some .boolean), 8, 8)))))) (lf 299 (.inr (.inr (.inr (.inl (0, yX8_isWay, cX8_isWay, 13, (some .boolean), 8, 8))))))) (nd 306 (lf 302 (.inr (.inr (.inr (.inl (0, yX8_accepts, cX8_accepts, 6, (some .boolean), 3, 8)))))) (nd 309 (lf 306 (.inr (.inr (.inr (.inl (0, yX8_isOther, cX8_isOther, 6, (some .boolean), 3, 8)))))) (lf 309 (.inr (.inr (.inr (.inl (0, yX8_takesHead, cX8_takesHead, 7, (some .int), 3, 8))))))))) (nd 319 (nd 316 (lf 313 (.inr (.inr (.inr (.inl (0, yX8_answered, cX8_answered, 3, (some .int), 2, 8)))))) (lf 316 (.inr (.inr (.inr (.inl (0, yX8_takesProof, cX8_takesProof, 8, (some .int), 2, 8))))))) (nd 322 (lf 319 (.inr (.inr (.inr (.inl (0, yX8_isRecord, cX8_isRecord, 3, (some .boolean), 2, 8)))))) (nd 325 (lf 322 (.inl (8, 32))) (lf 325 (.inr (.inr (.inr (.inl (0, yX8_lays, cX8_lays, 5, none, 3, 8))))))))))))))
abbrev miX8 (ini : Bool) (ret : Option FieldType) : mI := ((RX8, 8), cpX8, ini, ret)
theorem cqX8_1 (ini : Bool) (ret : Option FieldType) : (∀ w ∈ rW (miX8 ini ret) 1 (.inl (8, 6)), w ∈ mT) ∧ rB (miX8 ini ret) 1 (.inl (8, 6)) = true := ⟨(List.forall_mem_cons.mpr ⟨wd_391, (fun _ h => absurd h List.not_mem_nil)⟩), (show rB (miX8 false none) 1 (.inl (8, 6)) = true by decide +kernel)⟩
theorem cqX8_7 (ini : Bool) (ret : Option FieldType) : (∀ w ∈ rW (miX8 ini ret) 7 (.inl (8, 5)), w ∈ mT) ∧ rB (miX8 ini ret) 7 (.inl (8, 5)) = true := ⟨(List.forall_mem_cons.mpr ⟨wd_392, (fun _ h => absurd h List.not_mem_nil)⟩), (show rB (miX8 false none) 7 (.inl (8, 5)) = true by decide +kernel)⟩
theorem cqX8_11 (ini : Bool) (ret : Option FieldType) : (∀ w ∈ rW (miX8 ini ret) 11 (.inr (.inr (.inr (.inl (0, yX8_put, cX8_put, 2, none, 1, 8))))), w ∈ mT) ∧ rB (miX8 ini ret) 11 (.inr (.inr (.inr (.inl (0, yX8_put, cX8_put, 2, none, 1, 8))))) = true := ⟨(List.forall_mem_cons.mpr ⟨wd_393, (List.forall_mem_cons.mpr ⟨wd_394, (List.forall_mem_cons.mpr ⟨wd_397, (List.forall_mem_cons.mpr ⟨wd_395, (List.forall_mem_cons.mpr ⟨wd_396, (fun _ h => absurd h List.not_mem_nil)⟩)⟩)⟩)⟩)⟩), (show rB (miX8 false none) 11 (.inr (.inr (.inr (.inl (0, yX8_put, cX8_put, 2, none, 1, 8))))) = true by decide +kernel)⟩
theorem cqX8_15 (ini : Bool) (ret : Option FieldType) : (∀ w ∈ rW (miX8 ini ret) 15 (.inr (.inr (.inl (8)))), w ∈ mT) ∧ rB (miX8 ini ret) 15 (.inr (.inr (.inl (8)))) = true := ⟨(List.forall_mem_cons.mpr ⟨wd_398, (fun _ h => absurd h List.not_mem_nil)⟩), (show rB (miX8 false none) 15 (.inr (.inr (.inl (8)))) = true by decide +kernel)⟩
theorem cqX8_17 (ini : Bool) (ret : Option FieldType) : (∀ w ∈ rW (miX8 ini ret) 17 (.inr (.inr (.inr (.inl (0, yX8_putNumber, cX8_putNumber, 5, none, 2, 8))))), w ∈ mT) ∧ rB (miX8 ini ret) 17 (.inr (.inr (.inr (.inl (0, yX8_putNumber, cX8_putNumber, 5, none, 2, 8))))) = true := ⟨(List.forall_mem_cons.mpr ⟨wd_399, (List.forall_mem_cons.mpr ⟨wd_400, (List.forall_mem_cons.mpr ⟨wd_402, (List.forall_mem_cons.mpr ⟨wd_395, (List.forall_mem_cons.mpr ⟨wd_401, (fun _ h => absurd h List.not_mem_nil)⟩)⟩)⟩)⟩)⟩), (show rB (miX8 false none) 17 (.inr (.inr (.inr (.inl (0, yX8_putNumber, cX8_putNumber, 5, none, 2, 8))))) = true by decide +kernel)⟩
theorem cqX8_21 (ini : Bool) (ret : Option FieldType) : (∀ w ∈ rW (miX8 ini ret) 21 (.inl (8, 3)), w ∈ mT) ∧ rB (miX8 ini ret) 21 (.inl (8, 3)) = true := ⟨(List.forall_mem_cons.mpr ⟨wd_403, (fun _ h => absurd h List.not_mem_nil)⟩), (show rB (miX8 false none) 21 (.inl (8, 3)) = true by decide +kernel)⟩
theorem cqX8_25 (ini : Bool) (ret : Option FieldType) : (∀ w ∈ rW (miX8 ini ret) 25 (.inl (8, 1)), w ∈ mT) ∧ rB (miX8 ini ret) 25 (.inl (8, 1)) = true := ⟨(List.forall_mem_cons.mpr ⟨wd_404, (fun _ h => absurd h List.not_mem_nil)⟩), (show rB (miX8 false none) 25 (.inl (8, 1)) = true by decide +kernel)⟩
theorem cqX8_28 (ini : Bool) (ret : Option FieldType) : (∀ w ∈ rW (miX8 ini ret) 28 (.inr (.inr (.inr (.inl (0, yX8_block, cX8_block, 6, none, 1, 8))))), w ∈ mT) ∧ rB (miX8 ini ret) 28 (.inr (.inr (.inr (.inl (0, yX8_block, cX8_block, 6, none, 1, 8))))) = true := ⟨(List.forall_mem_cons.mpr ⟨wd_405, (List.forall_mem_cons.mpr ⟨wd_406, (List.forall_mem_cons.mpr ⟨wd_408, (List.forall_mem_cons.mpr ⟨wd_395, (List.forall_mem_cons.mpr ⟨wd_407, (fun _ h => absurd h List.not_mem_nil)⟩)⟩)⟩)⟩)⟩), (show rB (miX8 false none) 28 (.inr (.inr (.inr (.inl (0, yX8_block, cX8_block, 6, none, 1, 8))))) = true by decide +kernel)⟩
theorem cqX8_31 (ini : Bool) (ret : Option FieldType) : (∀ w ∈ rW (miX8 ini ret) 31 (.inl (8, 7)), w ∈ mT) ∧ rB (miX8 ini ret) 31 (.inl (8, 7)) = true := ⟨(List.forall_mem_cons.mpr ⟨wd_409, (fun _ h => absurd h List.not_mem_nil)⟩), (show rB (miX8 false none) 31 (.inl (8, 7)) = true by decide +kernel)⟩
theorem cqX8_34 (ini : Bool) (ret : Option FieldType) : (∀ w ∈ rW (miX8 ini ret) 34 (.inl (8, 2)), w ∈ mT) ∧ rB (miX8 ini ret) 34 (.inl (8, 2)) = true := ⟨(List.forall_mem_cons.mpr ⟨wd_410, (fun _ h => absurd h List.not_mem_nil)⟩), (show rB (miX8 false none) 34 (.inl (8, 2)) = true by decide +kernel)⟩
theorem cqX8_37 (ini : Bool) (ret : Option FieldType) : (∀ w ∈ rW (miX8 ini ret) 37 (.inr (.inr (.inr (.inl (1, yX8_turned, cX8_turned, 2, (some .int), 2, 8))))), w ∈ mT) ∧ rB (miX8 ini ret) 37 (.inr (.inr (.inr (.inl (1, yX8_turned, cX8_turned, 2, (some .int), 2, 8))))) = true := ⟨(List.forall_mem_cons.mpr ⟨wd_411, (List.forall_mem_cons.mpr ⟨wd_413, (List.forall_mem_cons.mpr ⟨wd_395, (List.forall_mem_cons.mpr ⟨wd_412, (fun _ h => absurd h List.not_mem_nil)⟩)⟩)⟩)⟩), (show rB (miX8 false none) 37 (.inr (.inr (.inr (.inl (1, yX8_turned, cX8_turned, 2, (some .int), 2, 8))))) = true by decide +kernel)⟩
theorem cqX8_41 (ini : Bool) (ret : Option FieldType) : (∀ w ∈ rW (miX8 ini ret) 41 (.inl (8, 4)), w ∈ mT) ∧ rB (miX8 ini ret) 41 (.inl (8, 4)) = true := ⟨(List.forall_mem_cons.mpr ⟨wd_414, (fun _ h => absurd h List.not_mem_nil)⟩), (show rB (miX8 false none) 41 (.inl (8, 4)) = true by decide +kernel)⟩
theorem cqX8_44 (ini : Bool) (ret : Option FieldType) : (∀ w ∈ rW (miX8 ini ret) 44 (.inl (8, 0)), w ∈ mT) ∧ rB (miX8 ini ret) 44 (.inl (8, 0)) = true := ⟨(List.forall_mem_cons.mpr ⟨wd_415, (fun _ h => absurd h List.not_mem_nil)⟩), (show rB (miX8 false none) 44 (.inl (8, 0)) = true by decide +kernel)⟩
theorem cqX8_47 (ini : Bool) (ret : Option FieldType) : (∀ w ∈ rW (miX8 ini ret) 47 (.inr (.inr (.inr (.inl (4, objectInit, ByteArray.empty, 0, none, 0, 0))))), w ∈ mT) ∧ rB (miX8 ini ret) 47 (.inr (.inr (.inr (.inl (4, objectInit, ByteArray.empty, 0, none, 0, 0))))) = true := ⟨(List.forall_mem_cons.mpr ⟨wd_416, (List.forall_mem_cons.mpr ⟨wd_1, (List.forall_mem_cons.mpr ⟨wd_2, (fun _ h => absurd h List.not_mem_nil)⟩)⟩)⟩), (show rB (miX8 false none) 47 (.inr (.inr (.inr (.inl (4, objectInit, ByteArray.empty, 0, none, 0, 0))))) = true by decide +kernel)⟩
theorem cqX8_53 (ini : Bool) (ret : Option FieldType) : (∀ w ∈ rW (miX8 ini ret) 53 (.inr (.inl (1116352408))), w ∈ mT) ∧ rB (miX8 ini ret) 53 (.inr (.inl (1116352408))) = true := ⟨(List.forall_mem_cons.mpr ⟨wd_417, (fun _ h => absurd h List.not_mem_nil)⟩), (show rB (miX8 false none) 53 (.inr (.inl (1116352408))) = true by decide +kernel)⟩
theorem cqX8_54 (ini : Bool) (ret : Option FieldType) : (∀ w ∈ rW (miX8 ini ret) 54 (.inr (.inl (1899447441))), w ∈ mT) ∧ rB (miX8 ini ret) 54 (.inr (.inl (1899447441))) = true := ⟨(List.forall_mem_cons.mpr ⟨wd_418, (fun _ h => absurd h List.not_mem_nil)⟩), (show rB (miX8 false none) 54 (.inr (.inl (1899447441))) = true by decide +kernel)⟩
theorem cqX8_55 (ini : Bool) (ret : Option FieldType) : (∀ w ∈ rW (miX8 ini ret) 55 (.inr (.inl (-1245643825))), w ∈ mT) ∧ rB (miX8 ini ret) 55 (.inr (.inl (-1245643825))) = true := ⟨(List.forall_mem_cons.mpr ⟨wd_419, (fun _ h => absurd h List.not_mem_nil)⟩), (show rB (miX8 false none) 55 (.inr (.inl (-1245643825))) = true by decide +kernel)⟩
theorem cqX8_56 (ini : Bool) (ret : Option FieldType) : (∀ w ∈ rW (miX8 ini ret) 56 (.inr (.inl (-373957723))), w ∈ mT) ∧ rB (miX8 ini ret) 56 (.inr (.inl (-373957723))) = true := ⟨(List.forall_mem_cons.mpr ⟨wd_420, (fun _ h => absurd h List.not_mem_nil)⟩), (show rB (miX8 false none) 56 (.inr (.inl (-373957723))) = true by decide +kernel)⟩
theorem cqX8_57 (ini : Bool) (ret : Option FieldType) : (∀ w ∈ rW (miX8 ini ret) 57 (.inr (.inl (961987163))), w ∈ mT) ∧ rB (miX8 ini ret) 57 (.inr (.inl (961987163))) = true := ⟨(List.forall_mem_cons.mpr ⟨wd_421, (fun _ h => absurd h List.not_mem_nil)⟩), (show rB (miX8 false none) 57 (.inr (.inl (961987163))) = true by decide +kernel)⟩
theorem cqX8_58 (ini : Bool) (ret : Option FieldType) : (∀ w ∈ rW (miX8 ini ret) 58 (.inr (.inl (1508970993))), w ∈ mT) ∧ rB (miX8 ini ret) 58 (.inr (.inl (1508970993))) = true := ⟨(List.forall_mem_cons.mpr ⟨wd_422, (fun _ h => absurd h List.not_mem_nil)⟩), (show rB (miX8 false none) 58 (.inr (.inl (1508970993))) = true by decide +kernel)⟩
theorem cqX8_59 (ini : Bool) (ret : Option FieldType) : (∀ w ∈ rW (miX8 ini ret) 59 (.inr (.inl (-1841331548))), w ∈ mT) ∧ rB (miX8 ini ret) 59 (.inr (.inl (-1841331548))) = true := ⟨(List.forall_mem_cons.mpr ⟨wd_423, (fun _ h => absurd h List.not_mem_nil)⟩), (show rB (miX8 false none) 59 (.inr (.inl (-1841331548))) = true by decide +kernel)⟩
theorem cqX8_60 (ini : Bool) (ret : Option FieldType) : (∀ w ∈ rW (miX8 ini ret) 60 (.inr (.inl (-1424204075))), w ∈ mT) ∧ rB (miX8 ini ret) 60 (.inr (.inl (-1424204075))) = true := ⟨(List.forall_mem_cons.mpr ⟨wd_424, (fun _ h => absurd h List.not_mem_nil)⟩), (show rB (miX8 false none) 60 (.inr (.inl (-1424204075))) = true by decide +kernel)⟩
theorem cqX8_61 (ini : Bool) (ret : Option FieldType) : (∀ w ∈ rW (miX8 ini ret) 61 (.inr (.inl (-670586216))), w ∈ mT) ∧ rB (miX8 ini ret) 61 (.inr (.inl (-670586216))) = true := ⟨(List.forall_mem_cons.mpr ⟨wd_425, (fun _ h => absurd h List.not_mem_nil)⟩), (show rB (miX8 false none) 61 (.inr (.inl (-670586216))) = true by decide +kernel)⟩
theorem cqX8_62 (ini : Bool) (ret : Option FieldType) : (∀ w ∈ rW (miX8 ini ret) 62 (.inr (.inl (310598401))), w ∈ mT) ∧ rB (miX8 ini ret) 62 (.inr (.inl (310598401))) = true := ⟨(List.forall_mem_cons.mpr ⟨wd_426, (fun _ h => absurd h List.not_mem_nil)⟩), (show rB (miX8 false none) 62 (.inr (.inl (310598401))) = true by decide +kernel)⟩
theorem cqX8_63 (ini : Bool) (ret : Option FieldType) : (∀ w ∈ rW (miX8 ini ret) 63 (.inr (.inl (607225278))), w ∈ mT) ∧ rB (miX8 ini ret) 63 (.inr (.inl (607225278))) = true := ⟨(List.forall_mem_cons.mpr ⟨wd_427, (fun _ h => absurd h List.not_mem_nil)⟩), (show rB (miX8 false none) 63 (.inr (.inl (607225278))) = true by decide +kernel)⟩
theorem cqX8_64 (ini : Bool) (ret : Option FieldType) : (∀ w ∈ rW (miX8 ini ret) 64 (.inr (.inl (1426881987))), w ∈ mT) ∧ rB (miX8 ini ret) 64 (.inr (.inl (1426881987))) = true := ⟨(List.forall_mem_cons.mpr ⟨wd_428, (fun _ h => absurd h List.not_mem_nil)⟩), (show rB (miX8 false none) 64 (.inr (.inl (1426881987))) = true by decide +kernel)⟩
theorem cqX8_65 (ini : Bool) (ret : Option FieldType) : (∀ w ∈ rW (miX8 ini ret) 65 (.inr (.inl (1925078388))), w ∈ mT) ∧ rB (miX8 ini ret) 65 (.inr (.inl (1925078388))) = true := ⟨(List.forall_mem_cons.mpr ⟨wd_429, (fun _ h => absurd h List.not_mem_nil)⟩), (show rB (miX8 false none) 65 (.inr (.inl (1925078388))) = true by decide +kernel)⟩
theorem cqX8_66 (ini : Bool) (ret : Option FieldType) : (∀ w ∈ rW (miX8 ini ret) 66 (.inr (.inl (-2132889090))), w ∈ mT) ∧ rB (miX8 ini ret) 66 (.inr (.inl (-2132889090))) = true := ⟨(List.forall_mem_cons.mpr ⟨wd_430, (fun _ h => absurd h List.not_mem_nil)⟩), (show rB (miX8 false none) 66 (.inr (.inl (-2132889090))) = true by decide +kernel)⟩
theorem cqX8_67 (ini : Bool) (ret : Option FieldType) : (∀ w ∈ rW (miX8 ini ret) 67 (.inr (.inl (-1680079193))), w ∈ mT) ∧ rB (miX8 ini ret) 67 (.inr (.inl (-1680079193))) = true := ⟨(List.forall_mem_cons.mpr ⟨wd_431, (fun _ h => absurd h List.not_mem_nil)⟩), (show rB (miX8 false none) 67 (.inr (.inl (-1680079193))) = true by decide +kernel)⟩
theorem cqX8_68 (ini : Bool) (ret : Option FieldType) : (∀ w ∈ rW (miX8 ini ret) 68 (.inr (.inl (-1046744716))), w ∈ mT) ∧ rB (miX8 ini ret) 68 (.inr (.inl (-1046744716))) = true := ⟨(List.forall_mem_cons.mpr ⟨wd_432, (fun _ h => absurd h List.not_mem_nil)⟩), (show rB (miX8 false none) 68 (.inr (.inl (-1046744716))) = true by decide +kernel)⟩
theorem cqX8_69 (ini : Bool) (ret : Option FieldType) : (∀ w ∈ rW (miX8 ini ret) 69 (.inr (.inl (-459576895))), w ∈ mT) ∧ rB (miX8 ini ret) 69 (.inr (.inl (-459576895))) = true := ⟨(List.forall_mem_cons.mpr ⟨wd_433, (fun _ h => absurd h List.not_mem_nil)⟩), (show rB (miX8 false none) 69 (.inr (.inl (-459576895))) = true by decide +kernel)⟩
theorem cqX8_70 (ini : Bool) (ret : Option FieldType) : (∀ w ∈ rW (miX8 ini ret) 70 (.inr (.inl (-272742522))), w ∈ mT) ∧ rB (miX8 ini ret) 70 (.inr (.inl (-272742522))) = true := ⟨(List.forall_mem_cons.mpr ⟨wd_434, (fun _ h => absurd h List.not_mem_nil)⟩), (show rB (miX8 false none) 70 (.inr (.inl (-272742522))) = true by decide +kernel)⟩
theorem cqX8_71 (ini : Bool) (ret : Option FieldType) : (∀ w ∈ rW (miX8 ini ret) 71 (.inr (.inl (264347078))), w ∈ mT) ∧ rB (miX8 ini ret) 71 (.inr (.inl (264347078))) = true := ⟨(List.forall_mem_cons.mpr ⟨wd_435, (fun _ h => absurd h List.not_mem_nil)⟩), (show rB (miX8 false none) 71 (.inr (.inl (264347078))) = true by decide +kernel)⟩
theorem cqX8_72 (ini : Bool) (ret : Option FieldType) : (∀ w ∈ rW (miX8 ini ret) 72 (.inr (.inl (604807628))), w ∈ mT) ∧ rB (miX8 ini ret) 72 (.inr (.inl (604807628))) = true := ⟨(List.forall_mem_cons.mpr ⟨wd_436, (fun _ h => absurd h List.not_mem_nil)⟩), (show rB (miX8 false none) 72 (.inr (.inl (604807628))) = true by decide +kernel)⟩
theorem cqX8_73 (ini : Bool) (ret : Option FieldType) : (∀ w ∈ rW (miX8 ini ret) 73 (.inr (.inl (770255983))), w ∈ mT) ∧ rB (miX8 ini ret) 73 (.inr (.inl (770255983))) = true := ⟨(List.forall_mem_cons.mpr ⟨wd_437, (fun _ h => absurd h List.not_mem_nil)⟩), (show rB (miX8 false none) 73 (.inr (.inl (770255983))) = true by decide +kernel)⟩
theorem cqX8_74 (ini : Bool) (ret : Option FieldType) : (∀ w ∈ rW (miX8 ini ret) 74 (.inr (.inl (1249150122))), w ∈ mT) ∧ rB (miX8 ini ret) 74 (.inr (.inl (1249150122))) = true := ⟨(List.forall_mem_cons.mpr ⟨wd_438, (fun _ h => absurd h List.not_mem_nil)⟩), (show rB (miX8 false none) 74 (.inr (.inl (1249150122))) = true by decide +kernel)⟩
theorem cqX8_75 (ini : Bool) (ret : Option FieldType) : (∀ w ∈ rW (miX8 ini ret) 75 (.inr (.inl (1555081692))), w ∈ mT) ∧ rB (miX8 ini ret) 75 (.inr (.inl (1555081692))) = true := ⟨(List.forall_mem_cons.mpr ⟨wd_439, (fun _ h => absurd h List.not_mem_nil)⟩), (show rB (miX8 false none) 75 (.inr (.inl (1555081692))) = true by decide +kernel)⟩
theorem cqX8_76 (ini : Bool) (ret : Option FieldType) : (∀ w ∈ rW (miX8 ini ret) 76 (.inr (.inl (1996064986))), w ∈ mT) ∧ rB (miX8 ini ret) 76 (.inr (.inl (1996064986))) = true := ⟨(List.forall_mem_cons.mpr ⟨wd_440, (fun _ h => absurd h List.not_mem_nil)⟩), (show rB (miX8 false none) 76 (.inr (.inl (1996064986))) = true by decide +kernel)⟩
theorem cqX8_77 (ini : Bool) (ret : Option FieldType) : (∀ w ∈ rW (miX8 ini ret) 77 (.inr (.inl (-1740746414))), w ∈ mT) ∧ rB (miX8 ini ret) 77 (.inr (.inl (-1740746414))) = true := ⟨(List.forall_mem_cons.mpr ⟨wd_441, (fun _ h => absurd h List.not_mem_nil)⟩), (show rB (miX8 false none) 77 (.inr (.inl (-1740746414))) = true by decide +kernel)⟩
theorem cqX8_78 (ini : Bool) (ret : Option FieldType) : (∀ w ∈ rW (miX8 ini ret) 78 (.inr (.inl (-1473132947))), w ∈ mT) ∧ rB (miX8 ini ret) 78 (.inr (.inl (-1473132947))) = true := ⟨(List.forall_mem_cons.mpr ⟨wd_442, (fun _ h => absurd h List.not_mem_nil)⟩), (show rB (miX8 false none) 78 (.inr (.inl (-1473132947))) = true by decide +kernel)⟩
theorem cqX8_79 (ini : Bool) (ret : Option FieldType) : (∀ w ∈ rW (miX8 ini ret) 79 (.inr (.inl (-1341970488))), w ∈ mT) ∧ rB (miX8 ini ret) 79 (.inr (.inl (-1341970488))) = true := ⟨(List.forall_mem_cons.mpr ⟨wd_443, (fun _ h => absurd h List.not_mem_nil)⟩), (show rB (miX8 false none) 79 (.inr (.inl (-1341970488))) = true by decide +kernel)⟩
theorem cqX8_80 (ini : Bool) (ret : Option FieldType) : (∀ w ∈ rW (miX8 ini ret) 80 (.inr (.inl (-1084653625))), w ∈ mT) ∧ rB (miX8 ini ret) 80 (.inr (.inl (-1084653625))) = true := ⟨(List.forall_mem_cons.mpr ⟨wd_444, (fun _ h => absurd h List.not_mem_nil)⟩), (show rB (miX8 false none) 80 (.inr (.inl (-1084653625))) = true by decide +kernel)⟩
theorem cqX8_81 (ini : Bool) (ret : Option FieldType) : (∀ w ∈ rW (miX8 ini ret) 81 (.inr (.inl (-958395405))), w ∈ mT) ∧ rB (miX8 ini ret) 81 (.inr (.inl (-958395405))) = true := ⟨(List.forall_mem_cons.mpr ⟨wd_445, (fun _ h => absurd h List.not_mem_nil)⟩), (show rB (miX8 false none) 81 (.inr (.inl (-958395405))) = true by decide +kernel)⟩
theorem cqX8_82 (ini : Bool) (ret : Option FieldType) : (∀ w ∈ rW (miX8 ini ret) 82 (.inr (.inl (-710438585))), w ∈ mT) ∧ rB (miX8 ini ret) 82 (.inr (.inl (-710438585))) = true := ⟨(List.forall_mem_cons.mpr ⟨wd_446, (fun _ h => absurd h List.not_mem_nil)⟩), (show rB (miX8 false none) 82 (.inr (.inl (-710438585))) = true by decide +kernel)⟩
theorem cqX8_83 (ini : Bool) (ret : Option FieldType) : (∀ w ∈ rW (miX8 ini ret) 83 (.inr (.inl (113926993))), w ∈ mT) ∧ rB (miX8 ini ret) 83 (.inr (.inl (113926993))) = true := ⟨(List.forall_mem_cons.mpr ⟨wd_447, (fun _ h => absurd h List.not_mem_nil)⟩), (show rB (miX8 false none) 83 (.inr (.inl (113926993))) = true by decide +kernel)⟩
theorem cqX8_84 (ini : Bool) (ret : Option FieldType) : (∀ w ∈ rW (miX8 ini ret) 84 (.inr (.inl (338241895))), w ∈ mT) ∧ rB (miX8 ini ret) 84 (.inr (.inl (338241895))) = true := ⟨(List.forall_mem_cons.mpr ⟨wd_448, (fun _ h => absurd h List.not_mem_nil)⟩), (show rB (miX8 false none) 84 (.inr (.inl (338241895))) = true by decide +kernel)⟩
theorem cqX8_85 (ini : Bool) (ret : Option FieldType) : (∀ w ∈ rW (miX8 ini ret) 85 (.inr (.inl (666307205))), w ∈ mT) ∧ rB (miX8 ini ret) 85 (.inr (.inl (666307205))) = true := ⟨(List.forall_mem_cons.mpr ⟨wd_449, (fun _ h => absurd h List.not_mem_nil)⟩), (show rB (miX8 false none) 85 (.inr (.inl (666307205))) = true by decide +kernel)⟩
theorem cqX8_86 (ini : Bool) (ret : Option FieldType) : (∀ w ∈ rW (miX8 ini ret) 86 (.inr (.inl (773529912))), w ∈ mT) ∧ rB (miX8 ini ret) 86 (.inr (.inl (773529912))) = true := ⟨(List.forall_mem_cons.mpr ⟨wd_450, (fun _ h => absurd h List.not_mem_nil)⟩), (show rB (miX8 false none) 86 (.inr (.inl (773529912))) = true by decide +kernel)⟩
theorem cqX8_87 (ini : Bool) (ret : Option FieldType) : (∀ w ∈ rW (miX8 ini ret) 87 (.inr (.inl (1294757372))), w ∈ mT) ∧ rB (miX8 ini ret) 87 (.inr (.inl (1294757372))) = true := ⟨(List.forall_mem_cons.mpr ⟨wd_451, (fun _ h => absurd h List.not_mem_nil)⟩), (show rB (miX8 false none) 87 (.inr (.inl (1294757372))) = true by decide +kernel)⟩
theorem cqX8_88 (ini : Bool) (ret : Option FieldType) : (∀ w ∈ rW (miX8 ini ret) 88 (.inr (.inl (1396182291))), w ∈ mT) ∧ rB (miX8 ini ret) 88 (.inr (.inl (1396182291))) = true := ⟨(List.forall_mem_cons.mpr ⟨wd_452, (fun _ h => absurd h List.not_mem_nil)⟩), (show rB (miX8 false none) 88 (.inr (.inl (1396182291))) = true by decide +kernel)⟩
theorem cqX8_89 (ini : Bool) (ret : Option FieldType) : (∀ w ∈ rW (miX8 ini ret) 89 (.inr (.inl (1695183700))), w ∈ mT) ∧ rB (miX8 ini ret) 89 (.inr (.inl (1695183700))) = true := ⟨(List.forall_mem_cons.mpr ⟨wd_453, (fun _ h => absurd h List.not_mem_nil)⟩), (show rB (miX8 false none) 89 (.inr (.inl (1695183700))) = true by decide +kernel)⟩
theorem cqX8_90 (ini : Bool) (ret : Option FieldType) : (∀ w ∈ rW (miX8 ini ret) 90 (.inr (.inl (1986661051))), w ∈ mT) ∧ rB (miX8 ini ret) 90 (.inr (.inl (1986661051))) = true := ⟨(List.forall_mem_cons.mpr ⟨wd_454, (fun _ h => absurd h List.not_mem_nil)⟩), (show rB (miX8 false none) 90 (.inr (.inl (1986661051))) = true by decide +kernel)⟩
theorem cqX8_91 (ini : Bool) (ret : Option FieldType) : (∀ w ∈ rW (miX8 ini ret) 91 (.inr (.inl (-2117940946))), w ∈ mT) ∧ rB (miX8 ini ret) 91 (.inr (.inl (-2117940946))) = true := ⟨(List.forall_mem_cons.mpr ⟨wd_455, (fun _ h => absurd h List.not_mem_nil)⟩), (show rB (miX8 false none) 91 (.inr (.inl (-2117940946))) = true by decide +kernel)⟩
theorem cqX8_92 (ini : Bool) (ret : Option FieldType) : (∀ w ∈ rW (miX8 ini ret) 92 (.inr (.inl (-1838011259))), w ∈ mT) ∧ rB (miX8 ini ret) 92 (.inr (.inl (-1838011259))) = true := ⟨(List.forall_mem_cons.mpr ⟨wd_456, (fun _ h => absurd h List.not_mem_nil)⟩), (show rB (miX8 false none) 92 (.inr (.inl (-1838011259))) = true by decide +kernel)⟩
theorem cqX8_93 (ini : Bool) (ret : Option FieldType) : (∀ w ∈ rW (miX8 ini ret) 93 (.inr (.inl (-1564481375))), w ∈ mT) ∧ rB (miX8 ini ret) 93 (.inr (.inl (-1564481375))) = true := ⟨(List.forall_mem_cons.mpr ⟨wd_457, (fun _ h => absurd h List.not_mem_nil)⟩), (show rB (miX8 false none) 93 (.inr (.inl (-1564481375))) = true by decide +kernel)⟩
theorem cqX8_94 (ini : Bool) (ret : Option FieldType) : (∀ w ∈ rW (miX8 ini ret) 94 (.inr (.inl (-1474664885))), w ∈ mT) ∧ rB (miX8 ini ret) 94 (.inr (.inl (-1474664885))) = true := ⟨(List.forall_mem_cons.mpr ⟨wd_458, (fun _ h => absurd h List.not_mem_nil)⟩), (show rB (miX8 false none) 94 (.inr (.inl (-1474664885))) = true by decide +kernel)⟩
theorem cqX8_95 (ini : Bool) (ret : Option FieldType) : (∀ w ∈ rW (miX8 ini ret) 95 (.inr (.inl (-1035236496))), w ∈ mT) ∧ rB (miX8 ini ret) 95 (.inr (.inl (-1035236496))) = true := ⟨(List.forall_mem_cons.mpr ⟨wd_459, (fun _ h => absurd h List.not_mem_nil)⟩), (show rB (miX8 false none) 95 (.inr (.inl (-1035236496))) = true by decide +kernel)⟩
theorem cqX8_96 (ini : Bool) (ret : Option FieldType) : (∀ w ∈ rW (miX8 ini ret) 96 (.inr (.inl (-949202525))), w ∈ mT) ∧ rB (miX8 ini ret) 96 (.inr (.inl (-949202525))) = true := ⟨(List.forall_mem_cons.mpr ⟨wd_460, (fun _ h => absurd h List.not_mem_nil)⟩), (show rB (miX8 false none) 96 (.inr (.inl (-949202525))) = true by decide +kernel)⟩
theorem cqX8_97 (ini : Bool) (ret : Option FieldType) : (∀ w ∈ rW (miX8 ini ret) 97 (.inr (.inl (-778901479))), w ∈ mT) ∧ rB (miX8 ini ret) 97 (.inr (.inl (-778901479))) = true := ⟨(List.forall_mem_cons.mpr ⟨wd_461, (fun _ h => absurd h List.not_mem_nil)⟩), (show rB (miX8 false none) 97 (.inr (.inl (-778901479))) = true by decide +kernel)⟩
theorem cqX8_98 (ini : Bool) (ret : Option FieldType) : (∀ w ∈ rW (miX8 ini ret) 98 (.inr (.inl (-694614492))), w ∈ mT) ∧ rB (miX8 ini ret) 98 (.inr (.inl (-694614492))) = true := ⟨(List.forall_mem_cons.mpr ⟨wd_462, (fun _ h => absurd h List.not_mem_nil)⟩), (show rB (miX8 false none) 98 (.inr (.inl (-694614492))) = true by decide +kernel)⟩
theorem cqX8_99 (ini : Bool) (ret : Option FieldType) : (∀ w ∈ rW (miX8 ini ret) 99 (.inr (.inl (-200395387))), w ∈ mT) ∧ rB (miX8 ini ret) 99 (.inr (.inl (-200395387))) = true := ⟨(List.forall_mem_cons.mpr ⟨wd_463, (fun _ h => absurd h List.not_mem_nil)⟩), (show rB (miX8 false none) 99 (.inr (.inl (-200395387))) = true by decide +kernel)⟩
theorem cqX8_100 (ini : Bool) (ret : Option FieldType) : (∀ w ∈ rW (miX8 ini ret) 100 (.inr (.inl (275423344))), w ∈ mT) ∧ rB (miX8 ini ret) 100 (.inr (.inl (275423344))) = true := ⟨(List.forall_mem_cons.mpr ⟨wd_464, (fun _ h => absurd h List.not_mem_nil)⟩), (show rB (miX8 false none) 100 (.inr (.inl (275423344))) = true by decide +kernel)⟩
theorem cqX8_101 (ini : Bool) (ret : Option FieldType) : (∀ w ∈ rW (miX8 ini ret) 101 (.inr (.inl (430227734))), w ∈ mT) ∧ rB (miX8 ini ret) 101 (.inr (.inl (430227734))) = true := ⟨(List.forall_mem_cons.mpr ⟨wd_465, (fun _ h => absurd h List.not_mem_nil)⟩), (show rB (miX8 false none) 101 (.inr (.inl (430227734))) = true by decide +kernel)⟩
theorem cqX8_102 (ini : Bool) (ret : Option FieldType) : (∀ w ∈ rW (miX8 ini ret) 102 (.inr (.inl (506948616))), w ∈ mT) ∧ rB (miX8 ini ret) 102 (.inr (.inl (506948616))) = true := ⟨(List.forall_mem_cons.mpr ⟨wd_466, (fun _ h => absurd h List.not_mem_nil)⟩), (show rB (miX8 false none) 102 (.inr (.inl (506948616))) = true by decide +kernel)⟩
theorem cqX8_103 (ini : Bool) (ret : Option FieldType) : (∀ w ∈ rW (miX8 ini ret) 103 (.inr (.inl (659060556))), w ∈ mT) ∧ rB (miX8 ini ret) 103 (.inr (.inl (659060556))) = true := ⟨(List.forall_mem_cons.mpr ⟨wd_467, (fun _ h => absurd h List.not_mem_nil)⟩), (show rB (miX8 false none) 103 (.inr (.inl (659060556))) = true by decide +kernel)⟩
theorem cqX8_104 (ini : Bool) (ret : Option FieldType) : (∀ w ∈ rW (miX8 ini ret) 104 (.inr (.inl (883997877))), w ∈ mT) ∧ rB (miX8 ini ret) 104 (.inr (.inl (883997877))) = true := ⟨(List.forall_mem_cons.mpr ⟨wd_468, (fun _ h => absurd h List.not_mem_nil)⟩), (show rB (miX8 false none) 104 (.inr (.inl (883997877))) = true by decide +kernel)⟩
theorem cqX8_105 (ini : Bool) (ret : Option FieldType) : (∀ w ∈ rW (miX8 ini ret) 105 (.inr (.inl (958139571))), w ∈ mT) ∧ rB (miX8 ini ret) 105 (.inr (.inl (958139571))) = true := ⟨(List.forall_mem_cons.mpr ⟨wd_469, (fun _ h => absurd h List.not_mem_nil)⟩), (show rB (miX8 false none) 105 (.inr (.inl (958139571))) = true by decide +kernel)⟩
theorem cqX8_106 (ini : Bool) (ret : Option FieldType) : (∀ w ∈ rW (miX8 ini ret) 106 (.inr (.inl (1322822218))), w ∈ mT) ∧ rB (miX8 ini ret) 106 (.inr (.inl (1322822218))) = true := ⟨(List.forall_mem_cons.mpr ⟨wd_470, (fun _ h => absurd h List.not_mem_nil)⟩), (show rB (miX8 false none) 106 (.inr (.inl (1322822218))) = true by decide +kernel)⟩
theorem cqX8_107 (ini : Bool) (ret : Option FieldType) : (∀ w ∈ rW (miX8 ini ret) 107 (.inr (.inl (1537002063))), w ∈ mT) ∧ rB (miX8 ini ret) 107 (.inr (.inl (1537002063))) = true := ⟨(List.forall_mem_cons.mpr ⟨wd_471, (fun _ h => absurd h List.not_mem_nil)⟩), (show rB (miX8 false none) 107 (.inr (.inl (1537002063))) = true by decide +kernel)⟩
theorem cqX8_108 (ini : Bool) (ret : Option FieldType) : (∀ w ∈ rW (miX8 ini ret) 108 (.inr (.inl (1747873779))), w ∈ mT) ∧ rB (miX8 ini ret) 108 (.inr (.inl (1747873779))) = true := ⟨(List.forall_mem_cons.mpr ⟨wd_472, (fun _ h => absurd h List.not_mem_nil)⟩), (show rB (miX8 false none) 108 (.inr (.inl (1747873779))) = true by decide +kernel)⟩
theorem cqX8_109 (ini : Bool) (ret : Option FieldType) : (∀ w ∈ rW (miX8 ini ret) 109 (.inr (.inl (1955562222))), w ∈ mT) ∧ rB (miX8 ini ret) 109 (.inr (.inl (1955562222))) = true := ⟨(List.forall_mem_cons.mpr ⟨wd_473, (fun _ h => absurd h List.not_mem_nil)⟩), (show rB (miX8 false none) 109 (.inr (.inl (1955562222))) = true by decide +kernel)⟩
theorem cqX8_110 (ini : Bool) (ret : Option FieldType) : (∀ w ∈ rW (miX8 ini ret) 110 (.inr (.inl (2024104815))), w ∈ mT) ∧ rB (miX8 ini ret) 110 (.inr (.inl (2024104815))) = true := ⟨(List.forall_mem_cons.mpr ⟨wd_474, (fun _ h => absurd h List.not_mem_nil)⟩), (show rB (miX8 false none) 110 (.inr (.inl (2024104815))) = true by decide +kernel)⟩
theorem cqX8_111 (ini : Bool) (ret : Option FieldType) : (∀ w ∈ rW (miX8 ini ret) 111 (.inr (.inl (-2067236844))), w ∈ mT) ∧ rB (miX8 ini ret) 111 (.inr (.inl (-2067236844))) = true := ⟨(List.forall_mem_cons.mpr ⟨wd_475, (fun _ h => absurd h List.not_mem_nil)⟩), (show rB (miX8 false none) 111 (.inr (.inl (-2067236844))) = true by decide +kernel)⟩
theorem cqX8_112 (ini : Bool) (ret : Option FieldType) : (∀ w ∈ rW (miX8 ini ret) 112 (.inr (.inl (-1933114872))), w ∈ mT) ∧ rB (miX8 ini ret) 112 (.inr (.inl (-1933114872))) = true := ⟨(List.forall_mem_cons.mpr ⟨wd_476, (fun _ h => absurd h List.not_mem_nil)⟩), (show rB (miX8 false none) 112 (.inr (.inl (-1933114872))) = true by decide +kernel)⟩
theorem cqX8_113 (ini : Bool) (ret : Option FieldType) : (∀ w ∈ rW (miX8 ini ret) 113 (.inr (.inl (-1866530822))), w ∈ mT) ∧ rB (miX8 ini ret) 113 (.inr (.inl (-1866530822))) = true := ⟨(List.forall_mem_cons.mpr ⟨wd_477, (fun _ h => absurd h List.not_mem_nil)⟩), (show rB (miX8 false none) 113 (.inr (.inl (-1866530822))) = true by decide +kernel)⟩
theorem cqX8_114 (ini : Bool) (ret : Option FieldType) : (∀ w ∈ rW (miX8 ini ret) 114 (.inr (.inl (-1538233109))), w ∈ mT) ∧ rB (miX8 ini ret) 114 (.inr (.inl (-1538233109))) = true := ⟨(List.forall_mem_cons.mpr ⟨wd_478, (fun _ h => absurd h List.not_mem_nil)⟩), (show rB (miX8 false none) 114 (.inr (.inl (-1538233109))) = true by decide +kernel)⟩
theorem cqX8_115 (ini : Bool) (ret : Option FieldType) : (∀ w ∈ rW (miX8 ini ret) 115 (.inr (.inl (-1090935817))), w ∈ mT) ∧ rB (miX8 ini ret) 115 (.inr (.inl (-1090935817))) = true := ⟨(List.forall_mem_cons.mpr ⟨wd_479, (fun _ h => absurd h List.not_mem_nil)⟩), (show rB (miX8 false none) 115 (.inr (.inl (-1090935817))) = true by decide +kernel)⟩
theorem cqX8_116 (ini : Bool) (ret : Option FieldType) : (∀ w ∈ rW (miX8 ini ret) 116 (.inr (.inl (-965641998))), w ∈ mT) ∧ rB (miX8 ini ret) 116 (.inr (.inl (-965641998))) = true := ⟨(List.forall_mem_cons.mpr ⟨wd_480, (fun _ h => absurd h List.not_mem_nil)⟩), (show rB (miX8 false none) 116 (.inr (.inl (-965641998))) = true by decide +kernel)⟩
theorem cqX8_117 (ini : Bool) (ret : Option FieldType) : (∀ w ∈ rW (miX8 ini ret) 117 (.inr (.inl (1779033703))), w ∈ mT) ∧ rB (miX8 ini ret) 117 (.inr (.inl (1779033703))) = true := ⟨(List.forall_mem_cons.mpr ⟨wd_481, (fun _ h => absurd h List.not_mem_nil)⟩), (show rB (miX8 false none) 117 (.inr (.inl (1779033703))) = true by decide +kernel)⟩
theorem cqX8_118 (ini : Bool) (ret : Option FieldType) : (∀ w ∈ rW (miX8 ini ret) 118 (.inr (.inl (-1150833019))), w ∈ mT) ∧ rB (miX8 ini ret) 118 (.inr (.inl (-1150833019))) = true := ⟨(List.forall_mem_cons.mpr ⟨wd_482, (fun _ h => absurd h List.not_mem_nil)⟩), (show rB (miX8 false none) 118 (.inr (.inl (-1150833019))) = true by decide +kernel)⟩
theorem cqX8_119 (ini : Bool) (ret : Option FieldType) : (∀ w ∈ rW (miX8 ini ret) 119 (.inr (.inl (1013904242))), w ∈ mT) ∧ rB (miX8 ini ret) 119 (.inr (.inl (1013904242))) = true := ⟨(List.forall_mem_cons.mpr ⟨wd_483, (fun _ h => absurd h List.not_mem_nil)⟩), (show rB (miX8 false none) 119 (.inr (.inl (1013904242))) = true by decide +kernel)⟩
theorem cqX8_120 (ini : Bool) (ret : Option FieldType) : (∀ w ∈ rW (miX8 ini ret) 120 (.inr (.inl (-1521486534))), w ∈ mT) ∧ rB (miX8 ini ret) 120 (.inr (.inl (-1521486534))) = true := ⟨(List.forall_mem_cons.mpr ⟨wd_484, (fun _ h => absurd h List.not_mem_nil)⟩), (show rB (miX8 false none) 120 (.inr (.inl (-1521486534))) = true by decide +kernel)⟩
theorem cqX8_121 (ini : Bool) (ret : Option FieldType) : (∀ w ∈ rW (miX8 ini ret) 121 (.inr (.inl (1359893119))), w ∈ mT) ∧ rB (miX8 ini ret) 121 (.inr (.inl (1359893119))) = true := ⟨(List.forall_mem_cons.mpr ⟨wd_485, (fun _ h => absurd h List.not_mem_nil)⟩), (show rB (miX8 false none) 121 (.inr (.inl (1359893119))) = true by decide +kernel)⟩
theorem cqX8_122 (ini : Bool) (ret : Option FieldType) : (∀ w ∈ rW (miX8 ini ret) 122 (.inr (.inl (-1694144372))), w ∈ mT) ∧ rB (miX8 ini ret) 122 (.inr (.inl (-1694144372))) = true := ⟨(List.forall_mem_cons.mpr ⟨wd_486, (fun _ h => absurd h List.not_mem_nil)⟩), (show rB (miX8 false none) 122 (.inr (.inl (-1694144372))) = true by decide +kernel)⟩
theorem cqX8_123 (ini : Bool) (ret : Option FieldType) : (∀ w ∈ rW (miX8 ini ret) 123 (.inr (.inl (528734635))), w ∈ mT) ∧ rB (miX8 ini ret) 123 (.inr (.inl (528734635))) = true := ⟨(List.forall_mem_cons.mpr ⟨wd_487, (fun _ h => absurd h List.not_mem_nil)⟩), (show rB (miX8 false none) 123 (.inr (.inl (528734635))) = true by decide +kernel)⟩
theorem cqX8_124 (ini : Bool) (ret : Option FieldType) : (∀ w ∈ rW (miX8 ini ret) 124 (.inr (.inl (1541459225))), w ∈ mT) ∧ rB (miX8 ini ret) 124 (.inr (.inl (1541459225))) = true := ⟨(List.forall_mem_cons.mpr ⟨wd_488, (fun _ h => absurd h List.not_mem_nil)⟩), (show rB (miX8 false none) 124 (.inr (.inl (1541459225))) = true by decide +kernel)⟩
theorem cqX8_125 (ini : Bool) (ret : Option FieldType) : (∀ w ∈ rW (miX8 ini ret) 125 (.inl (8, 8)), w ∈ mT) ∧ rB (miX8 ini ret) 125 (.inl (8, 8)) = true := ⟨(List.forall_mem_cons.mpr ⟨wd_489, (fun _ h => absurd h List.not_mem_nil)⟩), (show rB (miX8 false none) 125 (.inl (8, 8)) = true by decide +kernel)⟩
theorem cqX8_128 (ini : Bool) (ret : Option FieldType) : (∀ w ∈ rW (miX8 ini ret) 128 (.inl (8, 9)), w ∈ mT) ∧ rB (miX8 ini ret) 128 (.inl (8, 9)) = true := ⟨(List.forall_mem_cons.mpr ⟨wd_490, (fun _ h => absurd h List.not_mem_nil)⟩), (show rB (miX8 false none) 128 (.inl (8, 9)) = true by decide +kernel)⟩
theorem cqX8_131 (ini : Bool) (ret : Option FieldType) : (∀ w ∈ rW (miX8 ini ret) 131 (.inl (8, 10)), w ∈ mT) ∧ rB (miX8 ini ret) 131 (.inl (8, 10)) = true := ⟨(List.forall_mem_cons.mpr ⟨wd_491, (fun _ h => absurd h List.not_mem_nil)⟩), (show rB (miX8 false none) 131 (.inl (8, 10)) = true by decide +kernel)⟩
theorem cqX8_134 (ini : Bool) (ret : Option FieldType) : (∀ w ∈ rW (miX8 ini ret) 134 (.inl (8, 11)), w ∈ mT) ∧ rB (miX8 ini ret) 134 (.inl (8, 11)) = true := ⟨(List.forall_mem_cons.mpr ⟨wd_492, (fun _ h => absurd h List.not_mem_nil)⟩), (show rB (miX8 false none) 134 (.inl (8, 11)) = true by decide +kernel)⟩
theorem cqX8_137 (ini : Bool) (ret : Option FieldType) : (∀ w ∈ rW (miX8 ini ret) 137 (.inl (8, 12)), w ∈ mT) ∧ rB (miX8 ini ret) 137 (.inl (8, 12)) = true := ⟨(List.forall_mem_cons.mpr ⟨wd_493, (fun _ h => absurd h List.not_mem_nil)⟩), (show rB (miX8 false none) 137 (.inl (8, 12)) = true by decide +kernel)⟩
theorem cqX8_140 (ini : Bool) (ret : Option FieldType) : (∀ w ∈ rW (miX8 ini ret) 140 (.inl (8, 13)), w ∈ mT) ∧ rB (miX8 ini ret) 140 (.inl (8, 13)) = true := ⟨(List.forall_mem_cons.mpr ⟨wd_494, (fun _ h => absurd h List.not_mem_nil)⟩), (show rB (miX8 false none) 140 (.inl (8, 13)) = true by decide +kernel)⟩
theorem cqX8_143 (ini : Bool) (ret : Option FieldType) : (∀ w ∈ rW (miX8 ini ret) 143 (.inl (8, 15)), w ∈ mT) ∧ rB (miX8 ini ret) 143 (.inl (8, 15)) = true := ⟨(List.forall_mem_cons.mpr ⟨wd_495, (fun _ h => absurd h List.not_mem_nil)⟩), (show rB (miX8 false none) 143 (.inl (8, 15)) = true by decide +kernel)⟩
theorem cqX8_146 (ini : Bool) (ret : Option FieldType) : (∀ w ∈ rW (miX8 ini ret) 146 (.inl (8, 16)), w ∈ mT) ∧ rB (miX8 ini ret) 146 (.inl (8, 16)) = true := ⟨(List.forall_mem_cons.mpr ⟨wd_496, (fun _ h => absurd h List.not_mem_nil)⟩), (show rB (miX8 false none) 146 (.inl (8, 16)) = true by decide +kernel)⟩
theorem cqX8_149 (ini : Bool) (ret : Option FieldType) : (∀ w ∈ rW (miX8 ini ret) 149 (.inl (8, 18)), w ∈ mT) ∧ rB (miX8 ini ret) 149 (.inl (8, 18)) = true := ⟨(List.forall_mem_cons.mpr ⟨wd_497, (fun _ h => absurd h List.not_mem_nil)⟩), (show rB (miX8 false none) 149 (.inl (8, 18)) = true by decide +kernel)⟩
theorem cqX8_152 (ini : Bool) (ret : Option FieldType) : (∀ w ∈ rW (miX8 ini ret) 152 (.inl (8, 19)), w ∈ mT) ∧ rB (miX8 ini ret) 152 (.inl (8, 19)) = true := ⟨(List.forall_mem_cons.mpr ⟨wd_498, (fun _ h => absurd h List.not_mem_nil)⟩), (show rB (miX8 false none) 152 (.inl (8, 19)) = true by decide +kernel)⟩
theorem cqX8_155 (ini : Bool) (ret : Option FieldType) : (∀ w ∈ rW (miX8 ini ret) 155 (.inl (8, 20)), w ∈ mT) ∧ rB (miX8 ini ret) 155 (.inl (8, 20)) = true := ⟨(List.forall_mem_cons.mpr ⟨wd_499, (fun _ h => absurd h List.not_mem_nil)⟩), (show rB (miX8 false none) 155 (.inl (8, 20)) = true by decide +kernel)⟩
theorem cqX8_158 (ini : Bool) (ret : Option FieldType) : (∀ w ∈ rW (miX8 ini ret) 158 (.inl (8, 21)), w ∈ mT) ∧ rB (miX8 ini ret) 158 (.inl (8, 21)) = true := ⟨(List.forall_mem_cons.mpr ⟨wd_500, (fun _ h => absurd h List.not_mem_nil)⟩), (show rB (miX8 false none) 158 (.inl (8, 21)) = true by decide +kernel)⟩
theorem cqX8_161 (ini : Bool) (ret : Option FieldType) : (∀ w ∈ rW (miX8 ini ret) 161 (.inl (8, 22)), w ∈ mT) ∧ rB (miX8 ini ret) 161 (.inl (8, 22)) = true := ⟨(List.forall_mem_cons.mpr ⟨wd_501, (fun _ h => absurd h List.not_mem_nil)⟩), (show rB (miX8 false none) 161 (.inl (8, 22)) = true by decide +kernel)⟩
theorem cqX8_164 (ini : Bool) (ret : Option FieldType) : (∀ w ∈ rW (miX8 ini ret) 164 (.inl (8, 23)), w ∈ mT) ∧ rB (miX8 ini ret) 164 (.inl (8, 23)) = true := ⟨(List.forall_mem_cons.mpr ⟨wd_502, (fun _ h => absurd h List.not_mem_nil)⟩), (show rB (miX8 false none) 164 (.inl (8, 23)) = true by decide +kernel)⟩
theorem cqX8_167 (ini : Bool) (ret : Option FieldType) : (∀ w ∈ rW (miX8 ini ret) 167 (.inl (8, 24)), w ∈ mT) ∧ rB (miX8 ini ret) 167 (.inl (8, 24)) = true := ⟨(List.forall_mem_cons.mpr ⟨wd_503, (fun _ h => absurd h List.not_mem_nil)⟩), (show rB (miX8 false none) 167 (.inl (8, 24)) = true by decide +kernel)⟩
theorem cqX8_170 (ini : Bool) (ret : Option FieldType) : (∀ w ∈ rW (miX8 ini ret) 170 (.inl (8, 25)), w ∈ mT) ∧ rB (miX8 ini ret) 170 (.inl (8, 25)) = true := ⟨(List.forall_mem_cons.mpr ⟨wd_504, (fun _ h => absurd h List.not_mem_nil)⟩), (show rB (miX8 false none) 170 (.inl (8, 25)) = true by decide +kernel)⟩
theorem cqX8_173 (ini : Bool) (ret : Option FieldType) : (∀ w ∈ rW (miX8 ini ret) 173 (.inl (8, 26)), w ∈ mT) ∧ rB (miX8 ini ret) 173 (.inl (8, 26)) = true := ⟨(List.forall_mem_cons.mpr ⟨wd_505, (fun _ h => absurd h List.not_mem_nil)⟩), (show rB (miX8 false none) 173 (.inl (8, 26)) = true by decide +kernel)⟩
theorem cqX8_176 (ini : Bool) (ret : Option FieldType) : (∀ w ∈ rW (miX8 ini ret) 176 (.inl (8, 27)), w ∈ mT) ∧ rB (miX8 ini ret) 176 (.inl (8, 27)) = true := ⟨(List.forall_mem_cons.mpr ⟨wd_506, (fun _ h => absurd h List.not_mem_nil)⟩), (show rB (miX8 false none) 176 (.inl (8, 27)) = true by decide +kernel)⟩
theorem cqX8_179 (ini : Bool) (ret : Option FieldType) : (∀ w ∈ rW (miX8 ini ret) 179 (.inl (8, 28)), w ∈ mT) ∧ rB (miX8 ini ret) 179 (.inl (8, 28)) = true := ⟨(List.forall_mem_cons.mpr ⟨wd_507, (fun _ h => absurd h List.not_mem_nil)⟩), (show rB (miX8 false none) 179 (.inl (8, 28)) = true by decide +kernel)⟩
theorem cqX8_182 (ini : Bool) (ret : Option FieldType) : (∀ w ∈ rW (miX8 ini ret) 182 (.inl (8, 29)), w ∈ mT) ∧ rB (miX8 ini ret) 182 (.inl (8, 29)) = true := ⟨(List.forall_mem_cons.mpr ⟨wd_508, (fun _ h => absurd h List.not_mem_nil)⟩), (show rB (miX8 false none) 182 (.inl (8, 29)) = true by decide +kernel)⟩
theorem cqX8_185 (ini : Bool) (ret : Option FieldType) : (∀ w ∈ rW (miX8 ini ret) 185 (.inl (8, 30)), w ∈ mT) ∧ rB (miX8 ini ret) 185 (.inl (8, 30)) = true := ⟨(List.forall_mem_cons.mpr ⟨wd_509, (fun _ h => absurd h List.not_mem_nil)⟩), (show rB (miX8 false none) 185 (.inl (8, 30)) = true by decide +kernel)⟩
theorem cqX8_188 (ini : Bool) (ret : Option FieldType) : (∀ w ∈ rW (miX8 ini ret) 188 (.inl (8, 31)), w ∈ mT) ∧ rB (miX8 ini ret) 188 (.inl (8, 31)) = true := ⟨(List.forall_mem_cons.mpr ⟨wd_510, (fun _ h => absurd h List.not_mem_nil)⟩), (show rB (miX8 false none) 188 (.inl (8, 31)) = true by decide +kernel)⟩
theorem cqX8_191 (ini : Bool) (ret : Option FieldType) : (∀ w ∈ rW (miX8 ini ret) 191 (.inl (8, 33)), w ∈ mT) ∧ rB (miX8 ini ret) 191 (.inl (8, 33)) = true := ⟨(List.forall_mem_cons.mpr ⟨wd_511, (fun _ h => absurd h List.not_mem_nil)⟩), (show rB (miX8 false none) 191 (.inl (8, 33)) = true by decide +kernel)⟩
theorem cqX8_194 (ini : Bool) (ret : Option FieldType) : (∀ w ∈ rW (miX8 ini ret) 194 (.inl (8, 34)), w ∈ mT) ∧ rB (miX8 ini ret) 194 (.inl (8, 34)) = true := ⟨(List.forall_mem_cons.mpr ⟨wd_512, (fun _ h => absurd h List.not_mem_nil)⟩), (show rB (miX8 false none) 194 (.inl (8, 34)) = true by decide +kernel)⟩
theorem cqX8_197 (ini : Bool) (ret : Option FieldType) : (∀ w ∈ rW (miX8 ini ret) 197 (.inr (.inr (.inr (.inl (0, yX8_start, cX8_start, 1, none, 0, 8))))), w ∈ mT) ∧ rB (miX8 ini ret) 197 (.inr (.inr (.inr (.inl (0, yX8_start, cX8_start, 1, none, 0, 8))))) = true := ⟨(List.forall_mem_cons.mpr ⟨wd_513, (List.forall_mem_cons.mpr ⟨wd_514, (List.forall_mem_cons.mpr ⟨wd_516, (List.forall_mem_cons.mpr ⟨wd_395, (List.forall_mem_cons.mpr ⟨wd_515, (fun _ h => absurd h List.not_mem_nil)⟩)⟩)⟩)⟩)⟩), (show rB (miX8 false none) 197 (.inr (.inr (.inr (.inl (0, yX8_start, cX8_start, 1, none, 0, 8))))) = true by decide +kernel)⟩
theorem cqX8_200 (ini : Bool) (ret : Option FieldType) : (∀ w ∈ rW (miX8 ini ret) 200 (.inr (.inr (.inr (.inl (0, yX8_sum, cX8_sum, 5, none, 1, 8))))), w ∈ mT) ∧ rB (miX8 ini ret) 200 (.inr (.inr (.inr (.inl (0, yX8_sum, cX8_sum, 5, none, 1, 8))))) = true := ⟨(List.forall_mem_cons.mpr ⟨wd_517, (List.forall_mem_cons.mpr ⟨wd_518, (List.forall_mem_cons.mpr ⟨wd_520, (List.forall_mem_cons.mpr ⟨wd_395, (List.forall_mem_cons.mpr ⟨wd_519, (fun _ h => absurd h List.not_mem_nil)⟩)⟩)⟩)⟩)⟩), (show rB (miX8 false none) 200 (.inr (.inr (.inr (.inl (0, yX8_sum, cX8_sum, 5, none, 1, 8))))) = true by decide +kernel)⟩
theorem cqX8_203 (ini : Bool) (ret : Option FieldType) : (∀ w ∈ rW (miX8 ini ret) 203 (.inr (.inr (.inr (.inl (1, yX8_in, cX8_in, 3, (some .boolean), 3, 8))))), w ∈ mT) ∧ rB (miX8 ini ret) 203 (.inr (.inr (.inr (.inl (1, yX8_in, cX8_in, 3, (some .boolean), 3, 8))))) = true := ⟨(List.forall_mem_cons.mpr ⟨wd_521, (List.forall_mem_cons.mpr ⟨wd_523, (List.forall_mem_cons.mpr ⟨wd_395, (List.forall_mem_cons.mpr ⟨wd_522, (fun _ h => absurd h List.not_mem_nil)⟩)⟩)⟩)⟩), (show rB (miX8 false none) 203 (.inr (.inr (.inr (.inl (1, yX8_in, cX8_in, 3, (some .boolean), 3, 8))))) = true by decide +kernel)⟩
theorem cqX8_207 (ini : Bool) (ret : Option FieldType) : (∀ w ∈ rW (miX8 ini ret) 207 (.inr (.inr (.inr (.inl (1, yX8_isView, cX8_isView, 2, (some .boolean), 2, 8))))), w ∈ mT) ∧ rB (miX8 ini ret) 207 (.inr (.inr (.inr (.inl (1, yX8_isView, cX8_isView, 2, (some .boolean), 2, 8))))) = true := ⟨(List.forall_mem_cons.mpr ⟨wd_524, (List.forall_mem_cons.mpr ⟨wd_526, (List.forall_mem_cons.mpr ⟨wd_395, (List.forall_mem_cons.mpr ⟨wd_525, (fun _ h => absurd h List.not_mem_nil)⟩)⟩)⟩)⟩), (show rB (miX8 false none) 207 (.inr (.inr (.inr (.inl (1, yX8_isView, cX8_isView, 2, (some .boolean), 2, 8))))) = true by decide +kernel)⟩
theorem cqX8_211 (ini : Bool) (ret : Option FieldType) : (∀ w ∈ rW (miX8 ini ret) 211 (.inr (.inr (.inr (.inl (0, yX8_putRow, cX8_putRow, 5, none, 3, 8))))), w ∈ mT) ∧ rB (miX8 ini ret) 211 (.inr (.inr (.inr (.inl (0, yX8_putRow, cX8_putRow, 5, none, 3, 8))))) = true := ⟨(List.forall_mem_cons.mpr ⟨wd_527, (List.forall_mem_cons.mpr ⟨wd_528, (List.forall_mem_cons.mpr ⟨wd_530, (List.forall_mem_cons.mpr ⟨wd_395, (List.forall_mem_cons.mpr ⟨wd_529, (fun _ h => absurd h List.not_mem_nil)⟩)⟩)⟩)⟩)⟩), (show rB (miX8 false none) 211 (.inr (.inr (.inr (.inl (0, yX8_putRow, cX8_putRow, 5, none, 3, 8))))) = true by decide +kernel)⟩
theorem cqX8_215 (ini : Bool) (ret : Option FieldType) : (∀ w ∈ rW (miX8 ini ret) 215 (.inr (.inr (.inr (.inl (1, yX8_half, cX8_half, 2, (some .int), 1, 8))))), w ∈ mT) ∧ rB (miX8 ini ret) 215 (.inr (.inr (.inr (.inl (1, yX8_half, cX8_half, 2, (some .int), 1, 8))))) = true := ⟨(List.forall_mem_cons.mpr ⟨wd_531, (List.forall_mem_cons.mpr ⟨wd_533, (List.forall_mem_cons.mpr ⟨wd_395, (List.forall_mem_cons.mpr ⟨wd_532, (fun _ h => absurd h List.not_mem_nil)⟩)⟩)⟩)⟩), (show rB (miX8 false none) 215 (.inr (.inr (.inr (.inl (1, yX8_half, cX8_half, 2, (some .int), 1, 8))))) = true by decide +kernel)⟩
theorem cqX8_219 (ini : Bool) (ret : Option FieldType) : (∀ w ∈ rW (miX8 ini ret) 219 (.inr (.inr (.inr (.inl (0, yX8_root, cX8_root, 6, none, 4, 8))))), w ∈ mT) ∧ rB (miX8 ini ret) 219 (.inr (.inr (.inr (.inl (0, yX8_root, cX8_root, 6, none, 4, 8))))) = true := ⟨(List.forall_mem_cons.mpr ⟨wd_534, (List.forall_mem_cons.mpr ⟨wd_535, (List.forall_mem_cons.mpr ⟨wd_537, (List.forall_mem_cons.mpr ⟨wd_395, (List.forall_mem_cons.mpr ⟨wd_536, (fun _ h => absurd h List.not_mem_nil)⟩)⟩)⟩)⟩)⟩), (show rB (miX8 false none) 219 (.inr (.inr (.inr (.inl (0, yX8_root, cX8_root, 6, none, 4, 8))))) = true by decide +kernel)⟩
theorem cqX8_223 (ini : Bool) (ret : Option FieldType) : (∀ w ∈ rW (miX8 ini ret) 223 (.inr (.inr (.inr (.inl (0, yX8_joined, cX8_joined, 6, none, 5, 8))))), w ∈ mT) ∧ rB (miX8 ini ret) 223 (.inr (.inr (.inr (.inl (0, yX8_joined, cX8_joined, 6, none, 5, 8))))) = true := ⟨(List.forall_mem_cons.mpr ⟨wd_538, (List.forall_mem_cons.mpr ⟨wd_539, (List.forall_mem_cons.mpr ⟨wd_541, (List.forall_mem_cons.mpr ⟨wd_395, (List.forall_mem_cons.mpr ⟨wd_540, (fun _ h => absurd h List.not_mem_nil)⟩)⟩)⟩)⟩)⟩), (show rB (miX8 false none) 223 (.inr (.inr (.inr (.inl (0, yX8_joined, cX8_joined, 6, none, 5, 8))))) = true by decide +kernel)⟩
theorem cqX8_227 (ini : Bool) (ret : Option FieldType) : (∀ w ∈ rW (miX8 ini ret) 227 (.inl (8, 14)), w ∈ mT) ∧ rB (miX8 ini ret) 227 (.inl (8, 14)) = true := ⟨(List.forall_mem_cons.mpr ⟨wd_542, (fun _ h => absurd h List.not_mem_nil)⟩), (show rB (miX8 false none) 227 (.inl (8, 14)) = true by decide +kernel)⟩
theorem cqX8_230 (ini : Bool) (ret : Option FieldType) : (∀ w ∈ rW (miX8 ini ret) 230 (.inr (.inr (.inr (.inl (0, yX8_adds, cX8_adds, 2, none, 1, 8))))), w ∈ mT) ∧ rB (miX8 ini ret) 230 (.inr (.inr (.inr (.inl (0, yX8_adds, cX8_adds, 2, none, 1, 8))))) = true := ⟨(List.forall_mem_cons.mpr ⟨wd_543, (List.forall_mem_cons.mpr ⟨wd_544, (List.forall_mem_cons.mpr ⟨wd_546, (List.forall_mem_cons.mpr ⟨wd_395, (List.forall_mem_cons.mpr ⟨wd_545, (fun _ h => absurd h List.not_mem_nil)⟩)⟩)⟩)⟩)⟩), (show rB (miX8 false none) 230 (.inr (.inr (.inr (.inl (0, yX8_adds, cX8_adds, 2, none, 1, 8))))) = true by decide +kernel)⟩
theorem cqX8_233 (ini : Bool) (ret : Option FieldType) : (∀ w ∈ rW (miX8 ini ret) 233 (.inr (.inr (.inr (.inl (0, yX8_begins, cX8_begins, 3, none, 2, 8))))), w ∈ mT) ∧ rB (miX8 ini ret) 233 (.inr (.inr (.inr (.inl (0, yX8_begins, cX8_begins, 3, none, 2, 8))))) = true := ⟨(List.forall_mem_cons.mpr ⟨wd_547, (List.forall_mem_cons.mpr ⟨wd_548, (List.forall_mem_cons.mpr ⟨wd_550, (List.forall_mem_cons.mpr ⟨wd_395, (List.forall_mem_cons.mpr ⟨wd_549, (fun _ h => absurd h List.not_mem_nil)⟩)⟩)⟩)⟩)⟩), (show rB (miX8 false none) 233 (.inr (.inr (.inr (.inl (0, yX8_begins, cX8_begins, 3, none, 2, 8))))) = true by decide +kernel)⟩
theorem cqX8_237 (ini : Bool) (ret : Option FieldType) : (∀ w ∈ rW (miX8 ini ret) 237 (.inr (.inr (.inr (.inl (0, yX8_addsNumber, cX8_addsNumber, 3, none, 1, 8))))), w ∈ mT) ∧ rB (miX8 ini ret) 237 (.inr (.inr (.inr (.inl (0, yX8_addsNumber, cX8_addsNumber, 3, none, 1, 8))))) = true := ⟨(List.forall_mem_cons.mpr ⟨wd_551, (List.forall_mem_cons.mpr ⟨wd_552, (List.forall_mem_cons.mpr ⟨wd_554, (List.forall_mem_cons.mpr ⟨wd_395, (List.forall_mem_cons.mpr ⟨wd_553, (fun _ h => absurd h List.not_mem_nil)⟩)⟩)⟩)⟩)⟩), (show rB (miX8 false none) 237 (.inr (.inr (.inr (.inl (0, yX8_addsNumber, cX8_addsNumber, 3, none, 1, 8))))) = true by decide +kernel)⟩
theorem cqX8_240 (ini : Bool) (ret : Option FieldType) : (∀ w ∈ rW (miX8 ini ret) 240 (.inr (.inr (.inr (.inl (0, yX8_addsHash, cX8_addsHash, 3, none, 1, 8))))), w ∈ mT) ∧ rB (miX8 ini ret) 240 (.inr (.inr (.inr (.inl (0, yX8_addsHash, cX8_addsHash, 3, none, 1, 8))))) = true := ⟨(List.forall_mem_cons.mpr ⟨wd_555, (List.forall_mem_cons.mpr ⟨wd_556, (List.forall_mem_cons.mpr ⟨wd_558, (List.forall_mem_cons.mpr ⟨wd_395, (List.forall_mem_cons.mpr ⟨wd_557, (fun _ h => absurd h List.not_mem_nil)⟩)⟩)⟩)⟩)⟩), (show rB (miX8 false none) 240 (.inr (.inr (.inr (.inl (0, yX8_addsHash, cX8_addsHash, 3, none, 1, 8))))) = true by decide +kernel)⟩
theorem cqX8_243 (ini : Bool) (ret : Option FieldType) : (∀ w ∈ rW (miX8 ini ret) 243 (.inr (.inr (.inr (.inl (0, yX8_signs, cX8_signs, 4, none, 3, 8))))), w ∈ mT) ∧ rB (miX8 ini ret) 243 (.inr (.inr (.inr (.inl (0, yX8_signs, cX8_signs, 4, none, 3, 8))))) = true := ⟨(List.forall_mem_cons.mpr ⟨wd_559, (List.forall_mem_cons.mpr ⟨wd_560, (List.forall_mem_cons.mpr ⟨wd_562, (List.forall_mem_cons.mpr ⟨wd_395, (List.forall_mem_cons.mpr ⟨wd_561, (fun _ h => absurd h List.not_mem_nil)⟩)⟩)⟩)⟩)⟩), (show rB (miX8 false none) 243 (.inr (.inr (.inr (.inl (0, yX8_signs, cX8_signs, 4, none, 3, 8))))) = true by decide +kernel)⟩
theorem cqX8_246 (ini : Bool) (ret : Option FieldType) : (∀ w ∈ rW (miX8 ini ret) 246 (.inr (.inr (.inr (.inl (0, yX8_ends, cX8_ends, 1, (some .int), 0, 8))))), w ∈ mT) ∧ rB (miX8 ini ret) 246 (.inr (.inr (.inr (.inl (0, yX8_ends, cX8_ends, 1, (some .int), 0, 8))))) = true := ⟨(List.forall_mem_cons.mpr ⟨wd_563, (List.forall_mem_cons.mpr ⟨wd_564, (List.forall_mem_cons.mpr ⟨wd_566, (List.forall_mem_cons.mpr ⟨wd_395, (List.forall_mem_cons.mpr ⟨wd_565, (fun _ h => absurd h List.not_mem_nil)⟩)⟩)⟩)⟩)⟩), (show rB (miX8 false none) 246 (.inr (.inr (.inr (.inl (0, yX8_ends, cX8_ends, 1, (some .int), 0, 8))))) = true by decide +kernel)⟩
theorem cqX8_250 (ini : Bool) (ret : Option FieldType) : (∀ w ∈ rW (miX8 ini ret) 250 (.inl (8, 17)), w ∈ mT) ∧ rB (miX8 ini ret) 250 (.inl (8, 17)) = true := ⟨(List.forall_mem_cons.mpr ⟨wd_567, (fun _ h => absurd h List.not_mem_nil)⟩), (show rB (miX8 false none) 250 (.inl (8, 17)) = true by decide +kernel)⟩
theorem cqX8_253 (ini : Bool) (ret : Option FieldType) : (∀ w ∈ rW (miX8 ini ret) 253 (.inr (.inr (.inr (.inl (0, yX8_note, cX8_note, 3, none, 2, 8))))), w ∈ mT) ∧ rB (miX8 ini ret) 253 (.inr (.inr (.inr (.inl (0, yX8_note, cX8_note, 3, none, 2, 8))))) = true := ⟨(List.forall_mem_cons.mpr ⟨wd_568, (List.forall_mem_cons.mpr ⟨wd_569, (List.forall_mem_cons.mpr ⟨wd_571, (List.forall_mem_cons.mpr ⟨wd_395, (List.forall_mem_cons.mpr ⟨wd_570, (fun _ h => absurd h List.not_mem_nil)⟩)⟩)⟩)⟩)⟩), (show rB (miX8 false none) 253 (.inr (.inr (.inr (.inl (0, yX8_note, cX8_note, 3, none, 2, 8))))) = true by decide +kernel)⟩
theorem cqX8_256 (ini : Bool) (ret : Option FieldType) : (∀ w ∈ rW (miX8 ini ret) 256 (.inr (.inr (.inr (.inl (0, yX8_addsNoted, cX8_addsNoted, 2, none, 1, 8))))), w ∈ mT) ∧ rB (miX8 ini ret) 256 (.inr (.inr (.inr (.inl (0, yX8_addsNoted, cX8_addsNoted, 2, none, 1, 8))))) = true := ⟨(List.forall_mem_cons.mpr ⟨wd_572, (List.forall_mem_cons.mpr ⟨wd_573, (List.forall_mem_cons.mpr ⟨wd_575, (List.forall_mem_cons.mpr ⟨wd_395, (List.forall_mem_cons.mpr ⟨wd_574, (fun _ h => absurd h List.not_mem_nil)⟩)⟩)⟩)⟩)⟩), (show rB (miX8 false none) 256 (.inr (.inr (.inr (.inl (0, yX8_addsNoted, cX8_addsNoted, 2, none, 1, 8))))) = true by decide +kernel)⟩
theorem cqX8_259 (ini : Bool) (ret : Option FieldType) : (∀ w ∈ rW (miX8 ini ret) 259 (.inr (.inr (.inr (.inl (0, yX8_isLetter, cX8_isLetter, 2, (some .boolean), 1, 8))))), w ∈ mT) ∧ rB (miX8 ini ret) 259 (.inr (.inr (.inr (.inl (0, yX8_isLetter, cX8_isLetter, 2, (some .boolean), 1, 8))))) = true := ⟨(List.forall_mem_cons.mpr ⟨wd_576, (List.forall_mem_cons.mpr ⟨wd_577, (List.forall_mem_cons.mpr ⟨wd_579, (List.forall_mem_cons.mpr ⟨wd_395, (List.forall_mem_cons.mpr ⟨wd_578, (fun _ h => absurd h List.not_mem_nil)⟩)⟩)⟩)⟩)⟩), (show rB (miX8 false none) 259 (.inr (.inr (.inr (.inl (0, yX8_isLetter, cX8_isLetter, 2, (some .boolean), 1, 8))))) = true by decide +kernel)⟩
theorem cqX8_263 (ini : Bool) (ret : Option FieldType) : (∀ w ∈ rW (miX8 ini ret) 263 (.inr (.inr (.inr (.inl (1, yX8_headOf, cX8_headOf, 1, (some .int), 1, 8))))), w ∈ mT) ∧ rB (miX8 ini ret) 263 (.inr (.inr (.inr (.inl (1, yX8_headOf, cX8_headOf, 1, (some .int), 1, 8))))) = true := ⟨(List.forall_mem_cons.mpr ⟨wd_580, (List.forall_mem_cons.mpr ⟨wd_582, (List.forall_mem_cons.mpr ⟨wd_395, (List.forall_mem_cons.mpr ⟨wd_581, (fun _ h => absurd h List.not_mem_nil)⟩)⟩)⟩)⟩), (show rB (miX8 false none) 263 (.inr (.inr (.inr (.inl (1, yX8_headOf, cX8_headOf, 1, (some .int), 1, 8))))) = true by decide +kernel)⟩
theorem cqX8_266 (ini : Bool) (ret : Option FieldType) : (∀ w ∈ rW (miX8 ini ret) 266 (.inr (.inr (.inr (.inl (1, yX8_number, cX8_number, 2, (some .int), 2, 8))))), w ∈ mT) ∧ rB (miX8 ini ret) 266 (.inr (.inr (.inr (.inl (1, yX8_number, cX8_number, 2, (some .int), 2, 8))))) = true := ⟨(List.forall_mem_cons.mpr ⟨wd_583, (List.forall_mem_cons.mpr ⟨wd_585, (List.forall_mem_cons.mpr ⟨wd_395, (List.forall_mem_cons.mpr ⟨wd_584, (fun _ h => absurd h List.not_mem_nil)⟩)⟩)⟩)⟩), (show rB (miX8 false none) 266 (.inr (.inr (.inr (.inl (1, yX8_number, cX8_number, 2, (some .int), 2, 8))))) = true by decide +kernel)⟩
theorem cqX8_270 (ini : Bool) (ret : Option FieldType) : (∀ w ∈ rW (miX8 ini ret) 270 (.inr (.inr (.inr (.inl (1, yX8_isSame, cX8_isSame, 6, (some .boolean), 5, 8))))), w ∈ mT) ∧ rB (miX8 ini ret) 270 (.inr (.inr (.inr (.inl (1, yX8_isSame, cX8_isSame, 6, (some .boolean), 5, 8))))) = true := ⟨(List.forall_mem_cons.mpr ⟨wd_586, (List.forall_mem_cons.mpr ⟨wd_588, (List.forall_mem_cons.mpr ⟨wd_395, (List.forall_mem_cons.mpr ⟨wd_587, (fun _ h => absurd h List.not_mem_nil)⟩)⟩)⟩)⟩), (show rB (miX8 false none) 270 (.inr (.inr (.inr (.inl (1, yX8_isSame, cX8_isSame, 6, (some .boolean), 5, 8))))) = true by decide +kernel)⟩
theorem cqX8_274 (ini : Bool) (ret : Option FieldType) : (∀ w ∈ rW (miX8 ini ret) 274 (.inr (.inr (.inr (.inl (0, yX8_copies, cX8_copies, 5, none, 3, 8))))), w ∈ mT) ∧ rB (miX8 ini ret) 274 (.inr (.inr (.inr (.inl (0, yX8_copies, cX8_copies, 5, none, 3, 8))))) = true := ⟨(List.forall_mem_cons.mpr ⟨wd_589, (List.forall_mem_cons.mpr ⟨wd_590, (List.forall_mem_cons.mpr ⟨wd_592, (List.forall_mem_cons.mpr ⟨wd_395, (List.forall_mem_cons.mpr ⟨wd_591, (fun _ h => absurd h List.not_mem_nil)⟩)⟩)⟩)⟩)⟩), (show rB (miX8 false none) 274 (.inr (.inr (.inr (.inl (0, yX8_copies, cX8_copies, 5, none, 3, 8))))) = true by decide +kernel)⟩
theorem cqX8_277 (ini : Bool) (ret : Option FieldType) : (∀ w ∈ rW (miX8 ini ret) 277 (.inr (.inr (.inr (.inl (0, yX8_isSigned, cX8_isSigned, 3, (some .boolean), 2, 8))))), w ∈ mT) ∧ rB (miX8 ini ret) 277 (.inr (.inr (.inr (.inl (0, yX8_isSigned, cX8_isSigned, 3, (some .boolean), 2, 8))))) = true := ⟨(List.forall_mem_cons.mpr ⟨wd_593, (List.forall_mem_cons.mpr ⟨wd_594, (List.forall_mem_cons.mpr ⟨wd_596, (List.forall_mem_cons.mpr ⟨wd_395, (List.forall_mem_cons.mpr ⟨wd_595, (fun _ h => absurd h List.not_mem_nil)⟩)⟩)⟩)⟩)⟩), (show rB (miX8 false none) 277 (.inr (.inr (.inr (.inl (0, yX8_isSigned, cX8_isSigned, 3, (some .boolean), 2, 8))))) = true by decide +kernel)⟩
theorem cqX8_281 (ini : Bool) (ret : Option FieldType) : (∀ w ∈ rW (miX8 ini ret) 281 (.inr (.inr (.inr (.inl (1, yX8_headAt, cX8_headAt, 2, (some .int), 2, 8))))), w ∈ mT) ∧ rB (miX8 ini ret) 281 (.inr (.inr (.inr (.inl (1, yX8_headAt, cX8_headAt, 2, (some .int), 2, 8))))) = true := ⟨(List.forall_mem_cons.mpr ⟨wd_597, (List.forall_mem_cons.mpr ⟨wd_599, (List.forall_mem_cons.mpr ⟨wd_395, (List.forall_mem_cons.mpr ⟨wd_598, (fun _ h => absurd h List.not_mem_nil)⟩)⟩)⟩)⟩), (show rB (miX8 false none) 281 (.inr (.inr (.inr (.inl (1, yX8_headAt, cX8_headAt, 2, (some .int), 2, 8))))) = true by decide +kernel)⟩
theorem cqX8_284 (ini : Bool) (ret : Option FieldType) : (∀ w ∈ rW (miX8 ini ret) 284 (.inr (.inr (.inr (.inl (0, yX8_isAgainst, cX8_isAgainst, 6, (some .boolean), 4, 8))))), w ∈ mT) ∧ rB (miX8 ini ret) 284 (.inr (.inr (.inr (.inl (0, yX8_isAgainst, cX8_isAgainst, 6, (some .boolean), 4, 8))))) = true := ⟨(List.forall_mem_cons.mpr ⟨wd_600, (List.forall_mem_cons.mpr ⟨wd_601, (List.forall_mem_cons.mpr ⟨wd_603, (List.forall_mem_cons.mpr ⟨wd_395, (List.forall_mem_cons.mpr ⟨wd_602, (fun _ h => absurd h List.not_mem_nil)⟩)⟩)⟩)⟩)⟩), (show rB (miX8 false none) 284 (.inr (.inr (.inr (.inl (0, yX8_isAgainst, cX8_isAgainst, 6, (some .boolean), 4, 8))))) = true by decide +kernel)⟩
theorem cqX8_288 (ini : Bool) (ret : Option FieldType) : (∀ w ∈ rW (miX8 ini ret) 288 (.inr (.inr (.inr (.inl (0, yX8_records, cX8_records, 7, none, 5, 8))))), w ∈ mT) ∧ rB (miX8 ini ret) 288 (.inr (.inr (.inr (.inl (0, yX8_records, cX8_records, 7, none, 5, 8))))) = true := ⟨(List.forall_mem_cons.mpr ⟨wd_604, (List.forall_mem_cons.mpr ⟨wd_605, (List.forall_mem_cons.mpr ⟨wd_607, (List.forall_mem_cons.mpr ⟨wd_395, (List.forall_mem_cons.mpr ⟨wd_606, (fun _ h => absurd h List.not_mem_nil)⟩)⟩)⟩)⟩)⟩), (show rB (miX8 false none) 288 (.inr (.inr (.inr (.inl (0, yX8_records, cX8_records, 7, none, 5, 8))))) = true by decide +kernel)⟩
theorem cqX8_292 (ini : Bool) (ret : Option FieldType) : (∀ w ∈ rW (miX8 ini ret) 292 (.inr (.inr (.inr (.inl (1, yX8_factAt, cX8_factAt, 2, (some .int), 2, 8))))), w ∈ mT) ∧ rB (miX8 ini ret) 292 (.inr (.inr (.inr (.inl (1, yX8_factAt, cX8_factAt, 2, (some .int), 2, 8))))) = true := ⟨(List.forall_mem_cons.mpr ⟨wd_608, (List.forall_mem_cons.mpr ⟨wd_610, (List.forall_mem_cons.mpr ⟨wd_395, (List.forall_mem_cons.mpr ⟨wd_609, (fun _ h => absurd h List.not_mem_nil)⟩)⟩)⟩)⟩), (show rB (miX8 false none) 292 (.inr (.inr (.inr (.inl (1, yX8_factAt, cX8_factAt, 2, (some .int), 2, 8))))) = true by decide +kernel)⟩
theorem cqX8_295 (ini : Bool) (ret : Option FieldType) : (∀ w ∈ rW (miX8 ini ret) 295 (.inr (.inr (.inr (.inl (0, yX8_leads, cX8_leads, 14, (some .boolean), 8, 8))))), w ∈ mT) ∧ rB (miX8 ini ret) 295 (.inr (.inr (.inr (.inl (0, yX8_leads, cX8_leads, 14, (some .boolean), 8, 8))))) = true := ⟨(List.forall_mem_cons.mpr ⟨wd_611, (List.forall_mem_cons.mpr ⟨wd_612, (List.forall_mem_cons.mpr ⟨wd_614, (List.forall_mem_cons.mpr ⟨wd_395, (List.forall_mem_cons.mpr ⟨wd_613, (fun _ h => absurd h List.not_mem_nil)⟩)⟩)⟩)⟩)⟩), (show rB (miX8 false none) 295 (.inr (.inr (.inr (.inl (0, yX8_leads, cX8_leads, 14, (some .boolean), 8, 8))))) = true by decide +kernel)⟩
theorem cqX8_299 (ini : Bool) (ret : Option FieldType) : (∀ w ∈ rW (miX8 ini ret) 299 (.inr (.inr (.inr (.inl (0, yX8_isWay, cX8_isWay, 13, (some .boolean), 8, 8))))), w ∈ mT) ∧ rB (miX8 ini ret) 299 (.inr (.inr (.inr (.inl (0, yX8_isWay, cX8_isWay, 13, (some .boolean), 8, 8))))) = true := ⟨(List.forall_mem_cons.mpr ⟨wd_615, (List.forall_mem_cons.mpr ⟨wd_616, (List.forall_mem_cons.mpr ⟨wd_618, (List.forall_mem_cons.mpr ⟨wd_395, (List.forall_mem_cons.mpr ⟨wd_617, (fun _ h => absurd h List.not_mem_nil)⟩)⟩)⟩)⟩)⟩), (show rB (miX8 false none) 299 (.inr (.inr (.inr (.inl (0, yX8_isWay, cX8_isWay, 13, (some .boolean), 8, 8))))) = true by decide +kernel)⟩
theorem cqX8_302 (ini : Bool) (ret : Option FieldType) : (∀ w ∈ rW (miX8 ini ret) 302 (.inr (.inr (.inr (.inl (0, yX8_accepts, cX8_accepts, 6, (some .boolean), 3, 8))))), w ∈ mT) ∧ rB (miX8 ini ret) 302 (.inr (.inr (.inr (.inl (0, yX8_accepts, cX8_accepts, 6, (some .boolean), 3, 8))))) = true := ⟨(List.forall_mem_cons.mpr ⟨wd_619, (List.forall_mem_cons.mpr ⟨wd_620, (List.forall_mem_cons.mpr ⟨wd_622, (List.forall_mem_cons.mpr ⟨wd_395, (List.forall_mem_cons.mpr ⟨wd_621, (fun _ h => absurd h List.not_mem_nil)⟩)⟩)⟩)⟩)⟩), (show rB (miX8 false none) 302 (.inr (.inr (.inr (.inl (0, yX8_accepts, cX8_accepts, 6, (some .boolean), 3, 8))))) = true by decide +kernel)⟩
theorem cqX8_306 (ini : Bool) (ret : Option FieldType) : (∀ w ∈ rW (miX8 ini ret) 306 (.inr (.inr (.inr (.inl (0, yX8_isOther, cX8_isOther, 6, (some .boolean), 3, 8))))), w ∈ mT) ∧ rB (miX8 ini ret) 306 (.inr (.inr (.inr (.inl (0, yX8_isOther, cX8_isOther, 6, (some .boolean), 3, 8))))) = true := ⟨(List.forall_mem_cons.mpr ⟨wd_623, (List.forall_mem_cons.mpr ⟨wd_624, (List.forall_mem_cons.mpr ⟨wd_626, (List.forall_mem_cons.mpr ⟨wd_395, (List.forall_mem_cons.mpr ⟨wd_625, (fun _ h => absurd h List.not_mem_nil)⟩)⟩)⟩)⟩)⟩), (show rB (miX8 false none) 306 (.inr (.inr (.inr (.inl (0, yX8_isOther, cX8_isOther, 6, (some .boolean), 3, 8))))) = true by decide +kernel)⟩
theorem cqX8_309 (ini : Bool) (ret : Option FieldType) : (∀ w ∈ rW (miX8 ini ret) 309 (.inr (.inr (.inr (.inl (0, yX8_takesHead, cX8_takesHead, 7, (some .int), 3, 8))))), w ∈ mT) ∧ rB (miX8 ini ret) 309 (.inr (.inr (.inr (.inl (0, yX8_takesHead, cX8_takesHead, 7, (some .int), 3, 8))))) = true := ⟨(List.forall_mem_cons.mpr ⟨wd_627, (List.forall_mem_cons.mpr ⟨wd_628, (List.forall_mem_cons.mpr ⟨wd_630, (List.forall_mem_cons.mpr ⟨wd_395, (List.forall_mem_cons.mpr ⟨wd_629, (fun _ h => absurd h List.not_mem_nil)⟩)⟩)⟩)⟩)⟩), (show rB (miX8 false none) 309 (.inr (.inr (.inr (.inl (0, yX8_takesHead, cX8_takesHead, 7, (some .int), 3, 8))))) = true by decide +kernel)⟩
theorem cqX8_313 (ini : Bool) (ret : Option FieldType) : (∀ w ∈ rW (miX8 ini ret) 313 (.inr (.inr (.inr (.inl (0, yX8_answered, cX8_answered, 3, (some .int), 2, 8))))), w ∈ mT) ∧ rB (miX8 ini ret) 313 (.inr (.inr (.inr (.inl (0, yX8_answered, cX8_answered, 3, (some .int), 2, 8))))) = true := ⟨(List.forall_mem_cons.mpr ⟨wd_631, (List.forall_mem_cons.mpr ⟨wd_632, (List.forall_mem_cons.mpr ⟨wd_634, (List.forall_mem_cons.mpr ⟨wd_395, (List.forall_mem_cons.mpr ⟨wd_633, (fun _ h => absurd h List.not_mem_nil)⟩)⟩)⟩)⟩)⟩), (show rB (miX8 false none) 313 (.inr (.inr (.inr (.inl (0, yX8_answered, cX8_answered, 3, (some .int), 2, 8))))) = true by decide +kernel)⟩
theorem cqX8_316 (ini : Bool) (ret : Option FieldType) : (∀ w ∈ rW (miX8 ini ret) 316 (.inr (.inr (.inr (.inl (0, yX8_takesProof, cX8_takesProof, 8, (some .int), 2, 8))))), w ∈ mT) ∧ rB (miX8 ini ret) 316 (.inr (.inr (.inr (.inl (0, yX8_takesProof, cX8_takesProof, 8, (some .int), 2, 8))))) = true := ⟨(List.forall_mem_cons.mpr ⟨wd_635, (List.forall_mem_cons.mpr ⟨wd_636, (List.forall_mem_cons.mpr ⟨wd_638, (List.forall_mem_cons.mpr ⟨wd_395, (List.forall_mem_cons.mpr ⟨wd_637, (fun _ h => absurd h List.not_mem_nil)⟩)⟩)⟩)⟩)⟩), (show rB (miX8 false none) 316 (.inr (.inr (.inr (.inl (0, yX8_takesProof, cX8_takesProof, 8, (some .int), 2, 8))))) = true by decide +kernel)⟩
theorem cqX8_319 (ini : Bool) (ret : Option FieldType) : (∀ w ∈ rW (miX8 ini ret) 319 (.inr (.inr (.inr (.inl (0, yX8_isRecord, cX8_isRecord, 3, (some .boolean), 2, 8))))), w ∈ mT) ∧ rB (miX8 ini ret) 319 (.inr (.inr (.inr (.inl (0, yX8_isRecord, cX8_isRecord, 3, (some .boolean), 2, 8))))) = true := ⟨(List.forall_mem_cons.mpr ⟨wd_639, (List.forall_mem_cons.mpr ⟨wd_640, (List.forall_mem_cons.mpr ⟨wd_642, (List.forall_mem_cons.mpr ⟨wd_395, (List.forall_mem_cons.mpr ⟨wd_641, (fun _ h => absurd h List.not_mem_nil)⟩)⟩)⟩)⟩)⟩), (show rB (miX8 false none) 319 (.inr (.inr (.inr (.inl (0, yX8_isRecord, cX8_isRecord, 3, (some .boolean), 2, 8))))) = true by decide +kernel)⟩
theorem cqX8_322 (ini : Bool) (ret : Option FieldType) : (∀ w ∈ rW (miX8 ini ret) 322 (.inl (8, 32)), w ∈ mT) ∧ rB (miX8 ini ret) 322 (.inl (8, 32)) = true := ⟨(List.forall_mem_cons.mpr ⟨wd_643, (fun _ h => absurd h List.not_mem_nil)⟩), (show rB (miX8 false none) 322 (.inl (8, 32)) = true by decide +kernel)⟩
theorem cqX8_325 (ini : Bool) (ret : Option FieldType) : (∀ w ∈ rW (miX8 ini ret) 325 (.inr (.inr (.inr (.inl (0, yX8_lays, cX8_lays, 5, none, 3, 8))))), w ∈ mT) ∧ rB (miX8 ini ret) 325 (.inr (.inr (.inr (.inl (0, yX8_lays, cX8_lays, 5, none, 3, 8))))) = true := ⟨(List.forall_mem_cons.mpr ⟨wd_644, (List.forall_mem_cons.mpr ⟨wd_645, (List.forall_mem_cons.mpr ⟨wd_647, (List.forall_mem_cons.mpr ⟨wd_395, (List.forall_mem_cons.mpr ⟨wd_646, (fun _ h => absurd h List.not_mem_nil)⟩)⟩)⟩)⟩)⟩), (show rB (miX8 false none) 325 (.inr (.inr (.inr (.inl (0, yX8_lays, cX8_lays, 5, none, 3, 8))))) = true by decide +kernel)⟩
theorem ckX8 (ini : Bool) (ret : Option FieldType) : cpOK (miX8 ini ret) := (show tAll (fun i r => (∀ w ∈ rW (miX8 ini ret) i r, w ∈ mT) ∧ rB (miX8 ini ret) i r = true) cpX8 from (nd_all (nd_all (nd_all (nd_all (nd_all (nd_all (nd_all (lf_all (cqX8_1 ini ret)) (lf_all (cqX8_7 ini ret))) (nd_all (lf_all (cqX8_11 ini ret)) (lf_all (cqX8_15 ini ret)))) (nd_all (nd_all (lf_all (cqX8_17 ini ret)) (lf_all (cqX8_21 ini ret))) (nd_all (lf_all (cqX8_25 ini ret)) (nd_all (lf_all (cqX8_28 ini ret)) (lf_all (cqX8_31 ini ret)))))) (nd_all (nd_all (nd_all (lf_all (cqX8_34 ini ret)) (lf_all (cqX8_37 ini ret))) (nd_all (lf_all (cqX8_41 ini ret)) (lf_all (cqX8_44 ini ret)))) (nd_all (nd_all (lf_all (cqX8_47 ini ret)) (lf_all (cqX8_53 ini ret))) (nd_all (lf_all (cqX8_54 ini ret)) (nd_all (lf_all (cqX8_55 ini ret)) (lf_all (cqX8_56 ini ret))))))) (nd_all (nd_all (nd_all (nd_all (lf_all (cqX8_57 ini ret)) (lf_all (cqX8_58 ini ret))) (nd_all (lf_all (cqX8_59 ini ret)) (lf_all (cqX8_60 ini ret)))) (nd_all (nd_all (lf_all (cqX8_61 ini ret)) (lf_all (cqX8_62 ini ret))) (nd_all (lf_all (cqX8_63 ini ret)) (nd_all (lf_all (cqX8_64 ini ret)) (lf_all (cqX8_65 ini ret)))))) (nd_all (nd_all (nd_all (lf_all (cqX8_66 ini ret)) (lf_all (cqX8_67 ini ret))) (nd_all (lf_all (cqX8_68 ini ret)) (nd_all (lf_all (cqX8_69 ini ret)) (lf_all (cqX8_70 ini ret))))) (nd_all (nd_all (lf_all (cqX8_71 ini ret)) (lf_all (cqX8_72 ini ret))) (nd_all (lf_all (cqX8_73 ini ret)) (nd_all (lf_all (cqX8_74 ini ret)) (lf_all (cqX8_75 ini ret)))))))) (nd_all (nd_all (nd_all (nd_all (nd_all (lf_all (cqX8_76 ini ret)) (lf_all (cqX8_77 ini ret))) (nd_all (lf_all (cqX8_78 ini ret)) (lf_all (cqX8_79 ini ret)))) (nd_all (nd_all (lf_all (cqX8_80 ini ret)) (lf_all (cqX8_81 ini ret))) (nd_all (lf_all (cqX8_82 ini ret)) (nd_all (lf_all (cqX8_83 ini ret)) (lf_all (cqX8_84 ini ret)))))) (nd_all (nd_all (nd_all (lf_all (cqX8_85 ini ret)) (lf_all (cqX8_86 ini ret))) (nd_all (lf_all (cqX8_87 ini ret)) (lf_all (cqX8_88 ini ret)))) (nd_all (nd_all (lf_all (cqX8_89 ini ret)) (lf_all (cqX8_90 ini ret))) (nd_all (lf_all (cqX8_91 ini ret)) (nd_all (lf_all (cqX8_92 ini ret)) (lf_all (cqX8_93 ini ret))))))) (nd_all (nd_all (nd_all (nd_all (lf_all (cqX8_94 ini ret)) (lf_all (cqX8_95 ini ret))) (nd_all (lf_all (cqX8_96 ini ret)) (lf_all (cqX8_97 ini ret)))) (nd_all (nd_all (lf_all (cqX8_98 ini ret)) (lf_all (cqX8_99 ini ret))) (nd_all (lf_all (cqX8_100 ini ret)) (nd_all (lf_all (cqX8_101 ini ret)) (lf_all (cqX8_102 ini ret)))))) (nd_all (nd_all (nd_all (lf_all (cqX8_103 ini ret)) (lf_all (cqX8_104 ini ret))) (nd_all (lf_all (cqX8_105 ini ret)) (nd_all (lf_all (cqX8_106 ini ret)) (lf_all (cqX8_107 ini ret))))) (nd_all (nd_all (lf_all (cqX8_108 ini ret)) (lf_all (cqX8_109 ini ret))) (nd_all (lf_all (cqX8_110 ini ret)) (nd_all (lf_all (cqX8_111 ini ret)) (lf_all (cqX8_112 ini ret))))))))) (nd_all (nd_all (nd_all (nd_all (nd_all (nd_all (lf_all (cqX8_113 ini ret)) (lf_all (cqX8_114 ini ret))) (nd_all (lf_all (cqX8_115 ini ret)) (lf_all (cqX8_116 ini ret)))) (nd_all (nd_all (lf_all (cqX8_117 ini ret)) (lf_all (cqX8_118 ini ret))) (nd_all (lf_all (cqX8_119 ini ret)) (nd_all (lf_all (cqX8_120 ini ret)) (lf_all (cqX8_121 ini ret)))))) (nd_all (nd_all (nd_all (lf_all (cqX8_122 ini ret)) (lf_all (cqX8_123 ini ret))) (nd_all (lf_all (cqX8_124 ini ret)) (lf_all (cqX8_125 ini ret)))) (nd_all (nd_all (lf_all (cqX8_128 ini ret)) (lf_all (cqX8_131 ini ret))) (nd_all (lf_all (cqX8_134 ini ret)) (nd_all (lf_all (cqX8_137 ini ret)) (lf_all (cqX8_140 ini ret))))))) (nd_all (nd_all (nd_all (nd_all (lf_all (cqX8_143 ini ret)) (lf_all (cqX8_146 ini ret))) (nd_all (lf_all (cqX8_149 ini ret)) (lf_all (cqX8_152 ini ret)))) (nd_all (nd_all (lf_all (cqX8_155 ini ret)) (lf_all (cqX8_158 ini ret))) (nd_all (lf_all (cqX8_161 ini ret)) (nd_all (lf_all (cqX8_164 ini ret)) (lf_all (cqX8_167 ini ret)))))) (nd_all (nd_all (nd_all (lf_all (cqX8_170 ini ret)) (lf_all (cqX8_173 ini ret))) (nd_all (lf_all (cqX8_176 ini ret)) (nd_all (lf_all (cqX8_179 ini ret)) (lf_all (cqX8_182 ini ret))))) (nd_all (nd_all (lf_all (cqX8_185 ini ret)) (lf_all (cqX8_188 ini ret))) (nd_all (lf_all (cqX8_191 ini ret)) (nd_all (lf_all (cqX8_194 ini ret)) (lf_all (cqX8_197 ini ret)))))))) (nd_all (nd_all (nd_all (nd_all (nd_all (lf_all (cqX8_200 ini ret)) (lf_all (cqX8_203 ini ret))) (nd_all (lf_all (cqX8_207 ini ret)) (lf_all (cqX8_211 ini ret)))) (nd_all (nd_all (lf_all (cqX8_215 ini ret)) (lf_all (cqX8_219 ini ret))) (nd_all (lf_all (cqX8_223 ini ret)) (nd_all (lf_all (cqX8_227 ini ret)) (lf_all (cqX8_230 ini ret)))))) (nd_all (nd_all (nd_all (lf_all (cqX8_233 ini ret)) (lf_all (cqX8_237 ini ret))) (nd_all (lf_all (cqX8_240 ini ret)) (lf_all (cqX8_243 ini ret)))) (nd_all (nd_all (lf_all (cqX8_246 ini ret)) (lf_all (cqX8_250 ini ret))) (nd_all (lf_all (cqX8_253 ini ret)) (nd_all (lf_all (cqX8_256 ini ret)) (lf_all (cqX8_259 ini ret))))))) (nd_all (nd_all (nd_all (nd_all (lf_all (cqX8_263 ini ret)) (lf_all (cqX8_266 ini ret))) (nd_all (lf_all (cqX8_270 ini ret)) (lf_all (cqX8_274 ini ret)))) (nd_all (nd_all (lf_all (cqX8_277 ini ret)) (lf_all (cqX8_281 ini ret))) (nd_all (lf_all (cqX8_284 ini ret)) (nd_all (lf_all (cqX8_288 ini ret)) (lf_all (cqX8_292 ini ret)))))) (nd_all (nd_all (nd_all (lf_all (cqX8_295 ini ret)) (lf_all (cqX8_299 ini ret))) (nd_all (lf_all (cqX8_302 ini ret)) (nd_all (lf_all (cqX8_306 ini ret)) (lf_all (cqX8_309 ini ret))))) (nd_all (nd_all (lf_all (cqX8_313 ini ret)) (lf_all (cqX8_316 ini ret))) (nd_all (lf_all (cqX8_319 ini ret)) (nd_all (lf_all (cqX8_322 ini ret)) (lf_all (cqX8_325 ini ret)))))))))))
def cpL : Nat → Option mRf := (nd 66 (nd 39 (nd 25 (nd 18 (nd 9 (lf 7 (.inr (.inr (.inr (.inr 7))))) (nd 15 (lf 9 (.inr (.inr (.inr (.inl (1, yL_cell, cL_cell, 2, (some .int), 2, 9)))))) (lf 15 (.inr (.inr (.inr (.inl (2, yX7_init, cX7_init, 4, none, 1, 7)))))))) (nd 20 (lf 18 (.inr (.inr (.inr (.inr 8))))) (nd 21 (lf 20 (.inr (.inr (.inr (.inl (2, yX8_init, cX8_init, 5, none, 1, 8)))))) (lf 21 (.inr (.inr (.inr (.inl (0, yX7_append, cX7_append, 5, (some .int), 3, 7))))))))) (nd 31 (nd 26 (lf 25 (.inr (.inr (.inr (.inl (0, yX8_append, cX8_append, 5, (some .int), 3, 8)))))) (nd 30 (lf 26 (.inr (.inr (.inr (.inl (0, yX7_leaves, cX7_leaves, 4, (some .int), 2, 7)))))) (lf 30 (.inr (.inr (.inr (.inl (0, yX8_leaves, cX8_leaves, 3, (some .int), 2, 8)))))))) (nd 34 (lf 31 (.inr (.inr (.inr (.inl (0, yX7_head, cX7_head, 6, (some .int), 3, 7)))))) (nd 35 (lf 34 (.inr (.inr (.inr (.inl (0, yX8_head, cX8_head, 5, (some .int), 3, 8)))))) (lf 35 (.inr (.inr (.inr (.inl (0, yX7_proof, cX7_proof, 7, (some .int), 4, 7)))))))))) (nd 51 (nd 44 (nd 40 (lf 39 (.inr (.inr (.inr (.inl (0, yX8_proof, cX8_proof, 11, (some .int), 4, 8)))))) (nd 43 (lf 40 (.inr (.inr (.inr (.inl (0, yX7_path, cX7_path, 7, (some .int), 4, 7)))))) (lf 43 (.inr (.inr (.inr (.inl (0, yX8_path, cX8_path, 10, (some .int), 4, 8)))))))) (nd 47 (lf 44 (.inr (.inr (.inr (.inl (0, yX7_alter, cX7_alter, 5, (some .int), 3, 7)))))) (nd 48 (lf 47 (.inr (.inr (.inr (.inl (0, yX8_alter, cX8_alter, 5, (some .int), 3, 8)))))) (lf 48 (.inr (.inr (.inr (.inl (0, yX7_cut, cX7_cut, 5, (some .int), 2, 7))))))))) (nd 57 (nd 52 (lf 51 (.inr (.inr (.inr (.inl (0, yX8_cut, cX8_cut, 4, (some .int), 2, 8)))))) (nd 56 (lf 52 (.inr (.inr (.inr (.inl (0, yX7_sign, cX7_sign, 4, (some .boolean), 1, 7)))))) (lf 56 (.inr (.inr (.inr (.inl (0, yX8_sign, cX8_sign, 3, (some .boolean), 1, 8)))))))) (nd 62 (nd 61 (lf 57 (.inr (.inr (.inr (.inl (0, yX7_clear, cX7_clear, 2, (some .int), 0, 7)))))) (lf 61 (.inr (.inr (.inr (.inl (0, yX8_clear, cX8_clear, 2, (some .int), 0, 8))))))) (nd 65 (lf 62 (.inr (.inr (.inr (.inl (0, yX7_letters, cX7_letters, 1, (some .int), 0, 7)))))) (lf 65 (.inr (.inr (.inr (.inl (0, yX8_letters, cX8_letters, 1, (some .int), 0, 8))))))))))) (nd 93 (nd 78 (nd 73 (nd 69 (lf 66 (.inr (.inr (.inr (.inl (0, yX7_letter, cX7_letter, 4, (some .int), 2, 7)))))) (nd 70 (lf 69 (.inr (.inr (.inr (.inl (0, yX8_letter, cX8_letter, 3, (some .int), 2, 8)))))) (lf 70 (.inr (.inr (.inr (.inl (0, yX7_take, cX7_take, 7, (some .int), 2, 7)))))))) (nd 74 (lf 73 (.inr (.inr (.inr (.inl (0, yX8_take, cX8_take, 5, (some .int), 2, 8)))))) (nd 77 (lf 74 (.inr (.inr (.inr (.inl (0, yX7_gossip, cX7_gossip, 7, (some .int), 2, 7)))))) (lf 77 (.inr (.inr (.inr (.inl (0, yX8_gossip, cX8_gossip, 5, (some .int), 2, 8))))))))) (nd 85 (nd 81 (lf 78 (.inr (.inr (.inr (.inl (0, yX7_holds, cX7_holds, 4, (some .int), 2, 7)))))) (nd 82 (lf 81 (.inr (.inr (.inr (.inl (0, yX8_holds, cX8_holds, 3, (some .int), 2, 8)))))) (lf 82 (.inr (.inr (.inr (.inl (0, yX7_held, cX7_held, 5, (some .int), 3, 7)))))))) (nd 89 (nd 86 (lf 85 (.inr (.inr (.inr (.inl (0, yX8_held, cX8_held, 4, (some .int), 3, 8)))))) (lf 86 (.inr (.inr (.inr (.inl (0, yX7_fact, cX7_fact, 5, (some .int), 3, 7))))))) (nd 90 (lf 89 (.inr (.inr (.inr (.inl (0, yX8_fact, cX8_fact, 5, (some .int), 3, 8)))))) (lf 90 (.inr (.inr (.inr (.inl (0, yX7_record, cX7_record, 5, (some .int), 3, 7)))))))))) (nd 107 (nd 98 (nd 94 (lf 93 (.inr (.inr (.inr (.inl (0, yX8_record, cX8_record, 5, (some .int), 3, 8)))))) (nd 97 (lf 94 (.inr (.inr (.inr (.inl (0, yX7_lay, cX7_lay, 4, (some .int), 2, 7)))))) (lf 97 (.inr (.inr (.inr (.inl (0, yX8_lay, cX8_lay, 7, (some .int), 2, 8)))))))) (nd 102 (lf 98 (.inr (.inr (.inr (.inl (0, yX7_desk, cX7_desk, 2, (some .int), 1, 7)))))) (nd 103 (lf 102 (.inr (.inr (.inr (.inl (0, yX8_desk, cX8_desk, 2, (some .int), 1, 8)))))) (lf 103 (.inr (.inr (.inr (.inl (0, yX7_patch, cX7_patch, 3, (some .boolean), 2, 7))))))))) (nd 112 (nd 108 (lf 107 (.inr (.inr (.inr (.inl (0, yX8_patch, cX8_patch, 3, (some .boolean), 2, 8)))))) (nd 111 (lf 108 (.inr (.inr (.inr (.inl (0, yX7_trim, cX7_trim, 2, (some .boolean), 1, 7)))))) (lf 111 (.inr (.inr (.inr (.inl (0, yX8_trim, cX8_trim, 3, (some .boolean), 1, 8)))))))) (nd 117 (nd 116 (lf 112 (.inr (.inr (.inr (.inl (0, yX7_audit, cX7_audit, 2, (some .boolean), 0, 7)))))) (lf 116 (.inr (.inr (.inr (.inl (0, yX8_audit, cX8_audit, 6, (some .boolean), 0, 8))))))) (nd 120 (lf 117 (.inr (.inr (.inr (.inl (0, yX7_hash, cX7_hash, 2, (some .int), 1, 7)))))) (lf 120 (.inr (.inr (.inr (.inl (0, yX8_hash, cX8_hash, 2, (some .int), 1, 8))))))))))))
abbrev miLw (ini : Bool) (ret : Option FieldType) : mI := ((RL, 9), cpL, ini, ret)
theorem cqL_7 (ini : Bool) (ret : Option FieldType) : (∀ w ∈ rW (miLw ini ret) 7 (.inr (.inr (.inr (.inr 7)))), w ∈ mT) ∧ rB (miLw ini ret) 7 (.inr (.inr (.inr (.inr 7)))) = true := ⟨(List.forall_mem_cons.mpr ⟨wd_648, (List.forall_mem_cons.mpr ⟨wd_649, (List.forall_mem_cons.mpr ⟨wd_176, (fun _ h => absurd h List.not_mem_nil)⟩)⟩)⟩), (show rB (miLw false none) 7 (.inr (.inr (.inr (.inr 7)))) = true by decide +kernel)⟩
theorem cqL_9 (ini : Bool) (ret : Option FieldType) : (∀ w ∈ rW (miLw ini ret) 9 (.inr (.inr (.inr (.inl (1, yL_cell, cL_cell, 2, (some .int), 2, 9))))), w ∈ mT) ∧ rB (miLw ini ret) 9 (.inr (.inr (.inr (.inl (1, yL_cell, cL_cell, 2, (some .int), 2, 9))))) = true := ⟨(List.forall_mem_cons.mpr ⟨wd_650, (List.forall_mem_cons.mpr ⟨wd_653, (List.forall_mem_cons.mpr ⟨wd_651, (List.forall_mem_cons.mpr ⟨wd_652, (fun _ h => absurd h List.not_mem_nil)⟩)⟩)⟩)⟩), (show rB (miLw false none) 9 (.inr (.inr (.inr (.inl (1, yL_cell, cL_cell, 2, (some .int), 2, 9))))) = true by decide +kernel)⟩
theorem cqL_15 (ini : Bool) (ret : Option FieldType) : (∀ w ∈ rW (miLw ini ret) 15 (.inr (.inr (.inr (.inl (2, yX7_init, cX7_init, 4, none, 1, 7))))), w ∈ mT) ∧ rB (miLw ini ret) 15 (.inr (.inr (.inr (.inl (2, yX7_init, cX7_init, 4, none, 1, 7))))) = true := ⟨(List.forall_mem_cons.mpr ⟨wd_654, (List.forall_mem_cons.mpr ⟨wd_655, (List.forall_mem_cons.mpr ⟨wd_176, (List.forall_mem_cons.mpr ⟨wd_656, (fun _ h => absurd h List.not_mem_nil)⟩)⟩)⟩)⟩), (show rB (miLw false none) 15 (.inr (.inr (.inr (.inl (2, yX7_init, cX7_init, 4, none, 1, 7))))) = true by decide +kernel)⟩
theorem cqL_18 (ini : Bool) (ret : Option FieldType) : (∀ w ∈ rW (miLw ini ret) 18 (.inr (.inr (.inr (.inr 8)))), w ∈ mT) ∧ rB (miLw ini ret) 18 (.inr (.inr (.inr (.inr 8)))) = true := ⟨(List.forall_mem_cons.mpr ⟨wd_657, (List.forall_mem_cons.mpr ⟨wd_658, (List.forall_mem_cons.mpr ⟨wd_395, (fun _ h => absurd h List.not_mem_nil)⟩)⟩)⟩), (show rB (miLw false none) 18 (.inr (.inr (.inr (.inr 8)))) = true by decide +kernel)⟩
theorem cqL_20 (ini : Bool) (ret : Option FieldType) : (∀ w ∈ rW (miLw ini ret) 20 (.inr (.inr (.inr (.inl (2, yX8_init, cX8_init, 5, none, 1, 8))))), w ∈ mT) ∧ rB (miLw ini ret) 20 (.inr (.inr (.inr (.inl (2, yX8_init, cX8_init, 5, none, 1, 8))))) = true := ⟨(List.forall_mem_cons.mpr ⟨wd_659, (List.forall_mem_cons.mpr ⟨wd_660, (List.forall_mem_cons.mpr ⟨wd_395, (List.forall_mem_cons.mpr ⟨wd_661, (fun _ h => absurd h List.not_mem_nil)⟩)⟩)⟩)⟩), (show rB (miLw false none) 20 (.inr (.inr (.inr (.inl (2, yX8_init, cX8_init, 5, none, 1, 8))))) = true by decide +kernel)⟩
theorem cqL_21 (ini : Bool) (ret : Option FieldType) : (∀ w ∈ rW (miLw ini ret) 21 (.inr (.inr (.inr (.inl (0, yX7_append, cX7_append, 5, (some .int), 3, 7))))), w ∈ mT) ∧ rB (miLw ini ret) 21 (.inr (.inr (.inr (.inl (0, yX7_append, cX7_append, 5, (some .int), 3, 7))))) = true := ⟨(List.forall_mem_cons.mpr ⟨wd_662, (List.forall_mem_cons.mpr ⟨wd_663, (List.forall_mem_cons.mpr ⟨wd_665, (List.forall_mem_cons.mpr ⟨wd_176, (List.forall_mem_cons.mpr ⟨wd_664, (fun _ h => absurd h List.not_mem_nil)⟩)⟩)⟩)⟩)⟩), (show rB (miLw false none) 21 (.inr (.inr (.inr (.inl (0, yX7_append, cX7_append, 5, (some .int), 3, 7))))) = true by decide +kernel)⟩
theorem cqL_25 (ini : Bool) (ret : Option FieldType) : (∀ w ∈ rW (miLw ini ret) 25 (.inr (.inr (.inr (.inl (0, yX8_append, cX8_append, 5, (some .int), 3, 8))))), w ∈ mT) ∧ rB (miLw ini ret) 25 (.inr (.inr (.inr (.inl (0, yX8_append, cX8_append, 5, (some .int), 3, 8))))) = true := ⟨(List.forall_mem_cons.mpr ⟨wd_666, (List.forall_mem_cons.mpr ⟨wd_667, (List.forall_mem_cons.mpr ⟨wd_669, (List.forall_mem_cons.mpr ⟨wd_395, (List.forall_mem_cons.mpr ⟨wd_668, (fun _ h => absurd h List.not_mem_nil)⟩)⟩)⟩)⟩)⟩), (show rB (miLw false none) 25 (.inr (.inr (.inr (.inl (0, yX8_append, cX8_append, 5, (some .int), 3, 8))))) = true by decide +kernel)⟩
theorem cqL_26 (ini : Bool) (ret : Option FieldType) : (∀ w ∈ rW (miLw ini ret) 26 (.inr (.inr (.inr (.inl (0, yX7_leaves, cX7_leaves, 4, (some .int), 2, 7))))), w ∈ mT) ∧ rB (miLw ini ret) 26 (.inr (.inr (.inr (.inl (0, yX7_leaves, cX7_leaves, 4, (some .int), 2, 7))))) = true := ⟨(List.forall_mem_cons.mpr ⟨wd_670, (List.forall_mem_cons.mpr ⟨wd_671, (List.forall_mem_cons.mpr ⟨wd_673, (List.forall_mem_cons.mpr ⟨wd_176, (List.forall_mem_cons.mpr ⟨wd_672, (fun _ h => absurd h List.not_mem_nil)⟩)⟩)⟩)⟩)⟩), (show rB (miLw false none) 26 (.inr (.inr (.inr (.inl (0, yX7_leaves, cX7_leaves, 4, (some .int), 2, 7))))) = true by decide +kernel)⟩
theorem cqL_30 (ini : Bool) (ret : Option FieldType) : (∀ w ∈ rW (miLw ini ret) 30 (.inr (.inr (.inr (.inl (0, yX8_leaves, cX8_leaves, 3, (some .int), 2, 8))))), w ∈ mT) ∧ rB (miLw ini ret) 30 (.inr (.inr (.inr (.inl (0, yX8_leaves, cX8_leaves, 3, (some .int), 2, 8))))) = true := ⟨(List.forall_mem_cons.mpr ⟨wd_674, (List.forall_mem_cons.mpr ⟨wd_675, (List.forall_mem_cons.mpr ⟨wd_677, (List.forall_mem_cons.mpr ⟨wd_395, (List.forall_mem_cons.mpr ⟨wd_676, (fun _ h => absurd h List.not_mem_nil)⟩)⟩)⟩)⟩)⟩), (show rB (miLw false none) 30 (.inr (.inr (.inr (.inl (0, yX8_leaves, cX8_leaves, 3, (some .int), 2, 8))))) = true by decide +kernel)⟩
theorem cqL_31 (ini : Bool) (ret : Option FieldType) : (∀ w ∈ rW (miLw ini ret) 31 (.inr (.inr (.inr (.inl (0, yX7_head, cX7_head, 6, (some .int), 3, 7))))), w ∈ mT) ∧ rB (miLw ini ret) 31 (.inr (.inr (.inr (.inl (0, yX7_head, cX7_head, 6, (some .int), 3, 7))))) = true := ⟨(List.forall_mem_cons.mpr ⟨wd_678, (List.forall_mem_cons.mpr ⟨wd_679, (List.forall_mem_cons.mpr ⟨wd_681, (List.forall_mem_cons.mpr ⟨wd_176, (List.forall_mem_cons.mpr ⟨wd_680, (fun _ h => absurd h List.not_mem_nil)⟩)⟩)⟩)⟩)⟩), (show rB (miLw false none) 31 (.inr (.inr (.inr (.inl (0, yX7_head, cX7_head, 6, (some .int), 3, 7))))) = true by decide +kernel)⟩
theorem cqL_34 (ini : Bool) (ret : Option FieldType) : (∀ w ∈ rW (miLw ini ret) 34 (.inr (.inr (.inr (.inl (0, yX8_head, cX8_head, 5, (some .int), 3, 8))))), w ∈ mT) ∧ rB (miLw ini ret) 34 (.inr (.inr (.inr (.inl (0, yX8_head, cX8_head, 5, (some .int), 3, 8))))) = true := ⟨(List.forall_mem_cons.mpr ⟨wd_682, (List.forall_mem_cons.mpr ⟨wd_683, (List.forall_mem_cons.mpr ⟨wd_685, (List.forall_mem_cons.mpr ⟨wd_395, (List.forall_mem_cons.mpr ⟨wd_684, (fun _ h => absurd h List.not_mem_nil)⟩)⟩)⟩)⟩)⟩), (show rB (miLw false none) 34 (.inr (.inr (.inr (.inl (0, yX8_head, cX8_head, 5, (some .int), 3, 8))))) = true by decide +kernel)⟩
theorem cqL_35 (ini : Bool) (ret : Option FieldType) : (∀ w ∈ rW (miLw ini ret) 35 (.inr (.inr (.inr (.inl (0, yX7_proof, cX7_proof, 7, (some .int), 4, 7))))), w ∈ mT) ∧ rB (miLw ini ret) 35 (.inr (.inr (.inr (.inl (0, yX7_proof, cX7_proof, 7, (some .int), 4, 7))))) = true := ⟨(List.forall_mem_cons.mpr ⟨wd_686, (List.forall_mem_cons.mpr ⟨wd_687, (List.forall_mem_cons.mpr ⟨wd_689, (List.forall_mem_cons.mpr ⟨wd_176, (List.forall_mem_cons.mpr ⟨wd_688, (fun _ h => absurd h List.not_mem_nil)⟩)⟩)⟩)⟩)⟩), (show rB (miLw false none) 35 (.inr (.inr (.inr (.inl (0, yX7_proof, cX7_proof, 7, (some .int), 4, 7))))) = true by decide +kernel)⟩
theorem cqL_39 (ini : Bool) (ret : Option FieldType) : (∀ w ∈ rW (miLw ini ret) 39 (.inr (.inr (.inr (.inl (0, yX8_proof, cX8_proof, 11, (some .int), 4, 8))))), w ∈ mT) ∧ rB (miLw ini ret) 39 (.inr (.inr (.inr (.inl (0, yX8_proof, cX8_proof, 11, (some .int), 4, 8))))) = true := ⟨(List.forall_mem_cons.mpr ⟨wd_690, (List.forall_mem_cons.mpr ⟨wd_691, (List.forall_mem_cons.mpr ⟨wd_693, (List.forall_mem_cons.mpr ⟨wd_395, (List.forall_mem_cons.mpr ⟨wd_692, (fun _ h => absurd h List.not_mem_nil)⟩)⟩)⟩)⟩)⟩), (show rB (miLw false none) 39 (.inr (.inr (.inr (.inl (0, yX8_proof, cX8_proof, 11, (some .int), 4, 8))))) = true by decide +kernel)⟩
theorem cqL_40 (ini : Bool) (ret : Option FieldType) : (∀ w ∈ rW (miLw ini ret) 40 (.inr (.inr (.inr (.inl (0, yX7_path, cX7_path, 7, (some .int), 4, 7))))), w ∈ mT) ∧ rB (miLw ini ret) 40 (.inr (.inr (.inr (.inl (0, yX7_path, cX7_path, 7, (some .int), 4, 7))))) = true := ⟨(List.forall_mem_cons.mpr ⟨wd_694, (List.forall_mem_cons.mpr ⟨wd_695, (List.forall_mem_cons.mpr ⟨wd_697, (List.forall_mem_cons.mpr ⟨wd_176, (List.forall_mem_cons.mpr ⟨wd_696, (fun _ h => absurd h List.not_mem_nil)⟩)⟩)⟩)⟩)⟩), (show rB (miLw false none) 40 (.inr (.inr (.inr (.inl (0, yX7_path, cX7_path, 7, (some .int), 4, 7))))) = true by decide +kernel)⟩
theorem cqL_43 (ini : Bool) (ret : Option FieldType) : (∀ w ∈ rW (miLw ini ret) 43 (.inr (.inr (.inr (.inl (0, yX8_path, cX8_path, 10, (some .int), 4, 8))))), w ∈ mT) ∧ rB (miLw ini ret) 43 (.inr (.inr (.inr (.inl (0, yX8_path, cX8_path, 10, (some .int), 4, 8))))) = true := ⟨(List.forall_mem_cons.mpr ⟨wd_698, (List.forall_mem_cons.mpr ⟨wd_699, (List.forall_mem_cons.mpr ⟨wd_701, (List.forall_mem_cons.mpr ⟨wd_395, (List.forall_mem_cons.mpr ⟨wd_700, (fun _ h => absurd h List.not_mem_nil)⟩)⟩)⟩)⟩)⟩), (show rB (miLw false none) 43 (.inr (.inr (.inr (.inl (0, yX8_path, cX8_path, 10, (some .int), 4, 8))))) = true by decide +kernel)⟩
theorem cqL_44 (ini : Bool) (ret : Option FieldType) : (∀ w ∈ rW (miLw ini ret) 44 (.inr (.inr (.inr (.inl (0, yX7_alter, cX7_alter, 5, (some .int), 3, 7))))), w ∈ mT) ∧ rB (miLw ini ret) 44 (.inr (.inr (.inr (.inl (0, yX7_alter, cX7_alter, 5, (some .int), 3, 7))))) = true := ⟨(List.forall_mem_cons.mpr ⟨wd_702, (List.forall_mem_cons.mpr ⟨wd_703, (List.forall_mem_cons.mpr ⟨wd_705, (List.forall_mem_cons.mpr ⟨wd_176, (List.forall_mem_cons.mpr ⟨wd_704, (fun _ h => absurd h List.not_mem_nil)⟩)⟩)⟩)⟩)⟩), (show rB (miLw false none) 44 (.inr (.inr (.inr (.inl (0, yX7_alter, cX7_alter, 5, (some .int), 3, 7))))) = true by decide +kernel)⟩
theorem cqL_47 (ini : Bool) (ret : Option FieldType) : (∀ w ∈ rW (miLw ini ret) 47 (.inr (.inr (.inr (.inl (0, yX8_alter, cX8_alter, 5, (some .int), 3, 8))))), w ∈ mT) ∧ rB (miLw ini ret) 47 (.inr (.inr (.inr (.inl (0, yX8_alter, cX8_alter, 5, (some .int), 3, 8))))) = true := ⟨(List.forall_mem_cons.mpr ⟨wd_706, (List.forall_mem_cons.mpr ⟨wd_707, (List.forall_mem_cons.mpr ⟨wd_709, (List.forall_mem_cons.mpr ⟨wd_395, (List.forall_mem_cons.mpr ⟨wd_708, (fun _ h => absurd h List.not_mem_nil)⟩)⟩)⟩)⟩)⟩), (show rB (miLw false none) 47 (.inr (.inr (.inr (.inl (0, yX8_alter, cX8_alter, 5, (some .int), 3, 8))))) = true by decide +kernel)⟩
theorem cqL_48 (ini : Bool) (ret : Option FieldType) : (∀ w ∈ rW (miLw ini ret) 48 (.inr (.inr (.inr (.inl (0, yX7_cut, cX7_cut, 5, (some .int), 2, 7))))), w ∈ mT) ∧ rB (miLw ini ret) 48 (.inr (.inr (.inr (.inl (0, yX7_cut, cX7_cut, 5, (some .int), 2, 7))))) = true := ⟨(List.forall_mem_cons.mpr ⟨wd_710, (List.forall_mem_cons.mpr ⟨wd_711, (List.forall_mem_cons.mpr ⟨wd_713, (List.forall_mem_cons.mpr ⟨wd_176, (List.forall_mem_cons.mpr ⟨wd_712, (fun _ h => absurd h List.not_mem_nil)⟩)⟩)⟩)⟩)⟩), (show rB (miLw false none) 48 (.inr (.inr (.inr (.inl (0, yX7_cut, cX7_cut, 5, (some .int), 2, 7))))) = true by decide +kernel)⟩
theorem cqL_51 (ini : Bool) (ret : Option FieldType) : (∀ w ∈ rW (miLw ini ret) 51 (.inr (.inr (.inr (.inl (0, yX8_cut, cX8_cut, 4, (some .int), 2, 8))))), w ∈ mT) ∧ rB (miLw ini ret) 51 (.inr (.inr (.inr (.inl (0, yX8_cut, cX8_cut, 4, (some .int), 2, 8))))) = true := ⟨(List.forall_mem_cons.mpr ⟨wd_714, (List.forall_mem_cons.mpr ⟨wd_715, (List.forall_mem_cons.mpr ⟨wd_717, (List.forall_mem_cons.mpr ⟨wd_395, (List.forall_mem_cons.mpr ⟨wd_716, (fun _ h => absurd h List.not_mem_nil)⟩)⟩)⟩)⟩)⟩), (show rB (miLw false none) 51 (.inr (.inr (.inr (.inl (0, yX8_cut, cX8_cut, 4, (some .int), 2, 8))))) = true by decide +kernel)⟩
theorem cqL_52 (ini : Bool) (ret : Option FieldType) : (∀ w ∈ rW (miLw ini ret) 52 (.inr (.inr (.inr (.inl (0, yX7_sign, cX7_sign, 4, (some .boolean), 1, 7))))), w ∈ mT) ∧ rB (miLw ini ret) 52 (.inr (.inr (.inr (.inl (0, yX7_sign, cX7_sign, 4, (some .boolean), 1, 7))))) = true := ⟨(List.forall_mem_cons.mpr ⟨wd_718, (List.forall_mem_cons.mpr ⟨wd_719, (List.forall_mem_cons.mpr ⟨wd_721, (List.forall_mem_cons.mpr ⟨wd_176, (List.forall_mem_cons.mpr ⟨wd_720, (fun _ h => absurd h List.not_mem_nil)⟩)⟩)⟩)⟩)⟩), (show rB (miLw false none) 52 (.inr (.inr (.inr (.inl (0, yX7_sign, cX7_sign, 4, (some .boolean), 1, 7))))) = true by decide +kernel)⟩
theorem cqL_56 (ini : Bool) (ret : Option FieldType) : (∀ w ∈ rW (miLw ini ret) 56 (.inr (.inr (.inr (.inl (0, yX8_sign, cX8_sign, 3, (some .boolean), 1, 8))))), w ∈ mT) ∧ rB (miLw ini ret) 56 (.inr (.inr (.inr (.inl (0, yX8_sign, cX8_sign, 3, (some .boolean), 1, 8))))) = true := ⟨(List.forall_mem_cons.mpr ⟨wd_722, (List.forall_mem_cons.mpr ⟨wd_723, (List.forall_mem_cons.mpr ⟨wd_725, (List.forall_mem_cons.mpr ⟨wd_395, (List.forall_mem_cons.mpr ⟨wd_724, (fun _ h => absurd h List.not_mem_nil)⟩)⟩)⟩)⟩)⟩), (show rB (miLw false none) 56 (.inr (.inr (.inr (.inl (0, yX8_sign, cX8_sign, 3, (some .boolean), 1, 8))))) = true by decide +kernel)⟩
theorem cqL_57 (ini : Bool) (ret : Option FieldType) : (∀ w ∈ rW (miLw ini ret) 57 (.inr (.inr (.inr (.inl (0, yX7_clear, cX7_clear, 2, (some .int), 0, 7))))), w ∈ mT) ∧ rB (miLw ini ret) 57 (.inr (.inr (.inr (.inl (0, yX7_clear, cX7_clear, 2, (some .int), 0, 7))))) = true := ⟨(List.forall_mem_cons.mpr ⟨wd_726, (List.forall_mem_cons.mpr ⟨wd_727, (List.forall_mem_cons.mpr ⟨wd_729, (List.forall_mem_cons.mpr ⟨wd_176, (List.forall_mem_cons.mpr ⟨wd_728, (fun _ h => absurd h List.not_mem_nil)⟩)⟩)⟩)⟩)⟩), (show rB (miLw false none) 57 (.inr (.inr (.inr (.inl (0, yX7_clear, cX7_clear, 2, (some .int), 0, 7))))) = true by decide +kernel)⟩
theorem cqL_61 (ini : Bool) (ret : Option FieldType) : (∀ w ∈ rW (miLw ini ret) 61 (.inr (.inr (.inr (.inl (0, yX8_clear, cX8_clear, 2, (some .int), 0, 8))))), w ∈ mT) ∧ rB (miLw ini ret) 61 (.inr (.inr (.inr (.inl (0, yX8_clear, cX8_clear, 2, (some .int), 0, 8))))) = true := ⟨(List.forall_mem_cons.mpr ⟨wd_730, (List.forall_mem_cons.mpr ⟨wd_731, (List.forall_mem_cons.mpr ⟨wd_733, (List.forall_mem_cons.mpr ⟨wd_395, (List.forall_mem_cons.mpr ⟨wd_732, (fun _ h => absurd h List.not_mem_nil)⟩)⟩)⟩)⟩)⟩), (show rB (miLw false none) 61 (.inr (.inr (.inr (.inl (0, yX8_clear, cX8_clear, 2, (some .int), 0, 8))))) = true by decide +kernel)⟩
theorem cqL_62 (ini : Bool) (ret : Option FieldType) : (∀ w ∈ rW (miLw ini ret) 62 (.inr (.inr (.inr (.inl (0, yX7_letters, cX7_letters, 1, (some .int), 0, 7))))), w ∈ mT) ∧ rB (miLw ini ret) 62 (.inr (.inr (.inr (.inl (0, yX7_letters, cX7_letters, 1, (some .int), 0, 7))))) = true := ⟨(List.forall_mem_cons.mpr ⟨wd_734, (List.forall_mem_cons.mpr ⟨wd_735, (List.forall_mem_cons.mpr ⟨wd_737, (List.forall_mem_cons.mpr ⟨wd_176, (List.forall_mem_cons.mpr ⟨wd_736, (fun _ h => absurd h List.not_mem_nil)⟩)⟩)⟩)⟩)⟩), (show rB (miLw false none) 62 (.inr (.inr (.inr (.inl (0, yX7_letters, cX7_letters, 1, (some .int), 0, 7))))) = true by decide +kernel)⟩
theorem cqL_65 (ini : Bool) (ret : Option FieldType) : (∀ w ∈ rW (miLw ini ret) 65 (.inr (.inr (.inr (.inl (0, yX8_letters, cX8_letters, 1, (some .int), 0, 8))))), w ∈ mT) ∧ rB (miLw ini ret) 65 (.inr (.inr (.inr (.inl (0, yX8_letters, cX8_letters, 1, (some .int), 0, 8))))) = true := ⟨(List.forall_mem_cons.mpr ⟨wd_738, (List.forall_mem_cons.mpr ⟨wd_739, (List.forall_mem_cons.mpr ⟨wd_741, (List.forall_mem_cons.mpr ⟨wd_395, (List.forall_mem_cons.mpr ⟨wd_740, (fun _ h => absurd h List.not_mem_nil)⟩)⟩)⟩)⟩)⟩), (show rB (miLw false none) 65 (.inr (.inr (.inr (.inl (0, yX8_letters, cX8_letters, 1, (some .int), 0, 8))))) = true by decide +kernel)⟩
theorem cqL_66 (ini : Bool) (ret : Option FieldType) : (∀ w ∈ rW (miLw ini ret) 66 (.inr (.inr (.inr (.inl (0, yX7_letter, cX7_letter, 4, (some .int), 2, 7))))), w ∈ mT) ∧ rB (miLw ini ret) 66 (.inr (.inr (.inr (.inl (0, yX7_letter, cX7_letter, 4, (some .int), 2, 7))))) = true := ⟨(List.forall_mem_cons.mpr ⟨wd_742, (List.forall_mem_cons.mpr ⟨wd_743, (List.forall_mem_cons.mpr ⟨wd_745, (List.forall_mem_cons.mpr ⟨wd_176, (List.forall_mem_cons.mpr ⟨wd_744, (fun _ h => absurd h List.not_mem_nil)⟩)⟩)⟩)⟩)⟩), (show rB (miLw false none) 66 (.inr (.inr (.inr (.inl (0, yX7_letter, cX7_letter, 4, (some .int), 2, 7))))) = true by decide +kernel)⟩
theorem cqL_69 (ini : Bool) (ret : Option FieldType) : (∀ w ∈ rW (miLw ini ret) 69 (.inr (.inr (.inr (.inl (0, yX8_letter, cX8_letter, 3, (some .int), 2, 8))))), w ∈ mT) ∧ rB (miLw ini ret) 69 (.inr (.inr (.inr (.inl (0, yX8_letter, cX8_letter, 3, (some .int), 2, 8))))) = true := ⟨(List.forall_mem_cons.mpr ⟨wd_746, (List.forall_mem_cons.mpr ⟨wd_747, (List.forall_mem_cons.mpr ⟨wd_749, (List.forall_mem_cons.mpr ⟨wd_395, (List.forall_mem_cons.mpr ⟨wd_748, (fun _ h => absurd h List.not_mem_nil)⟩)⟩)⟩)⟩)⟩), (show rB (miLw false none) 69 (.inr (.inr (.inr (.inl (0, yX8_letter, cX8_letter, 3, (some .int), 2, 8))))) = true by decide +kernel)⟩
theorem cqL_70 (ini : Bool) (ret : Option FieldType) : (∀ w ∈ rW (miLw ini ret) 70 (.inr (.inr (.inr (.inl (0, yX7_take, cX7_take, 7, (some .int), 2, 7))))), w ∈ mT) ∧ rB (miLw ini ret) 70 (.inr (.inr (.inr (.inl (0, yX7_take, cX7_take, 7, (some .int), 2, 7))))) = true := ⟨(List.forall_mem_cons.mpr ⟨wd_750, (List.forall_mem_cons.mpr ⟨wd_751, (List.forall_mem_cons.mpr ⟨wd_753, (List.forall_mem_cons.mpr ⟨wd_176, (List.forall_mem_cons.mpr ⟨wd_752, (fun _ h => absurd h List.not_mem_nil)⟩)⟩)⟩)⟩)⟩), (show rB (miLw false none) 70 (.inr (.inr (.inr (.inl (0, yX7_take, cX7_take, 7, (some .int), 2, 7))))) = true by decide +kernel)⟩
theorem cqL_73 (ini : Bool) (ret : Option FieldType) : (∀ w ∈ rW (miLw ini ret) 73 (.inr (.inr (.inr (.inl (0, yX8_take, cX8_take, 5, (some .int), 2, 8))))), w ∈ mT) ∧ rB (miLw ini ret) 73 (.inr (.inr (.inr (.inl (0, yX8_take, cX8_take, 5, (some .int), 2, 8))))) = true := ⟨(List.forall_mem_cons.mpr ⟨wd_754, (List.forall_mem_cons.mpr ⟨wd_755, (List.forall_mem_cons.mpr ⟨wd_757, (List.forall_mem_cons.mpr ⟨wd_395, (List.forall_mem_cons.mpr ⟨wd_756, (fun _ h => absurd h List.not_mem_nil)⟩)⟩)⟩)⟩)⟩), (show rB (miLw false none) 73 (.inr (.inr (.inr (.inl (0, yX8_take, cX8_take, 5, (some .int), 2, 8))))) = true by decide +kernel)⟩
theorem cqL_74 (ini : Bool) (ret : Option FieldType) : (∀ w ∈ rW (miLw ini ret) 74 (.inr (.inr (.inr (.inl (0, yX7_gossip, cX7_gossip, 7, (some .int), 2, 7))))), w ∈ mT) ∧ rB (miLw ini ret) 74 (.inr (.inr (.inr (.inl (0, yX7_gossip, cX7_gossip, 7, (some .int), 2, 7))))) = true := ⟨(List.forall_mem_cons.mpr ⟨wd_758, (List.forall_mem_cons.mpr ⟨wd_759, (List.forall_mem_cons.mpr ⟨wd_761, (List.forall_mem_cons.mpr ⟨wd_176, (List.forall_mem_cons.mpr ⟨wd_760, (fun _ h => absurd h List.not_mem_nil)⟩)⟩)⟩)⟩)⟩), (show rB (miLw false none) 74 (.inr (.inr (.inr (.inl (0, yX7_gossip, cX7_gossip, 7, (some .int), 2, 7))))) = true by decide +kernel)⟩
theorem cqL_77 (ini : Bool) (ret : Option FieldType) : (∀ w ∈ rW (miLw ini ret) 77 (.inr (.inr (.inr (.inl (0, yX8_gossip, cX8_gossip, 5, (some .int), 2, 8))))), w ∈ mT) ∧ rB (miLw ini ret) 77 (.inr (.inr (.inr (.inl (0, yX8_gossip, cX8_gossip, 5, (some .int), 2, 8))))) = true := ⟨(List.forall_mem_cons.mpr ⟨wd_762, (List.forall_mem_cons.mpr ⟨wd_763, (List.forall_mem_cons.mpr ⟨wd_765, (List.forall_mem_cons.mpr ⟨wd_395, (List.forall_mem_cons.mpr ⟨wd_764, (fun _ h => absurd h List.not_mem_nil)⟩)⟩)⟩)⟩)⟩), (show rB (miLw false none) 77 (.inr (.inr (.inr (.inl (0, yX8_gossip, cX8_gossip, 5, (some .int), 2, 8))))) = true by decide +kernel)⟩
theorem cqL_78 (ini : Bool) (ret : Option FieldType) : (∀ w ∈ rW (miLw ini ret) 78 (.inr (.inr (.inr (.inl (0, yX7_holds, cX7_holds, 4, (some .int), 2, 7))))), w ∈ mT) ∧ rB (miLw ini ret) 78 (.inr (.inr (.inr (.inl (0, yX7_holds, cX7_holds, 4, (some .int), 2, 7))))) = true := ⟨(List.forall_mem_cons.mpr ⟨wd_766, (List.forall_mem_cons.mpr ⟨wd_767, (List.forall_mem_cons.mpr ⟨wd_769, (List.forall_mem_cons.mpr ⟨wd_176, (List.forall_mem_cons.mpr ⟨wd_768, (fun _ h => absurd h List.not_mem_nil)⟩)⟩)⟩)⟩)⟩), (show rB (miLw false none) 78 (.inr (.inr (.inr (.inl (0, yX7_holds, cX7_holds, 4, (some .int), 2, 7))))) = true by decide +kernel)⟩
theorem cqL_81 (ini : Bool) (ret : Option FieldType) : (∀ w ∈ rW (miLw ini ret) 81 (.inr (.inr (.inr (.inl (0, yX8_holds, cX8_holds, 3, (some .int), 2, 8))))), w ∈ mT) ∧ rB (miLw ini ret) 81 (.inr (.inr (.inr (.inl (0, yX8_holds, cX8_holds, 3, (some .int), 2, 8))))) = true := ⟨(List.forall_mem_cons.mpr ⟨wd_770, (List.forall_mem_cons.mpr ⟨wd_771, (List.forall_mem_cons.mpr ⟨wd_773, (List.forall_mem_cons.mpr ⟨wd_395, (List.forall_mem_cons.mpr ⟨wd_772, (fun _ h => absurd h List.not_mem_nil)⟩)⟩)⟩)⟩)⟩), (show rB (miLw false none) 81 (.inr (.inr (.inr (.inl (0, yX8_holds, cX8_holds, 3, (some .int), 2, 8))))) = true by decide +kernel)⟩
theorem cqL_82 (ini : Bool) (ret : Option FieldType) : (∀ w ∈ rW (miLw ini ret) 82 (.inr (.inr (.inr (.inl (0, yX7_held, cX7_held, 5, (some .int), 3, 7))))), w ∈ mT) ∧ rB (miLw ini ret) 82 (.inr (.inr (.inr (.inl (0, yX7_held, cX7_held, 5, (some .int), 3, 7))))) = true := ⟨(List.forall_mem_cons.mpr ⟨wd_774, (List.forall_mem_cons.mpr ⟨wd_775, (List.forall_mem_cons.mpr ⟨wd_777, (List.forall_mem_cons.mpr ⟨wd_176, (List.forall_mem_cons.mpr ⟨wd_776, (fun _ h => absurd h List.not_mem_nil)⟩)⟩)⟩)⟩)⟩), (show rB (miLw false none) 82 (.inr (.inr (.inr (.inl (0, yX7_held, cX7_held, 5, (some .int), 3, 7))))) = true by decide +kernel)⟩
theorem cqL_85 (ini : Bool) (ret : Option FieldType) : (∀ w ∈ rW (miLw ini ret) 85 (.inr (.inr (.inr (.inl (0, yX8_held, cX8_held, 4, (some .int), 3, 8))))), w ∈ mT) ∧ rB (miLw ini ret) 85 (.inr (.inr (.inr (.inl (0, yX8_held, cX8_held, 4, (some .int), 3, 8))))) = true := ⟨(List.forall_mem_cons.mpr ⟨wd_778, (List.forall_mem_cons.mpr ⟨wd_779, (List.forall_mem_cons.mpr ⟨wd_781, (List.forall_mem_cons.mpr ⟨wd_395, (List.forall_mem_cons.mpr ⟨wd_780, (fun _ h => absurd h List.not_mem_nil)⟩)⟩)⟩)⟩)⟩), (show rB (miLw false none) 85 (.inr (.inr (.inr (.inl (0, yX8_held, cX8_held, 4, (some .int), 3, 8))))) = true by decide +kernel)⟩
theorem cqL_86 (ini : Bool) (ret : Option FieldType) : (∀ w ∈ rW (miLw ini ret) 86 (.inr (.inr (.inr (.inl (0, yX7_fact, cX7_fact, 5, (some .int), 3, 7))))), w ∈ mT) ∧ rB (miLw ini ret) 86 (.inr (.inr (.inr (.inl (0, yX7_fact, cX7_fact, 5, (some .int), 3, 7))))) = true := ⟨(List.forall_mem_cons.mpr ⟨wd_782, (List.forall_mem_cons.mpr ⟨wd_783, (List.forall_mem_cons.mpr ⟨wd_785, (List.forall_mem_cons.mpr ⟨wd_176, (List.forall_mem_cons.mpr ⟨wd_784, (fun _ h => absurd h List.not_mem_nil)⟩)⟩)⟩)⟩)⟩), (show rB (miLw false none) 86 (.inr (.inr (.inr (.inl (0, yX7_fact, cX7_fact, 5, (some .int), 3, 7))))) = true by decide +kernel)⟩
theorem cqL_89 (ini : Bool) (ret : Option FieldType) : (∀ w ∈ rW (miLw ini ret) 89 (.inr (.inr (.inr (.inl (0, yX8_fact, cX8_fact, 5, (some .int), 3, 8))))), w ∈ mT) ∧ rB (miLw ini ret) 89 (.inr (.inr (.inr (.inl (0, yX8_fact, cX8_fact, 5, (some .int), 3, 8))))) = true := ⟨(List.forall_mem_cons.mpr ⟨wd_786, (List.forall_mem_cons.mpr ⟨wd_787, (List.forall_mem_cons.mpr ⟨wd_789, (List.forall_mem_cons.mpr ⟨wd_395, (List.forall_mem_cons.mpr ⟨wd_788, (fun _ h => absurd h List.not_mem_nil)⟩)⟩)⟩)⟩)⟩), (show rB (miLw false none) 89 (.inr (.inr (.inr (.inl (0, yX8_fact, cX8_fact, 5, (some .int), 3, 8))))) = true by decide +kernel)⟩
theorem cqL_90 (ini : Bool) (ret : Option FieldType) : (∀ w ∈ rW (miLw ini ret) 90 (.inr (.inr (.inr (.inl (0, yX7_record, cX7_record, 5, (some .int), 3, 7))))), w ∈ mT) ∧ rB (miLw ini ret) 90 (.inr (.inr (.inr (.inl (0, yX7_record, cX7_record, 5, (some .int), 3, 7))))) = true := ⟨(List.forall_mem_cons.mpr ⟨wd_790, (List.forall_mem_cons.mpr ⟨wd_791, (List.forall_mem_cons.mpr ⟨wd_793, (List.forall_mem_cons.mpr ⟨wd_176, (List.forall_mem_cons.mpr ⟨wd_792, (fun _ h => absurd h List.not_mem_nil)⟩)⟩)⟩)⟩)⟩), (show rB (miLw false none) 90 (.inr (.inr (.inr (.inl (0, yX7_record, cX7_record, 5, (some .int), 3, 7))))) = true by decide +kernel)⟩
theorem cqL_93 (ini : Bool) (ret : Option FieldType) : (∀ w ∈ rW (miLw ini ret) 93 (.inr (.inr (.inr (.inl (0, yX8_record, cX8_record, 5, (some .int), 3, 8))))), w ∈ mT) ∧ rB (miLw ini ret) 93 (.inr (.inr (.inr (.inl (0, yX8_record, cX8_record, 5, (some .int), 3, 8))))) = true := ⟨(List.forall_mem_cons.mpr ⟨wd_794, (List.forall_mem_cons.mpr ⟨wd_795, (List.forall_mem_cons.mpr ⟨wd_797, (List.forall_mem_cons.mpr ⟨wd_395, (List.forall_mem_cons.mpr ⟨wd_796, (fun _ h => absurd h List.not_mem_nil)⟩)⟩)⟩)⟩)⟩), (show rB (miLw false none) 93 (.inr (.inr (.inr (.inl (0, yX8_record, cX8_record, 5, (some .int), 3, 8))))) = true by decide +kernel)⟩
theorem cqL_94 (ini : Bool) (ret : Option FieldType) : (∀ w ∈ rW (miLw ini ret) 94 (.inr (.inr (.inr (.inl (0, yX7_lay, cX7_lay, 4, (some .int), 2, 7))))), w ∈ mT) ∧ rB (miLw ini ret) 94 (.inr (.inr (.inr (.inl (0, yX7_lay, cX7_lay, 4, (some .int), 2, 7))))) = true := ⟨(List.forall_mem_cons.mpr ⟨wd_798, (List.forall_mem_cons.mpr ⟨wd_799, (List.forall_mem_cons.mpr ⟨wd_801, (List.forall_mem_cons.mpr ⟨wd_176, (List.forall_mem_cons.mpr ⟨wd_800, (fun _ h => absurd h List.not_mem_nil)⟩)⟩)⟩)⟩)⟩), (show rB (miLw false none) 94 (.inr (.inr (.inr (.inl (0, yX7_lay, cX7_lay, 4, (some .int), 2, 7))))) = true by decide +kernel)⟩
theorem cqL_97 (ini : Bool) (ret : Option FieldType) : (∀ w ∈ rW (miLw ini ret) 97 (.inr (.inr (.inr (.inl (0, yX8_lay, cX8_lay, 7, (some .int), 2, 8))))), w ∈ mT) ∧ rB (miLw ini ret) 97 (.inr (.inr (.inr (.inl (0, yX8_lay, cX8_lay, 7, (some .int), 2, 8))))) = true := ⟨(List.forall_mem_cons.mpr ⟨wd_802, (List.forall_mem_cons.mpr ⟨wd_803, (List.forall_mem_cons.mpr ⟨wd_805, (List.forall_mem_cons.mpr ⟨wd_395, (List.forall_mem_cons.mpr ⟨wd_804, (fun _ h => absurd h List.not_mem_nil)⟩)⟩)⟩)⟩)⟩), (show rB (miLw false none) 97 (.inr (.inr (.inr (.inl (0, yX8_lay, cX8_lay, 7, (some .int), 2, 8))))) = true by decide +kernel)⟩
theorem cqL_98 (ini : Bool) (ret : Option FieldType) : (∀ w ∈ rW (miLw ini ret) 98 (.inr (.inr (.inr (.inl (0, yX7_desk, cX7_desk, 2, (some .int), 1, 7))))), w ∈ mT) ∧ rB (miLw ini ret) 98 (.inr (.inr (.inr (.inl (0, yX7_desk, cX7_desk, 2, (some .int), 1, 7))))) = true := ⟨(List.forall_mem_cons.mpr ⟨wd_806, (List.forall_mem_cons.mpr ⟨wd_807, (List.forall_mem_cons.mpr ⟨wd_809, (List.forall_mem_cons.mpr ⟨wd_176, (List.forall_mem_cons.mpr ⟨wd_808, (fun _ h => absurd h List.not_mem_nil)⟩)⟩)⟩)⟩)⟩), (show rB (miLw false none) 98 (.inr (.inr (.inr (.inl (0, yX7_desk, cX7_desk, 2, (some .int), 1, 7))))) = true by decide +kernel)⟩
theorem cqL_102 (ini : Bool) (ret : Option FieldType) : (∀ w ∈ rW (miLw ini ret) 102 (.inr (.inr (.inr (.inl (0, yX8_desk, cX8_desk, 2, (some .int), 1, 8))))), w ∈ mT) ∧ rB (miLw ini ret) 102 (.inr (.inr (.inr (.inl (0, yX8_desk, cX8_desk, 2, (some .int), 1, 8))))) = true := ⟨(List.forall_mem_cons.mpr ⟨wd_810, (List.forall_mem_cons.mpr ⟨wd_811, (List.forall_mem_cons.mpr ⟨wd_813, (List.forall_mem_cons.mpr ⟨wd_395, (List.forall_mem_cons.mpr ⟨wd_812, (fun _ h => absurd h List.not_mem_nil)⟩)⟩)⟩)⟩)⟩), (show rB (miLw false none) 102 (.inr (.inr (.inr (.inl (0, yX8_desk, cX8_desk, 2, (some .int), 1, 8))))) = true by decide +kernel)⟩
theorem cqL_103 (ini : Bool) (ret : Option FieldType) : (∀ w ∈ rW (miLw ini ret) 103 (.inr (.inr (.inr (.inl (0, yX7_patch, cX7_patch, 3, (some .boolean), 2, 7))))), w ∈ mT) ∧ rB (miLw ini ret) 103 (.inr (.inr (.inr (.inl (0, yX7_patch, cX7_patch, 3, (some .boolean), 2, 7))))) = true := ⟨(List.forall_mem_cons.mpr ⟨wd_814, (List.forall_mem_cons.mpr ⟨wd_815, (List.forall_mem_cons.mpr ⟨wd_817, (List.forall_mem_cons.mpr ⟨wd_176, (List.forall_mem_cons.mpr ⟨wd_816, (fun _ h => absurd h List.not_mem_nil)⟩)⟩)⟩)⟩)⟩), (show rB (miLw false none) 103 (.inr (.inr (.inr (.inl (0, yX7_patch, cX7_patch, 3, (some .boolean), 2, 7))))) = true by decide +kernel)⟩
theorem cqL_107 (ini : Bool) (ret : Option FieldType) : (∀ w ∈ rW (miLw ini ret) 107 (.inr (.inr (.inr (.inl (0, yX8_patch, cX8_patch, 3, (some .boolean), 2, 8))))), w ∈ mT) ∧ rB (miLw ini ret) 107 (.inr (.inr (.inr (.inl (0, yX8_patch, cX8_patch, 3, (some .boolean), 2, 8))))) = true := ⟨(List.forall_mem_cons.mpr ⟨wd_818, (List.forall_mem_cons.mpr ⟨wd_819, (List.forall_mem_cons.mpr ⟨wd_821, (List.forall_mem_cons.mpr ⟨wd_395, (List.forall_mem_cons.mpr ⟨wd_820, (fun _ h => absurd h List.not_mem_nil)⟩)⟩)⟩)⟩)⟩), (show rB (miLw false none) 107 (.inr (.inr (.inr (.inl (0, yX8_patch, cX8_patch, 3, (some .boolean), 2, 8))))) = true by decide +kernel)⟩
theorem cqL_108 (ini : Bool) (ret : Option FieldType) : (∀ w ∈ rW (miLw ini ret) 108 (.inr (.inr (.inr (.inl (0, yX7_trim, cX7_trim, 2, (some .boolean), 1, 7))))), w ∈ mT) ∧ rB (miLw ini ret) 108 (.inr (.inr (.inr (.inl (0, yX7_trim, cX7_trim, 2, (some .boolean), 1, 7))))) = true := ⟨(List.forall_mem_cons.mpr ⟨wd_822, (List.forall_mem_cons.mpr ⟨wd_823, (List.forall_mem_cons.mpr ⟨wd_825, (List.forall_mem_cons.mpr ⟨wd_176, (List.forall_mem_cons.mpr ⟨wd_824, (fun _ h => absurd h List.not_mem_nil)⟩)⟩)⟩)⟩)⟩), (show rB (miLw false none) 108 (.inr (.inr (.inr (.inl (0, yX7_trim, cX7_trim, 2, (some .boolean), 1, 7))))) = true by decide +kernel)⟩
theorem cqL_111 (ini : Bool) (ret : Option FieldType) : (∀ w ∈ rW (miLw ini ret) 111 (.inr (.inr (.inr (.inl (0, yX8_trim, cX8_trim, 3, (some .boolean), 1, 8))))), w ∈ mT) ∧ rB (miLw ini ret) 111 (.inr (.inr (.inr (.inl (0, yX8_trim, cX8_trim, 3, (some .boolean), 1, 8))))) = true := ⟨(List.forall_mem_cons.mpr ⟨wd_826, (List.forall_mem_cons.mpr ⟨wd_827, (List.forall_mem_cons.mpr ⟨wd_829, (List.forall_mem_cons.mpr ⟨wd_395, (List.forall_mem_cons.mpr ⟨wd_828, (fun _ h => absurd h List.not_mem_nil)⟩)⟩)⟩)⟩)⟩), (show rB (miLw false none) 111 (.inr (.inr (.inr (.inl (0, yX8_trim, cX8_trim, 3, (some .boolean), 1, 8))))) = true by decide +kernel)⟩
theorem cqL_112 (ini : Bool) (ret : Option FieldType) : (∀ w ∈ rW (miLw ini ret) 112 (.inr (.inr (.inr (.inl (0, yX7_audit, cX7_audit, 2, (some .boolean), 0, 7))))), w ∈ mT) ∧ rB (miLw ini ret) 112 (.inr (.inr (.inr (.inl (0, yX7_audit, cX7_audit, 2, (some .boolean), 0, 7))))) = true := ⟨(List.forall_mem_cons.mpr ⟨wd_830, (List.forall_mem_cons.mpr ⟨wd_831, (List.forall_mem_cons.mpr ⟨wd_833, (List.forall_mem_cons.mpr ⟨wd_176, (List.forall_mem_cons.mpr ⟨wd_832, (fun _ h => absurd h List.not_mem_nil)⟩)⟩)⟩)⟩)⟩), (show rB (miLw false none) 112 (.inr (.inr (.inr (.inl (0, yX7_audit, cX7_audit, 2, (some .boolean), 0, 7))))) = true by decide +kernel)⟩
theorem cqL_116 (ini : Bool) (ret : Option FieldType) : (∀ w ∈ rW (miLw ini ret) 116 (.inr (.inr (.inr (.inl (0, yX8_audit, cX8_audit, 6, (some .boolean), 0, 8))))), w ∈ mT) ∧ rB (miLw ini ret) 116 (.inr (.inr (.inr (.inl (0, yX8_audit, cX8_audit, 6, (some .boolean), 0, 8))))) = true := ⟨(List.forall_mem_cons.mpr ⟨wd_834, (List.forall_mem_cons.mpr ⟨wd_835, (List.forall_mem_cons.mpr ⟨wd_837, (List.forall_mem_cons.mpr ⟨wd_395, (List.forall_mem_cons.mpr ⟨wd_836, (fun _ h => absurd h List.not_mem_nil)⟩)⟩)⟩)⟩)⟩), (show rB (miLw false none) 116 (.inr (.inr (.inr (.inl (0, yX8_audit, cX8_audit, 6, (some .boolean), 0, 8))))) = true by decide +kernel)⟩
theorem cqL_117 (ini : Bool) (ret : Option FieldType) : (∀ w ∈ rW (miLw ini ret) 117 (.inr (.inr (.inr (.inl (0, yX7_hash, cX7_hash, 2, (some .int), 1, 7))))), w ∈ mT) ∧ rB (miLw ini ret) 117 (.inr (.inr (.inr (.inl (0, yX7_hash, cX7_hash, 2, (some .int), 1, 7))))) = true := ⟨(List.forall_mem_cons.mpr ⟨wd_838, (List.forall_mem_cons.mpr ⟨wd_839, (List.forall_mem_cons.mpr ⟨wd_841, (List.forall_mem_cons.mpr ⟨wd_176, (List.forall_mem_cons.mpr ⟨wd_840, (fun _ h => absurd h List.not_mem_nil)⟩)⟩)⟩)⟩)⟩), (show rB (miLw false none) 117 (.inr (.inr (.inr (.inl (0, yX7_hash, cX7_hash, 2, (some .int), 1, 7))))) = true by decide +kernel)⟩
theorem cqL_120 (ini : Bool) (ret : Option FieldType) : (∀ w ∈ rW (miLw ini ret) 120 (.inr (.inr (.inr (.inl (0, yX8_hash, cX8_hash, 2, (some .int), 1, 8))))), w ∈ mT) ∧ rB (miLw ini ret) 120 (.inr (.inr (.inr (.inl (0, yX8_hash, cX8_hash, 2, (some .int), 1, 8))))) = true := ⟨(List.forall_mem_cons.mpr ⟨wd_842, (List.forall_mem_cons.mpr ⟨wd_843, (List.forall_mem_cons.mpr ⟨wd_845, (List.forall_mem_cons.mpr ⟨wd_395, (List.forall_mem_cons.mpr ⟨wd_844, (fun _ h => absurd h List.not_mem_nil)⟩)⟩)⟩)⟩)⟩), (show rB (miLw false none) 120 (.inr (.inr (.inr (.inl (0, yX8_hash, cX8_hash, 2, (some .int), 1, 8))))) = true by decide +kernel)⟩
theorem ckL (ini : Bool) (ret : Option FieldType) : cpOK (miLw ini ret) := (show tAll (fun i r => (∀ w ∈ rW (miLw ini ret) i r, w ∈ mT) ∧ rB (miLw ini ret) i r = true) cpL from (nd_all (nd_all (nd_all (nd_all (nd_all (lf_all (cqL_7 ini ret)) (nd_all (lf_all (cqL_9 ini ret)) (lf_all (cqL_15 ini ret)))) (nd_all (lf_all (cqL_18 ini ret)) (nd_all (lf_all (cqL_20 ini ret)) (lf_all (cqL_21 ini ret))))) (nd_all (nd_all (lf_all (cqL_25 ini ret)) (nd_all (lf_all (cqL_26 ini ret)) (lf_all (cqL_30 ini ret)))) (nd_all (lf_all (cqL_31 ini ret)) (nd_all (lf_all (cqL_34 ini ret)) (lf_all (cqL_35 ini ret)))))) (nd_all (nd_all (nd_all (lf_all (cqL_39 ini ret)) (nd_all (lf_all (cqL_40 ini ret)) (lf_all (cqL_43 ini ret)))) (nd_all (lf_all (cqL_44 ini ret)) (nd_all (lf_all (cqL_47 ini ret)) (lf_all (cqL_48 ini ret))))) (nd_all (nd_all (lf_all (cqL_51 ini ret)) (nd_all (lf_all (cqL_52 ini ret)) (lf_all (cqL_56 ini ret)))) (nd_all (nd_all (lf_all (cqL_57 ini ret)) (lf_all (cqL_61 ini ret))) (nd_all (lf_all (cqL_62 ini ret)) (lf_all (cqL_65 ini ret))))))) (nd_all (nd_all (nd_all (nd_all (lf_all (cqL_66 ini ret)) (nd_all (lf_all (cqL_69 ini ret)) (lf_all (cqL_70 ini ret)))) (nd_all (lf_all (cqL_73 ini ret)) (nd_all (lf_all (cqL_74 ini ret)) (lf_all (cqL_77 ini ret))))) (nd_all (nd_all (lf_all (cqL_78 ini ret)) (nd_all (lf_all (cqL_81 ini ret)) (lf_all (cqL_82 ini ret)))) (nd_all (nd_all (lf_all (cqL_85 ini ret)) (lf_all (cqL_86 ini ret))) (nd_all (lf_all (cqL_89 ini ret)) (lf_all (cqL_90 ini ret)))))) (nd_all (nd_all (nd_all (lf_all (cqL_93 ini ret)) (nd_all (lf_all (cqL_94 ini ret)) (lf_all (cqL_97 ini ret)))) (nd_all (lf_all (cqL_98 ini ret)) (nd_all (lf_all (cqL_102 ini ret)) (lf_all (cqL_103 ini ret))))) (nd_all (nd_all (lf_all (cqL_107 ini ret)) (nd_all (lf_all (cqL_108 ini ret)) (lf_all (cqL_111 ini ret)))) (nd_all (nd_all (lf_all (cqL_112 ini ret)) (lf_all (cqL_116 ini ret))) (nd_all (lf_all (cqL_117 ini ret)) (lf_all (cqL_120 ini ret)))))))))
end
section
def tX0_init : Nat → Option mE := (nd 14 (nd 5 (nd 1 (lf 0 (.aload_n 0, 1, 0, 0)) (nd 4 (lf 1 (.invokespecial 3, 4, 0, 0)) (lf 4 (.aload_n 0, 5, 0, 0)))) (nd 9 (nd 8 (lf 5 (.new 9, 8, 0, 0)) (lf 8 (.dup, 9, 0, 0))) (nd 11 (lf 9 (.bipush 32, 11, 0, 32)) (lf 11 (.invokespecial 11, 14, 0, 0))))) (nd 22 (nd 18 (nd 17 (lf 14 (.putfield 14, 17, 0, 0)) (lf 17 (.aload_n 0, 18, 0, 0))) (nd 21 (lf 18 (.new 9, 21, 0, 0)) (lf 21 (.dup, 22, 0, 0)))) (nd 27 (nd 24 (lf 22 (.bipush 32, 24, 0, 32)) (lf 24 (.invokespecial 11, 27, 0, 0))) (nd 30 (lf 27 (.putfield 20, 30, 0, 0)) (lf 30 (.return_, 31, 0, 0))))))
theorem tX0_init_ok : tAll (okC cX0_init 1) tX0_init := (nd_all (nd_all (nd_all (lf_all (okD_ok (by decide +kernel))) (nd_all (lf_all (okD_ok (by decide +kernel))) (lf_all (okD_ok (by decide +kernel))))) (nd_all (nd_all (lf_all (okD_ok (by decide +kernel))) (lf_all (okD_ok (by decide +kernel)))) (nd_all (lf_all (okD_ok (by decide +kernel))) (lf_all (okD_ok (by decide +kernel)))))) (nd_all (nd_all (nd_all (lf_all (okD_ok (by decide +kernel))) (lf_all (okD_ok (by decide +kernel)))) (nd_all (lf_all (okD_ok (by decide +kernel))) (lf_all (okD_ok (by decide +kernel))))) (nd_all (nd_all (lf_all (okD_ok (by decide +kernel))) (lf_all (okD_ok (by decide +kernel)))) (nd_all (lf_all (okD_ok (by decide +kernel))) (lf_all (okD_ok (by decide +kernel)))))))
def tX0_ofProof : Nat → Option mE := (nd 89 (nd 44 (nd 24 (nd 13 (nd 7 (nd 2 (lf 0 (.iload 4, 2, 0, 0)) (nd 5 (lf 2 (.ifCond .le 21, 5, 23, 0)) (lf 5 (.iload 4, 7, 0, 0)))) (nd 9 (lf 7 (.iload 5, 9, 0, 0)) (nd 12 (lf 9 (.if_icmp .ge 14, 12, 23, 0)) (lf 12 (.aload_n 2, 13, 0, 0))))) (nd 19 (nd 16 (lf 13 (.getfield 23, 16, 0, 0)) (nd 17 (lf 16 (.iload_n 3, 17, 0, 0)) (lf 17 (.bipush 64, 19, 0, 64)))) (nd 20 (lf 19 (.iadd, 20, 0, 0)) (nd 23 (lf 20 (.if_icmp .ge 5, 23, 25, 0)) (lf 23 (.aconst_null, 24, 0, 0)))))) (nd 32 (nd 29 (nd 25 (lf 24 (.areturn, 25, 0, 0)) (nd 27 (lf 25 (.iload 4, 27, 0, 0)) (lf 27 (.iload 4, 29, 0, 0)))) (nd 30 (lf 29 (.iconst 1, 30, 0, 1)) (nd 31 (lf 30 (.isub, 31, 0, 0)) (lf 31 (.iand, 32, 0, 0))))) (nd 39 (nd 35 (lf 32 (.ifCond .ne 7, 35, 39, 0)) (nd 36 (lf 35 (.iconst 1, 36, 0, 1)) (lf 36 (.goto 4, 39, 40, 0)))) (nd 40 (lf 39 (.iconst 0, 40, 0, 0)) (nd 42 (lf 40 (.istore 6, 42, 0, 0)) (lf 42 (.iload 6, 44, 0, 0))))))) (nd 66 (nd 55 (nd 51 (nd 47 (lf 44 (.ifCond .eq 7, 47, 51, 0)) (nd 48 (lf 47 (.iload_n 3, 48, 0, 0)) (lf 48 (.goto 7, 51, 55, 0)))) (nd 52 (lf 51 (.iload_n 3, 52, 0, 0)) (nd 54 (lf 52 (.bipush 32, 54, 0, 32)) (lf 54 (.iadd, 55, 0, 0))))) (nd 61 (nd 57 (lf 55 (.istore 7, 57, 0, 0)) (nd 58 (lf 57 (.aload_n 0, 58, 0, 0)) (lf 58 (.getfield 14, 61, 0, 0)))) (nd 62 (lf 61 (.aload_n 2, 62, 0, 0)) (nd 64 (lf 62 (.iload 7, 64, 0, 0)) (lf 64 (.bipush 32, 66, 0, 32)))))) (nd 78 (nd 73 (nd 69 (lf 66 (.invokevirtual 27, 69, 0, 0)) (nd 70 (lf 69 (.aload_n 0, 70, 0, 0)) (lf 70 (.getfield 20, 73, 0, 0)))) (nd 74 (lf 73 (.aload_n 2, 74, 0, 0)) (nd 76 (lf 74 (.iload 7, 76, 0, 0)) (lf 76 (.bipush 32, 78, 0, 32))))) (nd 84 (nd 81 (lf 78 (.invokevirtual 27, 81, 0, 0)) (nd 83 (lf 81 (.iload 4, 83, 0, 0)) (lf 83 (.iconst 1, 84, 0, 1)))) (nd 85 (lf 84 (.isub, 85, 0, 0)) (nd 87 (lf 85 (.istore 8, 87, 0, 0)) (lf 87 (.iload 5, 89, 0, 0)))))))) (nd 130 (nd 108 (nd 98 (nd 93 (nd 90 (lf 89 (.iconst 1, 90, 0, 1)) (nd 91 (lf 90 (.isub, 91, 0, 0)) (lf 91 (.istore 9, 93, 0, 0)))) (nd 94 (lf 93 (.iconst 0, 94, 0, 0)) (nd 96 (lf 94 (.istore 10, 96, 0, 0)) (lf 96 (.iload 10, 98, 0, 0))))) (nd 105 (nd 100 (lf 98 (.bipush 32, 100, 0, 32)) (nd 103 (lf 100 (.if_icmp .ge 29, 103, 129, 0)) (lf 103 (.iload 8, 105, 0, 0)))) (nd 106 (lf 105 (.iconst 1, 106, 0, 1)) (nd 107 (lf 106 (.iand, 107, 0, 0)) (lf 107 (.iconst 1, 108, 0, 1)))))) (nd 119 (nd 114 (nd 111 (lf 108 (.if_icmp .ne 21, 111, 129, 0)) (nd 113 (lf 111 (.iload 8, 113, 0, 0)) (lf 113 (.iconst 1, 114, 0, 1)))) (nd 115 (lf 114 (.ishr, 115, 0, 0)) (nd 117 (lf 115 (.istore 8, 117, 0, 0)) (lf 117 (.iload 9, 119, 0, 0))))) (nd 123 (nd 120 (lf 119 (.iconst 1, 120, 0, 1)) (nd 121 (lf 120 (.ishr, 121, 0, 0)) (lf 121 (.istore 9, 123, 0, 0)))) (nd 126 (lf 123 (.iinc 10 1, 126, 0, 1)) (nd 129 (lf 126 (.goto (-30), 129, 96, 0)) (lf 129 (.aload_n 0, 130, 0, 0))))))) (nd 152 (nd 140 (nd 135 (nd 131 (lf 130 (.aload_n 1, 131, 0, 0)) (nd 133 (lf 131 (.iload 8, 133, 0, 0)) (lf 133 (.iload 9, 135, 0, 0)))) (nd 136 (lf 135 (.aload_n 2, 136, 0, 0)) (nd 138 (lf 136 (.iload 7, 138, 0, 0)) (lf 138 (.bipush 32, 140, 0, 32))))) (nd 146 (nd 141 (lf 140 (.iadd, 141, 0, 0)) (nd 144 (lf 141 (.invokevirtual 31, 144, 0, 0)) (lf 144 (.istore 10, 146, 0, 0)))) (nd 148 (lf 146 (.iload 10, 148, 0, 0)) (nd 151 (lf 148 (.ifCond .eq 25, 151, 173, 0)) (lf 151 (.aload_n 0, 152, 0, 0)))))) (nd 163 (nd 157 (nd 155 (lf 152 (.getfield 14, 155, 0, 0)) (nd 156 (lf 155 (.iconst 0, 156, 0, 0)) (lf 156 (.aload_n 2, 157, 0, 0)))) (nd 158 (lf 157 (.iload_n 3, 158, 0, 0)) (nd 160 (lf 158 (.bipush 32, 160, 0, 32)) (lf 160 (.invokevirtual 35, 163, 0, 0))))) (nd 170 (nd 166 (lf 163 (.ifCond .eq 10, 166, 173, 0)) (nd 167 (lf 166 (.aload_n 0, 167, 0, 0)) (lf 167 (.getfield 20, 170, 0, 0)))) (nd 173 (lf 170 (.goto 4, 173, 174, 0)) (nd 174 (lf 173 (.aconst_null, 174, 0, 0)) (lf 174 (.areturn, 175, 0, 0)))))))))
theorem tX0_ofProof_ok : tAll (okC cX0_ofProof 11) tX0_ofProof := (nd_all (nd_all (nd_all (nd_all (nd_all (nd_all (lf_all (okD_ok (by decide +kernel))) (nd_all (lf_all (okD_ok (by decide +kernel))) (lf_all (okD_ok (by decide +kernel))))) (nd_all (lf_all (okD_ok (by decide +kernel))) (nd_all (lf_all (okD_ok (by decide +kernel))) (lf_all (okD_ok (by decide +kernel)))))) (nd_all (nd_all (lf_all (okD_ok (by decide +kernel))) (nd_all (lf_all (okD_ok (by decide +kernel))) (lf_all (okD_ok (by decide +kernel))))) (nd_all (lf_all (okD_ok (by decide +kernel))) (nd_all (lf_all (okD_ok (by decide +kernel))) (lf_all (okD_ok (by decide +kernel))))))) (nd_all (nd_all (nd_all (lf_all (okD_ok (by decide +kernel))) (nd_all (lf_all (okD_ok (by decide +kernel))) (lf_all (okD_ok (by decide +kernel))))) (nd_all (lf_all (okD_ok (by decide +kernel))) (nd_all (lf_all (okD_ok (by decide +kernel))) (lf_all (okD_ok (by decide +kernel)))))) (nd_all (nd_all (lf_all (okD_ok (by decide +kernel))) (nd_all (lf_all (okD_ok (by decide +kernel))) (lf_all (okD_ok (by decide +kernel))))) (nd_all (lf_all (okD_ok (by decide +kernel))) (nd_all (lf_all (okD_ok (by decide +kernel))) (lf_all (okD_ok (by decide +kernel)))))))) (nd_all (nd_all (nd_all (nd_all (lf_all (okD_ok (by decide +kernel))) (nd_all (lf_all (okD_ok (by decide +kernel))) (lf_all (okD_ok (by decide +kernel))))) (nd_all (lf_all (okD_ok (by decide +kernel))) (nd_all (lf_all (okD_ok (by decide +kernel))) (lf_all (okD_ok (by decide +kernel)))))) (nd_all (nd_all (lf_all (okD_ok (by decide +kernel))) (nd_all (lf_all (okD_ok (by decide +kernel))) (lf_all (okD_ok (by decide +kernel))))) (nd_all (lf_all (okD_ok (by decide +kernel))) (nd_all (lf_all (okD_ok (by decide +kernel))) (lf_all (okD_ok (by decide +kernel))))))) (nd_all (nd_all (nd_all (lf_all (okD_ok (by decide +kernel))) (nd_all (lf_all (okD_ok (by decide +kernel))) (lf_all (okD_ok (by decide +kernel))))) (nd_all (lf_all (okD_ok (by decide +kernel))) (nd_all (lf_all (okD_ok (by decide +kernel))) (lf_all (okD_ok (by decide +kernel)))))) (nd_all (nd_all (lf_all (okD_ok (by decide +kernel))) (nd_all (lf_all (okD_ok (by decide +kernel))) (lf_all (okD_ok (by decide +kernel))))) (nd_all (lf_all (okD_ok (by decide +kernel))) (nd_all (lf_all (okD_ok (by decide +kernel))) (lf_all (okD_ok (by decide +kernel))))))))) (nd_all (nd_all (nd_all (nd_all (nd_all (lf_all (okD_ok (by decide +kernel))) (nd_all (lf_all (okD_ok (by decide +kernel))) (lf_all (okD_ok (by decide +kernel))))) (nd_all (lf_all (okD_ok (by decide +kernel))) (nd_all (lf_all (okD_ok (by decide +kernel))) (lf_all (okD_ok (by decide +kernel)))))) (nd_all (nd_all (lf_all (okD_ok (by decide +kernel))) (nd_all (lf_all (okD_ok (by decide +kernel))) (lf_all (okD_ok (by decide +kernel))))) (nd_all (lf_all (okD_ok (by decide +kernel))) (nd_all (lf_all (okD_ok (by decide +kernel))) (lf_all (okD_ok (by decide +kernel))))))) (nd_all (nd_all (nd_all (lf_all (okD_ok (by decide +kernel))) (nd_all (lf_all (okD_ok (by decide +kernel))) (lf_all (okD_ok (by decide +kernel))))) (nd_all (lf_all (okD_ok (by decide +kernel))) (nd_all (lf_all (okD_ok (by decide +kernel))) (lf_all (okD_ok (by decide +kernel)))))) (nd_all (nd_all (lf_all (okD_ok (by decide +kernel))) (nd_all (lf_all (okD_ok (by decide +kernel))) (lf_all (okD_ok (by decide +kernel))))) (nd_all (lf_all (okD_ok (by decide +kernel))) (nd_all (lf_all (okD_ok (by decide +kernel))) (lf_all (okD_ok (by decide +kernel)))))))) (nd_all (nd_all (nd_all (nd_all (lf_all (okD_ok (by decide +kernel))) (nd_all (lf_all (okD_ok (by decide +kernel))) (lf_all (okD_ok (by decide +kernel))))) (nd_all (lf_all (okD_ok (by decide +kernel))) (nd_all (lf_all (okD_ok (by decide +kernel))) (lf_all (okD_ok (by decide +kernel)))))) (nd_all (nd_all (lf_all (okD_ok (by decide +kernel))) (nd_all (lf_all (okD_ok (by decide +kernel))) (lf_all (okD_ok (by decide +kernel))))) (nd_all (lf_all (okD_ok (by decide +kernel))) (nd_all (lf_all (okD_ok (by decide +kernel))) (lf_all (okD_ok (by decide +kernel))))))) (nd_all (nd_all (nd_all (lf_all (okD_ok (by decide +kernel))) (nd_all (lf_all (okD_ok (by decide +kernel))) (lf_all (okD_ok (by decide +kernel))))) (nd_all (lf_all (okD_ok (by decide +kernel))) (nd_all (lf_all (okD_ok (by decide +kernel))) (lf_all (okD_ok (by decide +kernel)))))) (nd_all (nd_all (lf_all (okD_ok (by decide +kernel))) (nd_all (lf_all (okD_ok (by decide +kernel))) (lf_all (okD_ok (by decide +kernel))))) (nd_all (lf_all (okD_ok (by decide +kernel))) (nd_all (lf_all (okD_ok (by decide +kernel))) (lf_all (okD_ok (by decide +kernel))))))))))
def tX0_ofPath : Nat → Option mE := (nd 48 (nd 24 (nd 8 (nd 5 (nd 1 (lf 0 (.aload_n 2, 1, 0, 0)) (nd 2 (lf 1 (.iconst 1, 2, 0, 1)) (lf 2 (.invokevirtual 39, 5, 0, 0)))) (nd 6 (lf 5 (.istore_n 3, 6, 0, 0)) (nd 7 (lf 6 (.aload_n 2, 7, 0, 0)) (lf 7 (.iconst 5, 8, 0, 5))))) (nd 15 (nd 11 (lf 8 (.invokevirtual 39, 11, 0, 0)) (nd 13 (lf 11 (.istore 4, 13, 0, 0)) (lf 13 (.iload 4, 15, 0, 0)))) (nd 20 (nd 18 (lf 15 (.ifCond .lt 9, 18, 24, 0)) (lf 18 (.iload 4, 20, 0, 0))) (nd 21 (lf 20 (.iload_n 3, 21, 0, 0)) (lf 21 (.if_icmp .lt 5, 24, 26, 0)))))) (nd 34 (nd 27 (nd 25 (lf 24 (.aconst_null, 25, 0, 0)) (nd 26 (lf 25 (.areturn, 26, 0, 0)) (lf 26 (.aload_n 1, 27, 0, 0)))) (nd 30 (lf 27 (.getfield 43, 30, 0, 0)) (nd 33 (lf 30 (.invokevirtual 48, 33, 0, 0)) (lf 33 (.aload_n 1, 34, 0, 0))))) (nd 41 (nd 37 (lf 34 (.getfield 43, 37, 0, 0)) (nd 38 (lf 37 (.iconst 0, 38, 0, 0)) (lf 38 (.invokevirtual 51, 41, 0, 0)))) (nd 45 (nd 42 (lf 41 (.aload_n 1, 42, 0, 0)) (lf 42 (.getfield 43, 45, 0, 0))) (nd 46 (lf 45 (.aload_n 2, 46, 0, 0)) (lf 46 (.bipush 9, 48, 0, 9))))))) (nd 75 (nd 60 (nd 53 (nd 49 (lf 48 (.iconst 4, 49, 0, 4)) (nd 52 (lf 49 (.invokevirtual 54, 52, 0, 0)) (lf 52 (.aload_n 0, 53, 0, 0)))) (nd 56 (lf 53 (.getfield 20, 56, 0, 0)) (nd 57 (lf 56 (.aload_n 1, 57, 0, 0)) (lf 57 (.invokevirtual 57, 60, 0, 0))))) (nd 67 (nd 63 (lf 60 (.invokevirtual 61, 63, 0, 0)) (nd 64 (lf 63 (.aload_n 0, 64, 0, 0)) (lf 64 (.getfield 14, 67, 0, 0)))) (nd 71 (nd 68 (lf 67 (.aload_n 0, 68, 0, 0)) (lf 68 (.getfield 20, 71, 0, 0))) (nd 74 (lf 71 (.invokevirtual 61, 74, 0, 0)) (lf 74 (.aload_n 0, 75, 0, 0)))))) (nd 84 (nd 79 (nd 76 (lf 75 (.aload_n 1, 76, 0, 0)) (nd 78 (lf 76 (.iload 4, 78, 0, 0)) (lf 78 (.iload_n 3, 79, 0, 0)))) (nd 81 (nd 80 (lf 79 (.iconst 1, 80, 0, 1)) (lf 80 (.isub, 81, 0, 0))) (nd 82 (lf 81 (.aload_n 2, 82, 0, 0)) (lf 82 (.bipush 13, 84, 0, 13))))) (nd 91 (nd 87 (lf 84 (.invokevirtual 31, 87, 0, 0)) (nd 90 (lf 87 (.ifCond .eq 10, 90, 97, 0)) (lf 90 (.aload_n 0, 91, 0, 0)))) (nd 97 (nd 94 (lf 91 (.getfield 20, 94, 0, 0)) (lf 94 (.goto 4, 97, 98, 0))) (nd 98 (lf 97 (.aconst_null, 98, 0, 0)) (lf 98 (.areturn, 99, 0, 0))))))))
theorem tX0_ofPath_ok : tAll (okC cX0_ofPath 5) tX0_ofPath := (nd_all (nd_all (nd_all (nd_all (nd_all (lf_all (okD_ok (by decide +kernel))) (nd_all (lf_all (okD_ok (by decide +kernel))) (lf_all (okD_ok (by decide +kernel))))) (nd_all (lf_all (okD_ok (by decide +kernel))) (nd_all (lf_all (okD_ok (by decide +kernel))) (lf_all (okD_ok (by decide +kernel)))))) (nd_all (nd_all (lf_all (okD_ok (by decide +kernel))) (nd_all (lf_all (okD_ok (by decide +kernel))) (lf_all (okD_ok (by decide +kernel))))) (nd_all (nd_all (lf_all (okD_ok (by decide +kernel))) (lf_all (okD_ok (by decide +kernel)))) (nd_all (lf_all (okD_ok (by decide +kernel))) (lf_all (okD_ok (by decide +kernel))))))) (nd_all (nd_all (nd_all (lf_all (okD_ok (by decide +kernel))) (nd_all (lf_all (okD_ok (by decide +kernel))) (lf_all (okD_ok (by decide +kernel))))) (nd_all (lf_all (okD_ok (by decide +kernel))) (nd_all (lf_all (okD_ok (by decide +kernel))) (lf_all (okD_ok (by decide +kernel)))))) (nd_all (nd_all (lf_all (okD_ok (by decide +kernel))) (nd_all (lf_all (okD_ok (by decide +kernel))) (lf_all (okD_ok (by decide +kernel))))) (nd_all (nd_all (lf_all (okD_ok (by decide +kernel))) (lf_all (okD_ok (by decide +kernel)))) (nd_all (lf_all (okD_ok (by decide +kernel))) (lf_all (okD_ok (by decide +kernel)))))))) (nd_all (nd_all (nd_all (nd_all (lf_all (okD_ok (by decide +kernel))) (nd_all (lf_all (okD_ok (by decide +kernel))) (lf_all (okD_ok (by decide +kernel))))) (nd_all (lf_all (okD_ok (by decide +kernel))) (nd_all (lf_all (okD_ok (by decide +kernel))) (lf_all (okD_ok (by decide +kernel)))))) (nd_all (nd_all (lf_all (okD_ok (by decide +kernel))) (nd_all (lf_all (okD_ok (by decide +kernel))) (lf_all (okD_ok (by decide +kernel))))) (nd_all (nd_all (lf_all (okD_ok (by decide +kernel))) (lf_all (okD_ok (by decide +kernel)))) (nd_all (lf_all (okD_ok (by decide +kernel))) (lf_all (okD_ok (by decide +kernel))))))) (nd_all (nd_all (nd_all (lf_all (okD_ok (by decide +kernel))) (nd_all (lf_all (okD_ok (by decide +kernel))) (lf_all (okD_ok (by decide +kernel))))) (nd_all (nd_all (lf_all (okD_ok (by decide +kernel))) (lf_all (okD_ok (by decide +kernel)))) (nd_all (lf_all (okD_ok (by decide +kernel))) (lf_all (okD_ok (by decide +kernel)))))) (nd_all (nd_all (lf_all (okD_ok (by decide +kernel))) (nd_all (lf_all (okD_ok (by decide +kernel))) (lf_all (okD_ok (by decide +kernel))))) (nd_all (nd_all (lf_all (okD_ok (by decide +kernel))) (lf_all (okD_ok (by decide +kernel)))) (nd_all (lf_all (okD_ok (by decide +kernel))) (lf_all (okD_ok (by decide +kernel)))))))))
def tX0_rises : Nat → Option mE := (nd 87 (nd 42 (nd 22 (nd 8 (nd 3 (nd 1 (lf 0 (.iload_n 2, 1, 0, 0)) (lf 1 (.istore 6, 3, 0, 0))) (nd 4 (lf 3 (.iload_n 3, 4, 0, 0)) (nd 6 (lf 4 (.istore 7, 6, 0, 0)) (lf 6 (.iload 5, 8, 0, 0))))) (nd 14 (nd 10 (lf 8 (.istore 8, 10, 0, 0)) (nd 12 (lf 10 (.iload 8, 12, 0, 0)) (lf 12 (.aload 4, 14, 0, 0)))) (nd 17 (lf 14 (.getfield 23, 17, 0, 0)) (nd 20 (lf 17 (.if_icmp .ge 146, 20, 163, 0)) (lf 20 (.iload 7, 22, 0, 0)))))) (nd 30 (nd 26 (nd 25 (lf 22 (.ifCond .ne 5, 25, 27, 0)) (lf 25 (.iconst 0, 26, 0, 0))) (nd 27 (lf 26 (.ireturn, 27, 0, 0)) (nd 29 (lf 27 (.iload 6, 29, 0, 0)) (lf 29 (.iconst 1, 30, 0, 1))))) (nd 35 (nd 31 (lf 30 (.iand, 31, 0, 0)) (nd 32 (lf 31 (.iconst 1, 32, 0, 1)) (lf 32 (.if_icmp .eq 10, 35, 42, 0)))) (nd 37 (lf 35 (.iload 6, 37, 0, 0)) (nd 39 (lf 37 (.iload 7, 39, 0, 0)) (lf 39 (.if_icmp .ne 86, 42, 125, 0))))))) (nd 63 (nd 51 (nd 46 (nd 43 (lf 42 (.aload_n 0, 43, 0, 0)) (lf 43 (.getfield 14, 46, 0, 0))) (nd 47 (lf 46 (.aload_n 1, 47, 0, 0)) (nd 49 (lf 47 (.aload 4, 49, 0, 0)) (lf 49 (.iload 8, 51, 0, 0))))) (nd 56 (nd 52 (lf 51 (.aload_n 0, 52, 0, 0)) (nd 55 (lf 52 (.getfield 14, 55, 0, 0)) (lf 55 (.iconst 0, 56, 0, 0)))) (nd 59 (lf 56 (.invokevirtual 65, 59, 0, 0)) (nd 62 (lf 59 (.invokevirtual 61, 62, 0, 0)) (lf 62 (.aload_n 0, 63, 0, 0)))))) (nd 75 (nd 69 (nd 66 (lf 63 (.getfield 20, 66, 0, 0)) (nd 67 (lf 66 (.aload_n 1, 67, 0, 0)) (lf 67 (.aload 4, 69, 0, 0)))) (nd 71 (lf 69 (.iload 8, 71, 0, 0)) (nd 72 (lf 71 (.aload_n 0, 72, 0, 0)) (lf 72 (.getfield 20, 75, 0, 0))))) (nd 82 (nd 76 (lf 75 (.iconst 0, 76, 0, 0)) (nd 79 (lf 76 (.invokevirtual 65, 79, 0, 0)) (lf 79 (.invokevirtual 61, 82, 0, 0)))) (nd 83 (lf 82 (.iconst 0, 83, 0, 0)) (nd 85 (lf 83 (.istore 9, 85, 0, 0)) (lf 85 (.iload 9, 87, 0, 0)))))))) (nd 130 (nd 108 (nd 96 (nd 92 (nd 89 (lf 87 (.bipush 32, 89, 0, 32)) (lf 89 (.if_icmp .ge 33, 92, 122, 0))) (nd 94 (lf 92 (.iload 6, 94, 0, 0)) (nd 95 (lf 94 (.iconst 1, 95, 0, 1)) (lf 95 (.iand, 96, 0, 0))))) (nd 104 (nd 99 (lf 96 (.ifCond .ne 26, 99, 122, 0)) (nd 101 (lf 99 (.iload 6, 101, 0, 0)) (lf 101 (.ifCond .eq 21, 104, 122, 0)))) (nd 106 (lf 104 (.iload 6, 106, 0, 0)) (nd 107 (lf 106 (.iconst 1, 107, 0, 1)) (lf 107 (.ishr, 108, 0, 0)))))) (nd 116 (nd 112 (nd 110 (lf 108 (.istore 6, 110, 0, 0)) (lf 110 (.iload 7, 112, 0, 0))) (nd 113 (lf 112 (.iconst 1, 113, 0, 1)) (nd 114 (lf 113 (.ishr, 114, 0, 0)) (lf 114 (.istore 7, 116, 0, 0))))) (nd 125 (nd 119 (lf 116 (.iinc 9 1, 119, 0, 1)) (nd 122 (lf 119 (.goto (-34), 122, 85, 0)) (lf 122 (.goto 23, 125, 145, 0)))) (nd 126 (lf 125 (.aload_n 0, 126, 0, 0)) (nd 129 (lf 126 (.getfield 20, 129, 0, 0)) (lf 129 (.aload_n 1, 130, 0, 0))))))) (nd 151 (nd 139 (nd 134 (nd 131 (lf 130 (.aload_n 0, 131, 0, 0)) (lf 131 (.getfield 20, 134, 0, 0))) (nd 135 (lf 134 (.iconst 0, 135, 0, 0)) (nd 137 (lf 135 (.aload 4, 137, 0, 0)) (lf 137 (.iload 8, 139, 0, 0))))) (nd 147 (nd 142 (lf 139 (.invokevirtual 65, 142, 0, 0)) (nd 145 (lf 142 (.invokevirtual 61, 145, 0, 0)) (lf 145 (.iload 6, 147, 0, 0)))) (nd 148 (lf 147 (.iconst 1, 148, 0, 1)) (nd 149 (lf 148 (.ishr, 149, 0, 0)) (lf 149 (.istore 6, 151, 0, 0)))))) (nd 163 (nd 155 (nd 153 (lf 151 (.iload 7, 153, 0, 0)) (nd 154 (lf 153 (.iconst 1, 154, 0, 1)) (lf 154 (.ishr, 155, 0, 0)))) (nd 157 (lf 155 (.istore 7, 157, 0, 0)) (nd 160 (lf 157 (.iinc 8 32, 160, 0, 32)) (lf 160 (.goto (-150), 163, 10, 0))))) (nd 169 (nd 165 (lf 163 (.iload 7, 165, 0, 0)) (nd 168 (lf 165 (.ifCond .ne 7, 168, 172, 0)) (lf 168 (.iconst 1, 169, 0, 1)))) (nd 172 (lf 169 (.goto 4, 172, 173, 0)) (nd 173 (lf 172 (.iconst 0, 173, 0, 0)) (lf 173 (.ireturn, 174, 0, 0)))))))))
theorem tX0_rises_ok : tAll (okC cX0_rises 10) tX0_rises := (nd_all (nd_all (nd_all (nd_all (nd_all (nd_all (lf_all (okD_ok (by decide +kernel))) (lf_all (okD_ok (by decide +kernel)))) (nd_all (lf_all (okD_ok (by decide +kernel))) (nd_all (lf_all (okD_ok (by decide +kernel))) (lf_all (okD_ok (by decide +kernel)))))) (nd_all (nd_all (lf_all (okD_ok (by decide +kernel))) (nd_all (lf_all (okD_ok (by decide +kernel))) (lf_all (okD_ok (by decide +kernel))))) (nd_all (lf_all (okD_ok (by decide +kernel))) (nd_all (lf_all (okD_ok (by decide +kernel))) (lf_all (okD_ok (by decide +kernel))))))) (nd_all (nd_all (nd_all (lf_all (okD_ok (by decide +kernel))) (lf_all (okD_ok (by decide +kernel)))) (nd_all (lf_all (okD_ok (by decide +kernel))) (nd_all (lf_all (okD_ok (by decide +kernel))) (lf_all (okD_ok (by decide +kernel)))))) (nd_all (nd_all (lf_all (okD_ok (by decide +kernel))) (nd_all (lf_all (okD_ok (by decide +kernel))) (lf_all (okD_ok (by decide +kernel))))) (nd_all (lf_all (okD_ok (by decide +kernel))) (nd_all (lf_all (okD_ok (by decide +kernel))) (lf_all (okD_ok (by decide +kernel)))))))) (nd_all (nd_all (nd_all (nd_all (lf_all (okD_ok (by decide +kernel))) (lf_all (okD_ok (by decide +kernel)))) (nd_all (lf_all (okD_ok (by decide +kernel))) (nd_all (lf_all (okD_ok (by decide +kernel))) (lf_all (okD_ok (by decide +kernel)))))) (nd_all (nd_all (lf_all (okD_ok (by decide +kernel))) (nd_all (lf_all (okD_ok (by decide +kernel))) (lf_all (okD_ok (by decide +kernel))))) (nd_all (lf_all (okD_ok (by decide +kernel))) (nd_all (lf_all (okD_ok (by decide +kernel))) (lf_all (okD_ok (by decide +kernel))))))) (nd_all (nd_all (nd_all (lf_all (okD_ok (by decide +kernel))) (nd_all (lf_all (okD_ok (by decide +kernel))) (lf_all (okD_ok (by decide +kernel))))) (nd_all (lf_all (okD_ok (by decide +kernel))) (nd_all (lf_all (okD_ok (by decide +kernel))) (lf_all (okD_ok (by decide +kernel)))))) (nd_all (nd_all (lf_all (okD_ok (by decide +kernel))) (nd_all (lf_all (okD_ok (by decide +kernel))) (lf_all (okD_ok (by decide +kernel))))) (nd_all (lf_all (okD_ok (by decide +kernel))) (nd_all (lf_all (okD_ok (by decide +kernel))) (lf_all (okD_ok (by decide +kernel))))))))) (nd_all (nd_all (nd_all (nd_all (nd_all (lf_all (okD_ok (by decide +kernel))) (lf_all (okD_ok (by decide +kernel)))) (nd_all (lf_all (okD_ok (by decide +kernel))) (nd_all (lf_all (okD_ok (by decide +kernel))) (lf_all (okD_ok (by decide +kernel)))))) (nd_all (nd_all (lf_all (okD_ok (by decide +kernel))) (nd_all (lf_all (okD_ok (by decide +kernel))) (lf_all (okD_ok (by decide +kernel))))) (nd_all (lf_all (okD_ok (by decide +kernel))) (nd_all (lf_all (okD_ok (by decide +kernel))) (lf_all (okD_ok (by decide +kernel))))))) (nd_all (nd_all (nd_all (lf_all (okD_ok (by decide +kernel))) (lf_all (okD_ok (by decide +kernel)))) (nd_all (lf_all (okD_ok (by decide +kernel))) (nd_all (lf_all (okD_ok (by decide +kernel))) (lf_all (okD_ok (by decide +kernel)))))) (nd_all (nd_all (lf_all (okD_ok (by decide +kernel))) (nd_all (lf_all (okD_ok (by decide +kernel))) (lf_all (okD_ok (by decide +kernel))))) (nd_all (lf_all (okD_ok (by decide +kernel))) (nd_all (lf_all (okD_ok (by decide +kernel))) (lf_all (okD_ok (by decide +kernel)))))))) (nd_all (nd_all (nd_all (nd_all (lf_all (okD_ok (by decide +kernel))) (lf_all (okD_ok (by decide +kernel)))) (nd_all (lf_all (okD_ok (by decide +kernel))) (nd_all (lf_all (okD_ok (by decide +kernel))) (lf_all (okD_ok (by decide +kernel)))))) (nd_all (nd_all (lf_all (okD_ok (by decide +kernel))) (nd_all (lf_all (okD_ok (by decide +kernel))) (lf_all (okD_ok (by decide +kernel))))) (nd_all (lf_all (okD_ok (by decide +kernel))) (nd_all (lf_all (okD_ok (by decide +kernel))) (lf_all (okD_ok (by decide +kernel))))))) (nd_all (nd_all (nd_all (lf_all (okD_ok (by decide +kernel))) (nd_all (lf_all (okD_ok (by decide +kernel))) (lf_all (okD_ok (by decide +kernel))))) (nd_all (lf_all (okD_ok (by decide +kernel))) (nd_all (lf_all (okD_ok (by decide +kernel))) (lf_all (okD_ok (by decide +kernel)))))) (nd_all (nd_all (lf_all (okD_ok (by decide +kernel))) (nd_all (lf_all (okD_ok (by decide +kernel))) (lf_all (okD_ok (by decide +kernel))))) (nd_all (lf_all (okD_ok (by decide +kernel))) (nd_all (lf_all (okD_ok (by decide +kernel))) (lf_all (okD_ok (by decide +kernel))))))))))
def tX1_init : Nat → Option mE := (nd 8 (nd 4 (nd 1 (lf 0 (.aload_n 0, 1, 0, 0)) (lf 1 (.invokespecial 3, 4, 0, 0))) (nd 5 (lf 4 (.aload_n 0, 5, 0, 0)) (lf 5 (.new 9, 8, 0, 0)))) (nd 11 (nd 9 (lf 8 (.dup, 9, 0, 0)) (lf 9 (.bipush 32, 11, 0, 32))) (nd 14 (lf 11 (.invokespecial 13, 14, 0, 0)) (nd 17 (lf 14 (.putfield 16, 17, 0, 0)) (lf 17 (.return_, 18, 0, 0))))))
theorem tX1_init_ok : tAll (okC cX1_init 1) tX1_init := (nd_all (nd_all (nd_all (lf_all (okD_ok (by decide +kernel))) (lf_all (okD_ok (by decide +kernel)))) (nd_all (lf_all (okD_ok (by decide +kernel))) (lf_all (okD_ok (by decide +kernel))))) (nd_all (nd_all (lf_all (okD_ok (by decide +kernel))) (lf_all (okD_ok (by decide +kernel)))) (nd_all (lf_all (okD_ok (by decide +kernel))) (nd_all (lf_all (okD_ok (by decide +kernel))) (lf_all (okD_ok (by decide +kernel)))))))
def tX1_makeFrom : Nat → Option mE := (nd 39 (nd 20 (nd 10 (nd 4 (nd 1 (lf 0 (.aload_n 0, 1, 0, 0)) (lf 1 (.getfield 16, 4, 0, 0))) (nd 7 (lf 4 (.invokevirtual 20, 7, 0, 0)) (nd 8 (lf 7 (.iconst 0, 8, 0, 0)) (lf 8 (.istore 4, 10, 0, 0))))) (nd 13 (nd 12 (lf 10 (.iload 4, 12, 0, 0)) (lf 12 (.iconst 4, 13, 0, 4))) (nd 16 (lf 13 (.if_icmp .ge 68, 16, 81, 0)) (nd 17 (lf 16 (.aload_n 1, 17, 0, 0)) (lf 17 (.getfield 23, 20, 0, 0)))))) (nd 31 (nd 24 (nd 23 (lf 20 (.invokevirtual 20, 23, 0, 0)) (lf 23 (.aload_n 1, 24, 0, 0))) (nd 27 (lf 24 (.getfield 23, 27, 0, 0)) (nd 28 (lf 27 (.iconst 3, 28, 0, 3)) (lf 28 (.invokevirtual 28, 31, 0, 0))))) (nd 35 (nd 32 (lf 31 (.aload_n 1, 32, 0, 0)) (lf 32 (.getfield 23, 35, 0, 0))) (nd 36 (lf 35 (.lload_n 2, 36, 0, 0)) (nd 38 (lf 36 (.bipush 32, 38, 0, 32)) (lf 38 (.lushr, 39, 0, 0))))))) (nd 58 (nd 48 (nd 43 (nd 40 (lf 39 (.l2i, 40, 0, 0)) (lf 40 (.invokevirtual 31, 43, 0, 0))) (nd 44 (lf 43 (.aload_n 1, 44, 0, 0)) (nd 47 (lf 44 (.getfield 23, 47, 0, 0)) (lf 47 (.lload_n 2, 48, 0, 0))))) (nd 52 (nd 49 (lf 48 (.l2i, 49, 0, 0)) (lf 49 (.invokevirtual 31, 52, 0, 0))) (nd 53 (lf 52 (.aload_n 1, 53, 0, 0)) (nd 56 (lf 53 (.getfield 23, 56, 0, 0)) (lf 56 (.iload 4, 58, 0, 0)))))) (nd 69 (nd 62 (nd 61 (lf 58 (.invokevirtual 28, 61, 0, 0)) (lf 61 (.aload_n 0, 62, 0, 0))) (nd 65 (lf 62 (.getfield 16, 65, 0, 0)) (nd 66 (lf 65 (.aload_n 1, 66, 0, 0)) (lf 66 (.invokevirtual 34, 69, 0, 0))))) (nd 75 (nd 70 (lf 69 (.iconst 0, 70, 0, 0)) (nd 72 (lf 70 (.bipush 8, 72, 0, 8)) (lf 72 (.invokevirtual 38, 75, 0, 0)))) (nd 78 (lf 75 (.iinc 4 1, 78, 0, 1)) (nd 81 (lf 78 (.goto (-68), 81, 10, 0)) (lf 81 (.return_, 82, 0, 0))))))))
theorem tX1_makeFrom_ok : tAll (okC cX1_makeFrom 5) tX1_makeFrom := (nd_all (nd_all (nd_all (nd_all (nd_all (lf_all (okD_ok (by decide +kernel))) (lf_all (okD_ok (by decide +kernel)))) (nd_all (lf_all (okD_ok (by decide +kernel))) (nd_all (lf_all (okD_ok (by decide +kernel))) (lf_all (okD_ok (by decide +kernel)))))) (nd_all (nd_all (lf_all (okD_ok (by decide +kernel))) (lf_all (okD_ok (by decide +kernel)))) (nd_all (lf_all (okD_ok (by decide +kernel))) (nd_all (lf_all (okD_ok (by decide +kernel))) (lf_all (okD_ok (by decide +kernel))))))) (nd_all (nd_all (nd_all (lf_all (okD_ok (by decide +kernel))) (lf_all (okD_ok (by decide +kernel)))) (nd_all (lf_all (okD_ok (by decide +kernel))) (nd_all (lf_all (okD_ok (by decide +kernel))) (lf_all (okD_ok (by decide +kernel)))))) (nd_all (nd_all (lf_all (okD_ok (by decide +kernel))) (lf_all (okD_ok (by decide +kernel)))) (nd_all (lf_all (okD_ok (by decide +kernel))) (nd_all (lf_all (okD_ok (by decide +kernel))) (lf_all (okD_ok (by decide +kernel)))))))) (nd_all (nd_all (nd_all (nd_all (lf_all (okD_ok (by decide +kernel))) (lf_all (okD_ok (by decide +kernel)))) (nd_all (lf_all (okD_ok (by decide +kernel))) (nd_all (lf_all (okD_ok (by decide +kernel))) (lf_all (okD_ok (by decide +kernel)))))) (nd_all (nd_all (lf_all (okD_ok (by decide +kernel))) (lf_all (okD_ok (by decide +kernel)))) (nd_all (lf_all (okD_ok (by decide +kernel))) (nd_all (lf_all (okD_ok (by decide +kernel))) (lf_all (okD_ok (by decide +kernel))))))) (nd_all (nd_all (nd_all (lf_all (okD_ok (by decide +kernel))) (lf_all (okD_ok (by decide +kernel)))) (nd_all (lf_all (okD_ok (by decide +kernel))) (nd_all (lf_all (okD_ok (by decide +kernel))) (lf_all (okD_ok (by decide +kernel)))))) (nd_all (nd_all (lf_all (okD_ok (by decide +kernel))) (nd_all (lf_all (okD_ok (by decide +kernel))) (lf_all (okD_ok (by decide +kernel))))) (nd_all (lf_all (okD_ok (by decide +kernel))) (nd_all (lf_all (okD_ok (by decide +kernel))) (lf_all (okD_ok (by decide +kernel)))))))))
def tX1_signFor : Nat → Option mE := (nd 32 (nd 15 (nd 7 (nd 2 (nd 1 (lf 0 (.aload_n 2, 1, 0, 0)) (lf 1 (.iload_n 3, 2, 0, 0))) (nd 5 (lf 2 (.invokevirtual 42, 5, 0, 0)) (lf 5 (.istore 5, 7, 0, 0)))) (nd 11 (nd 8 (lf 7 (.aload_n 1, 8, 0, 0)) (lf 8 (.getfield 23, 11, 0, 0))) (nd 14 (lf 11 (.invokevirtual 20, 14, 0, 0)) (lf 14 (.aload_n 1, 15, 0, 0))))) (nd 23 (nd 19 (nd 18 (lf 15 (.getfield 23, 18, 0, 0)) (lf 18 (.iconst 2, 19, 0, 2))) (nd 22 (lf 19 (.invokevirtual 28, 22, 0, 0)) (lf 22 (.aload_n 1, 23, 0, 0)))) (nd 27 (nd 26 (lf 23 (.getfield 23, 26, 0, 0)) (lf 26 (.aload_n 0, 27, 0, 0))) (nd 30 (lf 27 (.getfield 16, 30, 0, 0)) (lf 30 (.iload 5, 32, 0, 0)))))) (nd 49 (nd 40 (nd 35 (nd 34 (lf 32 (.bipush 8, 34, 0, 8)) (lf 34 (.imul, 35, 0, 0))) (nd 37 (lf 35 (.bipush 8, 37, 0, 8)) (lf 37 (.invokevirtual 38, 40, 0, 0)))) (nd 44 (nd 41 (lf 40 (.aload_n 1, 41, 0, 0)) (lf 41 (.getfield 23, 44, 0, 0))) (nd 46 (lf 44 (.iload 5, 46, 0, 0)) (lf 46 (.invokevirtual 28, 49, 0, 0))))) (nd 56 (nd 53 (nd 50 (lf 49 (.aload_n 1, 50, 0, 0)) (lf 50 (.getfield 23, 53, 0, 0))) (nd 54 (lf 53 (.aload_n 2, 54, 0, 0)) (lf 54 (.iload 4, 56, 0, 0)))) (nd 61 (nd 58 (lf 56 (.bipush 36, 58, 0, 36)) (lf 58 (.invokevirtual 38, 61, 0, 0))) (nd 62 (lf 61 (.aload_n 1, 62, 0, 0)) (nd 65 (lf 62 (.invokevirtual 34, 65, 0, 0)) (lf 65 (.areturn, 66, 0, 0))))))))
theorem tX1_signFor_ok : tAll (okC cX1_signFor 6) tX1_signFor := (nd_all (nd_all (nd_all (nd_all (nd_all (lf_all (okD_ok (by decide +kernel))) (lf_all (okD_ok (by decide +kernel)))) (nd_all (lf_all (okD_ok (by decide +kernel))) (lf_all (okD_ok (by decide +kernel))))) (nd_all (nd_all (lf_all (okD_ok (by decide +kernel))) (lf_all (okD_ok (by decide +kernel)))) (nd_all (lf_all (okD_ok (by decide +kernel))) (lf_all (okD_ok (by decide +kernel)))))) (nd_all (nd_all (nd_all (lf_all (okD_ok (by decide +kernel))) (lf_all (okD_ok (by decide +kernel)))) (nd_all (lf_all (okD_ok (by decide +kernel))) (lf_all (okD_ok (by decide +kernel))))) (nd_all (nd_all (lf_all (okD_ok (by decide +kernel))) (lf_all (okD_ok (by decide +kernel)))) (nd_all (lf_all (okD_ok (by decide +kernel))) (lf_all (okD_ok (by decide +kernel))))))) (nd_all (nd_all (nd_all (nd_all (lf_all (okD_ok (by decide +kernel))) (lf_all (okD_ok (by decide +kernel)))) (nd_all (lf_all (okD_ok (by decide +kernel))) (lf_all (okD_ok (by decide +kernel))))) (nd_all (nd_all (lf_all (okD_ok (by decide +kernel))) (lf_all (okD_ok (by decide +kernel)))) (nd_all (lf_all (okD_ok (by decide +kernel))) (lf_all (okD_ok (by decide +kernel)))))) (nd_all (nd_all (nd_all (lf_all (okD_ok (by decide +kernel))) (lf_all (okD_ok (by decide +kernel)))) (nd_all (lf_all (okD_ok (by decide +kernel))) (lf_all (okD_ok (by decide +kernel))))) (nd_all (nd_all (lf_all (okD_ok (by decide +kernel))) (lf_all (okD_ok (by decide +kernel)))) (nd_all (lf_all (okD_ok (by decide +kernel))) (nd_all (lf_all (okD_ok (by decide +kernel))) (lf_all (okD_ok (by decide +kernel)))))))))
def tX1_haveSigned : Nat → Option mE := (nd 29 (nd 14 (nd 5 (nd 1 (lf 0 (.aload_n 2, 1, 0, 0)) (nd 2 (lf 1 (.iload_n 3, 2, 0, 0)) (lf 2 (.invokevirtual 42, 5, 0, 0)))) (nd 9 (nd 7 (lf 5 (.istore 5, 7, 0, 0)) (lf 7 (.iload 5, 9, 0, 0))) (nd 12 (lf 9 (.ifCond .lt 18, 12, 27, 0)) (lf 12 (.iload 5, 14, 0, 0))))) (nd 21 (nd 18 (nd 15 (lf 14 (.iconst 4, 15, 0, 4)) (lf 15 (.if_icmp .ge 12, 18, 27, 0))) (nd 19 (lf 18 (.aload_n 2, 19, 0, 0)) (lf 19 (.iload 4, 21, 0, 0)))) (nd 27 (nd 24 (lf 21 (.invokevirtual 46, 24, 0, 0)) (lf 24 (.ifCond .ge 5, 27, 29, 0))) (nd 28 (lf 27 (.iconst 0, 28, 0, 0)) (lf 28 (.ireturn, 29, 0, 0)))))) (nd 42 (nd 33 (nd 31 (nd 30 (lf 29 (.aload_n 0, 30, 0, 0)) (lf 30 (.aload_n 1, 31, 0, 0))) (nd 32 (lf 31 (.aload_n 2, 32, 0, 0)) (lf 32 (.iload_n 3, 33, 0, 0)))) (nd 38 (nd 35 (lf 33 (.iload 4, 35, 0, 0)) (lf 35 (.invokevirtual 49, 38, 0, 0))) (nd 40 (lf 38 (.astore 6, 40, 0, 0)) (lf 40 (.aload 6, 42, 0, 0))))) (nd 48 (nd 44 (nd 43 (lf 42 (.iconst 0, 43, 0, 0)) (lf 43 (.aload_n 2, 44, 0, 0))) (nd 46 (lf 44 (.iload 4, 46, 0, 0)) (lf 46 (.bipush 36, 48, 0, 36)))) (nd 51 (nd 49 (lf 48 (.iadd, 49, 0, 0)) (lf 49 (.bipush 8, 51, 0, 8))) (nd 54 (lf 51 (.invokevirtual 53, 54, 0, 0)) (lf 54 (.ireturn, 55, 0, 0)))))))
theorem tX1_haveSigned_ok : tAll (okC cX1_haveSigned 7) tX1_haveSigned := (nd_all (nd_all (nd_all (nd_all (lf_all (okD_ok (by decide +kernel))) (nd_all (lf_all (okD_ok (by decide +kernel))) (lf_all (okD_ok (by decide +kernel))))) (nd_all (nd_all (lf_all (okD_ok (by decide +kernel))) (lf_all (okD_ok (by decide +kernel)))) (nd_all (lf_all (okD_ok (by decide +kernel))) (lf_all (okD_ok (by decide +kernel)))))) (nd_all (nd_all (nd_all (lf_all (okD_ok (by decide +kernel))) (lf_all (okD_ok (by decide +kernel)))) (nd_all (lf_all (okD_ok (by decide +kernel))) (lf_all (okD_ok (by decide +kernel))))) (nd_all (nd_all (lf_all (okD_ok (by decide +kernel))) (lf_all (okD_ok (by decide +kernel)))) (nd_all (lf_all (okD_ok (by decide +kernel))) (lf_all (okD_ok (by decide +kernel))))))) (nd_all (nd_all (nd_all (nd_all (lf_all (okD_ok (by decide +kernel))) (lf_all (okD_ok (by decide +kernel)))) (nd_all (lf_all (okD_ok (by decide +kernel))) (lf_all (okD_ok (by decide +kernel))))) (nd_all (nd_all (lf_all (okD_ok (by decide +kernel))) (lf_all (okD_ok (by decide +kernel)))) (nd_all (lf_all (okD_ok (by decide +kernel))) (lf_all (okD_ok (by decide +kernel)))))) (nd_all (nd_all (nd_all (lf_all (okD_ok (by decide +kernel))) (lf_all (okD_ok (by decide +kernel)))) (nd_all (lf_all (okD_ok (by decide +kernel))) (lf_all (okD_ok (by decide +kernel))))) (nd_all (nd_all (lf_all (okD_ok (by decide +kernel))) (lf_all (okD_ok (by decide +kernel)))) (nd_all (lf_all (okD_ok (by decide +kernel))) (lf_all (okD_ok (by decide +kernel))))))))
def tX2_init : Nat → Option mE := (nd 8 (nd 4 (nd 1 (lf 0 (.aload_n 0, 1, 0, 0)) (lf 1 (.invokespecial 3, 4, 0, 0))) (nd 5 (lf 4 (.aload_n 0, 5, 0, 0)) (lf 5 (.new 9, 8, 0, 0)))) (nd 12 (nd 9 (lf 8 (.dup, 9, 0, 0)) (lf 9 (.sipush 297, 12, 0, 297))) (nd 15 (lf 12 (.invokespecial 11, 15, 0, 0)) (nd 18 (lf 15 (.putfield 14, 18, 0, 0)) (lf 18 (.return_, 19, 0, 0))))))
theorem tX2_init_ok : tAll (okC cX2_init 1) tX2_init := (nd_all (nd_all (nd_all (lf_all (okD_ok (by decide +kernel))) (lf_all (okD_ok (by decide +kernel)))) (nd_all (lf_all (okD_ok (by decide +kernel))) (lf_all (okD_ok (by decide +kernel))))) (nd_all (nd_all (lf_all (okD_ok (by decide +kernel))) (lf_all (okD_ok (by decide +kernel)))) (nd_all (lf_all (okD_ok (by decide +kernel))) (nd_all (lf_all (okD_ok (by decide +kernel))) (lf_all (okD_ok (by decide +kernel)))))))
def tX2_hashCount : Nat → Option mE := (nd 17 (nd 8 (nd 4 (nd 1 (lf 0 (.aload_n 0, 1, 0, 0)) (lf 1 (.getfield 20, 4, 0, 0))) (nd 7 (lf 4 (.ifCond .ne 5, 7, 9, 0)) (lf 7 (.iconst (-1), 8, 0, (-1))))) (nd 10 (nd 9 (lf 8 (.ireturn, 9, 0, 0)) (lf 9 (.aload_n 0, 10, 0, 0))) (nd 13 (lf 10 (.getfield 14, 13, 0, 0)) (nd 16 (lf 13 (.getfield 24, 16, 0, 0)) (lf 16 (.aload_n 0, 17, 0, 0)))))) (nd 29 (nd 21 (nd 20 (lf 17 (.getfield 20, 20, 0, 0)) (lf 20 (.iconst 1, 21, 0, 1))) (nd 24 (lf 21 (.if_icmp .ne 8, 24, 29, 0)) (nd 26 (lf 24 (.bipush 41, 26, 0, 41)) (lf 26 (.goto 5, 29, 31, 0))))) (nd 32 (nd 31 (lf 29 (.bipush 13, 31, 0, 13)) (lf 31 (.isub, 32, 0, 0))) (nd 34 (lf 32 (.bipush 32, 34, 0, 32)) (nd 35 (lf 34 (.idiv, 35, 0, 0)) (lf 35 (.ireturn, 36, 0, 0)))))))
theorem tX2_hashCount_ok : tAll (okC cX2_hashCount 1) tX2_hashCount := (nd_all (nd_all (nd_all (nd_all (lf_all (okD_ok (by decide +kernel))) (lf_all (okD_ok (by decide +kernel)))) (nd_all (lf_all (okD_ok (by decide +kernel))) (lf_all (okD_ok (by decide +kernel))))) (nd_all (nd_all (lf_all (okD_ok (by decide +kernel))) (lf_all (okD_ok (by decide +kernel)))) (nd_all (lf_all (okD_ok (by decide +kernel))) (nd_all (lf_all (okD_ok (by decide +kernel))) (lf_all (okD_ok (by decide +kernel))))))) (nd_all (nd_all (nd_all (lf_all (okD_ok (by decide +kernel))) (lf_all (okD_ok (by decide +kernel)))) (nd_all (lf_all (okD_ok (by decide +kernel))) (nd_all (lf_all (okD_ok (by decide +kernel))) (lf_all (okD_ok (by decide +kernel)))))) (nd_all (nd_all (lf_all (okD_ok (by decide +kernel))) (lf_all (okD_ok (by decide +kernel)))) (nd_all (lf_all (okD_ok (by decide +kernel))) (nd_all (lf_all (okD_ok (by decide +kernel))) (lf_all (okD_ok (by decide +kernel))))))))
def tX3_init : Nat → Option mE := (nd 50 (nd 25 (nd 13 (nd 5 (nd 1 (lf 0 (.aload_n 0, 1, 0, 0)) (nd 4 (lf 1 (.invokespecial 3, 4, 0, 0)) (lf 4 (.aload_n 0, 5, 0, 0)))) (nd 7 (lf 5 (.bipush 20, 7, 0, 20)) (nd 10 (lf 7 (.anewarray 11, 10, 0, 0)) (lf 10 (.putfield 13, 13, 0, 0))))) (nd 19 (nd 14 (lf 13 (.aload_n 0, 14, 0, 0)) (nd 16 (lf 14 (.bipush 12, 16, 0, 12)) (lf 16 (.anewarray 11, 19, 0, 0)))) (nd 22 (lf 19 (.putfield 17, 22, 0, 0)) (nd 23 (lf 22 (.aload_n 0, 23, 0, 0)) (lf 23 (.bipush 12, 25, 0, 12)))))) (nd 38 (nd 31 (nd 27 (lf 25 (.newarray .int, 27, 0, 0)) (nd 30 (lf 27 (.putfield 20, 30, 0, 0)) (lf 30 (.aload_n 0, 31, 0, 0)))) (nd 33 (lf 31 (.bipush 20, 33, 0, 20)) (nd 34 (lf 33 (.iconst 4, 34, 0, 4)) (lf 34 (.multianewarray 24 2, 38, 0, 0))))) (nd 43 (nd 41 (lf 38 (.putfield 26, 41, 0, 0)) (nd 42 (lf 41 (.iconst 0, 42, 0, 0)) (lf 42 (.istore_n 1, 43, 0, 0)))) (nd 46 (nd 44 (lf 43 (.iload_n 1, 44, 0, 0)) (lf 44 (.bipush 20, 46, 0, 20))) (nd 49 (lf 46 (.if_icmp .ge 24, 49, 70, 0)) (lf 49 (.aload_n 0, 50, 0, 0))))))) (nd 73 (nd 63 (nd 57 (nd 53 (lf 50 (.getfield 13, 53, 0, 0)) (nd 54 (lf 53 (.iload_n 1, 54, 0, 0)) (lf 54 (.new 11, 57, 0, 0)))) (nd 58 (lf 57 (.dup, 58, 0, 0)) (nd 60 (lf 58 (.bipush 45, 60, 0, 45)) (lf 60 (.invokespecial 29, 63, 0, 0))))) (nd 70 (nd 64 (lf 63 (.aastore, 64, 0, 0)) (nd 67 (lf 64 (.iinc 1 1, 67, 0, 1)) (lf 67 (.goto (-24), 70, 43, 0)))) (nd 71 (lf 70 (.iconst 0, 71, 0, 0)) (nd 72 (lf 71 (.istore_n 1, 72, 0, 0)) (lf 72 (.iload_n 1, 73, 0, 0)))))) (nd 86 (nd 79 (nd 75 (lf 73 (.bipush 12, 75, 0, 12)) (nd 78 (lf 75 (.if_icmp .ge 25, 78, 100, 0)) (lf 78 (.aload_n 0, 79, 0, 0)))) (nd 82 (lf 79 (.getfield 17, 82, 0, 0)) (nd 83 (lf 82 (.iload_n 1, 83, 0, 0)) (lf 83 (.new 11, 86, 0, 0))))) (nd 93 (nd 87 (lf 86 (.dup, 87, 0, 0)) (nd 90 (lf 87 (.sipush 297, 90, 0, 297)) (lf 90 (.invokespecial 29, 93, 0, 0)))) (nd 97 (nd 94 (lf 93 (.aastore, 94, 0, 0)) (lf 94 (.iinc 1 1, 97, 0, 1))) (nd 100 (lf 97 (.goto (-25), 100, 72, 0)) (lf 100 (.return_, 101, 0, 0))))))))
theorem tX3_init_ok : tAll (okC cX3_init 2) tX3_init := (nd_all (nd_all (nd_all (nd_all (nd_all (lf_all (okD_ok (by decide +kernel))) (nd_all (lf_all (okD_ok (by decide +kernel))) (lf_all (okD_ok (by decide +kernel))))) (nd_all (lf_all (okD_ok (by decide +kernel))) (nd_all (lf_all (okD_ok (by decide +kernel))) (lf_all (okD_ok (by decide +kernel)))))) (nd_all (nd_all (lf_all (okD_ok (by decide +kernel))) (nd_all (lf_all (okD_ok (by decide +kernel))) (lf_all (okD_ok (by decide +kernel))))) (nd_all (lf_all (okD_ok (by decide +kernel))) (nd_all (lf_all (okD_ok (by decide +kernel))) (lf_all (okD_ok (by decide +kernel))))))) (nd_all (nd_all (nd_all (lf_all (okD_ok (by decide +kernel))) (nd_all (lf_all (okD_ok (by decide +kernel))) (lf_all (okD_ok (by decide +kernel))))) (nd_all (lf_all (okD_ok (by decide +kernel))) (nd_all (lf_all (okD_ok (by decide +kernel))) (lf_all (okD_ok (by decide +kernel)))))) (nd_all (nd_all (lf_all (okD_ok (by decide +kernel))) (nd_all (lf_all (okD_ok (by decide +kernel))) (lf_all (okD_ok (by decide +kernel))))) (nd_all (nd_all (lf_all (okD_ok (by decide +kernel))) (lf_all (okD_ok (by decide +kernel)))) (nd_all (lf_all (okD_ok (by decide +kernel))) (lf_all (okD_ok (by decide +kernel)))))))) (nd_all (nd_all (nd_all (nd_all (lf_all (okD_ok (by decide +kernel))) (nd_all (lf_all (okD_ok (by decide +kernel))) (lf_all (okD_ok (by decide +kernel))))) (nd_all (lf_all (okD_ok (by decide +kernel))) (nd_all (lf_all (okD_ok (by decide +kernel))) (lf_all (okD_ok (by decide +kernel)))))) (nd_all (nd_all (lf_all (okD_ok (by decide +kernel))) (nd_all (lf_all (okD_ok (by decide +kernel))) (lf_all (okD_ok (by decide +kernel))))) (nd_all (lf_all (okD_ok (by decide +kernel))) (nd_all (lf_all (okD_ok (by decide +kernel))) (lf_all (okD_ok (by decide +kernel))))))) (nd_all (nd_all (nd_all (lf_all (okD_ok (by decide +kernel))) (nd_all (lf_all (okD_ok (by decide +kernel))) (lf_all (okD_ok (by decide +kernel))))) (nd_all (lf_all (okD_ok (by decide +kernel))) (nd_all (lf_all (okD_ok (by decide +kernel))) (lf_all (okD_ok (by decide +kernel)))))) (nd_all (nd_all (lf_all (okD_ok (by decide +kernel))) (nd_all (lf_all (okD_ok (by decide +kernel))) (lf_all (okD_ok (by decide +kernel))))) (nd_all (nd_all (lf_all (okD_ok (by decide +kernel))) (lf_all (okD_ok (by decide +kernel)))) (nd_all (lf_all (okD_ok (by decide +kernel))) (lf_all (okD_ok (by decide +kernel)))))))))
def tX3_noted : Nat → Option mE := (nd 16 (nd 7 (nd 2 (nd 1 (lf 0 (.iload_n 1, 1, 0, 0)) (lf 1 (.iconst (-1), 2, 0, (-1)))) (nd 5 (lf 2 (.if_icmp .ne 13, 5, 15, 0)) (nd 6 (lf 5 (.aload_n 0, 6, 0, 0)) (lf 6 (.dup, 7, 0, 0))))) (nd 11 (nd 10 (lf 7 (.getfield 32, 10, 0, 0)) (lf 10 (.iconst 1, 11, 0, 1))) (nd 12 (lf 11 (.iadd, 12, 0, 0)) (nd 15 (lf 12 (.putfield 32, 15, 0, 0)) (lf 15 (.iload_n 1, 16, 0, 0)))))) (nd 26 (nd 21 (nd 18 (lf 16 (.bipush (-3), 18, 0, (-3))) (lf 18 (.if_icmp .ne 13, 21, 31, 0))) (nd 22 (lf 21 (.aload_n 0, 22, 0, 0)) (nd 23 (lf 22 (.dup, 23, 0, 0)) (lf 23 (.getfield 36, 26, 0, 0))))) (nd 28 (nd 27 (lf 26 (.iconst 1, 27, 0, 1)) (lf 27 (.iadd, 28, 0, 0))) (nd 31 (lf 28 (.putfield 36, 31, 0, 0)) (nd 32 (lf 31 (.iload_n 1, 32, 0, 0)) (lf 32 (.ireturn, 33, 0, 0)))))))
theorem tX3_noted_ok : tAll (okC cX3_noted 2) tX3_noted := (nd_all (nd_all (nd_all (nd_all (lf_all (okD_ok (by decide +kernel))) (lf_all (okD_ok (by decide +kernel)))) (nd_all (lf_all (okD_ok (by decide +kernel))) (nd_all (lf_all (okD_ok (by decide +kernel))) (lf_all (okD_ok (by decide +kernel)))))) (nd_all (nd_all (lf_all (okD_ok (by decide +kernel))) (lf_all (okD_ok (by decide +kernel)))) (nd_all (lf_all (okD_ok (by decide +kernel))) (nd_all (lf_all (okD_ok (by decide +kernel))) (lf_all (okD_ok (by decide +kernel))))))) (nd_all (nd_all (nd_all (lf_all (okD_ok (by decide +kernel))) (lf_all (okD_ok (by decide +kernel)))) (nd_all (lf_all (okD_ok (by decide +kernel))) (nd_all (lf_all (okD_ok (by decide +kernel))) (lf_all (okD_ok (by decide +kernel)))))) (nd_all (nd_all (lf_all (okD_ok (by decide +kernel))) (lf_all (okD_ok (by decide +kernel)))) (nd_all (lf_all (okD_ok (by decide +kernel))) (nd_all (lf_all (okD_ok (by decide +kernel))) (lf_all (okD_ok (by decide +kernel))))))))
def tX3_takeHead : Nat → Option mE := (nd 37 (nd 16 (nd 9 (nd 2 (nd 1 (lf 0 (.aload_n 0, 1, 0, 0)) (lf 1 (.aload_n 1, 2, 0, 0))) (nd 5 (lf 2 (.invokevirtual 39, 5, 0, 0)) (nd 8 (lf 5 (.ifCond .eq 5, 8, 10, 0)) (lf 8 (.iconst 0, 9, 0, 0))))) (nd 11 (nd 10 (lf 9 (.ireturn, 10, 0, 0)) (lf 10 (.aload_n 0, 11, 0, 0))) (nd 14 (lf 11 (.getfield 43, 14, 0, 0)) (nd 15 (lf 14 (.istore_n 2, 15, 0, 0)) (lf 15 (.aload_n 0, 16, 0, 0)))))) (nd 26 (nd 21 (nd 19 (lf 16 (.getfield 46, 19, 0, 0)) (lf 19 (.bipush 20, 21, 0, 20))) (nd 24 (lf 21 (.if_icmp .ge 19, 24, 40, 0)) (nd 25 (lf 24 (.aload_n 0, 25, 0, 0)) (lf 25 (.aload_n 1, 26, 0, 0))))) (nd 32 (nd 29 (lf 26 (.invokevirtual 49, 29, 0, 0)) (lf 29 (.ifCond .eq 11, 32, 40, 0))) (nd 33 (lf 32 (.aload_n 0, 33, 0, 0)) (nd 34 (lf 33 (.aload_n 1, 34, 0, 0)) (lf 34 (.invokevirtual 52, 37, 0, 0))))))) (nd 56 (nd 47 (nd 41 (nd 40 (lf 37 (.ifCond .ne 11, 40, 48, 0)) (lf 40 (.aload_n 0, 41, 0, 0))) (nd 42 (lf 41 (.iload_n 2, 42, 0, 0)) (nd 45 (lf 42 (.putfield 43, 45, 0, 0)) (lf 45 (.bipush (-3), 47, 0, (-3)))))) (nd 49 (nd 48 (lf 47 (.ireturn, 48, 0, 0)) (lf 48 (.aload_n 0, 49, 0, 0))) (nd 52 (lf 49 (.getfield 13, 52, 0, 0)) (nd 53 (lf 52 (.aload_n 0, 53, 0, 0)) (lf 53 (.getfield 46, 56, 0, 0)))))) (nd 63 (nd 58 (nd 57 (lf 56 (.aaload, 57, 0, 0)) (lf 57 (.aload_n 1, 58, 0, 0))) (nd 61 (lf 58 (.invokevirtual 55, 61, 0, 0)) (nd 62 (lf 61 (.aload_n 0, 62, 0, 0)) (lf 62 (.dup, 63, 0, 0))))) (nd 68 (nd 66 (lf 63 (.getfield 46, 66, 0, 0)) (nd 67 (lf 66 (.iconst 1, 67, 0, 1)) (lf 67 (.iadd, 68, 0, 0)))) (nd 71 (lf 68 (.putfield 46, 71, 0, 0)) (nd 72 (lf 71 (.iconst 1, 72, 0, 1)) (lf 72 (.ireturn, 73, 0, 0))))))))
theorem tX3_takeHead_ok : tAll (okC cX3_takeHead 3) tX3_takeHead := (nd_all (nd_all (nd_all (nd_all (nd_all (lf_all (okD_ok (by decide +kernel))) (lf_all (okD_ok (by decide +kernel)))) (nd_all (lf_all (okD_ok (by decide +kernel))) (nd_all (lf_all (okD_ok (by decide +kernel))) (lf_all (okD_ok (by decide +kernel)))))) (nd_all (nd_all (lf_all (okD_ok (by decide +kernel))) (lf_all (okD_ok (by decide +kernel)))) (nd_all (lf_all (okD_ok (by decide +kernel))) (nd_all (lf_all (okD_ok (by decide +kernel))) (lf_all (okD_ok (by decide +kernel))))))) (nd_all (nd_all (nd_all (lf_all (okD_ok (by decide +kernel))) (lf_all (okD_ok (by decide +kernel)))) (nd_all (lf_all (okD_ok (by decide +kernel))) (nd_all (lf_all (okD_ok (by decide +kernel))) (lf_all (okD_ok (by decide +kernel)))))) (nd_all (nd_all (lf_all (okD_ok (by decide +kernel))) (lf_all (okD_ok (by decide +kernel)))) (nd_all (lf_all (okD_ok (by decide +kernel))) (nd_all (lf_all (okD_ok (by decide +kernel))) (lf_all (okD_ok (by decide +kernel)))))))) (nd_all (nd_all (nd_all (nd_all (lf_all (okD_ok (by decide +kernel))) (lf_all (okD_ok (by decide +kernel)))) (nd_all (lf_all (okD_ok (by decide +kernel))) (nd_all (lf_all (okD_ok (by decide +kernel))) (lf_all (okD_ok (by decide +kernel)))))) (nd_all (nd_all (lf_all (okD_ok (by decide +kernel))) (lf_all (okD_ok (by decide +kernel)))) (nd_all (lf_all (okD_ok (by decide +kernel))) (nd_all (lf_all (okD_ok (by decide +kernel))) (lf_all (okD_ok (by decide +kernel))))))) (nd_all (nd_all (nd_all (lf_all (okD_ok (by decide +kernel))) (lf_all (okD_ok (by decide +kernel)))) (nd_all (lf_all (okD_ok (by decide +kernel))) (nd_all (lf_all (okD_ok (by decide +kernel))) (lf_all (okD_ok (by decide +kernel)))))) (nd_all (nd_all (lf_all (okD_ok (by decide +kernel))) (nd_all (lf_all (okD_ok (by decide +kernel))) (lf_all (okD_ok (by decide +kernel))))) (nd_all (lf_all (okD_ok (by decide +kernel))) (nd_all (lf_all (okD_ok (by decide +kernel))) (lf_all (okD_ok (by decide +kernel)))))))))
def tX3_takeProof : Nat → Option mE := (nd 49 (nd 22 (nd 11 (nd 5 (nd 1 (lf 0 (.aload_n 2, 1, 0, 0)) (nd 4 (lf 1 (.ifnonnull 7, 4, 8, 0)) (lf 4 (.iconst (-1), 5, 0, (-1))))) (nd 9 (nd 8 (lf 5 (.goto 9, 8, 14, 0)) (lf 8 (.aload_n 0, 9, 0, 0))) (nd 10 (lf 9 (.aload_n 1, 10, 0, 0)) (lf 10 (.aload_n 2, 11, 0, 0))))) (nd 16 (nd 14 (lf 11 (.invokevirtual 59, 14, 0, 0)) (nd 15 (lf 14 (.istore_n 3, 15, 0, 0)) (lf 15 (.iload_n 3, 16, 0, 0)))) (nd 20 (nd 17 (lf 16 (.iconst (-1), 17, 0, (-1))) (lf 17 (.if_icmp .ne 5, 20, 22, 0))) (nd 21 (lf 20 (.iconst (-1), 21, 0, (-1))) (lf 21 (.ireturn, 22, 0, 0)))))) (nd 33 (nd 25 (nd 23 (lf 22 (.aload_n 0, 23, 0, 0)) (nd 24 (lf 23 (.aload_n 1, 24, 0, 0)) (lf 24 (.iload_n 3, 25, 0, 0)))) (nd 31 (nd 28 (lf 25 (.invokevirtual 63, 28, 0, 0)) (lf 28 (.ifCond .eq 5, 31, 33, 0))) (nd 32 (lf 31 (.iconst 0, 32, 0, 0)) (lf 32 (.ireturn, 33, 0, 0))))) (nd 40 (nd 37 (nd 34 (lf 33 (.aload_n 0, 34, 0, 0)) (lf 34 (.getfield 43, 37, 0, 0))) (nd 39 (lf 37 (.istore 4, 39, 0, 0)) (lf 39 (.aload_n 0, 40, 0, 0)))) (nd 45 (nd 43 (lf 40 (.getfield 67, 43, 0, 0)) (lf 43 (.bipush 12, 45, 0, 12))) (nd 48 (lf 45 (.if_icmp .ge 12, 48, 57, 0)) (lf 48 (.aload_n 0, 49, 0, 0))))))) (nd 76 (nd 63 (nd 54 (nd 50 (lf 49 (.aload_n 1, 50, 0, 0)) (nd 51 (lf 50 (.iload_n 3, 51, 0, 0)) (lf 51 (.invokevirtual 70, 54, 0, 0)))) (nd 58 (nd 57 (lf 54 (.ifCond .ne 12, 57, 66, 0)) (lf 57 (.aload_n 0, 58, 0, 0))) (nd 60 (lf 58 (.iload 4, 60, 0, 0)) (lf 60 (.putfield 43, 63, 0, 0))))) (nd 70 (nd 66 (nd 65 (lf 63 (.bipush (-3), 65, 0, (-3))) (lf 65 (.ireturn, 66, 0, 0))) (nd 67 (lf 66 (.aload_n 0, 67, 0, 0)) (lf 67 (.getfield 17, 70, 0, 0)))) (nd 74 (nd 71 (lf 70 (.aload_n 0, 71, 0, 0)) (lf 71 (.getfield 67, 74, 0, 0))) (nd 75 (lf 74 (.aaload, 75, 0, 0)) (lf 75 (.aload_n 1, 76, 0, 0)))))) (nd 89 (nd 83 (nd 79 (lf 76 (.invokevirtual 55, 79, 0, 0)) (nd 80 (lf 79 (.aload_n 0, 80, 0, 0)) (lf 80 (.getfield 20, 83, 0, 0)))) (nd 87 (nd 84 (lf 83 (.aload_n 0, 84, 0, 0)) (lf 84 (.getfield 67, 87, 0, 0))) (nd 88 (lf 87 (.iload_n 3, 88, 0, 0)) (lf 88 (.iastore, 89, 0, 0))))) (nd 95 (nd 91 (nd 90 (lf 89 (.aload_n 0, 90, 0, 0)) (lf 90 (.dup, 91, 0, 0))) (nd 94 (lf 91 (.getfield 67, 94, 0, 0)) (lf 94 (.iconst 1, 95, 0, 1)))) (nd 99 (nd 96 (lf 95 (.iadd, 96, 0, 0)) (lf 96 (.putfield 67, 99, 0, 0))) (nd 100 (lf 99 (.iconst 1, 100, 0, 1)) (lf 100 (.ireturn, 101, 0, 0))))))))
theorem tX3_takeProof_ok : tAll (okC cX3_takeProof 5) tX3_takeProof := (nd_all (nd_all (nd_all (nd_all (nd_all (lf_all (okD_ok (by decide +kernel))) (nd_all (lf_all (okD_ok (by decide +kernel))) (lf_all (okD_ok (by decide +kernel))))) (nd_all (nd_all (lf_all (okD_ok (by decide +kernel))) (lf_all (okD_ok (by decide +kernel)))) (nd_all (lf_all (okD_ok (by decide +kernel))) (lf_all (okD_ok (by decide +kernel)))))) (nd_all (nd_all (lf_all (okD_ok (by decide +kernel))) (nd_all (lf_all (okD_ok (by decide +kernel))) (lf_all (okD_ok (by decide +kernel))))) (nd_all (nd_all (lf_all (okD_ok (by decide +kernel))) (lf_all (okD_ok (by decide +kernel)))) (nd_all (lf_all (okD_ok (by decide +kernel))) (lf_all (okD_ok (by decide +kernel))))))) (nd_all (nd_all (nd_all (lf_all (okD_ok (by decide +kernel))) (nd_all (lf_all (okD_ok (by decide +kernel))) (lf_all (okD_ok (by decide +kernel))))) (nd_all (nd_all (lf_all (okD_ok (by decide +kernel))) (lf_all (okD_ok (by decide +kernel)))) (nd_all (lf_all (okD_ok (by decide +kernel))) (lf_all (okD_ok (by decide +kernel)))))) (nd_all (nd_all (nd_all (lf_all (okD_ok (by decide +kernel))) (lf_all (okD_ok (by decide +kernel)))) (nd_all (lf_all (okD_ok (by decide +kernel))) (lf_all (okD_ok (by decide +kernel))))) (nd_all (nd_all (lf_all (okD_ok (by decide +kernel))) (lf_all (okD_ok (by decide +kernel)))) (nd_all (lf_all (okD_ok (by decide +kernel))) (lf_all (okD_ok (by decide +kernel)))))))) (nd_all (nd_all (nd_all (nd_all (lf_all (okD_ok (by decide +kernel))) (nd_all (lf_all (okD_ok (by decide +kernel))) (lf_all (okD_ok (by decide +kernel))))) (nd_all (nd_all (lf_all (okD_ok (by decide +kernel))) (lf_all (okD_ok (by decide +kernel)))) (nd_all (lf_all (okD_ok (by decide +kernel))) (lf_all (okD_ok (by decide +kernel)))))) (nd_all (nd_all (nd_all (lf_all (okD_ok (by decide +kernel))) (lf_all (okD_ok (by decide +kernel)))) (nd_all (lf_all (okD_ok (by decide +kernel))) (lf_all (okD_ok (by decide +kernel))))) (nd_all (nd_all (lf_all (okD_ok (by decide +kernel))) (lf_all (okD_ok (by decide +kernel)))) (nd_all (lf_all (okD_ok (by decide +kernel))) (lf_all (okD_ok (by decide +kernel))))))) (nd_all (nd_all (nd_all (lf_all (okD_ok (by decide +kernel))) (nd_all (lf_all (okD_ok (by decide +kernel))) (lf_all (okD_ok (by decide +kernel))))) (nd_all (nd_all (lf_all (okD_ok (by decide +kernel))) (lf_all (okD_ok (by decide +kernel)))) (nd_all (lf_all (okD_ok (by decide +kernel))) (lf_all (okD_ok (by decide +kernel)))))) (nd_all (nd_all (nd_all (lf_all (okD_ok (by decide +kernel))) (lf_all (okD_ok (by decide +kernel)))) (nd_all (lf_all (okD_ok (by decide +kernel))) (lf_all (okD_ok (by decide +kernel))))) (nd_all (nd_all (lf_all (okD_ok (by decide +kernel))) (lf_all (okD_ok (by decide +kernel)))) (nd_all (lf_all (okD_ok (by decide +kernel))) (lf_all (okD_ok (by decide +kernel)))))))))
def tX3_countAccepting : Nat → Option mE := (nd 28 (nd 12 (nd 5 (nd 2 (nd 1 (lf 0 (.iconst 0, 1, 0, 0)) (lf 1 (.istore_n 3, 2, 0, 0))) (nd 3 (lf 2 (.iconst 0, 3, 0, 0)) (lf 3 (.istore 4, 5, 0, 0)))) (nd 9 (nd 6 (lf 5 (.aload_n 2, 6, 0, 0)) (lf 6 (.ifnull 56, 9, 62, 0))) (nd 11 (lf 9 (.iload 4, 11, 0, 0)) (lf 11 (.aload_n 0, 12, 0, 0))))) (nd 22 (nd 18 (nd 15 (lf 12 (.getfield 46, 15, 0, 0)) (lf 15 (.if_icmp .ge 47, 18, 62, 0))) (nd 19 (lf 18 (.aload_n 0, 19, 0, 0)) (lf 19 (.getfield 13, 22, 0, 0)))) (nd 25 (nd 24 (lf 22 (.iload 4, 24, 0, 0)) (lf 24 (.aaload, 25, 0, 0))) (nd 26 (lf 25 (.iconst 0, 26, 0, 0)) (nd 27 (lf 26 (.aload_n 1, 27, 0, 0)) (lf 27 (.iconst 0, 28, 0, 0))))))) (nd 44 (nd 36 (nd 32 (nd 29 (lf 28 (.iconst 5, 29, 0, 5)) (lf 29 (.invokevirtual 73, 32, 0, 0))) (nd 35 (lf 32 (.ifCond .eq 24, 35, 56, 0)) (lf 35 (.aload_n 0, 36, 0, 0)))) (nd 41 (nd 39 (lf 36 (.getfield 13, 39, 0, 0)) (lf 39 (.iload 4, 41, 0, 0))) (nd 42 (lf 41 (.aaload, 42, 0, 0)) (nd 43 (lf 42 (.iconst 5, 43, 0, 5)) (lf 43 (.aload_n 2, 44, 0, 0)))))) (nd 53 (nd 47 (nd 45 (lf 44 (.iconst 0, 45, 0, 0)) (lf 45 (.bipush 32, 47, 0, 32))) (nd 50 (lf 47 (.invokevirtual 73, 50, 0, 0)) (lf 50 (.ifCond .eq 6, 53, 56, 0)))) (nd 59 (nd 56 (lf 53 (.iinc 3 1, 56, 0, 1)) (lf 56 (.iinc 4 1, 59, 0, 1))) (nd 62 (lf 59 (.goto (-54), 62, 5, 0)) (nd 63 (lf 62 (.iload_n 3, 63, 0, 0)) (lf 63 (.ireturn, 64, 0, 0))))))))
theorem tX3_countAccepting_ok : tAll (okC cX3_countAccepting 5) tX3_countAccepting := (nd_all (nd_all (nd_all (nd_all (nd_all (lf_all (okD_ok (by decide +kernel))) (lf_all (okD_ok (by decide +kernel)))) (nd_all (lf_all (okD_ok (by decide +kernel))) (lf_all (okD_ok (by decide +kernel))))) (nd_all (nd_all (lf_all (okD_ok (by decide +kernel))) (lf_all (okD_ok (by decide +kernel)))) (nd_all (lf_all (okD_ok (by decide +kernel))) (lf_all (okD_ok (by decide +kernel)))))) (nd_all (nd_all (nd_all (lf_all (okD_ok (by decide +kernel))) (lf_all (okD_ok (by decide +kernel)))) (nd_all (lf_all (okD_ok (by decide +kernel))) (lf_all (okD_ok (by decide +kernel))))) (nd_all (nd_all (lf_all (okD_ok (by decide +kernel))) (lf_all (okD_ok (by decide +kernel)))) (nd_all (lf_all (okD_ok (by decide +kernel))) (nd_all (lf_all (okD_ok (by decide +kernel))) (lf_all (okD_ok (by decide +kernel)))))))) (nd_all (nd_all (nd_all (nd_all (lf_all (okD_ok (by decide +kernel))) (lf_all (okD_ok (by decide +kernel)))) (nd_all (lf_all (okD_ok (by decide +kernel))) (lf_all (okD_ok (by decide +kernel))))) (nd_all (nd_all (lf_all (okD_ok (by decide +kernel))) (lf_all (okD_ok (by decide +kernel)))) (nd_all (lf_all (okD_ok (by decide +kernel))) (nd_all (lf_all (okD_ok (by decide +kernel))) (lf_all (okD_ok (by decide +kernel))))))) (nd_all (nd_all (nd_all (lf_all (okD_ok (by decide +kernel))) (lf_all (okD_ok (by decide +kernel)))) (nd_all (lf_all (okD_ok (by decide +kernel))) (lf_all (okD_ok (by decide +kernel))))) (nd_all (nd_all (lf_all (okD_ok (by decide +kernel))) (lf_all (okD_ok (by decide +kernel)))) (nd_all (lf_all (okD_ok (by decide +kernel))) (nd_all (lf_all (okD_ok (by decide +kernel))) (lf_all (okD_ok (by decide +kernel)))))))))
def tX3_countOf : Nat → Option mE := (nd 47 (nd 40 (nd 36 (nd 1 (lf 0 (.iload_n 1, 1, 0, 0)) (lf 1 (.tableswitch 60 0 4 #[35, 40, 45, 50, 55], 36, 0, 0))) (nd 37 (lf 36 (.aload_n 0, 37, 0, 0)) (lf 37 (.getfield 46, 40, 0, 0)))) (nd 42 (nd 41 (lf 40 (.ireturn, 41, 0, 0)) (lf 41 (.aload_n 0, 42, 0, 0))) (nd 45 (lf 42 (.getfield 67, 45, 0, 0)) (nd 46 (lf 45 (.ireturn, 46, 0, 0)) (lf 46 (.aload_n 0, 47, 0, 0)))))) (nd 56 (nd 51 (nd 50 (lf 47 (.getfield 43, 50, 0, 0)) (lf 50 (.ireturn, 51, 0, 0))) (nd 52 (lf 51 (.aload_n 0, 52, 0, 0)) (nd 55 (lf 52 (.getfield 32, 55, 0, 0)) (lf 55 (.ireturn, 56, 0, 0))))) (nd 60 (nd 57 (lf 56 (.aload_n 0, 57, 0, 0)) (lf 57 (.getfield 36, 60, 0, 0))) (nd 61 (lf 60 (.ireturn, 61, 0, 0)) (nd 62 (lf 61 (.iconst (-1), 62, 0, (-1))) (lf 62 (.ireturn, 63, 0, 0)))))))
theorem tX3_countOf_ok : tAll (okC cX3_countOf 2) tX3_countOf := (nd_all (nd_all (nd_all (nd_all (lf_all (okD_ok (by decide +kernel))) (lf_all (okD_ok (by decide +kernel)))) (nd_all (lf_all (okD_ok (by decide +kernel))) (lf_all (okD_ok (by decide +kernel))))) (nd_all (nd_all (lf_all (okD_ok (by decide +kernel))) (lf_all (okD_ok (by decide +kernel)))) (nd_all (lf_all (okD_ok (by decide +kernel))) (nd_all (lf_all (okD_ok (by decide +kernel))) (lf_all (okD_ok (by decide +kernel))))))) (nd_all (nd_all (nd_all (lf_all (okD_ok (by decide +kernel))) (lf_all (okD_ok (by decide +kernel)))) (nd_all (lf_all (okD_ok (by decide +kernel))) (nd_all (lf_all (okD_ok (by decide +kernel))) (lf_all (okD_ok (by decide +kernel)))))) (nd_all (nd_all (lf_all (okD_ok (by decide +kernel))) (lf_all (okD_ok (by decide +kernel)))) (nd_all (lf_all (okD_ok (by decide +kernel))) (nd_all (lf_all (okD_ok (by decide +kernel))) (lf_all (okD_ok (by decide +kernel))))))))
def tX3_hasHead : Nat → Option mE := (nd 9 (nd 4 (nd 1 (lf 0 (.iload_n 1, 1, 0, 0)) (lf 1 (.ifCond .lt 15, 4, 16, 0))) (nd 5 (lf 4 (.iload_n 1, 5, 0, 0)) (nd 6 (lf 5 (.aload_n 0, 6, 0, 0)) (lf 6 (.getfield 46, 9, 0, 0))))) (nd 13 (nd 12 (lf 9 (.if_icmp .ge 7, 12, 16, 0)) (lf 12 (.iconst 1, 13, 0, 1))) (nd 16 (lf 13 (.goto 4, 16, 17, 0)) (nd 17 (lf 16 (.iconst 0, 17, 0, 0)) (lf 17 (.ireturn, 18, 0, 0))))))
theorem tX3_hasHead_ok : tAll (okC cX3_hasHead 2) tX3_hasHead := (nd_all (nd_all (nd_all (lf_all (okD_ok (by decide +kernel))) (lf_all (okD_ok (by decide +kernel)))) (nd_all (lf_all (okD_ok (by decide +kernel))) (nd_all (lf_all (okD_ok (by decide +kernel))) (lf_all (okD_ok (by decide +kernel)))))) (nd_all (nd_all (lf_all (okD_ok (by decide +kernel))) (lf_all (okD_ok (by decide +kernel)))) (nd_all (lf_all (okD_ok (by decide +kernel))) (nd_all (lf_all (okD_ok (by decide +kernel))) (lf_all (okD_ok (by decide +kernel)))))))
def tX3_hasFact : Nat → Option mE := (nd 9 (nd 4 (nd 1 (lf 0 (.iload_n 1, 1, 0, 0)) (lf 1 (.ifCond .lt 15, 4, 16, 0))) (nd 5 (lf 4 (.iload_n 1, 5, 0, 0)) (nd 6 (lf 5 (.aload_n 0, 6, 0, 0)) (lf 6 (.getfield 67, 9, 0, 0))))) (nd 13 (nd 12 (lf 9 (.if_icmp .ge 7, 12, 16, 0)) (lf 12 (.iconst 1, 13, 0, 1))) (nd 16 (lf 13 (.goto 4, 16, 17, 0)) (nd 17 (lf 16 (.iconst 0, 17, 0, 0)) (lf 17 (.ireturn, 18, 0, 0))))))
theorem tX3_hasFact_ok : tAll (okC cX3_hasFact 2) tX3_hasFact := (nd_all (nd_all (nd_all (lf_all (okD_ok (by decide +kernel))) (lf_all (okD_ok (by decide +kernel)))) (nd_all (lf_all (okD_ok (by decide +kernel))) (nd_all (lf_all (okD_ok (by decide +kernel))) (lf_all (okD_ok (by decide +kernel)))))) (nd_all (nd_all (lf_all (okD_ok (by decide +kernel))) (lf_all (okD_ok (by decide +kernel)))) (nd_all (lf_all (okD_ok (by decide +kernel))) (nd_all (lf_all (okD_ok (by decide +kernel))) (lf_all (okD_ok (by decide +kernel)))))))
def tX3_hasRecord : Nat → Option mE := (nd 9 (nd 4 (nd 1 (lf 0 (.iload_n 1, 1, 0, 0)) (lf 1 (.ifCond .lt 15, 4, 16, 0))) (nd 5 (lf 4 (.iload_n 1, 5, 0, 0)) (nd 6 (lf 5 (.aload_n 0, 6, 0, 0)) (lf 6 (.getfield 43, 9, 0, 0))))) (nd 13 (nd 12 (lf 9 (.if_icmp .ge 7, 12, 16, 0)) (lf 12 (.iconst 1, 13, 0, 1))) (nd 16 (lf 13 (.goto 4, 16, 17, 0)) (nd 17 (lf 16 (.iconst 0, 17, 0, 0)) (lf 17 (.ireturn, 18, 0, 0))))))
theorem tX3_hasRecord_ok : tAll (okC cX3_hasRecord 2) tX3_hasRecord := (nd_all (nd_all (nd_all (lf_all (okD_ok (by decide +kernel))) (lf_all (okD_ok (by decide +kernel)))) (nd_all (lf_all (okD_ok (by decide +kernel))) (nd_all (lf_all (okD_ok (by decide +kernel))) (lf_all (okD_ok (by decide +kernel)))))) (nd_all (nd_all (lf_all (okD_ok (by decide +kernel))) (lf_all (okD_ok (by decide +kernel)))) (nd_all (lf_all (okD_ok (by decide +kernel))) (nd_all (lf_all (okD_ok (by decide +kernel))) (lf_all (okD_ok (by decide +kernel)))))))
def tX3_ofFact : Nat → Option mE := (nd 73 (nd 52 (nd 12 (nd 5 (nd 1 (lf 0 (.aload_n 0, 1, 0, 0)) (nd 2 (lf 1 (.iload_n 1, 2, 0, 0)) (lf 2 (.invokevirtual 77, 5, 0, 0)))) (nd 8 (lf 5 (.ifCond .eq 13, 8, 18, 0)) (nd 9 (lf 8 (.iload_n 2, 9, 0, 0)) (lf 9 (.ifCond .lt 9, 12, 18, 0))))) (nd 18 (nd 13 (lf 12 (.iload_n 2, 13, 0, 0)) (nd 15 (lf 13 (.bipush 36, 15, 0, 36)) (lf 15 (.if_icmp .lt 5, 18, 20, 0)))) (nd 20 (nd 19 (lf 18 (.iconst (-1), 19, 0, (-1))) (lf 19 (.ireturn, 20, 0, 0))) (nd 21 (lf 20 (.iload_n 2, 21, 0, 0)) (lf 21 (.tableswitch 76 0 3 #[31, 42, 53, 60], 52, 0, 0)))))) (nd 62 (nd 57 (nd 53 (lf 52 (.aload_n 0, 53, 0, 0)) (nd 56 (lf 53 (.getfield 17, 56, 0, 0)) (lf 56 (.iload_n 1, 57, 0, 0)))) (nd 58 (lf 57 (.aaload, 58, 0, 0)) (nd 59 (lf 58 (.iconst 0, 59, 0, 0)) (lf 59 (.invokevirtual 81, 62, 0, 0))))) (nd 67 (nd 63 (lf 62 (.ireturn, 63, 0, 0)) (nd 64 (lf 63 (.aload_n 0, 64, 0, 0)) (lf 64 (.getfield 17, 67, 0, 0)))) (nd 69 (nd 68 (lf 67 (.iload_n 1, 68, 0, 0)) (lf 68 (.aaload, 69, 0, 0))) (nd 70 (lf 69 (.iconst 1, 70, 0, 1)) (lf 70 (.invokevirtual 85, 73, 0, 0))))))) (nd 93 (nd 81 (nd 78 (nd 74 (lf 73 (.ireturn, 74, 0, 0)) (nd 75 (lf 74 (.aload_n 0, 75, 0, 0)) (lf 75 (.getfield 20, 78, 0, 0)))) (nd 79 (lf 78 (.iload_n 1, 79, 0, 0)) (nd 80 (lf 79 (.iaload, 80, 0, 0)) (lf 80 (.ireturn, 81, 0, 0))))) (nd 86 (nd 82 (lf 81 (.aload_n 0, 82, 0, 0)) (nd 85 (lf 82 (.getfield 17, 85, 0, 0)) (lf 85 (.iload_n 1, 86, 0, 0)))) (nd 90 (nd 87 (lf 86 (.aaload, 87, 0, 0)) (lf 87 (.getfield 88, 90, 0, 0))) (nd 92 (lf 90 (.bipush 41, 92, 0, 41)) (lf 92 (.isub, 93, 0, 0)))))) (nd 103 (nd 97 (nd 95 (lf 93 (.bipush 32, 95, 0, 32)) (nd 96 (lf 95 (.idiv, 96, 0, 0)) (lf 96 (.ireturn, 97, 0, 0)))) (nd 101 (nd 98 (lf 97 (.aload_n 0, 98, 0, 0)) (lf 98 (.getfield 17, 101, 0, 0))) (nd 102 (lf 101 (.iload_n 1, 102, 0, 0)) (lf 102 (.aaload, 103, 0, 0))))) (nd 107 (nd 105 (lf 103 (.bipush 9, 105, 0, 9)) (nd 106 (lf 105 (.iload_n 2, 106, 0, 0)) (lf 106 (.iadd, 107, 0, 0)))) (nd 109 (nd 108 (lf 107 (.iconst 4, 108, 0, 4)) (lf 108 (.isub, 109, 0, 0))) (nd 112 (lf 109 (.invokevirtual 81, 112, 0, 0)) (lf 112 (.ireturn, 113, 0, 0))))))))
theorem tX3_ofFact_ok : tAll (okC cX3_ofFact 3) tX3_ofFact := (nd_all (nd_all (nd_all (nd_all (nd_all (lf_all (okD_ok (by decide +kernel))) (nd_all (lf_all (okD_ok (by decide +kernel))) (lf_all (okD_ok (by decide +kernel))))) (nd_all (lf_all (okD_ok (by decide +kernel))) (nd_all (lf_all (okD_ok (by decide +kernel))) (lf_all (okD_ok (by decide +kernel)))))) (nd_all (nd_all (lf_all (okD_ok (by decide +kernel))) (nd_all (lf_all (okD_ok (by decide +kernel))) (lf_all (okD_ok (by decide +kernel))))) (nd_all (nd_all (lf_all (okD_ok (by decide +kernel))) (lf_all (okD_ok (by decide +kernel)))) (nd_all (lf_all (okD_ok (by decide +kernel))) (lf_all (okD_ok (by decide +kernel))))))) (nd_all (nd_all (nd_all (lf_all (okD_ok (by decide +kernel))) (nd_all (lf_all (okD_ok (by decide +kernel))) (lf_all (okD_ok (by decide +kernel))))) (nd_all (lf_all (okD_ok (by decide +kernel))) (nd_all (lf_all (okD_ok (by decide +kernel))) (lf_all (okD_ok (by decide +kernel)))))) (nd_all (nd_all (lf_all (okD_ok (by decide +kernel))) (nd_all (lf_all (okD_ok (by decide +kernel))) (lf_all (okD_ok (by decide +kernel))))) (nd_all (nd_all (lf_all (okD_ok (by decide +kernel))) (lf_all (okD_ok (by decide +kernel)))) (nd_all (lf_all (okD_ok (by decide +kernel))) (lf_all (okD_ok (by decide +kernel)))))))) (nd_all (nd_all (nd_all (nd_all (lf_all (okD_ok (by decide +kernel))) (nd_all (lf_all (okD_ok (by decide +kernel))) (lf_all (okD_ok (by decide +kernel))))) (nd_all (lf_all (okD_ok (by decide +kernel))) (nd_all (lf_all (okD_ok (by decide +kernel))) (lf_all (okD_ok (by decide +kernel)))))) (nd_all (nd_all (lf_all (okD_ok (by decide +kernel))) (nd_all (lf_all (okD_ok (by decide +kernel))) (lf_all (okD_ok (by decide +kernel))))) (nd_all (nd_all (lf_all (okD_ok (by decide +kernel))) (lf_all (okD_ok (by decide +kernel)))) (nd_all (lf_all (okD_ok (by decide +kernel))) (lf_all (okD_ok (by decide +kernel))))))) (nd_all (nd_all (nd_all (lf_all (okD_ok (by decide +kernel))) (nd_all (lf_all (okD_ok (by decide +kernel))) (lf_all (okD_ok (by decide +kernel))))) (nd_all (nd_all (lf_all (okD_ok (by decide +kernel))) (lf_all (okD_ok (by decide +kernel)))) (nd_all (lf_all (okD_ok (by decide +kernel))) (lf_all (okD_ok (by decide +kernel)))))) (nd_all (nd_all (lf_all (okD_ok (by decide +kernel))) (nd_all (lf_all (okD_ok (by decide +kernel))) (lf_all (okD_ok (by decide +kernel))))) (nd_all (nd_all (lf_all (okD_ok (by decide +kernel))) (lf_all (okD_ok (by decide +kernel)))) (nd_all (lf_all (okD_ok (by decide +kernel))) (lf_all (okD_ok (by decide +kernel)))))))))
def tX3_ofRecord : Nat → Option mE := (nd 17 (nd 8 (nd 2 (nd 1 (lf 0 (.aload_n 0, 1, 0, 0)) (lf 1 (.iload_n 1, 2, 0, 0))) (nd 5 (lf 2 (.invokevirtual 91, 5, 0, 0)) (lf 5 (.ifCond .eq 12, 8, 17, 0)))) (nd 12 (nd 9 (lf 8 (.iload_n 2, 9, 0, 0)) (lf 9 (.ifCond .lt 8, 12, 17, 0))) (nd 13 (lf 12 (.iload_n 2, 13, 0, 0)) (nd 14 (lf 13 (.iconst 4, 14, 0, 4)) (lf 14 (.if_icmp .lt 7, 17, 21, 0)))))) (nd 25 (nd 21 (nd 18 (lf 17 (.iconst (-1), 18, 0, (-1))) (lf 18 (.goto 11, 21, 29, 0))) (nd 22 (lf 21 (.aload_n 0, 22, 0, 0)) (lf 22 (.getfield 26, 25, 0, 0)))) (nd 27 (nd 26 (lf 25 (.iload_n 1, 26, 0, 0)) (lf 26 (.aaload, 27, 0, 0))) (nd 28 (lf 27 (.iload_n 2, 28, 0, 0)) (nd 29 (lf 28 (.iaload, 29, 0, 0)) (lf 29 (.ireturn, 30, 0, 0)))))))
theorem tX3_ofRecord_ok : tAll (okC cX3_ofRecord 3) tX3_ofRecord := (nd_all (nd_all (nd_all (nd_all (lf_all (okD_ok (by decide +kernel))) (lf_all (okD_ok (by decide +kernel)))) (nd_all (lf_all (okD_ok (by decide +kernel))) (lf_all (okD_ok (by decide +kernel))))) (nd_all (nd_all (lf_all (okD_ok (by decide +kernel))) (lf_all (okD_ok (by decide +kernel)))) (nd_all (lf_all (okD_ok (by decide +kernel))) (nd_all (lf_all (okD_ok (by decide +kernel))) (lf_all (okD_ok (by decide +kernel))))))) (nd_all (nd_all (nd_all (lf_all (okD_ok (by decide +kernel))) (lf_all (okD_ok (by decide +kernel)))) (nd_all (lf_all (okD_ok (by decide +kernel))) (lf_all (okD_ok (by decide +kernel))))) (nd_all (nd_all (lf_all (okD_ok (by decide +kernel))) (lf_all (okD_ok (by decide +kernel)))) (nd_all (lf_all (okD_ok (by decide +kernel))) (nd_all (lf_all (okD_ok (by decide +kernel))) (lf_all (okD_ok (by decide +kernel))))))))
def tX3_writeRecord : Nat → Option mE := (nd 61 (nd 29 (nd 15 (nd 8 (nd 2 (nd 1 (lf 0 (.aload_n 0, 1, 0, 0)) (lf 1 (.iload_n 1, 2, 0, 0))) (nd 5 (lf 2 (.invokevirtual 91, 5, 0, 0)) (lf 5 (.ifCond .ne 4, 8, 9, 0)))) (nd 10 (nd 9 (lf 8 (.return_, 9, 0, 0)) (lf 9 (.aload_n 0, 10, 0, 0))) (nd 13 (lf 10 (.getfield 26, 13, 0, 0)) (nd 14 (lf 13 (.iload_n 1, 14, 0, 0)) (lf 14 (.aaload, 15, 0, 0)))))) (nd 20 (nd 17 (nd 16 (lf 15 (.astore_n 3, 16, 0, 0)) (lf 16 (.aload_n 0, 17, 0, 0))) (nd 18 (lf 17 (.aload_n 3, 18, 0, 0)) (nd 19 (lf 18 (.iconst 1, 19, 0, 1)) (lf 19 (.iaload, 20, 0, 0))))) (nd 26 (nd 23 (lf 20 (.invokevirtual 94, 23, 0, 0)) (lf 23 (.ifCond .eq 13, 26, 36, 0))) (nd 27 (lf 26 (.aload_n 0, 27, 0, 0)) (nd 28 (lf 27 (.aload_n 3, 28, 0, 0)) (lf 28 (.iconst 2, 29, 0, 2))))))) (nd 45 (nd 38 (nd 33 (nd 30 (lf 29 (.iaload, 30, 0, 0)) (lf 30 (.invokevirtual 94, 33, 0, 0))) (nd 36 (lf 33 (.ifCond .ne 4, 36, 37, 0)) (nd 37 (lf 36 (.return_, 37, 0, 0)) (lf 37 (.aload_n 0, 38, 0, 0))))) (nd 42 (nd 41 (lf 38 (.getfield 13, 41, 0, 0)) (lf 41 (.aload_n 3, 42, 0, 0))) (nd 43 (lf 42 (.iconst 1, 43, 0, 1)) (nd 44 (lf 43 (.iaload, 44, 0, 0)) (lf 44 (.aaload, 45, 0, 0)))))) (nd 53 (nd 48 (nd 47 (lf 45 (.astore 4, 47, 0, 0)) (lf 47 (.aload_n 2, 48, 0, 0))) (nd 51 (lf 48 (.invokevirtual 97, 51, 0, 0)) (nd 52 (lf 51 (.aload_n 2, 52, 0, 0)) (lf 52 (.aload_n 3, 53, 0, 0))))) (nd 55 (nd 54 (lf 53 (.iconst 0, 54, 0, 0)) (lf 54 (.iaload, 55, 0, 0))) (nd 58 (lf 55 (.invokevirtual 100, 58, 0, 0)) (nd 59 (lf 58 (.aload_n 2, 59, 0, 0)) (lf 59 (.aload 4, 61, 0, 0)))))))) (nd 94 (nd 79 (nd 71 (nd 65 (nd 62 (lf 61 (.iconst 0, 62, 0, 0)) (lf 62 (.invokevirtual 81, 65, 0, 0))) (nd 68 (lf 65 (.invokevirtual 100, 68, 0, 0)) (nd 69 (lf 68 (.aload_n 2, 69, 0, 0)) (lf 69 (.aload 4, 71, 0, 0))))) (nd 74 (nd 72 (lf 71 (.iconst 1, 72, 0, 1)) (lf 72 (.bipush 44, 74, 0, 44))) (nd 77 (lf 74 (.invokevirtual 103, 77, 0, 0)) (nd 78 (lf 77 (.aload_n 2, 78, 0, 0)) (lf 78 (.aload_n 0, 79, 0, 0)))))) (nd 86 (nd 83 (nd 82 (lf 79 (.getfield 13, 82, 0, 0)) (lf 82 (.aload_n 3, 83, 0, 0))) (nd 84 (lf 83 (.iconst 2, 84, 0, 2)) (nd 85 (lf 84 (.iaload, 85, 0, 0)) (lf 85 (.aaload, 86, 0, 0))))) (nd 89 (nd 87 (lf 86 (.iconst 1, 87, 0, 1)) (lf 87 (.bipush 44, 89, 0, 44))) (nd 92 (lf 89 (.invokevirtual 103, 92, 0, 0)) (nd 93 (lf 92 (.aload_n 0, 93, 0, 0)) (lf 93 (.aload_n 3, 94, 0, 0))))))) (nd 110 (nd 103 (nd 96 (nd 95 (lf 94 (.iconst 3, 95, 0, 3)) (lf 95 (.iaload, 96, 0, 0))) (nd 99 (lf 96 (.invokevirtual 77, 99, 0, 0)) (nd 102 (lf 99 (.ifCond .eq 29, 102, 128, 0)) (lf 102 (.aload_n 0, 103, 0, 0))))) (nd 107 (nd 106 (lf 103 (.getfield 17, 106, 0, 0)) (lf 106 (.aload_n 3, 107, 0, 0))) (nd 108 (lf 107 (.iconst 3, 108, 0, 3)) (nd 109 (lf 108 (.iaload, 109, 0, 0)) (lf 109 (.aaload, 110, 0, 0)))))) (nd 119 (nd 113 (nd 112 (lf 110 (.astore 5, 112, 0, 0)) (lf 112 (.aload_n 2, 113, 0, 0))) (nd 115 (lf 113 (.aload 5, 115, 0, 0)) (nd 117 (lf 115 (.bipush 9, 117, 0, 9)) (lf 117 (.aload 5, 119, 0, 0))))) (nd 124 (nd 122 (lf 119 (.getfield 88, 122, 0, 0)) (lf 122 (.bipush 9, 124, 0, 9))) (nd 125 (lf 124 (.isub, 125, 0, 0)) (nd 128 (lf 125 (.invokevirtual 103, 128, 0, 0)) (lf 128 (.return_, 129, 0, 0)))))))))
theorem tX3_writeRecord_ok : tAll (okC cX3_writeRecord 6) tX3_writeRecord := (nd_all (nd_all (nd_all (nd_all (nd_all (nd_all (lf_all (okD_ok (by decide +kernel))) (lf_all (okD_ok (by decide +kernel)))) (nd_all (lf_all (okD_ok (by decide +kernel))) (lf_all (okD_ok (by decide +kernel))))) (nd_all (nd_all (lf_all (okD_ok (by decide +kernel))) (lf_all (okD_ok (by decide +kernel)))) (nd_all (lf_all (okD_ok (by decide +kernel))) (nd_all (lf_all (okD_ok (by decide +kernel))) (lf_all (okD_ok (by decide +kernel))))))) (nd_all (nd_all (nd_all (lf_all (okD_ok (by decide +kernel))) (lf_all (okD_ok (by decide +kernel)))) (nd_all (lf_all (okD_ok (by decide +kernel))) (nd_all (lf_all (okD_ok (by decide +kernel))) (lf_all (okD_ok (by decide +kernel)))))) (nd_all (nd_all (lf_all (okD_ok (by decide +kernel))) (lf_all (okD_ok (by decide +kernel)))) (nd_all (lf_all (okD_ok (by decide +kernel))) (nd_all (lf_all (okD_ok (by decide +kernel))) (lf_all (okD_ok (by decide +kernel)))))))) (nd_all (nd_all (nd_all (nd_all (lf_all (okD_ok (by decide +kernel))) (lf_all (okD_ok (by decide +kernel)))) (nd_all (lf_all (okD_ok (by decide +kernel))) (nd_all (lf_all (okD_ok (by decide +kernel))) (lf_all (okD_ok (by decide +kernel)))))) (nd_all (nd_all (lf_all (okD_ok (by decide +kernel))) (lf_all (okD_ok (by decide +kernel)))) (nd_all (lf_all (okD_ok (by decide +kernel))) (nd_all (lf_all (okD_ok (by decide +kernel))) (lf_all (okD_ok (by decide +kernel))))))) (nd_all (nd_all (nd_all (lf_all (okD_ok (by decide +kernel))) (lf_all (okD_ok (by decide +kernel)))) (nd_all (lf_all (okD_ok (by decide +kernel))) (nd_all (lf_all (okD_ok (by decide +kernel))) (lf_all (okD_ok (by decide +kernel)))))) (nd_all (nd_all (lf_all (okD_ok (by decide +kernel))) (lf_all (okD_ok (by decide +kernel)))) (nd_all (lf_all (okD_ok (by decide +kernel))) (nd_all (lf_all (okD_ok (by decide +kernel))) (lf_all (okD_ok (by decide +kernel))))))))) (nd_all (nd_all (nd_all (nd_all (nd_all (lf_all (okD_ok (by decide +kernel))) (lf_all (okD_ok (by decide +kernel)))) (nd_all (lf_all (okD_ok (by decide +kernel))) (nd_all (lf_all (okD_ok (by decide +kernel))) (lf_all (okD_ok (by decide +kernel)))))) (nd_all (nd_all (lf_all (okD_ok (by decide +kernel))) (lf_all (okD_ok (by decide +kernel)))) (nd_all (lf_all (okD_ok (by decide +kernel))) (nd_all (lf_all (okD_ok (by decide +kernel))) (lf_all (okD_ok (by decide +kernel))))))) (nd_all (nd_all (nd_all (lf_all (okD_ok (by decide +kernel))) (lf_all (okD_ok (by decide +kernel)))) (nd_all (lf_all (okD_ok (by decide +kernel))) (nd_all (lf_all (okD_ok (by decide +kernel))) (lf_all (okD_ok (by decide +kernel)))))) (nd_all (nd_all (lf_all (okD_ok (by decide +kernel))) (lf_all (okD_ok (by decide +kernel)))) (nd_all (lf_all (okD_ok (by decide +kernel))) (nd_all (lf_all (okD_ok (by decide +kernel))) (lf_all (okD_ok (by decide +kernel)))))))) (nd_all (nd_all (nd_all (nd_all (lf_all (okD_ok (by decide +kernel))) (lf_all (okD_ok (by decide +kernel)))) (nd_all (lf_all (okD_ok (by decide +kernel))) (nd_all (lf_all (okD_ok (by decide +kernel))) (lf_all (okD_ok (by decide +kernel)))))) (nd_all (nd_all (lf_all (okD_ok (by decide +kernel))) (lf_all (okD_ok (by decide +kernel)))) (nd_all (lf_all (okD_ok (by decide +kernel))) (nd_all (lf_all (okD_ok (by decide +kernel))) (lf_all (okD_ok (by decide +kernel))))))) (nd_all (nd_all (nd_all (lf_all (okD_ok (by decide +kernel))) (lf_all (okD_ok (by decide +kernel)))) (nd_all (lf_all (okD_ok (by decide +kernel))) (nd_all (lf_all (okD_ok (by decide +kernel))) (lf_all (okD_ok (by decide +kernel)))))) (nd_all (nd_all (lf_all (okD_ok (by decide +kernel))) (lf_all (okD_ok (by decide +kernel)))) (nd_all (lf_all (okD_ok (by decide +kernel))) (nd_all (lf_all (okD_ok (by decide +kernel))) (lf_all (okD_ok (by decide +kernel))))))))))
def tX3_holdsLike : Nat → Option mE := (nd 17 (nd 7 (nd 2 (nd 1 (lf 0 (.iconst 0, 1, 0, 0)) (lf 1 (.istore_n 2, 2, 0, 0))) (nd 3 (lf 2 (.iload_n 2, 3, 0, 0)) (nd 4 (lf 3 (.aload_n 0, 4, 0, 0)) (lf 4 (.getfield 46, 7, 0, 0))))) (nd 14 (nd 10 (lf 7 (.if_icmp .ge 28, 10, 35, 0)) (nd 11 (lf 10 (.aload_n 0, 11, 0, 0)) (lf 11 (.getfield 13, 14, 0, 0)))) (nd 15 (lf 14 (.iload_n 2, 15, 0, 0)) (nd 16 (lf 15 (.aaload, 16, 0, 0)) (lf 16 (.iconst 0, 17, 0, 0)))))) (nd 27 (nd 19 (nd 18 (lf 17 (.aload_n 1, 18, 0, 0)) (lf 18 (.iconst 0, 19, 0, 0))) (nd 21 (lf 19 (.bipush 37, 21, 0, 37)) (nd 24 (lf 21 (.invokevirtual 73, 24, 0, 0)) (lf 24 (.ifCond .eq 5, 27, 29, 0))))) (nd 32 (nd 28 (lf 27 (.iconst 1, 28, 0, 1)) (nd 29 (lf 28 (.ireturn, 29, 0, 0)) (lf 29 (.iinc 2 1, 32, 0, 1)))) (nd 35 (lf 32 (.goto (-30), 35, 2, 0)) (nd 36 (lf 35 (.iconst 0, 36, 0, 0)) (lf 36 (.ireturn, 37, 0, 0)))))))
theorem tX3_holdsLike_ok : tAll (okC cX3_holdsLike 3) tX3_holdsLike := (nd_all (nd_all (nd_all (nd_all (lf_all (okD_ok (by decide +kernel))) (lf_all (okD_ok (by decide +kernel)))) (nd_all (lf_all (okD_ok (by decide +kernel))) (nd_all (lf_all (okD_ok (by decide +kernel))) (lf_all (okD_ok (by decide +kernel)))))) (nd_all (nd_all (lf_all (okD_ok (by decide +kernel))) (nd_all (lf_all (okD_ok (by decide +kernel))) (lf_all (okD_ok (by decide +kernel))))) (nd_all (lf_all (okD_ok (by decide +kernel))) (nd_all (lf_all (okD_ok (by decide +kernel))) (lf_all (okD_ok (by decide +kernel))))))) (nd_all (nd_all (nd_all (lf_all (okD_ok (by decide +kernel))) (lf_all (okD_ok (by decide +kernel)))) (nd_all (lf_all (okD_ok (by decide +kernel))) (nd_all (lf_all (okD_ok (by decide +kernel))) (lf_all (okD_ok (by decide +kernel)))))) (nd_all (nd_all (lf_all (okD_ok (by decide +kernel))) (nd_all (lf_all (okD_ok (by decide +kernel))) (lf_all (okD_ok (by decide +kernel))))) (nd_all (lf_all (okD_ok (by decide +kernel))) (nd_all (lf_all (okD_ok (by decide +kernel))) (lf_all (okD_ok (by decide +kernel))))))))
def tX3_headAccepting : Nat → Option mE := (nd 38 (nd 20 (nd 10 (nd 3 (nd 1 (lf 0 (.iconst 0, 1, 0, 0)) (nd 2 (lf 1 (.istore_n 3, 2, 0, 0)) (lf 2 (.iload_n 3, 3, 0, 0)))) (nd 4 (lf 3 (.aload_n 0, 4, 0, 0)) (nd 7 (lf 4 (.getfield 46, 7, 0, 0)) (lf 7 (.if_icmp .ge 74, 10, 81, 0))))) (nd 15 (nd 11 (lf 10 (.aload_n 0, 11, 0, 0)) (nd 14 (lf 11 (.getfield 13, 14, 0, 0)) (lf 14 (.iload_n 3, 15, 0, 0)))) (nd 16 (lf 15 (.aaload, 16, 0, 0)) (nd 17 (lf 16 (.iconst 0, 17, 0, 0)) (lf 17 (.invokevirtual 81, 20, 0, 0)))))) (nd 32 (nd 25 (nd 21 (lf 20 (.aload_n 1, 21, 0, 0)) (nd 22 (lf 21 (.iconst 0, 22, 0, 0)) (lf 22 (.invokevirtual 81, 25, 0, 0)))) (nd 28 (lf 25 (.if_icmp .ne 23, 28, 48, 0)) (nd 29 (lf 28 (.aload_n 0, 29, 0, 0)) (lf 29 (.getfield 13, 32, 0, 0))))) (nd 35 (nd 33 (lf 32 (.iload_n 3, 33, 0, 0)) (nd 34 (lf 33 (.aaload, 34, 0, 0)) (lf 34 (.iconst 1, 35, 0, 1)))) (nd 36 (lf 35 (.aload_n 1, 36, 0, 0)) (nd 37 (lf 36 (.iconst 5, 37, 0, 5)) (lf 37 (.iconst 4, 38, 0, 4))))))) (nd 62 (nd 51 (nd 45 (nd 41 (lf 38 (.invokevirtual 73, 41, 0, 0)) (nd 44 (lf 41 (.ifCond .eq 7, 44, 48, 0)) (lf 44 (.iconst 1, 45, 0, 1)))) (nd 48 (lf 45 (.goto 4, 48, 49, 0)) (nd 49 (lf 48 (.iconst 0, 49, 0, 0)) (lf 49 (.istore 4, 51, 0, 0))))) (nd 57 (nd 53 (lf 51 (.iload 4, 53, 0, 0)) (nd 56 (lf 53 (.ifCond .eq 22, 56, 75, 0)) (lf 56 (.aload_n 0, 57, 0, 0)))) (nd 60 (lf 57 (.getfield 13, 60, 0, 0)) (nd 61 (lf 60 (.iload_n 3, 61, 0, 0)) (lf 61 (.aaload, 62, 0, 0)))))) (nd 73 (nd 65 (nd 63 (lf 62 (.iconst 5, 63, 0, 5)) (nd 64 (lf 63 (.aload_n 2, 64, 0, 0)) (lf 64 (.iconst 0, 65, 0, 0)))) (nd 67 (lf 65 (.bipush 32, 67, 0, 32)) (nd 70 (lf 67 (.invokevirtual 73, 70, 0, 0)) (lf 70 (.ifCond .eq 5, 73, 75, 0))))) (nd 78 (nd 74 (lf 73 (.iload_n 3, 74, 0, 0)) (nd 75 (lf 74 (.ireturn, 75, 0, 0)) (lf 75 (.iinc 3 1, 78, 0, 1)))) (nd 81 (lf 78 (.goto (-76), 81, 2, 0)) (nd 82 (lf 81 (.iconst (-1), 82, 0, (-1))) (lf 82 (.ireturn, 83, 0, 0))))))))
theorem tX3_headAccepting_ok : tAll (okC cX3_headAccepting 5) tX3_headAccepting := (nd_all (nd_all (nd_all (nd_all (nd_all (lf_all (okD_ok (by decide +kernel))) (nd_all (lf_all (okD_ok (by decide +kernel))) (lf_all (okD_ok (by decide +kernel))))) (nd_all (lf_all (okD_ok (by decide +kernel))) (nd_all (lf_all (okD_ok (by decide +kernel))) (lf_all (okD_ok (by decide +kernel)))))) (nd_all (nd_all (lf_all (okD_ok (by decide +kernel))) (nd_all (lf_all (okD_ok (by decide +kernel))) (lf_all (okD_ok (by decide +kernel))))) (nd_all (lf_all (okD_ok (by decide +kernel))) (nd_all (lf_all (okD_ok (by decide +kernel))) (lf_all (okD_ok (by decide +kernel))))))) (nd_all (nd_all (nd_all (lf_all (okD_ok (by decide +kernel))) (nd_all (lf_all (okD_ok (by decide +kernel))) (lf_all (okD_ok (by decide +kernel))))) (nd_all (lf_all (okD_ok (by decide +kernel))) (nd_all (lf_all (okD_ok (by decide +kernel))) (lf_all (okD_ok (by decide +kernel)))))) (nd_all (nd_all (lf_all (okD_ok (by decide +kernel))) (nd_all (lf_all (okD_ok (by decide +kernel))) (lf_all (okD_ok (by decide +kernel))))) (nd_all (lf_all (okD_ok (by decide +kernel))) (nd_all (lf_all (okD_ok (by decide +kernel))) (lf_all (okD_ok (by decide +kernel)))))))) (nd_all (nd_all (nd_all (nd_all (lf_all (okD_ok (by decide +kernel))) (nd_all (lf_all (okD_ok (by decide +kernel))) (lf_all (okD_ok (by decide +kernel))))) (nd_all (lf_all (okD_ok (by decide +kernel))) (nd_all (lf_all (okD_ok (by decide +kernel))) (lf_all (okD_ok (by decide +kernel)))))) (nd_all (nd_all (lf_all (okD_ok (by decide +kernel))) (nd_all (lf_all (okD_ok (by decide +kernel))) (lf_all (okD_ok (by decide +kernel))))) (nd_all (lf_all (okD_ok (by decide +kernel))) (nd_all (lf_all (okD_ok (by decide +kernel))) (lf_all (okD_ok (by decide +kernel))))))) (nd_all (nd_all (nd_all (lf_all (okD_ok (by decide +kernel))) (nd_all (lf_all (okD_ok (by decide +kernel))) (lf_all (okD_ok (by decide +kernel))))) (nd_all (lf_all (okD_ok (by decide +kernel))) (nd_all (lf_all (okD_ok (by decide +kernel))) (lf_all (okD_ok (by decide +kernel)))))) (nd_all (nd_all (lf_all (okD_ok (by decide +kernel))) (nd_all (lf_all (okD_ok (by decide +kernel))) (lf_all (okD_ok (by decide +kernel))))) (nd_all (lf_all (okD_ok (by decide +kernel))) (nd_all (lf_all (okD_ok (by decide +kernel))) (lf_all (okD_ok (by decide +kernel)))))))))
def tX3_hasFactLike : Nat → Option mE := (nd 35 (nd 17 (nd 7 (nd 2 (nd 1 (lf 0 (.iconst 0, 1, 0, 0)) (lf 1 (.istore_n 3, 2, 0, 0))) (nd 3 (lf 2 (.iload_n 3, 3, 0, 0)) (nd 4 (lf 3 (.aload_n 0, 4, 0, 0)) (lf 4 (.getfield 67, 7, 0, 0))))) (nd 14 (nd 10 (lf 7 (.if_icmp .ge 68, 10, 75, 0)) (nd 11 (lf 10 (.aload_n 0, 11, 0, 0)) (lf 11 (.getfield 17, 14, 0, 0)))) (nd 15 (lf 14 (.iload_n 3, 15, 0, 0)) (nd 16 (lf 15 (.aaload, 16, 0, 0)) (lf 16 (.iconst 0, 17, 0, 0)))))) (nd 26 (nd 19 (nd 18 (lf 17 (.aload_n 1, 18, 0, 0)) (lf 18 (.iconst 0, 19, 0, 0))) (nd 20 (lf 19 (.iconst 5, 20, 0, 5)) (nd 23 (lf 20 (.invokevirtual 73, 23, 0, 0)) (lf 23 (.ifCond .eq 26, 26, 49, 0))))) (nd 31 (nd 27 (lf 26 (.aload_n 0, 27, 0, 0)) (nd 30 (lf 27 (.getfield 17, 30, 0, 0)) (lf 30 (.iload_n 3, 31, 0, 0)))) (nd 32 (lf 31 (.aaload, 32, 0, 0)) (nd 34 (lf 32 (.bipush 9, 34, 0, 9)) (lf 34 (.aload_n 1, 35, 0, 0))))))) (nd 58 (nd 46 (nd 39 (nd 37 (lf 35 (.bipush 9, 37, 0, 9)) (lf 37 (.bipush 32, 39, 0, 32))) (nd 42 (lf 39 (.invokevirtual 73, 42, 0, 0)) (nd 45 (lf 42 (.ifCond .eq 7, 45, 49, 0)) (lf 45 (.iconst 1, 46, 0, 1))))) (nd 52 (nd 49 (lf 46 (.goto 4, 49, 50, 0)) (nd 50 (lf 49 (.iconst 0, 50, 0, 0)) (lf 50 (.istore 4, 52, 0, 0)))) (nd 54 (lf 52 (.iload 4, 54, 0, 0)) (nd 57 (lf 54 (.ifCond .eq 15, 57, 69, 0)) (lf 57 (.aload_n 0, 58, 0, 0)))))) (nd 67 (nd 62 (nd 61 (lf 58 (.getfield 20, 61, 0, 0)) (lf 61 (.iload_n 3, 62, 0, 0))) (nd 63 (lf 62 (.iaload, 63, 0, 0)) (nd 64 (lf 63 (.iload_n 2, 64, 0, 0)) (lf 64 (.if_icmp .ne 5, 67, 69, 0))))) (nd 72 (nd 68 (lf 67 (.iconst 1, 68, 0, 1)) (nd 69 (lf 68 (.ireturn, 69, 0, 0)) (lf 69 (.iinc 3 1, 72, 0, 1)))) (nd 75 (lf 72 (.goto (-70), 75, 2, 0)) (nd 76 (lf 75 (.iconst 0, 76, 0, 0)) (lf 76 (.ireturn, 77, 0, 0))))))))
theorem tX3_hasFactLike_ok : tAll (okC cX3_hasFactLike 5) tX3_hasFactLike := (nd_all (nd_all (nd_all (nd_all (nd_all (lf_all (okD_ok (by decide +kernel))) (lf_all (okD_ok (by decide +kernel)))) (nd_all (lf_all (okD_ok (by decide +kernel))) (nd_all (lf_all (okD_ok (by decide +kernel))) (lf_all (okD_ok (by decide +kernel)))))) (nd_all (nd_all (lf_all (okD_ok (by decide +kernel))) (nd_all (lf_all (okD_ok (by decide +kernel))) (lf_all (okD_ok (by decide +kernel))))) (nd_all (lf_all (okD_ok (by decide +kernel))) (nd_all (lf_all (okD_ok (by decide +kernel))) (lf_all (okD_ok (by decide +kernel))))))) (nd_all (nd_all (nd_all (lf_all (okD_ok (by decide +kernel))) (lf_all (okD_ok (by decide +kernel)))) (nd_all (lf_all (okD_ok (by decide +kernel))) (nd_all (lf_all (okD_ok (by decide +kernel))) (lf_all (okD_ok (by decide +kernel)))))) (nd_all (nd_all (lf_all (okD_ok (by decide +kernel))) (nd_all (lf_all (okD_ok (by decide +kernel))) (lf_all (okD_ok (by decide +kernel))))) (nd_all (lf_all (okD_ok (by decide +kernel))) (nd_all (lf_all (okD_ok (by decide +kernel))) (lf_all (okD_ok (by decide +kernel)))))))) (nd_all (nd_all (nd_all (nd_all (lf_all (okD_ok (by decide +kernel))) (lf_all (okD_ok (by decide +kernel)))) (nd_all (lf_all (okD_ok (by decide +kernel))) (nd_all (lf_all (okD_ok (by decide +kernel))) (lf_all (okD_ok (by decide +kernel)))))) (nd_all (nd_all (lf_all (okD_ok (by decide +kernel))) (nd_all (lf_all (okD_ok (by decide +kernel))) (lf_all (okD_ok (by decide +kernel))))) (nd_all (lf_all (okD_ok (by decide +kernel))) (nd_all (lf_all (okD_ok (by decide +kernel))) (lf_all (okD_ok (by decide +kernel))))))) (nd_all (nd_all (nd_all (lf_all (okD_ok (by decide +kernel))) (lf_all (okD_ok (by decide +kernel)))) (nd_all (lf_all (okD_ok (by decide +kernel))) (nd_all (lf_all (okD_ok (by decide +kernel))) (lf_all (okD_ok (by decide +kernel)))))) (nd_all (nd_all (lf_all (okD_ok (by decide +kernel))) (nd_all (lf_all (okD_ok (by decide +kernel))) (lf_all (okD_ok (by decide +kernel))))) (nd_all (lf_all (okD_ok (by decide +kernel))) (nd_all (lf_all (okD_ok (by decide +kernel))) (lf_all (okD_ok (by decide +kernel)))))))))
def tX3_raiseForks : Nat → Option mE := (nd 23 (nd 11 (nd 3 (nd 1 (lf 0 (.iconst 0, 1, 0, 0)) (nd 2 (lf 1 (.istore_n 2, 2, 0, 0)) (lf 2 (.iload_n 2, 3, 0, 0)))) (nd 7 (nd 4 (lf 3 (.aload_n 0, 4, 0, 0)) (lf 4 (.getfield 46, 7, 0, 0))) (nd 10 (lf 7 (.if_icmp .ge 41, 10, 48, 0)) (lf 10 (.aload_n 0, 11, 0, 0))))) (nd 17 (nd 15 (nd 14 (lf 11 (.getfield 13, 14, 0, 0)) (lf 14 (.iload_n 2, 15, 0, 0))) (nd 16 (lf 15 (.aaload, 16, 0, 0)) (lf 16 (.iconst 0, 17, 0, 0)))) (nd 19 (nd 18 (lf 17 (.aload_n 1, 18, 0, 0)) (lf 18 (.iconst 0, 19, 0, 0))) (nd 20 (lf 19 (.iconst 5, 20, 0, 5)) (lf 20 (.invokevirtual 73, 23, 0, 0)))))) (nd 34 (nd 28 (nd 26 (lf 23 (.ifCond .eq 19, 26, 42, 0)) (nd 27 (lf 26 (.aload_n 0, 27, 0, 0)) (lf 27 (.iconst 1, 28, 0, 1)))) (nd 30 (nd 29 (lf 28 (.iload_n 2, 29, 0, 0)) (lf 29 (.aload_n 0, 30, 0, 0))) (nd 33 (lf 30 (.getfield 46, 33, 0, 0)) (lf 33 (.iconst (-1), 34, 0, (-1)))))) (nd 42 (nd 40 (nd 37 (lf 34 (.invokevirtual 107, 37, 0, 0)) (lf 37 (.ifCond .ne 5, 40, 42, 0))) (nd 41 (lf 40 (.iconst 0, 41, 0, 0)) (lf 41 (.ireturn, 42, 0, 0)))) (nd 48 (nd 45 (lf 42 (.iinc 2 1, 45, 0, 1)) (lf 45 (.goto (-43), 48, 2, 0))) (nd 49 (lf 48 (.iconst 1, 49, 0, 1)) (lf 49 (.ireturn, 50, 0, 0)))))))
theorem tX3_raiseForks_ok : tAll (okC cX3_raiseForks 3) tX3_raiseForks := (nd_all (nd_all (nd_all (nd_all (lf_all (okD_ok (by decide +kernel))) (nd_all (lf_all (okD_ok (by decide +kernel))) (lf_all (okD_ok (by decide +kernel))))) (nd_all (nd_all (lf_all (okD_ok (by decide +kernel))) (lf_all (okD_ok (by decide +kernel)))) (nd_all (lf_all (okD_ok (by decide +kernel))) (lf_all (okD_ok (by decide +kernel)))))) (nd_all (nd_all (nd_all (lf_all (okD_ok (by decide +kernel))) (lf_all (okD_ok (by decide +kernel)))) (nd_all (lf_all (okD_ok (by decide +kernel))) (lf_all (okD_ok (by decide +kernel))))) (nd_all (nd_all (lf_all (okD_ok (by decide +kernel))) (lf_all (okD_ok (by decide +kernel)))) (nd_all (lf_all (okD_ok (by decide +kernel))) (lf_all (okD_ok (by decide +kernel))))))) (nd_all (nd_all (nd_all (lf_all (okD_ok (by decide +kernel))) (nd_all (lf_all (okD_ok (by decide +kernel))) (lf_all (okD_ok (by decide +kernel))))) (nd_all (nd_all (lf_all (okD_ok (by decide +kernel))) (lf_all (okD_ok (by decide +kernel)))) (nd_all (lf_all (okD_ok (by decide +kernel))) (lf_all (okD_ok (by decide +kernel)))))) (nd_all (nd_all (nd_all (lf_all (okD_ok (by decide +kernel))) (lf_all (okD_ok (by decide +kernel)))) (nd_all (lf_all (okD_ok (by decide +kernel))) (lf_all (okD_ok (by decide +kernel))))) (nd_all (nd_all (lf_all (okD_ok (by decide +kernel))) (lf_all (okD_ok (by decide +kernel)))) (nd_all (lf_all (okD_ok (by decide +kernel))) (lf_all (okD_ok (by decide +kernel))))))))
def tX3_raiseBreachesOfHead : Nat → Option mE := (nd 25 (nd 11 (nd 3 (nd 1 (lf 0 (.iconst 0, 1, 0, 0)) (nd 2 (lf 1 (.istore_n 2, 2, 0, 0)) (lf 2 (.iload_n 2, 3, 0, 0)))) (nd 7 (nd 4 (lf 3 (.aload_n 0, 4, 0, 0)) (lf 4 (.getfield 67, 7, 0, 0))) (nd 10 (lf 7 (.if_icmp .ge 43, 10, 50, 0)) (lf 10 (.aload_n 1, 11, 0, 0))))) (nd 17 (nd 15 (nd 12 (lf 11 (.aload_n 0, 12, 0, 0)) (lf 12 (.getfield 17, 15, 0, 0))) (nd 16 (lf 15 (.iload_n 2, 16, 0, 0)) (lf 16 (.aaload, 17, 0, 0)))) (nd 23 (nd 20 (lf 17 (.invokestatic 111, 20, 0, 0)) (lf 20 (.ifCond .eq 24, 23, 44, 0))) (nd 24 (lf 23 (.aload_n 0, 24, 0, 0)) (lf 24 (.iconst 2, 25, 0, 2)))))) (nd 36 (nd 30 (nd 26 (lf 25 (.aload_n 0, 26, 0, 0)) (nd 29 (lf 26 (.getfield 46, 29, 0, 0)) (lf 29 (.aload_n 0, 30, 0, 0)))) (nd 34 (nd 33 (lf 30 (.getfield 20, 33, 0, 0)) (lf 33 (.iload_n 2, 34, 0, 0))) (nd 35 (lf 34 (.iaload, 35, 0, 0)) (lf 35 (.iload_n 2, 36, 0, 0))))) (nd 44 (nd 42 (nd 39 (lf 36 (.invokevirtual 107, 39, 0, 0)) (lf 39 (.ifCond .ne 5, 42, 44, 0))) (nd 43 (lf 42 (.iconst 0, 43, 0, 0)) (lf 43 (.ireturn, 44, 0, 0)))) (nd 50 (nd 47 (lf 44 (.iinc 2 1, 47, 0, 1)) (lf 47 (.goto (-45), 50, 2, 0))) (nd 51 (lf 50 (.iconst 1, 51, 0, 1)) (lf 51 (.ireturn, 52, 0, 0)))))))
theorem tX3_raiseBreachesOfHead_ok : tAll (okC cX3_raiseBreachesOfHead 3) tX3_raiseBreachesOfHead := (nd_all (nd_all (nd_all (nd_all (lf_all (okD_ok (by decide +kernel))) (nd_all (lf_all (okD_ok (by decide +kernel))) (lf_all (okD_ok (by decide +kernel))))) (nd_all (nd_all (lf_all (okD_ok (by decide +kernel))) (lf_all (okD_ok (by decide +kernel)))) (nd_all (lf_all (okD_ok (by decide +kernel))) (lf_all (okD_ok (by decide +kernel)))))) (nd_all (nd_all (nd_all (lf_all (okD_ok (by decide +kernel))) (lf_all (okD_ok (by decide +kernel)))) (nd_all (lf_all (okD_ok (by decide +kernel))) (lf_all (okD_ok (by decide +kernel))))) (nd_all (nd_all (lf_all (okD_ok (by decide +kernel))) (lf_all (okD_ok (by decide +kernel)))) (nd_all (lf_all (okD_ok (by decide +kernel))) (lf_all (okD_ok (by decide +kernel))))))) (nd_all (nd_all (nd_all (lf_all (okD_ok (by decide +kernel))) (nd_all (lf_all (okD_ok (by decide +kernel))) (lf_all (okD_ok (by decide +kernel))))) (nd_all (nd_all (lf_all (okD_ok (by decide +kernel))) (lf_all (okD_ok (by decide +kernel)))) (nd_all (lf_all (okD_ok (by decide +kernel))) (lf_all (okD_ok (by decide +kernel)))))) (nd_all (nd_all (nd_all (lf_all (okD_ok (by decide +kernel))) (lf_all (okD_ok (by decide +kernel)))) (nd_all (lf_all (okD_ok (by decide +kernel))) (lf_all (okD_ok (by decide +kernel))))) (nd_all (nd_all (lf_all (okD_ok (by decide +kernel))) (lf_all (okD_ok (by decide +kernel)))) (nd_all (lf_all (okD_ok (by decide +kernel))) (lf_all (okD_ok (by decide +kernel))))))))
def tX3_raiseBreachesOfFact : Nat → Option mE := (nd 23 (nd 10 (nd 3 (nd 1 (lf 0 (.iconst 0, 1, 0, 0)) (nd 2 (lf 1 (.istore_n 3, 2, 0, 0)) (lf 2 (.iload_n 3, 3, 0, 0)))) (nd 4 (lf 3 (.aload_n 0, 4, 0, 0)) (nd 7 (lf 4 (.getfield 46, 7, 0, 0)) (lf 7 (.if_icmp .ge 38, 10, 45, 0))))) (nd 15 (nd 11 (lf 10 (.aload_n 0, 11, 0, 0)) (nd 14 (lf 11 (.getfield 13, 14, 0, 0)) (lf 14 (.iload_n 3, 15, 0, 0)))) (nd 17 (nd 16 (lf 15 (.aaload, 16, 0, 0)) (lf 16 (.aload_n 1, 17, 0, 0))) (nd 20 (lf 17 (.invokestatic 111, 20, 0, 0)) (lf 20 (.ifCond .eq 19, 23, 39, 0)))))) (nd 34 (nd 26 (nd 24 (lf 23 (.aload_n 0, 24, 0, 0)) (nd 25 (lf 24 (.iconst 2, 25, 0, 2)) (lf 25 (.iload_n 3, 26, 0, 0)))) (nd 28 (nd 27 (lf 26 (.iload_n 2, 27, 0, 0)) (lf 27 (.aload_n 0, 28, 0, 0))) (nd 31 (lf 28 (.getfield 67, 31, 0, 0)) (lf 31 (.invokevirtual 107, 34, 0, 0))))) (nd 39 (nd 37 (lf 34 (.ifCond .ne 5, 37, 39, 0)) (nd 38 (lf 37 (.iconst 0, 38, 0, 0)) (lf 38 (.ireturn, 39, 0, 0)))) (nd 45 (nd 42 (lf 39 (.iinc 3 1, 42, 0, 1)) (lf 42 (.goto (-40), 45, 2, 0))) (nd 46 (lf 45 (.iconst 1, 46, 0, 1)) (lf 46 (.ireturn, 47, 0, 0)))))))
theorem tX3_raiseBreachesOfFact_ok : tAll (okC cX3_raiseBreachesOfFact 4) tX3_raiseBreachesOfFact := (nd_all (nd_all (nd_all (nd_all (lf_all (okD_ok (by decide +kernel))) (nd_all (lf_all (okD_ok (by decide +kernel))) (lf_all (okD_ok (by decide +kernel))))) (nd_all (lf_all (okD_ok (by decide +kernel))) (nd_all (lf_all (okD_ok (by decide +kernel))) (lf_all (okD_ok (by decide +kernel)))))) (nd_all (nd_all (lf_all (okD_ok (by decide +kernel))) (nd_all (lf_all (okD_ok (by decide +kernel))) (lf_all (okD_ok (by decide +kernel))))) (nd_all (nd_all (lf_all (okD_ok (by decide +kernel))) (lf_all (okD_ok (by decide +kernel)))) (nd_all (lf_all (okD_ok (by decide +kernel))) (lf_all (okD_ok (by decide +kernel))))))) (nd_all (nd_all (nd_all (lf_all (okD_ok (by decide +kernel))) (nd_all (lf_all (okD_ok (by decide +kernel))) (lf_all (okD_ok (by decide +kernel))))) (nd_all (nd_all (lf_all (okD_ok (by decide +kernel))) (lf_all (okD_ok (by decide +kernel)))) (nd_all (lf_all (okD_ok (by decide +kernel))) (lf_all (okD_ok (by decide +kernel)))))) (nd_all (nd_all (lf_all (okD_ok (by decide +kernel))) (nd_all (lf_all (okD_ok (by decide +kernel))) (lf_all (okD_ok (by decide +kernel))))) (nd_all (nd_all (lf_all (okD_ok (by decide +kernel))) (lf_all (okD_ok (by decide +kernel)))) (nd_all (lf_all (okD_ok (by decide +kernel))) (lf_all (okD_ok (by decide +kernel))))))))
def tX3_belies : Nat → Option mE := (nd 13 (nd 4 (nd 2 (nd 1 (lf 0 (.aload_n 0, 1, 0, 0)) (lf 1 (.iconst 0, 2, 0, 0))) (nd 3 (lf 2 (.aload_n 1, 3, 0, 0)) (lf 3 (.iconst 0, 4, 0, 0)))) (nd 8 (nd 5 (lf 4 (.iconst 5, 5, 0, 5)) (lf 5 (.invokevirtual 73, 8, 0, 0))) (nd 11 (lf 8 (.ifCond .eq 20, 11, 28, 0)) (nd 12 (lf 11 (.aload_n 0, 12, 0, 0)) (lf 12 (.iconst 5, 13, 0, 5)))))) (nd 21 (nd 16 (nd 14 (lf 13 (.aload_n 1, 14, 0, 0)) (lf 14 (.bipush 9, 16, 0, 9))) (nd 18 (lf 16 (.bipush 32, 18, 0, 32)) (lf 18 (.invokevirtual 73, 21, 0, 0)))) (nd 25 (nd 24 (lf 21 (.ifCond .ne 7, 24, 28, 0)) (lf 24 (.iconst 1, 25, 0, 1))) (nd 28 (lf 25 (.goto 4, 28, 29, 0)) (nd 29 (lf 28 (.iconst 0, 29, 0, 0)) (lf 29 (.ireturn, 30, 0, 0)))))))
theorem tX3_belies_ok : tAll (okC cX3_belies 2) tX3_belies := (nd_all (nd_all (nd_all (nd_all (lf_all (okD_ok (by decide +kernel))) (lf_all (okD_ok (by decide +kernel)))) (nd_all (lf_all (okD_ok (by decide +kernel))) (lf_all (okD_ok (by decide +kernel))))) (nd_all (nd_all (lf_all (okD_ok (by decide +kernel))) (lf_all (okD_ok (by decide +kernel)))) (nd_all (lf_all (okD_ok (by decide +kernel))) (nd_all (lf_all (okD_ok (by decide +kernel))) (lf_all (okD_ok (by decide +kernel))))))) (nd_all (nd_all (nd_all (lf_all (okD_ok (by decide +kernel))) (lf_all (okD_ok (by decide +kernel)))) (nd_all (lf_all (okD_ok (by decide +kernel))) (lf_all (okD_ok (by decide +kernel))))) (nd_all (nd_all (lf_all (okD_ok (by decide +kernel))) (lf_all (okD_ok (by decide +kernel)))) (nd_all (lf_all (okD_ok (by decide +kernel))) (nd_all (lf_all (okD_ok (by decide +kernel))) (lf_all (okD_ok (by decide +kernel))))))))
def tX3_raise : Nat → Option mE := (nd 30 (nd 16 (nd 9 (nd 4 (nd 1 (lf 0 (.aload_n 0, 1, 0, 0)) (lf 1 (.getfield 43, 4, 0, 0))) (nd 6 (lf 4 (.bipush 20, 6, 0, 20)) (lf 6 (.if_icmp .lt 5, 9, 11, 0)))) (nd 11 (nd 10 (lf 9 (.iconst 0, 10, 0, 0)) (lf 10 (.ireturn, 11, 0, 0))) (nd 12 (lf 11 (.aload_n 0, 12, 0, 0)) (nd 15 (lf 12 (.getfield 26, 15, 0, 0)) (lf 15 (.aload_n 0, 16, 0, 0)))))) (nd 24 (nd 20 (nd 19 (lf 16 (.getfield 43, 19, 0, 0)) (lf 19 (.aaload, 20, 0, 0))) (nd 22 (lf 20 (.astore 5, 22, 0, 0)) (lf 22 (.aload 5, 24, 0, 0)))) (nd 26 (nd 25 (lf 24 (.iconst 0, 25, 0, 0)) (lf 25 (.iload_n 1, 26, 0, 0))) (nd 27 (lf 26 (.iastore, 27, 0, 0)) (nd 29 (lf 27 (.aload 5, 29, 0, 0)) (lf 29 (.iconst 1, 30, 0, 1))))))) (nd 42 (nd 35 (nd 32 (nd 31 (lf 30 (.iload_n 2, 31, 0, 0)) (lf 31 (.iastore, 32, 0, 0))) (nd 34 (lf 32 (.aload 5, 34, 0, 0)) (lf 34 (.iconst 2, 35, 0, 2)))) (nd 37 (nd 36 (lf 35 (.iload_n 3, 36, 0, 0)) (lf 36 (.iastore, 37, 0, 0))) (nd 39 (lf 37 (.aload 5, 39, 0, 0)) (nd 40 (lf 39 (.iconst 3, 40, 0, 3)) (lf 40 (.iload 4, 42, 0, 0)))))) (nd 48 (nd 44 (nd 43 (lf 42 (.iastore, 43, 0, 0)) (lf 43 (.aload_n 0, 44, 0, 0))) (nd 45 (lf 44 (.dup, 45, 0, 0)) (lf 45 (.getfield 43, 48, 0, 0)))) (nd 50 (nd 49 (lf 48 (.iconst 1, 49, 0, 1)) (lf 49 (.iadd, 50, 0, 0))) (nd 53 (lf 50 (.putfield 43, 53, 0, 0)) (nd 54 (lf 53 (.iconst 1, 54, 0, 1)) (lf 54 (.ireturn, 55, 0, 0))))))))
theorem tX3_raise_ok : tAll (okC cX3_raise 6) tX3_raise := (nd_all (nd_all (nd_all (nd_all (nd_all (lf_all (okD_ok (by decide +kernel))) (lf_all (okD_ok (by decide +kernel)))) (nd_all (lf_all (okD_ok (by decide +kernel))) (lf_all (okD_ok (by decide +kernel))))) (nd_all (nd_all (lf_all (okD_ok (by decide +kernel))) (lf_all (okD_ok (by decide +kernel)))) (nd_all (lf_all (okD_ok (by decide +kernel))) (nd_all (lf_all (okD_ok (by decide +kernel))) (lf_all (okD_ok (by decide +kernel))))))) (nd_all (nd_all (nd_all (lf_all (okD_ok (by decide +kernel))) (lf_all (okD_ok (by decide +kernel)))) (nd_all (lf_all (okD_ok (by decide +kernel))) (lf_all (okD_ok (by decide +kernel))))) (nd_all (nd_all (lf_all (okD_ok (by decide +kernel))) (lf_all (okD_ok (by decide +kernel)))) (nd_all (lf_all (okD_ok (by decide +kernel))) (nd_all (lf_all (okD_ok (by decide +kernel))) (lf_all (okD_ok (by decide +kernel)))))))) (nd_all (nd_all (nd_all (nd_all (lf_all (okD_ok (by decide +kernel))) (lf_all (okD_ok (by decide +kernel)))) (nd_all (lf_all (okD_ok (by decide +kernel))) (lf_all (okD_ok (by decide +kernel))))) (nd_all (nd_all (lf_all (okD_ok (by decide +kernel))) (lf_all (okD_ok (by decide +kernel)))) (nd_all (lf_all (okD_ok (by decide +kernel))) (nd_all (lf_all (okD_ok (by decide +kernel))) (lf_all (okD_ok (by decide +kernel))))))) (nd_all (nd_all (nd_all (lf_all (okD_ok (by decide +kernel))) (lf_all (okD_ok (by decide +kernel)))) (nd_all (lf_all (okD_ok (by decide +kernel))) (lf_all (okD_ok (by decide +kernel))))) (nd_all (nd_all (lf_all (okD_ok (by decide +kernel))) (lf_all (okD_ok (by decide +kernel)))) (nd_all (lf_all (okD_ok (by decide +kernel))) (nd_all (lf_all (okD_ok (by decide +kernel))) (lf_all (okD_ok (by decide +kernel)))))))))
def tX4_init : Nat → Option mE := (nd 10 (nd 5 (nd 1 (lf 0 (.aload_n 0, 1, 0, 0)) (nd 4 (lf 1 (.invokespecial 3, 4, 0, 0)) (lf 4 (.aload_n 0, 5, 0, 0)))) (nd 6 (lf 5 (.iload_n 1, 6, 0, 0)) (nd 7 (lf 6 (.iconst 0, 7, 0, 0)) (lf 7 (.invokestatic 9, 10, 0, 0))))) (nd 16 (nd 12 (lf 10 (.newarray .byte, 12, 0, 0)) (nd 15 (lf 12 (.putfield 15, 15, 0, 0)) (lf 15 (.aload_n 0, 16, 0, 0)))) (nd 17 (lf 16 (.iconst 0, 17, 0, 0)) (nd 20 (lf 17 (.putfield 21, 20, 0, 0)) (lf 20 (.return_, 21, 0, 0))))))
theorem tX4_init_ok : tAll (okC cX4_init 2) tX4_init := (nd_all (nd_all (nd_all (lf_all (okD_ok (by decide +kernel))) (nd_all (lf_all (okD_ok (by decide +kernel))) (lf_all (okD_ok (by decide +kernel))))) (nd_all (lf_all (okD_ok (by decide +kernel))) (nd_all (lf_all (okD_ok (by decide +kernel))) (lf_all (okD_ok (by decide +kernel)))))) (nd_all (nd_all (lf_all (okD_ok (by decide +kernel))) (nd_all (lf_all (okD_ok (by decide +kernel))) (lf_all (okD_ok (by decide +kernel))))) (nd_all (lf_all (okD_ok (by decide +kernel))) (nd_all (lf_all (okD_ok (by decide +kernel))) (lf_all (okD_ok (by decide +kernel)))))))
def tX4_has : Nat → Option mE := (nd 9 (nd 4 (nd 1 (lf 0 (.iload_n 1, 1, 0, 0)) (lf 1 (.ifCond .lt 15, 4, 16, 0))) (nd 5 (lf 4 (.iload_n 1, 5, 0, 0)) (nd 6 (lf 5 (.aload_n 0, 6, 0, 0)) (lf 6 (.getfield 21, 9, 0, 0))))) (nd 13 (nd 12 (lf 9 (.if_icmp .ge 7, 12, 16, 0)) (lf 12 (.iconst 1, 13, 0, 1))) (nd 16 (lf 13 (.goto 4, 16, 17, 0)) (nd 17 (lf 16 (.iconst 0, 17, 0, 0)) (lf 17 (.ireturn, 18, 0, 0))))))
theorem tX4_has_ok : tAll (okC cX4_has 2) tX4_has := (nd_all (nd_all (nd_all (lf_all (okD_ok (by decide +kernel))) (lf_all (okD_ok (by decide +kernel)))) (nd_all (lf_all (okD_ok (by decide +kernel))) (nd_all (lf_all (okD_ok (by decide +kernel))) (lf_all (okD_ok (by decide +kernel)))))) (nd_all (nd_all (lf_all (okD_ok (by decide +kernel))) (lf_all (okD_ok (by decide +kernel)))) (nd_all (lf_all (okD_ok (by decide +kernel))) (nd_all (lf_all (okD_ok (by decide +kernel))) (lf_all (okD_ok (by decide +kernel)))))))
def tX4_at : Nat → Option mE := (nd 13 (nd 5 (nd 1 (lf 0 (.iload_n 1, 1, 0, 0)) (nd 4 (lf 1 (.ifCond .lt 24, 4, 25, 0)) (lf 4 (.iload_n 1, 5, 0, 0)))) (nd 9 (nd 6 (lf 5 (.aload_n 0, 6, 0, 0)) (lf 6 (.getfield 21, 9, 0, 0))) (nd 12 (lf 9 (.if_icmp .ge 16, 12, 25, 0)) (lf 12 (.aload_n 0, 13, 0, 0))))) (nd 21 (nd 17 (nd 16 (lf 13 (.getfield 15, 16, 0, 0)) (lf 16 (.iload_n 1, 17, 0, 0))) (nd 18 (lf 17 (.baload, 18, 0, 0)) (lf 18 (.sipush 255, 21, 0, 255)))) (nd 25 (nd 22 (lf 21 (.iand, 22, 0, 0)) (lf 22 (.goto 4, 25, 26, 0))) (nd 26 (lf 25 (.iconst (-1), 26, 0, (-1))) (lf 26 (.ireturn, 27, 0, 0))))))
theorem tX4_at_ok : tAll (okC cX4_at 2) tX4_at := (nd_all (nd_all (nd_all (lf_all (okD_ok (by decide +kernel))) (nd_all (lf_all (okD_ok (by decide +kernel))) (lf_all (okD_ok (by decide +kernel))))) (nd_all (nd_all (lf_all (okD_ok (by decide +kernel))) (lf_all (okD_ok (by decide +kernel)))) (nd_all (lf_all (okD_ok (by decide +kernel))) (lf_all (okD_ok (by decide +kernel)))))) (nd_all (nd_all (nd_all (lf_all (okD_ok (by decide +kernel))) (lf_all (okD_ok (by decide +kernel)))) (nd_all (lf_all (okD_ok (by decide +kernel))) (lf_all (okD_ok (by decide +kernel))))) (nd_all (nd_all (lf_all (okD_ok (by decide +kernel))) (lf_all (okD_ok (by decide +kernel)))) (nd_all (lf_all (okD_ok (by decide +kernel))) (lf_all (okD_ok (by decide +kernel)))))))
def tX4_number : Nat → Option mE := (nd 37 (nd 20 (nd 10 (nd 5 (nd 1 (lf 0 (.iload_n 1, 1, 0, 0)) (nd 4 (lf 1 (.ifCond .lt 13, 4, 14, 0)) (lf 4 (.iload_n 1, 5, 0, 0)))) (nd 6 (lf 5 (.aload_n 0, 6, 0, 0)) (nd 9 (lf 6 (.getfield 21, 9, 0, 0)) (lf 9 (.iconst 4, 10, 0, 4))))) (nd 15 (nd 11 (lf 10 (.isub, 11, 0, 0)) (nd 14 (lf 11 (.if_icmp .le 5, 14, 16, 0)) (lf 14 (.iconst (-1), 15, 0, (-1))))) (nd 16 (lf 15 (.ireturn, 16, 0, 0)) (nd 17 (lf 16 (.aload_n 0, 17, 0, 0)) (lf 17 (.getfield 15, 20, 0, 0)))))) (nd 29 (nd 24 (nd 21 (lf 20 (.iload_n 1, 21, 0, 0)) (nd 22 (lf 21 (.baload, 22, 0, 0)) (lf 22 (.bipush 24, 24, 0, 24)))) (nd 25 (lf 24 (.ishl, 25, 0, 0)) (nd 26 (lf 25 (.aload_n 0, 26, 0, 0)) (lf 26 (.getfield 15, 29, 0, 0))))) (nd 32 (nd 30 (lf 29 (.iload_n 1, 30, 0, 0)) (nd 31 (lf 30 (.iconst 1, 31, 0, 1)) (lf 31 (.iadd, 32, 0, 0)))) (nd 33 (lf 32 (.baload, 33, 0, 0)) (nd 36 (lf 33 (.sipush 255, 36, 0, 255)) (lf 36 (.iand, 37, 0, 0))))))) (nd 55 (nd 46 (nd 41 (nd 39 (lf 37 (.bipush 16, 39, 0, 16)) (nd 40 (lf 39 (.ishl, 40, 0, 0)) (lf 40 (.ior, 41, 0, 0)))) (nd 42 (lf 41 (.aload_n 0, 42, 0, 0)) (nd 45 (lf 42 (.getfield 15, 45, 0, 0)) (lf 45 (.iload_n 1, 46, 0, 0))))) (nd 49 (nd 47 (lf 46 (.iconst 2, 47, 0, 2)) (nd 48 (lf 47 (.iadd, 48, 0, 0)) (lf 48 (.baload, 49, 0, 0)))) (nd 52 (lf 49 (.sipush 255, 52, 0, 255)) (nd 53 (lf 52 (.iand, 53, 0, 0)) (lf 53 (.bipush 8, 55, 0, 8)))))) (nd 63 (nd 58 (nd 56 (lf 55 (.ishl, 56, 0, 0)) (nd 57 (lf 56 (.ior, 57, 0, 0)) (lf 57 (.aload_n 0, 58, 0, 0)))) (nd 61 (lf 58 (.getfield 15, 61, 0, 0)) (nd 62 (lf 61 (.iload_n 1, 62, 0, 0)) (lf 62 (.iconst 3, 63, 0, 3))))) (nd 68 (nd 64 (lf 63 (.iadd, 64, 0, 0)) (nd 65 (lf 64 (.baload, 65, 0, 0)) (lf 65 (.sipush 255, 68, 0, 255)))) (nd 69 (lf 68 (.iand, 69, 0, 0)) (nd 70 (lf 69 (.ior, 70, 0, 0)) (lf 70 (.ireturn, 71, 0, 0))))))))
theorem tX4_number_ok : tAll (okC cX4_number 2) tX4_number := (nd_all (nd_all (nd_all (nd_all (nd_all (lf_all (okD_ok (by decide +kernel))) (nd_all (lf_all (okD_ok (by decide +kernel))) (lf_all (okD_ok (by decide +kernel))))) (nd_all (lf_all (okD_ok (by decide +kernel))) (nd_all (lf_all (okD_ok (by decide +kernel))) (lf_all (okD_ok (by decide +kernel)))))) (nd_all (nd_all (lf_all (okD_ok (by decide +kernel))) (nd_all (lf_all (okD_ok (by decide +kernel))) (lf_all (okD_ok (by decide +kernel))))) (nd_all (lf_all (okD_ok (by decide +kernel))) (nd_all (lf_all (okD_ok (by decide +kernel))) (lf_all (okD_ok (by decide +kernel))))))) (nd_all (nd_all (nd_all (lf_all (okD_ok (by decide +kernel))) (nd_all (lf_all (okD_ok (by decide +kernel))) (lf_all (okD_ok (by decide +kernel))))) (nd_all (lf_all (okD_ok (by decide +kernel))) (nd_all (lf_all (okD_ok (by decide +kernel))) (lf_all (okD_ok (by decide +kernel)))))) (nd_all (nd_all (lf_all (okD_ok (by decide +kernel))) (nd_all (lf_all (okD_ok (by decide +kernel))) (lf_all (okD_ok (by decide +kernel))))) (nd_all (lf_all (okD_ok (by decide +kernel))) (nd_all (lf_all (okD_ok (by decide +kernel))) (lf_all (okD_ok (by decide +kernel)))))))) (nd_all (nd_all (nd_all (nd_all (lf_all (okD_ok (by decide +kernel))) (nd_all (lf_all (okD_ok (by decide +kernel))) (lf_all (okD_ok (by decide +kernel))))) (nd_all (lf_all (okD_ok (by decide +kernel))) (nd_all (lf_all (okD_ok (by decide +kernel))) (lf_all (okD_ok (by decide +kernel)))))) (nd_all (nd_all (lf_all (okD_ok (by decide +kernel))) (nd_all (lf_all (okD_ok (by decide +kernel))) (lf_all (okD_ok (by decide +kernel))))) (nd_all (lf_all (okD_ok (by decide +kernel))) (nd_all (lf_all (okD_ok (by decide +kernel))) (lf_all (okD_ok (by decide +kernel))))))) (nd_all (nd_all (nd_all (lf_all (okD_ok (by decide +kernel))) (nd_all (lf_all (okD_ok (by decide +kernel))) (lf_all (okD_ok (by decide +kernel))))) (nd_all (lf_all (okD_ok (by decide +kernel))) (nd_all (lf_all (okD_ok (by decide +kernel))) (lf_all (okD_ok (by decide +kernel)))))) (nd_all (nd_all (lf_all (okD_ok (by decide +kernel))) (nd_all (lf_all (okD_ok (by decide +kernel))) (lf_all (okD_ok (by decide +kernel))))) (nd_all (lf_all (okD_ok (by decide +kernel))) (nd_all (lf_all (okD_ok (by decide +kernel))) (lf_all (okD_ok (by decide +kernel)))))))))
def tX4_put : Nat → Option mE := (nd 12 (nd 5 (nd 1 (lf 0 (.iload_n 1, 1, 0, 0)) (nd 4 (lf 1 (.ifCond .lt 19, 4, 20, 0)) (lf 4 (.iload_n 1, 5, 0, 0)))) (nd 6 (lf 5 (.aload_n 0, 6, 0, 0)) (nd 9 (lf 6 (.getfield 21, 9, 0, 0)) (lf 9 (.if_icmp .ge 11, 12, 20, 0))))) (nd 17 (nd 13 (lf 12 (.aload_n 0, 13, 0, 0)) (nd 16 (lf 13 (.getfield 15, 16, 0, 0)) (lf 16 (.iload_n 1, 17, 0, 0)))) (nd 19 (nd 18 (lf 17 (.iload_n 2, 18, 0, 0)) (lf 18 (.i2b, 19, 0, 0))) (nd 20 (lf 19 (.bastore, 20, 0, 0)) (lf 20 (.return_, 21, 0, 0))))))
theorem tX4_put_ok : tAll (okC cX4_put 3) tX4_put := (nd_all (nd_all (nd_all (lf_all (okD_ok (by decide +kernel))) (nd_all (lf_all (okD_ok (by decide +kernel))) (lf_all (okD_ok (by decide +kernel))))) (nd_all (lf_all (okD_ok (by decide +kernel))) (nd_all (lf_all (okD_ok (by decide +kernel))) (lf_all (okD_ok (by decide +kernel)))))) (nd_all (nd_all (lf_all (okD_ok (by decide +kernel))) (nd_all (lf_all (okD_ok (by decide +kernel))) (lf_all (okD_ok (by decide +kernel))))) (nd_all (nd_all (lf_all (okD_ok (by decide +kernel))) (lf_all (okD_ok (by decide +kernel)))) (nd_all (lf_all (okD_ok (by decide +kernel))) (lf_all (okD_ok (by decide +kernel)))))))
def tX4_empty : Nat → Option mE := (nd 2 (nd 1 (lf 0 (.aload_n 0, 1, 0, 0)) (lf 1 (.iconst 0, 2, 0, 0))) (nd 5 (lf 2 (.putfield 21, 5, 0, 0)) (lf 5 (.return_, 6, 0, 0))))
theorem tX4_empty_ok : tAll (okC cX4_empty 1) tX4_empty := (nd_all (nd_all (lf_all (okD_ok (by decide +kernel))) (lf_all (okD_ok (by decide +kernel)))) (nd_all (lf_all (okD_ok (by decide +kernel))) (lf_all (okD_ok (by decide +kernel)))))
def tX4_add : Nat → Option mE := (nd 20 (nd 9 (nd 4 (nd 1 (lf 0 (.aload_n 0, 1, 0, 0)) (lf 1 (.getfield 21, 4, 0, 0))) (nd 5 (lf 4 (.aload_n 0, 5, 0, 0)) (nd 8 (lf 5 (.getfield 15, 8, 0, 0)) (lf 8 (.arraylength, 9, 0, 0))))) (nd 13 (nd 12 (lf 9 (.if_icmp .ge 24, 12, 33, 0)) (lf 12 (.aload_n 0, 13, 0, 0))) (nd 16 (lf 13 (.getfield 15, 16, 0, 0)) (nd 17 (lf 16 (.aload_n 0, 17, 0, 0)) (lf 17 (.getfield 21, 20, 0, 0)))))) (nd 25 (nd 22 (nd 21 (lf 20 (.iload_n 1, 21, 0, 0)) (lf 21 (.i2b, 22, 0, 0))) (nd 23 (lf 22 (.bastore, 23, 0, 0)) (nd 24 (lf 23 (.aload_n 0, 24, 0, 0)) (lf 24 (.dup, 25, 0, 0))))) (nd 29 (nd 28 (lf 25 (.getfield 21, 28, 0, 0)) (lf 28 (.iconst 1, 29, 0, 1))) (nd 30 (lf 29 (.iadd, 30, 0, 0)) (nd 33 (lf 30 (.putfield 21, 33, 0, 0)) (lf 33 (.return_, 34, 0, 0)))))))
theorem tX4_add_ok : tAll (okC cX4_add 2) tX4_add := (nd_all (nd_all (nd_all (nd_all (lf_all (okD_ok (by decide +kernel))) (lf_all (okD_ok (by decide +kernel)))) (nd_all (lf_all (okD_ok (by decide +kernel))) (nd_all (lf_all (okD_ok (by decide +kernel))) (lf_all (okD_ok (by decide +kernel)))))) (nd_all (nd_all (lf_all (okD_ok (by decide +kernel))) (lf_all (okD_ok (by decide +kernel)))) (nd_all (lf_all (okD_ok (by decide +kernel))) (nd_all (lf_all (okD_ok (by decide +kernel))) (lf_all (okD_ok (by decide +kernel))))))) (nd_all (nd_all (nd_all (lf_all (okD_ok (by decide +kernel))) (lf_all (okD_ok (by decide +kernel)))) (nd_all (lf_all (okD_ok (by decide +kernel))) (nd_all (lf_all (okD_ok (by decide +kernel))) (lf_all (okD_ok (by decide +kernel)))))) (nd_all (nd_all (lf_all (okD_ok (by decide +kernel))) (lf_all (okD_ok (by decide +kernel)))) (nd_all (lf_all (okD_ok (by decide +kernel))) (nd_all (lf_all (okD_ok (by decide +kernel))) (lf_all (okD_ok (by decide +kernel))))))))
def tX4_addNumber : Nat → Option mE := (nd 44 (nd 24 (nd 11 (nd 5 (nd 1 (lf 0 (.aload_n 0, 1, 0, 0)) (nd 4 (lf 1 (.getfield 21, 4, 0, 0)) (lf 4 (.aload_n 0, 5, 0, 0)))) (nd 9 (nd 8 (lf 5 (.getfield 15, 8, 0, 0)) (lf 8 (.arraylength, 9, 0, 0))) (nd 10 (lf 9 (.iconst 4, 10, 0, 4)) (lf 10 (.isub, 11, 0, 0))))) (nd 16 (nd 14 (lf 11 (.if_icmp .le 4, 14, 15, 0)) (nd 15 (lf 14 (.return_, 15, 0, 0)) (lf 15 (.aload_n 0, 16, 0, 0)))) (nd 20 (nd 19 (lf 16 (.getfield 15, 19, 0, 0)) (lf 19 (.aload_n 0, 20, 0, 0))) (nd 23 (lf 20 (.getfield 21, 23, 0, 0)) (lf 23 (.iload_n 1, 24, 0, 0)))))) (nd 34 (nd 28 (nd 26 (lf 24 (.bipush 24, 26, 0, 24)) (nd 27 (lf 26 (.iushr, 27, 0, 0)) (lf 27 (.i2b, 28, 0, 0)))) (nd 30 (nd 29 (lf 28 (.bastore, 29, 0, 0)) (lf 29 (.aload_n 0, 30, 0, 0))) (nd 33 (lf 30 (.getfield 15, 33, 0, 0)) (lf 33 (.aload_n 0, 34, 0, 0))))) (nd 39 (nd 37 (lf 34 (.getfield 21, 37, 0, 0)) (nd 38 (lf 37 (.iconst 1, 38, 0, 1)) (lf 38 (.iadd, 39, 0, 0)))) (nd 42 (nd 40 (lf 39 (.iload_n 1, 40, 0, 0)) (lf 40 (.bipush 16, 42, 0, 16))) (nd 43 (lf 42 (.iushr, 43, 0, 0)) (lf 43 (.i2b, 44, 0, 0))))))) (nd 65 (nd 55 (nd 49 (nd 45 (lf 44 (.bastore, 45, 0, 0)) (nd 46 (lf 45 (.aload_n 0, 46, 0, 0)) (lf 46 (.getfield 15, 49, 0, 0)))) (nd 53 (nd 50 (lf 49 (.aload_n 0, 50, 0, 0)) (lf 50 (.getfield 21, 53, 0, 0))) (nd 54 (lf 53 (.iconst 2, 54, 0, 2)) (lf 54 (.iadd, 55, 0, 0))))) (nd 59 (nd 56 (lf 55 (.iload_n 1, 56, 0, 0)) (nd 58 (lf 56 (.bipush 8, 58, 0, 8)) (lf 58 (.iushr, 59, 0, 0)))) (nd 61 (nd 60 (lf 59 (.i2b, 60, 0, 0)) (lf 60 (.bastore, 61, 0, 0))) (nd 62 (lf 61 (.aload_n 0, 62, 0, 0)) (lf 62 (.getfield 15, 65, 0, 0)))))) (nd 74 (nd 70 (nd 66 (lf 65 (.aload_n 0, 66, 0, 0)) (nd 69 (lf 66 (.getfield 21, 69, 0, 0)) (lf 69 (.iconst 3, 70, 0, 3)))) (nd 72 (nd 71 (lf 70 (.iadd, 71, 0, 0)) (lf 71 (.iload_n 1, 72, 0, 0))) (nd 73 (lf 72 (.i2b, 73, 0, 0)) (lf 73 (.bastore, 74, 0, 0))))) (nd 79 (nd 75 (lf 74 (.aload_n 0, 75, 0, 0)) (nd 76 (lf 75 (.dup, 76, 0, 0)) (lf 76 (.getfield 21, 79, 0, 0)))) (nd 81 (nd 80 (lf 79 (.iconst 4, 80, 0, 4)) (lf 80 (.iadd, 81, 0, 0))) (nd 84 (lf 81 (.putfield 21, 84, 0, 0)) (lf 84 (.return_, 85, 0, 0))))))))
theorem tX4_addNumber_ok : tAll (okC cX4_addNumber 2) tX4_addNumber := (nd_all (nd_all (nd_all (nd_all (nd_all (lf_all (okD_ok (by decide +kernel))) (nd_all (lf_all (okD_ok (by decide +kernel))) (lf_all (okD_ok (by decide +kernel))))) (nd_all (nd_all (lf_all (okD_ok (by decide +kernel))) (lf_all (okD_ok (by decide +kernel)))) (nd_all (lf_all (okD_ok (by decide +kernel))) (lf_all (okD_ok (by decide +kernel)))))) (nd_all (nd_all (lf_all (okD_ok (by decide +kernel))) (nd_all (lf_all (okD_ok (by decide +kernel))) (lf_all (okD_ok (by decide +kernel))))) (nd_all (nd_all (lf_all (okD_ok (by decide +kernel))) (lf_all (okD_ok (by decide +kernel)))) (nd_all (lf_all (okD_ok (by decide +kernel))) (lf_all (okD_ok (by decide +kernel))))))) (nd_all (nd_all (nd_all (lf_all (okD_ok (by decide +kernel))) (nd_all (lf_all (okD_ok (by decide +kernel))) (lf_all (okD_ok (by decide +kernel))))) (nd_all (nd_all (lf_all (okD_ok (by decide +kernel))) (lf_all (okD_ok (by decide +kernel)))) (nd_all (lf_all (okD_ok (by decide +kernel))) (lf_all (okD_ok (by decide +kernel)))))) (nd_all (nd_all (lf_all (okD_ok (by decide +kernel))) (nd_all (lf_all (okD_ok (by decide +kernel))) (lf_all (okD_ok (by decide +kernel))))) (nd_all (nd_all (lf_all (okD_ok (by decide +kernel))) (lf_all (okD_ok (by decide +kernel)))) (nd_all (lf_all (okD_ok (by decide +kernel))) (lf_all (okD_ok (by decide +kernel)))))))) (nd_all (nd_all (nd_all (nd_all (lf_all (okD_ok (by decide +kernel))) (nd_all (lf_all (okD_ok (by decide +kernel))) (lf_all (okD_ok (by decide +kernel))))) (nd_all (nd_all (lf_all (okD_ok (by decide +kernel))) (lf_all (okD_ok (by decide +kernel)))) (nd_all (lf_all (okD_ok (by decide +kernel))) (lf_all (okD_ok (by decide +kernel)))))) (nd_all (nd_all (lf_all (okD_ok (by decide +kernel))) (nd_all (lf_all (okD_ok (by decide +kernel))) (lf_all (okD_ok (by decide +kernel))))) (nd_all (nd_all (lf_all (okD_ok (by decide +kernel))) (lf_all (okD_ok (by decide +kernel)))) (nd_all (lf_all (okD_ok (by decide +kernel))) (lf_all (okD_ok (by decide +kernel))))))) (nd_all (nd_all (nd_all (lf_all (okD_ok (by decide +kernel))) (nd_all (lf_all (okD_ok (by decide +kernel))) (lf_all (okD_ok (by decide +kernel))))) (nd_all (nd_all (lf_all (okD_ok (by decide +kernel))) (lf_all (okD_ok (by decide +kernel)))) (nd_all (lf_all (okD_ok (by decide +kernel))) (lf_all (okD_ok (by decide +kernel)))))) (nd_all (nd_all (lf_all (okD_ok (by decide +kernel))) (nd_all (lf_all (okD_ok (by decide +kernel))) (lf_all (okD_ok (by decide +kernel))))) (nd_all (nd_all (lf_all (okD_ok (by decide +kernel))) (lf_all (okD_ok (by decide +kernel)))) (nd_all (lf_all (okD_ok (by decide +kernel))) (lf_all (okD_ok (by decide +kernel)))))))))
def tX4_addPart : Nat → Option mE := (nd 29 (nd 14 (nd 8 (nd 4 (nd 1 (lf 0 (.iload_n 2, 1, 0, 0)) (lf 1 (.ifCond .lt 31, 4, 32, 0))) (nd 5 (lf 4 (.iload_n 3, 5, 0, 0)) (lf 5 (.ifCond .lt 27, 8, 32, 0)))) (nd 10 (nd 9 (lf 8 (.iload_n 2, 9, 0, 0)) (lf 9 (.aload_n 1, 10, 0, 0))) (nd 13 (lf 10 (.getfield 21, 13, 0, 0)) (lf 13 (.iload_n 3, 14, 0, 0))))) (nd 20 (nd 18 (nd 15 (lf 14 (.isub, 15, 0, 0)) (lf 15 (.if_icmp .gt 17, 18, 32, 0))) (nd 19 (lf 18 (.iload_n 3, 19, 0, 0)) (lf 19 (.aload_n 0, 20, 0, 0)))) (nd 24 (nd 23 (lf 20 (.getfield 15, 23, 0, 0)) (lf 23 (.arraylength, 24, 0, 0))) (nd 25 (lf 24 (.aload_n 0, 25, 0, 0)) (nd 28 (lf 25 (.getfield 21, 28, 0, 0)) (lf 28 (.isub, 29, 0, 0))))))) (nd 46 (nd 37 (nd 33 (nd 32 (lf 29 (.if_icmp .le 4, 32, 33, 0)) (lf 32 (.return_, 33, 0, 0))) (nd 34 (lf 33 (.aload_n 1, 34, 0, 0)) (lf 34 (.getfield 15, 37, 0, 0)))) (nd 39 (nd 38 (lf 37 (.iload_n 2, 38, 0, 0)) (lf 38 (.aload_n 0, 39, 0, 0))) (nd 42 (lf 39 (.getfield 15, 42, 0, 0)) (nd 43 (lf 42 (.aload_n 0, 43, 0, 0)) (lf 43 (.getfield 21, 46, 0, 0)))))) (nd 52 (nd 50 (nd 47 (lf 46 (.iload_n 3, 47, 0, 0)) (lf 47 (.invokestatic 25, 50, 0, 0))) (nd 51 (lf 50 (.aload_n 0, 51, 0, 0)) (lf 51 (.dup, 52, 0, 0)))) (nd 56 (nd 55 (lf 52 (.getfield 21, 55, 0, 0)) (lf 55 (.iload_n 3, 56, 0, 0))) (nd 57 (lf 56 (.iadd, 57, 0, 0)) (nd 60 (lf 57 (.putfield 21, 60, 0, 0)) (lf 60 (.return_, 61, 0, 0))))))))
theorem tX4_addPart_ok : tAll (okC cX4_addPart 4) tX4_addPart := (nd_all (nd_all (nd_all (nd_all (nd_all (lf_all (okD_ok (by decide +kernel))) (lf_all (okD_ok (by decide +kernel)))) (nd_all (lf_all (okD_ok (by decide +kernel))) (lf_all (okD_ok (by decide +kernel))))) (nd_all (nd_all (lf_all (okD_ok (by decide +kernel))) (lf_all (okD_ok (by decide +kernel)))) (nd_all (lf_all (okD_ok (by decide +kernel))) (lf_all (okD_ok (by decide +kernel)))))) (nd_all (nd_all (nd_all (lf_all (okD_ok (by decide +kernel))) (lf_all (okD_ok (by decide +kernel)))) (nd_all (lf_all (okD_ok (by decide +kernel))) (lf_all (okD_ok (by decide +kernel))))) (nd_all (nd_all (lf_all (okD_ok (by decide +kernel))) (lf_all (okD_ok (by decide +kernel)))) (nd_all (lf_all (okD_ok (by decide +kernel))) (nd_all (lf_all (okD_ok (by decide +kernel))) (lf_all (okD_ok (by decide +kernel)))))))) (nd_all (nd_all (nd_all (nd_all (lf_all (okD_ok (by decide +kernel))) (lf_all (okD_ok (by decide +kernel)))) (nd_all (lf_all (okD_ok (by decide +kernel))) (lf_all (okD_ok (by decide +kernel))))) (nd_all (nd_all (lf_all (okD_ok (by decide +kernel))) (lf_all (okD_ok (by decide +kernel)))) (nd_all (lf_all (okD_ok (by decide +kernel))) (nd_all (lf_all (okD_ok (by decide +kernel))) (lf_all (okD_ok (by decide +kernel))))))) (nd_all (nd_all (nd_all (lf_all (okD_ok (by decide +kernel))) (lf_all (okD_ok (by decide +kernel)))) (nd_all (lf_all (okD_ok (by decide +kernel))) (lf_all (okD_ok (by decide +kernel))))) (nd_all (nd_all (lf_all (okD_ok (by decide +kernel))) (lf_all (okD_ok (by decide +kernel)))) (nd_all (lf_all (okD_ok (by decide +kernel))) (nd_all (lf_all (okD_ok (by decide +kernel))) (lf_all (okD_ok (by decide +kernel)))))))))
def tX4_addHashesReversed : Nat → Option mE := (nd 12 (nd 6 (nd 1 (lf 0 (.aload_n 1, 1, 0, 0)) (nd 4 (lf 1 (.getfield 21, 4, 0, 0)) (lf 4 (.bipush 32, 6, 0, 32)))) (nd 8 (nd 7 (lf 6 (.isub, 7, 0, 0)) (lf 7 (.istore_n 2, 8, 0, 0))) (nd 9 (lf 8 (.iload_n 2, 9, 0, 0)) (lf 9 (.ifCond .lt 17, 12, 26, 0))))) (nd 17 (nd 14 (nd 13 (lf 12 (.aload_n 0, 13, 0, 0)) (lf 13 (.aload_n 1, 14, 0, 0))) (nd 15 (lf 14 (.iload_n 2, 15, 0, 0)) (lf 15 (.bipush 32, 17, 0, 32)))) (nd 23 (nd 20 (lf 17 (.invokevirtual 31, 20, 0, 0)) (lf 20 (.iinc 2 (-32), 23, 0, (-32)))) (nd 26 (lf 23 (.goto (-15), 26, 8, 0)) (lf 26 (.return_, 27, 0, 0))))))
theorem tX4_addHashesReversed_ok : tAll (okC cX4_addHashesReversed 3) tX4_addHashesReversed := (nd_all (nd_all (nd_all (lf_all (okD_ok (by decide +kernel))) (nd_all (lf_all (okD_ok (by decide +kernel))) (lf_all (okD_ok (by decide +kernel))))) (nd_all (nd_all (lf_all (okD_ok (by decide +kernel))) (lf_all (okD_ok (by decide +kernel)))) (nd_all (lf_all (okD_ok (by decide +kernel))) (lf_all (okD_ok (by decide +kernel)))))) (nd_all (nd_all (nd_all (lf_all (okD_ok (by decide +kernel))) (lf_all (okD_ok (by decide +kernel)))) (nd_all (lf_all (okD_ok (by decide +kernel))) (lf_all (okD_ok (by decide +kernel))))) (nd_all (nd_all (lf_all (okD_ok (by decide +kernel))) (lf_all (okD_ok (by decide +kernel)))) (nd_all (lf_all (okD_ok (by decide +kernel))) (lf_all (okD_ok (by decide +kernel)))))))
def tX4_become : Nat → Option mE := (nd 7 (nd 2 (nd 1 (lf 0 (.aload_n 0, 1, 0, 0)) (lf 1 (.iconst 0, 2, 0, 0))) (nd 5 (lf 2 (.putfield 21, 5, 0, 0)) (nd 6 (lf 5 (.aload_n 0, 6, 0, 0)) (lf 6 (.aload_n 1, 7, 0, 0))))) (nd 9 (nd 8 (lf 7 (.iconst 0, 8, 0, 0)) (lf 8 (.aload_n 1, 9, 0, 0))) (nd 12 (lf 9 (.getfield 21, 12, 0, 0)) (nd 15 (lf 12 (.invokevirtual 31, 15, 0, 0)) (lf 15 (.return_, 16, 0, 0))))))
theorem tX4_become_ok : tAll (okC cX4_become 2) tX4_become := (nd_all (nd_all (nd_all (lf_all (okD_ok (by decide +kernel))) (lf_all (okD_ok (by decide +kernel)))) (nd_all (lf_all (okD_ok (by decide +kernel))) (nd_all (lf_all (okD_ok (by decide +kernel))) (lf_all (okD_ok (by decide +kernel)))))) (nd_all (nd_all (lf_all (okD_ok (by decide +kernel))) (lf_all (okD_ok (by decide +kernel)))) (nd_all (lf_all (okD_ok (by decide +kernel))) (nd_all (lf_all (okD_ok (by decide +kernel))) (lf_all (okD_ok (by decide +kernel)))))))
def tX4_becomePart : Nat → Option mE := (nd 6 (nd 2 (nd 1 (lf 0 (.aload_n 0, 1, 0, 0)) (lf 1 (.iconst 0, 2, 0, 0))) (nd 5 (lf 2 (.putfield 21, 5, 0, 0)) (lf 5 (.aload_n 0, 6, 0, 0)))) (nd 8 (nd 7 (lf 6 (.aload_n 1, 7, 0, 0)) (lf 7 (.iload_n 2, 8, 0, 0))) (nd 9 (lf 8 (.iload_n 3, 9, 0, 0)) (nd 12 (lf 9 (.invokevirtual 31, 12, 0, 0)) (lf 12 (.return_, 13, 0, 0))))))
theorem tX4_becomePart_ok : tAll (okC cX4_becomePart 4) tX4_becomePart := (nd_all (nd_all (nd_all (lf_all (okD_ok (by decide +kernel))) (lf_all (okD_ok (by decide +kernel)))) (nd_all (lf_all (okD_ok (by decide +kernel))) (lf_all (okD_ok (by decide +kernel))))) (nd_all (nd_all (lf_all (okD_ok (by decide +kernel))) (lf_all (okD_ok (by decide +kernel)))) (nd_all (lf_all (okD_ok (by decide +kernel))) (nd_all (lf_all (okD_ok (by decide +kernel))) (lf_all (okD_ok (by decide +kernel)))))))
def tX4_resize : Nat → Option mE := (nd 20 (nd 10 (nd 5 (nd 1 (lf 0 (.iload_n 1, 1, 0, 0)) (nd 4 (lf 1 (.ifCond .lt 12, 4, 13, 0)) (lf 4 (.iload_n 1, 5, 0, 0)))) (nd 6 (lf 5 (.aload_n 0, 6, 0, 0)) (nd 9 (lf 6 (.getfield 15, 9, 0, 0)) (lf 9 (.arraylength, 10, 0, 0))))) (nd 15 (nd 13 (lf 10 (.if_icmp .le 4, 13, 14, 0)) (nd 14 (lf 13 (.return_, 14, 0, 0)) (lf 14 (.aload_n 0, 15, 0, 0)))) (nd 18 (lf 15 (.getfield 21, 18, 0, 0)) (nd 19 (lf 18 (.istore_n 2, 19, 0, 0)) (lf 19 (.iload_n 2, 20, 0, 0)))))) (nd 30 (nd 25 (nd 21 (lf 20 (.iload_n 1, 21, 0, 0)) (nd 24 (lf 21 (.if_icmp .ge 16, 24, 37, 0)) (lf 24 (.aload_n 0, 25, 0, 0)))) (nd 28 (lf 25 (.getfield 15, 28, 0, 0)) (nd 29 (lf 28 (.iload_n 2, 29, 0, 0)) (lf 29 (.iconst 0, 30, 0, 0))))) (nd 37 (nd 31 (lf 30 (.bastore, 31, 0, 0)) (nd 34 (lf 31 (.iinc 2 1, 34, 0, 1)) (lf 34 (.goto (-15), 37, 19, 0)))) (nd 39 (nd 38 (lf 37 (.aload_n 0, 38, 0, 0)) (lf 38 (.iload_n 1, 39, 0, 0))) (nd 42 (lf 39 (.putfield 21, 42, 0, 0)) (lf 42 (.return_, 43, 0, 0)))))))
theorem tX4_resize_ok : tAll (okC cX4_resize 3) tX4_resize := (nd_all (nd_all (nd_all (nd_all (lf_all (okD_ok (by decide +kernel))) (nd_all (lf_all (okD_ok (by decide +kernel))) (lf_all (okD_ok (by decide +kernel))))) (nd_all (lf_all (okD_ok (by decide +kernel))) (nd_all (lf_all (okD_ok (by decide +kernel))) (lf_all (okD_ok (by decide +kernel)))))) (nd_all (nd_all (lf_all (okD_ok (by decide +kernel))) (nd_all (lf_all (okD_ok (by decide +kernel))) (lf_all (okD_ok (by decide +kernel))))) (nd_all (lf_all (okD_ok (by decide +kernel))) (nd_all (lf_all (okD_ok (by decide +kernel))) (lf_all (okD_ok (by decide +kernel))))))) (nd_all (nd_all (nd_all (lf_all (okD_ok (by decide +kernel))) (nd_all (lf_all (okD_ok (by decide +kernel))) (lf_all (okD_ok (by decide +kernel))))) (nd_all (lf_all (okD_ok (by decide +kernel))) (nd_all (lf_all (okD_ok (by decide +kernel))) (lf_all (okD_ok (by decide +kernel)))))) (nd_all (nd_all (lf_all (okD_ok (by decide +kernel))) (nd_all (lf_all (okD_ok (by decide +kernel))) (lf_all (okD_ok (by decide +kernel))))) (nd_all (nd_all (lf_all (okD_ok (by decide +kernel))) (lf_all (okD_ok (by decide +kernel)))) (nd_all (lf_all (okD_ok (by decide +kernel))) (lf_all (okD_ok (by decide +kernel))))))))
def tX4_sameAs : Nat → Option mE := (nd 19 (nd 10 (nd 3 (nd 1 (lf 0 (.iconst 0, 1, 0, 0)) (lf 1 (.istore 5, 3, 0, 0))) (nd 5 (lf 3 (.iload 5, 5, 0, 0)) (nd 7 (lf 5 (.iload 4, 7, 0, 0)) (lf 7 (.if_icmp .ge 30, 10, 37, 0))))) (nd 14 (nd 11 (lf 10 (.aload_n 0, 11, 0, 0)) (nd 12 (lf 11 (.iload_n 1, 12, 0, 0)) (lf 12 (.iload 5, 14, 0, 0)))) (nd 15 (lf 14 (.iadd, 15, 0, 0)) (nd 18 (lf 15 (.invokevirtual 35, 18, 0, 0)) (lf 18 (.aload_n 2, 19, 0, 0)))))) (nd 29 (nd 22 (nd 20 (lf 19 (.iload_n 3, 20, 0, 0)) (lf 20 (.iload 5, 22, 0, 0))) (nd 23 (lf 22 (.iadd, 23, 0, 0)) (nd 26 (lf 23 (.invokevirtual 35, 26, 0, 0)) (lf 26 (.if_icmp .eq 5, 29, 31, 0))))) (nd 34 (nd 30 (lf 29 (.iconst 0, 30, 0, 0)) (nd 31 (lf 30 (.ireturn, 31, 0, 0)) (lf 31 (.iinc 5 1, 34, 0, 1)))) (nd 37 (lf 34 (.goto (-31), 37, 3, 0)) (nd 38 (lf 37 (.iconst 1, 38, 0, 1)) (lf 38 (.ireturn, 39, 0, 0)))))))
theorem tX4_sameAs_ok : tAll (okC cX4_sameAs 6) tX4_sameAs := (nd_all (nd_all (nd_all (nd_all (lf_all (okD_ok (by decide +kernel))) (lf_all (okD_ok (by decide +kernel)))) (nd_all (lf_all (okD_ok (by decide +kernel))) (nd_all (lf_all (okD_ok (by decide +kernel))) (lf_all (okD_ok (by decide +kernel)))))) (nd_all (nd_all (lf_all (okD_ok (by decide +kernel))) (nd_all (lf_all (okD_ok (by decide +kernel))) (lf_all (okD_ok (by decide +kernel))))) (nd_all (lf_all (okD_ok (by decide +kernel))) (nd_all (lf_all (okD_ok (by decide +kernel))) (lf_all (okD_ok (by decide +kernel))))))) (nd_all (nd_all (nd_all (lf_all (okD_ok (by decide +kernel))) (lf_all (okD_ok (by decide +kernel)))) (nd_all (lf_all (okD_ok (by decide +kernel))) (nd_all (lf_all (okD_ok (by decide +kernel))) (lf_all (okD_ok (by decide +kernel)))))) (nd_all (nd_all (lf_all (okD_ok (by decide +kernel))) (nd_all (lf_all (okD_ok (by decide +kernel))) (lf_all (okD_ok (by decide +kernel))))) (nd_all (lf_all (okD_ok (by decide +kernel))) (nd_all (lf_all (okD_ok (by decide +kernel))) (lf_all (okD_ok (by decide +kernel))))))))
def tX5_init : Nat → Option mE := (nd 23 (nd 9 (nd 4 (nd 1 (lf 0 (.aload_n 0, 1, 0, 0)) (lf 1 (.invokespecial 3, 4, 0, 0))) (nd 5 (lf 4 (.aload_n 0, 5, 0, 0)) (nd 8 (lf 5 (.new 9, 8, 0, 0)) (lf 8 (.dup, 9, 0, 0))))) (nd 18 (nd 12 (lf 9 (.sipush 704, 12, 0, 704)) (nd 15 (lf 12 (.invokespecial 13, 15, 0, 0)) (lf 15 (.putfield 16, 18, 0, 0)))) (nd 19 (lf 18 (.aload_n 0, 19, 0, 0)) (nd 22 (lf 19 (.new 9, 22, 0, 0)) (lf 22 (.dup, 23, 0, 0)))))) (nd 36 (nd 31 (nd 25 (lf 23 (.bipush 32, 25, 0, 32)) (nd 28 (lf 25 (.invokespecial 13, 28, 0, 0)) (lf 28 (.putfield 20, 31, 0, 0)))) (nd 32 (lf 31 (.aload_n 0, 32, 0, 0)) (nd 34 (lf 32 (.bipush 64, 34, 0, 64)) (lf 34 (.newarray .int, 36, 0, 0))))) (nd 42 (nd 39 (lf 36 (.putfield 23, 39, 0, 0)) (nd 40 (lf 39 (.aload_n 0, 40, 0, 0)) (lf 40 (.bipush 8, 42, 0, 8)))) (nd 44 (lf 42 (.newarray .int, 44, 0, 0)) (nd 47 (lf 44 (.putfield 27, 47, 0, 0)) (lf 47 (.return_, 48, 0, 0)))))))
theorem tX5_init_ok : tAll (okC cX5_init 1) tX5_init := (nd_all (nd_all (nd_all (nd_all (lf_all (okD_ok (by decide +kernel))) (lf_all (okD_ok (by decide +kernel)))) (nd_all (lf_all (okD_ok (by decide +kernel))) (nd_all (lf_all (okD_ok (by decide +kernel))) (lf_all (okD_ok (by decide +kernel)))))) (nd_all (nd_all (lf_all (okD_ok (by decide +kernel))) (nd_all (lf_all (okD_ok (by decide +kernel))) (lf_all (okD_ok (by decide +kernel))))) (nd_all (lf_all (okD_ok (by decide +kernel))) (nd_all (lf_all (okD_ok (by decide +kernel))) (lf_all (okD_ok (by decide +kernel))))))) (nd_all (nd_all (nd_all (lf_all (okD_ok (by decide +kernel))) (nd_all (lf_all (okD_ok (by decide +kernel))) (lf_all (okD_ok (by decide +kernel))))) (nd_all (lf_all (okD_ok (by decide +kernel))) (nd_all (lf_all (okD_ok (by decide +kernel))) (lf_all (okD_ok (by decide +kernel)))))) (nd_all (nd_all (lf_all (okD_ok (by decide +kernel))) (nd_all (lf_all (okD_ok (by decide +kernel))) (lf_all (okD_ok (by decide +kernel))))) (nd_all (lf_all (okD_ok (by decide +kernel))) (nd_all (lf_all (okD_ok (by decide +kernel))) (lf_all (okD_ok (by decide +kernel))))))))
def tX5_finish : Nat → Option mE := (nd 95 (nd 48 (nd 23 (nd 11 (nd 7 (nd 1 (lf 0 (.aload_n 0, 1, 0, 0)) (nd 4 (lf 1 (.getfield 16, 4, 0, 0)) (lf 4 (.getfield 30, 7, 0, 0)))) (nd 9 (lf 7 (.bipush 8, 9, 0, 8)) (nd 10 (lf 9 (.imul, 10, 0, 0)) (lf 10 (.istore_n 1, 11, 0, 0))))) (nd 18 (nd 12 (lf 11 (.aload_n 0, 12, 0, 0)) (nd 15 (lf 12 (.getfield 16, 15, 0, 0)) (lf 15 (.sipush 128, 18, 0, 128)))) (nd 21 (lf 18 (.invokevirtual 34, 21, 0, 0)) (nd 22 (lf 21 (.iconst 0, 22, 0, 0)) (lf 22 (.istore_n 2, 23, 0, 0)))))) (nd 36 (nd 29 (nd 24 (lf 23 (.iload_n 2, 24, 0, 0)) (nd 26 (lf 24 (.bipush 64, 26, 0, 64)) (lf 26 (.if_icmp .ge 32, 29, 58, 0)))) (nd 30 (lf 29 (.aload_n 0, 30, 0, 0)) (nd 33 (lf 30 (.getfield 16, 33, 0, 0)) (lf 33 (.getfield 30, 36, 0, 0))))) (nd 41 (nd 38 (lf 36 (.bipush 64, 38, 0, 64)) (nd 39 (lf 38 (.irem, 39, 0, 0)) (lf 39 (.bipush 56, 41, 0, 56)))) (nd 44 (lf 41 (.if_icmp .eq 17, 44, 58, 0)) (nd 45 (lf 44 (.aload_n 0, 45, 0, 0)) (lf 45 (.getfield 16, 48, 0, 0))))))) (nd 74 (nd 62 (nd 55 (nd 49 (lf 48 (.iconst 0, 49, 0, 0)) (nd 52 (lf 49 (.invokevirtual 34, 52, 0, 0)) (lf 52 (.iinc 2 1, 55, 0, 1)))) (nd 58 (lf 55 (.goto (-32), 58, 23, 0)) (nd 59 (lf 58 (.aload_n 0, 59, 0, 0)) (lf 59 (.getfield 16, 62, 0, 0))))) (nd 67 (nd 63 (lf 62 (.iconst 0, 63, 0, 0)) (nd 66 (lf 63 (.invokevirtual 37, 66, 0, 0)) (lf 66 (.aload_n 0, 67, 0, 0)))) (nd 70 (lf 67 (.getfield 16, 70, 0, 0)) (nd 71 (lf 70 (.iload_n 1, 71, 0, 0)) (lf 71 (.invokevirtual 37, 74, 0, 0)))))) (nd 84 (nd 79 (nd 77 (lf 74 (.getstatic 40, 77, 0, 0)) (nd 78 (lf 77 (.iconst 0, 78, 0, 0)) (lf 78 (.aload_n 0, 79, 0, 0)))) (nd 82 (lf 79 (.getfield 27, 82, 0, 0)) (nd 83 (lf 82 (.iconst 0, 83, 0, 0)) (lf 83 (.aload_n 0, 84, 0, 0))))) (nd 91 (nd 87 (lf 84 (.getfield 27, 87, 0, 0)) (nd 88 (lf 87 (.arraylength, 88, 0, 0)) (lf 88 (.invokestatic 43, 91, 0, 0)))) (nd 93 (nd 92 (lf 91 (.iconst 0, 92, 0, 0)) (lf 92 (.istore_n 2, 93, 0, 0))) (nd 94 (lf 93 (.iload_n 2, 94, 0, 0)) (lf 94 (.aload_n 0, 95, 0, 0)))))))) (nd 141 (nd 118 (nd 107 (nd 104 (nd 98 (lf 95 (.getfield 16, 98, 0, 0)) (nd 101 (lf 98 (.getfield 30, 101, 0, 0)) (lf 101 (.if_icmp .ge 49, 104, 150, 0)))) (nd 105 (lf 104 (.iconst 0, 105, 0, 0)) (nd 106 (lf 105 (.istore_n 3, 106, 0, 0)) (lf 106 (.iload_n 3, 107, 0, 0))))) (nd 113 (nd 109 (lf 107 (.bipush 16, 109, 0, 16)) (nd 112 (lf 109 (.if_icmp .ge 27, 112, 136, 0)) (lf 112 (.aload_n 0, 113, 0, 0)))) (nd 116 (lf 113 (.getfield 23, 116, 0, 0)) (nd 117 (lf 116 (.iload_n 3, 117, 0, 0)) (lf 117 (.aload_n 0, 118, 0, 0)))))) (nd 126 (nd 123 (nd 121 (lf 118 (.getfield 16, 121, 0, 0)) (nd 122 (lf 121 (.iload_n 2, 122, 0, 0)) (lf 122 (.iconst 4, 123, 0, 4)))) (nd 124 (lf 123 (.iload_n 3, 124, 0, 0)) (nd 125 (lf 124 (.imul, 125, 0, 0)) (lf 125 (.iadd, 126, 0, 0))))) (nd 133 (nd 129 (lf 126 (.invokevirtual 49, 129, 0, 0)) (nd 130 (lf 129 (.iastore, 130, 0, 0)) (lf 130 (.iinc 3 1, 133, 0, 1)))) (nd 137 (nd 136 (lf 133 (.goto (-27), 136, 106, 0)) (lf 136 (.aload_n 0, 137, 0, 0))) (nd 140 (lf 137 (.invokevirtual 53, 140, 0, 0)) (lf 140 (.aload_n 0, 141, 0, 0))))))) (nd 165 (nd 157 (nd 150 (nd 144 (lf 141 (.invokevirtual 56, 144, 0, 0)) (nd 147 (lf 144 (.iinc 2 64, 147, 0, 64)) (lf 147 (.goto (-54), 150, 93, 0)))) (nd 151 (lf 150 (.aload_n 0, 151, 0, 0)) (nd 154 (lf 151 (.getfield 20, 154, 0, 0)) (lf 154 (.invokevirtual 59, 157, 0, 0))))) (nd 160 (nd 158 (lf 157 (.iconst 0, 158, 0, 0)) (nd 159 (lf 158 (.istore_n 2, 159, 0, 0)) (lf 159 (.iload_n 2, 160, 0, 0)))) (nd 161 (lf 160 (.aload_n 0, 161, 0, 0)) (nd 164 (lf 161 (.getfield 27, 164, 0, 0)) (lf 164 (.arraylength, 165, 0, 0)))))) (nd 177 (nd 172 (nd 168 (lf 165 (.if_icmp .ge 22, 168, 187, 0)) (nd 169 (lf 168 (.aload_n 0, 169, 0, 0)) (lf 169 (.getfield 20, 172, 0, 0)))) (nd 173 (lf 172 (.aload_n 0, 173, 0, 0)) (nd 176 (lf 173 (.getfield 27, 176, 0, 0)) (lf 176 (.iload_n 2, 177, 0, 0))))) (nd 184 (nd 178 (lf 177 (.iaload, 178, 0, 0)) (nd 181 (lf 178 (.invokevirtual 37, 181, 0, 0)) (lf 181 (.iinc 2 1, 184, 0, 1)))) (nd 188 (nd 187 (lf 184 (.goto (-25), 187, 159, 0)) (lf 187 (.aload_n 0, 188, 0, 0))) (nd 191 (lf 188 (.getfield 20, 191, 0, 0)) (lf 191 (.areturn, 192, 0, 0)))))))))
theorem tX5_finish_ok : tAll (okC cX5_finish 4) tX5_finish := (nd_all (nd_all (nd_all (nd_all (nd_all (nd_all (lf_all (okD_ok (by decide +kernel))) (nd_all (lf_all (okD_ok (by decide +kernel))) (lf_all (okD_ok (by decide +kernel))))) (nd_all (lf_all (okD_ok (by decide +kernel))) (nd_all (lf_all (okD_ok (by decide +kernel))) (lf_all (okD_ok (by decide +kernel)))))) (nd_all (nd_all (lf_all (okD_ok (by decide +kernel))) (nd_all (lf_all (okD_ok (by decide +kernel))) (lf_all (okD_ok (by decide +kernel))))) (nd_all (lf_all (okD_ok (by decide +kernel))) (nd_all (lf_all (okD_ok (by decide +kernel))) (lf_all (okD_ok (by decide +kernel))))))) (nd_all (nd_all (nd_all (lf_all (okD_ok (by decide +kernel))) (nd_all (lf_all (okD_ok (by decide +kernel))) (lf_all (okD_ok (by decide +kernel))))) (nd_all (lf_all (okD_ok (by decide +kernel))) (nd_all (lf_all (okD_ok (by decide +kernel))) (lf_all (okD_ok (by decide +kernel)))))) (nd_all (nd_all (lf_all (okD_ok (by decide +kernel))) (nd_all (lf_all (okD_ok (by decide +kernel))) (lf_all (okD_ok (by decide +kernel))))) (nd_all (lf_all (okD_ok (by decide +kernel))) (nd_all (lf_all (okD_ok (by decide +kernel))) (lf_all (okD_ok (by decide +kernel)))))))) (nd_all (nd_all (nd_all (nd_all (lf_all (okD_ok (by decide +kernel))) (nd_all (lf_all (okD_ok (by decide +kernel))) (lf_all (okD_ok (by decide +kernel))))) (nd_all (lf_all (okD_ok (by decide +kernel))) (nd_all (lf_all (okD_ok (by decide +kernel))) (lf_all (okD_ok (by decide +kernel)))))) (nd_all (nd_all (lf_all (okD_ok (by decide +kernel))) (nd_all (lf_all (okD_ok (by decide +kernel))) (lf_all (okD_ok (by decide +kernel))))) (nd_all (lf_all (okD_ok (by decide +kernel))) (nd_all (lf_all (okD_ok (by decide +kernel))) (lf_all (okD_ok (by decide +kernel))))))) (nd_all (nd_all (nd_all (lf_all (okD_ok (by decide +kernel))) (nd_all (lf_all (okD_ok (by decide +kernel))) (lf_all (okD_ok (by decide +kernel))))) (nd_all (lf_all (okD_ok (by decide +kernel))) (nd_all (lf_all (okD_ok (by decide +kernel))) (lf_all (okD_ok (by decide +kernel)))))) (nd_all (nd_all (lf_all (okD_ok (by decide +kernel))) (nd_all (lf_all (okD_ok (by decide +kernel))) (lf_all (okD_ok (by decide +kernel))))) (nd_all (nd_all (lf_all (okD_ok (by decide +kernel))) (lf_all (okD_ok (by decide +kernel)))) (nd_all (lf_all (okD_ok (by decide +kernel))) (lf_all (okD_ok (by decide +kernel))))))))) (nd_all (nd_all (nd_all (nd_all (nd_all (lf_all (okD_ok (by decide +kernel))) (nd_all (lf_all (okD_ok (by decide +kernel))) (lf_all (okD_ok (by decide +kernel))))) (nd_all (lf_all (okD_ok (by decide +kernel))) (nd_all (lf_all (okD_ok (by decide +kernel))) (lf_all (okD_ok (by decide +kernel)))))) (nd_all (nd_all (lf_all (okD_ok (by decide +kernel))) (nd_all (lf_all (okD_ok (by decide +kernel))) (lf_all (okD_ok (by decide +kernel))))) (nd_all (lf_all (okD_ok (by decide +kernel))) (nd_all (lf_all (okD_ok (by decide +kernel))) (lf_all (okD_ok (by decide +kernel))))))) (nd_all (nd_all (nd_all (lf_all (okD_ok (by decide +kernel))) (nd_all (lf_all (okD_ok (by decide +kernel))) (lf_all (okD_ok (by decide +kernel))))) (nd_all (lf_all (okD_ok (by decide +kernel))) (nd_all (lf_all (okD_ok (by decide +kernel))) (lf_all (okD_ok (by decide +kernel)))))) (nd_all (nd_all (lf_all (okD_ok (by decide +kernel))) (nd_all (lf_all (okD_ok (by decide +kernel))) (lf_all (okD_ok (by decide +kernel))))) (nd_all (nd_all (lf_all (okD_ok (by decide +kernel))) (lf_all (okD_ok (by decide +kernel)))) (nd_all (lf_all (okD_ok (by decide +kernel))) (lf_all (okD_ok (by decide +kernel)))))))) (nd_all (nd_all (nd_all (nd_all (lf_all (okD_ok (by decide +kernel))) (nd_all (lf_all (okD_ok (by decide +kernel))) (lf_all (okD_ok (by decide +kernel))))) (nd_all (lf_all (okD_ok (by decide +kernel))) (nd_all (lf_all (okD_ok (by decide +kernel))) (lf_all (okD_ok (by decide +kernel)))))) (nd_all (nd_all (lf_all (okD_ok (by decide +kernel))) (nd_all (lf_all (okD_ok (by decide +kernel))) (lf_all (okD_ok (by decide +kernel))))) (nd_all (lf_all (okD_ok (by decide +kernel))) (nd_all (lf_all (okD_ok (by decide +kernel))) (lf_all (okD_ok (by decide +kernel))))))) (nd_all (nd_all (nd_all (lf_all (okD_ok (by decide +kernel))) (nd_all (lf_all (okD_ok (by decide +kernel))) (lf_all (okD_ok (by decide +kernel))))) (nd_all (lf_all (okD_ok (by decide +kernel))) (nd_all (lf_all (okD_ok (by decide +kernel))) (lf_all (okD_ok (by decide +kernel)))))) (nd_all (nd_all (lf_all (okD_ok (by decide +kernel))) (nd_all (lf_all (okD_ok (by decide +kernel))) (lf_all (okD_ok (by decide +kernel))))) (nd_all (nd_all (lf_all (okD_ok (by decide +kernel))) (lf_all (okD_ok (by decide +kernel)))) (nd_all (lf_all (okD_ok (by decide +kernel))) (lf_all (okD_ok (by decide +kernel))))))))))
def tX5_join : Nat → Option mE := (nd 21 (nd 11 (nd 4 (nd 1 (lf 0 (.aload_n 0, 1, 0, 0)) (lf 1 (.getfield 16, 4, 0, 0))) (nd 7 (lf 4 (.invokevirtual 59, 7, 0, 0)) (nd 8 (lf 7 (.aload_n 0, 8, 0, 0)) (lf 8 (.getfield 16, 11, 0, 0))))) (nd 16 (nd 12 (lf 11 (.iconst 1, 12, 0, 1)) (nd 15 (lf 12 (.invokevirtual 34, 15, 0, 0)) (lf 15 (.aload_n 0, 16, 0, 0)))) (nd 19 (lf 16 (.getfield 16, 19, 0, 0)) (nd 20 (lf 19 (.aload_n 1, 20, 0, 0)) (lf 20 (.iload_n 2, 21, 0, 0)))))) (nd 31 (nd 26 (nd 23 (lf 21 (.bipush 32, 23, 0, 32)) (lf 23 (.invokevirtual 62, 26, 0, 0))) (nd 27 (lf 26 (.aload_n 0, 27, 0, 0)) (nd 30 (lf 27 (.getfield 16, 30, 0, 0)) (lf 30 (.aload_n 3, 31, 0, 0))))) (nd 38 (nd 33 (lf 31 (.iload 4, 33, 0, 0)) (nd 35 (lf 33 (.bipush 32, 35, 0, 32)) (lf 35 (.invokevirtual 62, 38, 0, 0)))) (nd 39 (lf 38 (.aload_n 0, 39, 0, 0)) (nd 42 (lf 39 (.invokevirtual 66, 42, 0, 0)) (lf 42 (.areturn, 43, 0, 0)))))))
theorem tX5_join_ok : tAll (okC cX5_join 5) tX5_join := (nd_all (nd_all (nd_all (nd_all (lf_all (okD_ok (by decide +kernel))) (lf_all (okD_ok (by decide +kernel)))) (nd_all (lf_all (okD_ok (by decide +kernel))) (nd_all (lf_all (okD_ok (by decide +kernel))) (lf_all (okD_ok (by decide +kernel)))))) (nd_all (nd_all (lf_all (okD_ok (by decide +kernel))) (nd_all (lf_all (okD_ok (by decide +kernel))) (lf_all (okD_ok (by decide +kernel))))) (nd_all (lf_all (okD_ok (by decide +kernel))) (nd_all (lf_all (okD_ok (by decide +kernel))) (lf_all (okD_ok (by decide +kernel))))))) (nd_all (nd_all (nd_all (lf_all (okD_ok (by decide +kernel))) (lf_all (okD_ok (by decide +kernel)))) (nd_all (lf_all (okD_ok (by decide +kernel))) (nd_all (lf_all (okD_ok (by decide +kernel))) (lf_all (okD_ok (by decide +kernel)))))) (nd_all (nd_all (lf_all (okD_ok (by decide +kernel))) (nd_all (lf_all (okD_ok (by decide +kernel))) (lf_all (okD_ok (by decide +kernel))))) (nd_all (lf_all (okD_ok (by decide +kernel))) (nd_all (lf_all (okD_ok (by decide +kernel))) (lf_all (okD_ok (by decide +kernel))))))))
def tX5_stretch : Nat → Option mE := (nd 57 (nd 31 (nd 17 (nd 8 (nd 3 (nd 2 (lf 0 (.bipush 16, 2, 0, 16)) (lf 2 (.istore_n 1, 3, 0, 0))) (nd 4 (lf 3 (.iload_n 1, 4, 0, 0)) (nd 5 (lf 4 (.aload_n 0, 5, 0, 0)) (lf 5 (.getfield 23, 8, 0, 0))))) (nd 12 (nd 9 (lf 8 (.arraylength, 9, 0, 0)) (lf 9 (.if_icmp .ge 110, 12, 119, 0))) (nd 13 (lf 12 (.aload_n 0, 13, 0, 0)) (nd 16 (lf 13 (.getfield 23, 16, 0, 0)) (lf 16 (.iload_n 1, 17, 0, 0)))))) (nd 23 (nd 20 (nd 19 (lf 17 (.bipush 15, 19, 0, 15)) (lf 19 (.isub, 20, 0, 0))) (nd 21 (lf 20 (.iaload, 21, 0, 0)) (nd 22 (lf 21 (.istore_n 2, 22, 0, 0)) (lf 22 (.aload_n 0, 23, 0, 0))))) (nd 28 (nd 26 (lf 23 (.getfield 23, 26, 0, 0)) (nd 27 (lf 26 (.iload_n 1, 27, 0, 0)) (lf 27 (.iconst 2, 28, 0, 2)))) (nd 29 (lf 28 (.isub, 29, 0, 0)) (nd 30 (lf 29 (.iaload, 30, 0, 0)) (lf 30 (.istore_n 3, 31, 0, 0))))))) (nd 44 (nd 38 (nd 34 (nd 32 (lf 31 (.iload_n 2, 32, 0, 0)) (lf 32 (.bipush 7, 34, 0, 7))) (nd 35 (lf 34 (.iushr, 35, 0, 0)) (nd 36 (lf 35 (.iload_n 2, 36, 0, 0)) (lf 36 (.bipush 25, 38, 0, 25))))) (nd 40 (nd 39 (lf 38 (.ishl, 39, 0, 0)) (lf 39 (.ior, 40, 0, 0))) (nd 41 (lf 40 (.iload_n 2, 41, 0, 0)) (nd 43 (lf 41 (.bipush 18, 43, 0, 18)) (lf 43 (.iushr, 44, 0, 0)))))) (nd 50 (nd 47 (nd 45 (lf 44 (.iload_n 2, 45, 0, 0)) (lf 45 (.bipush 14, 47, 0, 14))) (nd 48 (lf 47 (.ishl, 48, 0, 0)) (nd 49 (lf 48 (.ior, 49, 0, 0)) (lf 49 (.ixor, 50, 0, 0))))) (nd 53 (nd 51 (lf 50 (.iload_n 2, 51, 0, 0)) (nd 52 (lf 51 (.iconst 3, 52, 0, 3)) (lf 52 (.iushr, 53, 0, 0)))) (nd 54 (lf 53 (.ixor, 54, 0, 0)) (nd 56 (lf 54 (.istore 4, 56, 0, 0)) (lf 56 (.iload_n 3, 57, 0, 0)))))))) (nd 86 (nd 70 (nd 64 (nd 60 (nd 59 (lf 57 (.bipush 17, 59, 0, 17)) (lf 59 (.iushr, 60, 0, 0))) (nd 61 (lf 60 (.iload_n 3, 61, 0, 0)) (nd 63 (lf 61 (.bipush 15, 63, 0, 15)) (lf 63 (.ishl, 64, 0, 0))))) (nd 66 (nd 65 (lf 64 (.ior, 65, 0, 0)) (lf 65 (.iload_n 3, 66, 0, 0))) (nd 68 (lf 66 (.bipush 19, 68, 0, 19)) (nd 69 (lf 68 (.iushr, 69, 0, 0)) (lf 69 (.iload_n 3, 70, 0, 0)))))) (nd 76 (nd 73 (nd 72 (lf 70 (.bipush 13, 72, 0, 13)) (lf 72 (.ishl, 73, 0, 0))) (nd 74 (lf 73 (.ior, 74, 0, 0)) (nd 75 (lf 74 (.ixor, 75, 0, 0)) (lf 75 (.iload_n 3, 76, 0, 0))))) (nd 80 (nd 78 (lf 76 (.bipush 10, 78, 0, 10)) (nd 79 (lf 78 (.iushr, 79, 0, 0)) (lf 79 (.ixor, 80, 0, 0)))) (nd 82 (lf 80 (.istore 5, 82, 0, 0)) (nd 83 (lf 82 (.aload_n 0, 83, 0, 0)) (lf 83 (.getfield 23, 86, 0, 0))))))) (nd 103 (nd 94 (nd 88 (nd 87 (lf 86 (.iload_n 1, 87, 0, 0)) (lf 87 (.aload_n 0, 88, 0, 0))) (nd 91 (lf 88 (.getfield 23, 91, 0, 0)) (nd 92 (lf 91 (.iload_n 1, 92, 0, 0)) (lf 92 (.bipush 16, 94, 0, 16))))) (nd 98 (nd 95 (lf 94 (.isub, 95, 0, 0)) (nd 96 (lf 95 (.iaload, 96, 0, 0)) (lf 96 (.iload 4, 98, 0, 0)))) (nd 99 (lf 98 (.iadd, 99, 0, 0)) (nd 100 (lf 99 (.aload_n 0, 100, 0, 0)) (lf 100 (.getfield 23, 103, 0, 0)))))) (nd 109 (nd 106 (nd 104 (lf 103 (.iload_n 1, 104, 0, 0)) (lf 104 (.bipush 7, 106, 0, 7))) (nd 107 (lf 106 (.isub, 107, 0, 0)) (nd 108 (lf 107 (.iaload, 108, 0, 0)) (lf 108 (.iadd, 109, 0, 0))))) (nd 113 (nd 111 (lf 109 (.iload 5, 111, 0, 0)) (nd 112 (lf 111 (.iadd, 112, 0, 0)) (lf 112 (.iastore, 113, 0, 0)))) (nd 116 (lf 113 (.iinc 1 1, 116, 0, 1)) (nd 119 (lf 116 (.goto (-113), 119, 3, 0)) (lf 119 (.return_, 120, 0, 0)))))))))
theorem tX5_stretch_ok : tAll (okC cX5_stretch 6) tX5_stretch := (nd_all (nd_all (nd_all (nd_all (nd_all (nd_all (lf_all (okD_ok (by decide +kernel))) (lf_all (okD_ok (by decide +kernel)))) (nd_all (lf_all (okD_ok (by decide +kernel))) (nd_all (lf_all (okD_ok (by decide +kernel))) (lf_all (okD_ok (by decide +kernel)))))) (nd_all (nd_all (lf_all (okD_ok (by decide +kernel))) (lf_all (okD_ok (by decide +kernel)))) (nd_all (lf_all (okD_ok (by decide +kernel))) (nd_all (lf_all (okD_ok (by decide +kernel))) (lf_all (okD_ok (by decide +kernel))))))) (nd_all (nd_all (nd_all (lf_all (okD_ok (by decide +kernel))) (lf_all (okD_ok (by decide +kernel)))) (nd_all (lf_all (okD_ok (by decide +kernel))) (nd_all (lf_all (okD_ok (by decide +kernel))) (lf_all (okD_ok (by decide +kernel)))))) (nd_all (nd_all (lf_all (okD_ok (by decide +kernel))) (nd_all (lf_all (okD_ok (by decide +kernel))) (lf_all (okD_ok (by decide +kernel))))) (nd_all (lf_all (okD_ok (by decide +kernel))) (nd_all (lf_all (okD_ok (by decide +kernel))) (lf_all (okD_ok (by decide +kernel)))))))) (nd_all (nd_all (nd_all (nd_all (lf_all (okD_ok (by decide +kernel))) (lf_all (okD_ok (by decide +kernel)))) (nd_all (lf_all (okD_ok (by decide +kernel))) (nd_all (lf_all (okD_ok (by decide +kernel))) (lf_all (okD_ok (by decide +kernel)))))) (nd_all (nd_all (lf_all (okD_ok (by decide +kernel))) (lf_all (okD_ok (by decide +kernel)))) (nd_all (lf_all (okD_ok (by decide +kernel))) (nd_all (lf_all (okD_ok (by decide +kernel))) (lf_all (okD_ok (by decide +kernel))))))) (nd_all (nd_all (nd_all (lf_all (okD_ok (by decide +kernel))) (lf_all (okD_ok (by decide +kernel)))) (nd_all (lf_all (okD_ok (by decide +kernel))) (nd_all (lf_all (okD_ok (by decide +kernel))) (lf_all (okD_ok (by decide +kernel)))))) (nd_all (nd_all (lf_all (okD_ok (by decide +kernel))) (nd_all (lf_all (okD_ok (by decide +kernel))) (lf_all (okD_ok (by decide +kernel))))) (nd_all (lf_all (okD_ok (by decide +kernel))) (nd_all (lf_all (okD_ok (by decide +kernel))) (lf_all (okD_ok (by decide +kernel))))))))) (nd_all (nd_all (nd_all (nd_all (nd_all (lf_all (okD_ok (by decide +kernel))) (lf_all (okD_ok (by decide +kernel)))) (nd_all (lf_all (okD_ok (by decide +kernel))) (nd_all (lf_all (okD_ok (by decide +kernel))) (lf_all (okD_ok (by decide +kernel)))))) (nd_all (nd_all (lf_all (okD_ok (by decide +kernel))) (lf_all (okD_ok (by decide +kernel)))) (nd_all (lf_all (okD_ok (by decide +kernel))) (nd_all (lf_all (okD_ok (by decide +kernel))) (lf_all (okD_ok (by decide +kernel))))))) (nd_all (nd_all (nd_all (lf_all (okD_ok (by decide +kernel))) (lf_all (okD_ok (by decide +kernel)))) (nd_all (lf_all (okD_ok (by decide +kernel))) (nd_all (lf_all (okD_ok (by decide +kernel))) (lf_all (okD_ok (by decide +kernel)))))) (nd_all (nd_all (lf_all (okD_ok (by decide +kernel))) (nd_all (lf_all (okD_ok (by decide +kernel))) (lf_all (okD_ok (by decide +kernel))))) (nd_all (lf_all (okD_ok (by decide +kernel))) (nd_all (lf_all (okD_ok (by decide +kernel))) (lf_all (okD_ok (by decide +kernel)))))))) (nd_all (nd_all (nd_all (nd_all (lf_all (okD_ok (by decide +kernel))) (lf_all (okD_ok (by decide +kernel)))) (nd_all (lf_all (okD_ok (by decide +kernel))) (nd_all (lf_all (okD_ok (by decide +kernel))) (lf_all (okD_ok (by decide +kernel)))))) (nd_all (nd_all (lf_all (okD_ok (by decide +kernel))) (nd_all (lf_all (okD_ok (by decide +kernel))) (lf_all (okD_ok (by decide +kernel))))) (nd_all (lf_all (okD_ok (by decide +kernel))) (nd_all (lf_all (okD_ok (by decide +kernel))) (lf_all (okD_ok (by decide +kernel))))))) (nd_all (nd_all (nd_all (lf_all (okD_ok (by decide +kernel))) (lf_all (okD_ok (by decide +kernel)))) (nd_all (lf_all (okD_ok (by decide +kernel))) (nd_all (lf_all (okD_ok (by decide +kernel))) (lf_all (okD_ok (by decide +kernel)))))) (nd_all (nd_all (lf_all (okD_ok (by decide +kernel))) (nd_all (lf_all (okD_ok (by decide +kernel))) (lf_all (okD_ok (by decide +kernel))))) (nd_all (lf_all (okD_ok (by decide +kernel))) (nd_all (lf_all (okD_ok (by decide +kernel))) (lf_all (okD_ok (by decide +kernel))))))))))
def tX5_mix : Nat → Option mE := (nd 167 (nd 87 (nd 41 (nd 19 (nd 8 (nd 5 (nd 1 (lf 0 (.aload_n 0, 1, 0, 0)) (nd 4 (lf 1 (.getfield 27, 4, 0, 0)) (lf 4 (.iconst 0, 5, 0, 0)))) (nd 6 (lf 5 (.iaload, 6, 0, 0)) (nd 7 (lf 6 (.istore_n 1, 7, 0, 0)) (lf 7 (.aload_n 0, 8, 0, 0))))) (nd 13 (nd 11 (lf 8 (.getfield 27, 11, 0, 0)) (nd 12 (lf 11 (.iconst 1, 12, 0, 1)) (lf 12 (.iaload, 13, 0, 0)))) (nd 15 (nd 14 (lf 13 (.istore_n 2, 14, 0, 0)) (lf 14 (.aload_n 0, 15, 0, 0))) (nd 18 (lf 15 (.getfield 27, 18, 0, 0)) (lf 18 (.iconst 2, 19, 0, 2)))))) (nd 29 (nd 22 (nd 20 (lf 19 (.iaload, 20, 0, 0)) (nd 21 (lf 20 (.istore_n 3, 21, 0, 0)) (lf 21 (.aload_n 0, 22, 0, 0)))) (nd 26 (nd 25 (lf 22 (.getfield 27, 25, 0, 0)) (lf 25 (.iconst 3, 26, 0, 3))) (nd 27 (lf 26 (.iaload, 27, 0, 0)) (lf 27 (.istore 4, 29, 0, 0))))) (nd 34 (nd 30 (lf 29 (.aload_n 0, 30, 0, 0)) (nd 33 (lf 30 (.getfield 27, 33, 0, 0)) (lf 33 (.iconst 4, 34, 0, 4)))) (nd 37 (nd 35 (lf 34 (.iaload, 35, 0, 0)) (lf 35 (.istore 5, 37, 0, 0))) (nd 38 (lf 37 (.aload_n 0, 38, 0, 0)) (lf 38 (.getfield 27, 41, 0, 0))))))) (nd 63 (nd 51 (nd 45 (nd 42 (lf 41 (.iconst 5, 42, 0, 5)) (nd 43 (lf 42 (.iaload, 43, 0, 0)) (lf 43 (.istore 6, 45, 0, 0)))) (nd 46 (lf 45 (.aload_n 0, 46, 0, 0)) (nd 49 (lf 46 (.getfield 27, 49, 0, 0)) (lf 49 (.bipush 6, 51, 0, 6))))) (nd 55 (nd 52 (lf 51 (.iaload, 52, 0, 0)) (nd 54 (lf 52 (.istore 7, 54, 0, 0)) (lf 54 (.aload_n 0, 55, 0, 0)))) (nd 60 (nd 58 (lf 55 (.getfield 27, 58, 0, 0)) (lf 58 (.bipush 7, 60, 0, 7))) (nd 61 (lf 60 (.iaload, 61, 0, 0)) (lf 61 (.istore 8, 63, 0, 0)))))) (nd 76 (nd 68 (nd 64 (lf 63 (.iconst 0, 64, 0, 0)) (nd 66 (lf 64 (.istore 9, 66, 0, 0)) (lf 66 (.iload 9, 68, 0, 0)))) (nd 72 (nd 69 (lf 68 (.aload_n 0, 69, 0, 0)) (lf 69 (.getfield 23, 72, 0, 0))) (nd 73 (lf 72 (.arraylength, 73, 0, 0)) (lf 73 (.if_icmp .ge 160, 76, 233, 0))))) (nd 81 (nd 78 (lf 76 (.iload 5, 78, 0, 0)) (nd 80 (lf 78 (.bipush 6, 80, 0, 6)) (lf 80 (.iushr, 81, 0, 0)))) (nd 85 (nd 83 (lf 81 (.iload 5, 83, 0, 0)) (lf 83 (.bipush 26, 85, 0, 26))) (nd 86 (lf 85 (.ishl, 86, 0, 0)) (lf 86 (.ior, 87, 0, 0)))))))) (nd 129 (nd 108 (nd 97 (nd 92 (nd 89 (lf 87 (.iload 5, 89, 0, 0)) (nd 91 (lf 89 (.bipush 11, 91, 0, 11)) (lf 91 (.iushr, 92, 0, 0)))) (nd 94 (lf 92 (.iload 5, 94, 0, 0)) (nd 96 (lf 94 (.bipush 21, 96, 0, 21)) (lf 96 (.ishl, 97, 0, 0))))) (nd 101 (nd 98 (lf 97 (.ior, 98, 0, 0)) (nd 99 (lf 98 (.ixor, 99, 0, 0)) (lf 99 (.iload 5, 101, 0, 0)))) (nd 104 (nd 103 (lf 101 (.bipush 25, 103, 0, 25)) (lf 103 (.iushr, 104, 0, 0))) (nd 106 (lf 104 (.iload 5, 106, 0, 0)) (lf 106 (.bipush 7, 108, 0, 7)))))) (nd 118 (nd 111 (nd 109 (lf 108 (.ishl, 109, 0, 0)) (nd 110 (lf 109 (.ior, 110, 0, 0)) (lf 110 (.ixor, 111, 0, 0)))) (nd 115 (nd 113 (lf 111 (.istore 10, 113, 0, 0)) (lf 113 (.iload 8, 115, 0, 0))) (nd 117 (lf 115 (.iload 10, 117, 0, 0)) (lf 117 (.iadd, 118, 0, 0))))) (nd 123 (nd 120 (lf 118 (.iload 5, 120, 0, 0)) (nd 122 (lf 120 (.iload 6, 122, 0, 0)) (lf 122 (.iand, 123, 0, 0)))) (nd 126 (nd 125 (lf 123 (.iload 5, 125, 0, 0)) (lf 125 (.iconst (-1), 126, 0, (-1)))) (nd 127 (lf 126 (.ixor, 127, 0, 0)) (lf 127 (.iload 7, 129, 0, 0))))))) (nd 150 (nd 139 (nd 132 (nd 130 (lf 129 (.iand, 130, 0, 0)) (nd 131 (lf 130 (.ixor, 131, 0, 0)) (lf 131 (.iadd, 132, 0, 0)))) (nd 137 (nd 135 (lf 132 (.getstatic 70, 135, 0, 0)) (lf 135 (.iload 9, 137, 0, 0))) (nd 138 (lf 137 (.iaload, 138, 0, 0)) (lf 138 (.iadd, 139, 0, 0))))) (nd 145 (nd 140 (lf 139 (.aload_n 0, 140, 0, 0)) (nd 143 (lf 140 (.getfield 23, 143, 0, 0)) (lf 143 (.iload 9, 145, 0, 0)))) (nd 147 (nd 146 (lf 145 (.iaload, 146, 0, 0)) (lf 146 (.iadd, 147, 0, 0))) (nd 149 (lf 147 (.istore 11, 149, 0, 0)) (lf 149 (.iload_n 1, 150, 0, 0)))))) (nd 158 (nd 153 (nd 151 (lf 150 (.iconst 2, 151, 0, 2)) (nd 152 (lf 151 (.iushr, 152, 0, 0)) (lf 152 (.iload_n 1, 153, 0, 0)))) (nd 156 (nd 155 (lf 153 (.bipush 30, 155, 0, 30)) (lf 155 (.ishl, 156, 0, 0))) (nd 157 (lf 156 (.ior, 157, 0, 0)) (lf 157 (.iload_n 1, 158, 0, 0))))) (nd 162 (nd 160 (lf 158 (.bipush 13, 160, 0, 13)) (nd 161 (lf 160 (.iushr, 161, 0, 0)) (lf 161 (.iload_n 1, 162, 0, 0)))) (nd 165 (nd 164 (lf 162 (.bipush 19, 164, 0, 19)) (lf 164 (.ishl, 165, 0, 0))) (nd 166 (lf 165 (.ior, 166, 0, 0)) (lf 166 (.ixor, 167, 0, 0))))))))) (nd 247 (nd 203 (nd 184 (nd 175 (nd 171 (nd 168 (lf 167 (.iload_n 1, 168, 0, 0)) (nd 170 (lf 168 (.bipush 22, 170, 0, 22)) (lf 170 (.iushr, 171, 0, 0)))) (nd 172 (lf 171 (.iload_n 1, 172, 0, 0)) (nd 174 (lf 172 (.bipush 10, 174, 0, 10)) (lf 174 (.ishl, 175, 0, 0))))) (nd 179 (nd 176 (lf 175 (.ior, 176, 0, 0)) (nd 177 (lf 176 (.ixor, 177, 0, 0)) (lf 177 (.istore 12, 179, 0, 0)))) (nd 182 (nd 181 (lf 179 (.iload 12, 181, 0, 0)) (lf 181 (.iload_n 1, 182, 0, 0))) (nd 183 (lf 182 (.iload_n 2, 183, 0, 0)) (lf 183 (.iand, 184, 0, 0)))))) (nd 191 (nd 187 (nd 185 (lf 184 (.iload_n 1, 185, 0, 0)) (nd 186 (lf 185 (.iload_n 3, 186, 0, 0)) (lf 186 (.iand, 187, 0, 0)))) (nd 189 (nd 188 (lf 187 (.ixor, 188, 0, 0)) (lf 188 (.iload_n 2, 189, 0, 0))) (nd 190 (lf 189 (.iload_n 3, 190, 0, 0)) (lf 190 (.iand, 191, 0, 0))))) (nd 195 (nd 192 (lf 191 (.ixor, 192, 0, 0)) (nd 193 (lf 192 (.iadd, 193, 0, 0)) (lf 193 (.istore 13, 195, 0, 0)))) (nd 199 (nd 197 (lf 195 (.iload 7, 197, 0, 0)) (lf 197 (.istore 8, 199, 0, 0))) (nd 201 (lf 199 (.iload 6, 201, 0, 0)) (lf 201 (.istore 7, 203, 0, 0))))))) (nd 225 (nd 215 (nd 209 (nd 205 (lf 203 (.iload 5, 205, 0, 0)) (nd 207 (lf 205 (.istore 6, 207, 0, 0)) (lf 207 (.iload 4, 209, 0, 0)))) (nd 212 (nd 211 (lf 209 (.iload 11, 211, 0, 0)) (lf 211 (.iadd, 212, 0, 0))) (nd 214 (lf 212 (.istore 5, 214, 0, 0)) (lf 214 (.iload_n 3, 215, 0, 0))))) (nd 219 (nd 217 (lf 215 (.istore 4, 217, 0, 0)) (nd 218 (lf 217 (.iload_n 2, 218, 0, 0)) (lf 218 (.istore_n 3, 219, 0, 0)))) (nd 221 (nd 220 (lf 219 (.iload_n 1, 220, 0, 0)) (lf 220 (.istore_n 2, 221, 0, 0))) (nd 223 (lf 221 (.iload 11, 223, 0, 0)) (lf 223 (.iload 13, 225, 0, 0)))))) (nd 238 (nd 230 (nd 226 (lf 225 (.iadd, 226, 0, 0)) (nd 227 (lf 226 (.istore_n 1, 227, 0, 0)) (lf 227 (.iinc 9 1, 230, 0, 1)))) (nd 234 (nd 233 (lf 230 (.goto (-164), 233, 66, 0)) (lf 233 (.aload_n 0, 234, 0, 0))) (nd 237 (lf 234 (.getfield 27, 237, 0, 0)) (lf 237 (.iconst 0, 238, 0, 0))))) (nd 241 (nd 239 (lf 238 (.dup2, 239, 0, 0)) (nd 240 (lf 239 (.iaload, 240, 0, 0)) (lf 240 (.iload_n 1, 241, 0, 0)))) (nd 243 (nd 242 (lf 241 (.iadd, 242, 0, 0)) (lf 242 (.iastore, 243, 0, 0))) (nd 244 (lf 243 (.aload_n 0, 244, 0, 0)) (lf 244 (.getfield 27, 247, 0, 0)))))))) (nd 281 (nd 262 (nd 253 (nd 250 (nd 248 (lf 247 (.iconst 1, 248, 0, 1)) (nd 249 (lf 248 (.dup2, 249, 0, 0)) (lf 249 (.iaload, 250, 0, 0)))) (nd 251 (lf 250 (.iload_n 2, 251, 0, 0)) (nd 252 (lf 251 (.iadd, 252, 0, 0)) (lf 252 (.iastore, 253, 0, 0))))) (nd 258 (nd 254 (lf 253 (.aload_n 0, 254, 0, 0)) (nd 257 (lf 254 (.getfield 27, 257, 0, 0)) (lf 257 (.iconst 2, 258, 0, 2)))) (nd 260 (nd 259 (lf 258 (.dup2, 259, 0, 0)) (lf 259 (.iaload, 260, 0, 0))) (nd 261 (lf 260 (.iload_n 3, 261, 0, 0)) (lf 261 (.iadd, 262, 0, 0)))))) (nd 272 (nd 267 (nd 263 (lf 262 (.iastore, 263, 0, 0)) (nd 264 (lf 263 (.aload_n 0, 264, 0, 0)) (lf 264 (.getfield 27, 267, 0, 0)))) (nd 269 (nd 268 (lf 267 (.iconst 3, 268, 0, 3)) (lf 268 (.dup2, 269, 0, 0))) (nd 270 (lf 269 (.iaload, 270, 0, 0)) (lf 270 (.iload 4, 272, 0, 0))))) (nd 275 (nd 273 (lf 272 (.iadd, 273, 0, 0)) (nd 274 (lf 273 (.iastore, 274, 0, 0)) (lf 274 (.aload_n 0, 275, 0, 0)))) (nd 279 (nd 278 (lf 275 (.getfield 27, 278, 0, 0)) (lf 278 (.iconst 4, 279, 0, 4))) (nd 280 (lf 279 (.dup2, 280, 0, 0)) (lf 280 (.iaload, 281, 0, 0))))))) (nd 302 (nd 291 (nd 285 (nd 283 (lf 281 (.iload 5, 283, 0, 0)) (nd 284 (lf 283 (.iadd, 284, 0, 0)) (lf 284 (.iastore, 285, 0, 0)))) (nd 289 (nd 286 (lf 285 (.aload_n 0, 286, 0, 0)) (lf 286 (.getfield 27, 289, 0, 0))) (nd 290 (lf 289 (.iconst 5, 290, 0, 5)) (lf 290 (.dup2, 291, 0, 0))))) (nd 295 (nd 292 (lf 291 (.iaload, 292, 0, 0)) (nd 294 (lf 292 (.iload 6, 294, 0, 0)) (lf 294 (.iadd, 295, 0, 0)))) (nd 297 (nd 296 (lf 295 (.iastore, 296, 0, 0)) (lf 296 (.aload_n 0, 297, 0, 0))) (nd 300 (lf 297 (.getfield 27, 300, 0, 0)) (lf 300 (.bipush 6, 302, 0, 6)))))) (nd 312 (nd 306 (nd 303 (lf 302 (.dup2, 303, 0, 0)) (nd 304 (lf 303 (.iaload, 304, 0, 0)) (lf 304 (.iload 7, 306, 0, 0)))) (nd 308 (nd 307 (lf 306 (.iadd, 307, 0, 0)) (lf 307 (.iastore, 308, 0, 0))) (nd 309 (lf 308 (.aload_n 0, 309, 0, 0)) (lf 309 (.getfield 27, 312, 0, 0))))) (nd 316 (nd 314 (lf 312 (.bipush 7, 314, 0, 7)) (nd 315 (lf 314 (.dup2, 315, 0, 0)) (lf 315 (.iaload, 316, 0, 0)))) (nd 319 (nd 318 (lf 316 (.iload 8, 318, 0, 0)) (lf 318 (.iadd, 319, 0, 0))) (nd 320 (lf 319 (.iastore, 320, 0, 0)) (lf 320 (.return_, 321, 0, 0))))))))))
theorem tX5_mix_ok : tAll (okC cX5_mix 14) tX5_mix := (nd_all (nd_all (nd_all (nd_all (nd_all (nd_all (nd_all (lf_all (okD_ok (by decide +kernel))) (nd_all (lf_all (okD_ok (by decide +kernel))) (lf_all (okD_ok (by decide +kernel))))) (nd_all (lf_all (okD_ok (by decide +kernel))) (nd_all (lf_all (okD_ok (by decide +kernel))) (lf_all (okD_ok (by decide +kernel)))))) (nd_all (nd_all (lf_all (okD_ok (by decide +kernel))) (nd_all (lf_all (okD_ok (by decide +kernel))) (lf_all (okD_ok (by decide +kernel))))) (nd_all (nd_all (lf_all (okD_ok (by decide +kernel))) (lf_all (okD_ok (by decide +kernel)))) (nd_all (lf_all (okD_ok (by decide +kernel))) (lf_all (okD_ok (by decide +kernel))))))) (nd_all (nd_all (nd_all (lf_all (okD_ok (by decide +kernel))) (nd_all (lf_all (okD_ok (by decide +kernel))) (lf_all (okD_ok (by decide +kernel))))) (nd_all (nd_all (lf_all (okD_ok (by decide +kernel))) (lf_all (okD_ok (by decide +kernel)))) (nd_all (lf_all (okD_ok (by decide +kernel))) (lf_all (okD_ok (by decide +kernel)))))) (nd_all (nd_all (lf_all (okD_ok (by decide +kernel))) (nd_all (lf_all (okD_ok (by decide +kernel))) (lf_all (okD_ok (by decide +kernel))))) (nd_all (nd_all (lf_all (okD_ok (by decide +kernel))) (lf_all (okD_ok (by decide +kernel)))) (nd_all (lf_all (okD_ok (by decide +kernel))) (lf_all (okD_ok (by decide +kernel)))))))) (nd_all (nd_all (nd_all (nd_all (lf_all (okD_ok (by decide +kernel))) (nd_all (lf_all (okD_ok (by decide +kernel))) (lf_all (okD_ok (by decide +kernel))))) (nd_all (lf_all (okD_ok (by decide +kernel))) (nd_all (lf_all (okD_ok (by decide +kernel))) (lf_all (okD_ok (by decide +kernel)))))) (nd_all (nd_all (lf_all (okD_ok (by decide +kernel))) (nd_all (lf_all (okD_ok (by decide +kernel))) (lf_all (okD_ok (by decide +kernel))))) (nd_all (nd_all (lf_all (okD_ok (by decide +kernel))) (lf_all (okD_ok (by decide +kernel)))) (nd_all (lf_all (okD_ok (by decide +kernel))) (lf_all (okD_ok (by decide +kernel))))))) (nd_all (nd_all (nd_all (lf_all (okD_ok (by decide +kernel))) (nd_all (lf_all (okD_ok (by decide +kernel))) (lf_all (okD_ok (by decide +kernel))))) (nd_all (nd_all (lf_all (okD_ok (by decide +kernel))) (lf_all (okD_ok (by decide +kernel)))) (nd_all (lf_all (okD_ok (by decide +kernel))) (lf_all (okD_ok (by decide +kernel)))))) (nd_all (nd_all (lf_all (okD_ok (by decide +kernel))) (nd_all (lf_all (okD_ok (by decide +kernel))) (lf_all (okD_ok (by decide +kernel))))) (nd_all (nd_all (lf_all (okD_ok (by decide +kernel))) (lf_all (okD_ok (by decide +kernel)))) (nd_all (lf_all (okD_ok (by decide +kernel))) (lf_all (okD_ok (by decide +kernel))))))))) (nd_all (nd_all (nd_all (nd_all (nd_all (lf_all (okD_ok (by decide +kernel))) (nd_all (lf_all (okD_ok (by decide +kernel))) (lf_all (okD_ok (by decide +kernel))))) (nd_all (lf_all (okD_ok (by decide +kernel))) (nd_all (lf_all (okD_ok (by decide +kernel))) (lf_all (okD_ok (by decide +kernel)))))) (nd_all (nd_all (lf_all (okD_ok (by decide +kernel))) (nd_all (lf_all (okD_ok (by decide +kernel))) (lf_all (okD_ok (by decide +kernel))))) (nd_all (nd_all (lf_all (okD_ok (by decide +kernel))) (lf_all (okD_ok (by decide +kernel)))) (nd_all (lf_all (okD_ok (by decide +kernel))) (lf_all (okD_ok (by decide +kernel))))))) (nd_all (nd_all (nd_all (lf_all (okD_ok (by decide +kernel))) (nd_all (lf_all (okD_ok (by decide +kernel))) (lf_all (okD_ok (by decide +kernel))))) (nd_all (nd_all (lf_all (okD_ok (by decide +kernel))) (lf_all (okD_ok (by decide +kernel)))) (nd_all (lf_all (okD_ok (by decide +kernel))) (lf_all (okD_ok (by decide +kernel)))))) (nd_all (nd_all (lf_all (okD_ok (by decide +kernel))) (nd_all (lf_all (okD_ok (by decide +kernel))) (lf_all (okD_ok (by decide +kernel))))) (nd_all (nd_all (lf_all (okD_ok (by decide +kernel))) (lf_all (okD_ok (by decide +kernel)))) (nd_all (lf_all (okD_ok (by decide +kernel))) (lf_all (okD_ok (by decide +kernel)))))))) (nd_all (nd_all (nd_all (nd_all (lf_all (okD_ok (by decide +kernel))) (nd_all (lf_all (okD_ok (by decide +kernel))) (lf_all (okD_ok (by decide +kernel))))) (nd_all (nd_all (lf_all (okD_ok (by decide +kernel))) (lf_all (okD_ok (by decide +kernel)))) (nd_all (lf_all (okD_ok (by decide +kernel))) (lf_all (okD_ok (by decide +kernel)))))) (nd_all (nd_all (lf_all (okD_ok (by decide +kernel))) (nd_all (lf_all (okD_ok (by decide +kernel))) (lf_all (okD_ok (by decide +kernel))))) (nd_all (nd_all (lf_all (okD_ok (by decide +kernel))) (lf_all (okD_ok (by decide +kernel)))) (nd_all (lf_all (okD_ok (by decide +kernel))) (lf_all (okD_ok (by decide +kernel))))))) (nd_all (nd_all (nd_all (lf_all (okD_ok (by decide +kernel))) (nd_all (lf_all (okD_ok (by decide +kernel))) (lf_all (okD_ok (by decide +kernel))))) (nd_all (nd_all (lf_all (okD_ok (by decide +kernel))) (lf_all (okD_ok (by decide +kernel)))) (nd_all (lf_all (okD_ok (by decide +kernel))) (lf_all (okD_ok (by decide +kernel)))))) (nd_all (nd_all (lf_all (okD_ok (by decide +kernel))) (nd_all (lf_all (okD_ok (by decide +kernel))) (lf_all (okD_ok (by decide +kernel))))) (nd_all (nd_all (lf_all (okD_ok (by decide +kernel))) (lf_all (okD_ok (by decide +kernel)))) (nd_all (lf_all (okD_ok (by decide +kernel))) (lf_all (okD_ok (by decide +kernel)))))))))) (nd_all (nd_all (nd_all (nd_all (nd_all (nd_all (lf_all (okD_ok (by decide +kernel))) (nd_all (lf_all (okD_ok (by decide +kernel))) (lf_all (okD_ok (by decide +kernel))))) (nd_all (lf_all (okD_ok (by decide +kernel))) (nd_all (lf_all (okD_ok (by decide +kernel))) (lf_all (okD_ok (by decide +kernel)))))) (nd_all (nd_all (lf_all (okD_ok (by decide +kernel))) (nd_all (lf_all (okD_ok (by decide +kernel))) (lf_all (okD_ok (by decide +kernel))))) (nd_all (nd_all (lf_all (okD_ok (by decide +kernel))) (lf_all (okD_ok (by decide +kernel)))) (nd_all (lf_all (okD_ok (by decide +kernel))) (lf_all (okD_ok (by decide +kernel))))))) (nd_all (nd_all (nd_all (lf_all (okD_ok (by decide +kernel))) (nd_all (lf_all (okD_ok (by decide +kernel))) (lf_all (okD_ok (by decide +kernel))))) (nd_all (nd_all (lf_all (okD_ok (by decide +kernel))) (lf_all (okD_ok (by decide +kernel)))) (nd_all (lf_all (okD_ok (by decide +kernel))) (lf_all (okD_ok (by decide +kernel)))))) (nd_all (nd_all (lf_all (okD_ok (by decide +kernel))) (nd_all (lf_all (okD_ok (by decide +kernel))) (lf_all (okD_ok (by decide +kernel))))) (nd_all (nd_all (lf_all (okD_ok (by decide +kernel))) (lf_all (okD_ok (by decide +kernel)))) (nd_all (lf_all (okD_ok (by decide +kernel))) (lf_all (okD_ok (by decide +kernel)))))))) (nd_all (nd_all (nd_all (nd_all (lf_all (okD_ok (by decide +kernel))) (nd_all (lf_all (okD_ok (by decide +kernel))) (lf_all (okD_ok (by decide +kernel))))) (nd_all (nd_all (lf_all (okD_ok (by decide +kernel))) (lf_all (okD_ok (by decide +kernel)))) (nd_all (lf_all (okD_ok (by decide +kernel))) (lf_all (okD_ok (by decide +kernel)))))) (nd_all (nd_all (lf_all (okD_ok (by decide +kernel))) (nd_all (lf_all (okD_ok (by decide +kernel))) (lf_all (okD_ok (by decide +kernel))))) (nd_all (nd_all (lf_all (okD_ok (by decide +kernel))) (lf_all (okD_ok (by decide +kernel)))) (nd_all (lf_all (okD_ok (by decide +kernel))) (lf_all (okD_ok (by decide +kernel))))))) (nd_all (nd_all (nd_all (lf_all (okD_ok (by decide +kernel))) (nd_all (lf_all (okD_ok (by decide +kernel))) (lf_all (okD_ok (by decide +kernel))))) (nd_all (nd_all (lf_all (okD_ok (by decide +kernel))) (lf_all (okD_ok (by decide +kernel)))) (nd_all (lf_all (okD_ok (by decide +kernel))) (lf_all (okD_ok (by decide +kernel)))))) (nd_all (nd_all (lf_all (okD_ok (by decide +kernel))) (nd_all (lf_all (okD_ok (by decide +kernel))) (lf_all (okD_ok (by decide +kernel))))) (nd_all (nd_all (lf_all (okD_ok (by decide +kernel))) (lf_all (okD_ok (by decide +kernel)))) (nd_all (lf_all (okD_ok (by decide +kernel))) (lf_all (okD_ok (by decide +kernel))))))))) (nd_all (nd_all (nd_all (nd_all (nd_all (lf_all (okD_ok (by decide +kernel))) (nd_all (lf_all (okD_ok (by decide +kernel))) (lf_all (okD_ok (by decide +kernel))))) (nd_all (lf_all (okD_ok (by decide +kernel))) (nd_all (lf_all (okD_ok (by decide +kernel))) (lf_all (okD_ok (by decide +kernel)))))) (nd_all (nd_all (lf_all (okD_ok (by decide +kernel))) (nd_all (lf_all (okD_ok (by decide +kernel))) (lf_all (okD_ok (by decide +kernel))))) (nd_all (nd_all (lf_all (okD_ok (by decide +kernel))) (lf_all (okD_ok (by decide +kernel)))) (nd_all (lf_all (okD_ok (by decide +kernel))) (lf_all (okD_ok (by decide +kernel))))))) (nd_all (nd_all (nd_all (lf_all (okD_ok (by decide +kernel))) (nd_all (lf_all (okD_ok (by decide +kernel))) (lf_all (okD_ok (by decide +kernel))))) (nd_all (nd_all (lf_all (okD_ok (by decide +kernel))) (lf_all (okD_ok (by decide +kernel)))) (nd_all (lf_all (okD_ok (by decide +kernel))) (lf_all (okD_ok (by decide +kernel)))))) (nd_all (nd_all (lf_all (okD_ok (by decide +kernel))) (nd_all (lf_all (okD_ok (by decide +kernel))) (lf_all (okD_ok (by decide +kernel))))) (nd_all (nd_all (lf_all (okD_ok (by decide +kernel))) (lf_all (okD_ok (by decide +kernel)))) (nd_all (lf_all (okD_ok (by decide +kernel))) (lf_all (okD_ok (by decide +kernel)))))))) (nd_all (nd_all (nd_all (nd_all (lf_all (okD_ok (by decide +kernel))) (nd_all (lf_all (okD_ok (by decide +kernel))) (lf_all (okD_ok (by decide +kernel))))) (nd_all (nd_all (lf_all (okD_ok (by decide +kernel))) (lf_all (okD_ok (by decide +kernel)))) (nd_all (lf_all (okD_ok (by decide +kernel))) (lf_all (okD_ok (by decide +kernel)))))) (nd_all (nd_all (lf_all (okD_ok (by decide +kernel))) (nd_all (lf_all (okD_ok (by decide +kernel))) (lf_all (okD_ok (by decide +kernel))))) (nd_all (nd_all (lf_all (okD_ok (by decide +kernel))) (lf_all (okD_ok (by decide +kernel)))) (nd_all (lf_all (okD_ok (by decide +kernel))) (lf_all (okD_ok (by decide +kernel))))))) (nd_all (nd_all (nd_all (lf_all (okD_ok (by decide +kernel))) (nd_all (lf_all (okD_ok (by decide +kernel))) (lf_all (okD_ok (by decide +kernel))))) (nd_all (nd_all (lf_all (okD_ok (by decide +kernel))) (lf_all (okD_ok (by decide +kernel)))) (nd_all (lf_all (okD_ok (by decide +kernel))) (lf_all (okD_ok (by decide +kernel)))))) (nd_all (nd_all (lf_all (okD_ok (by decide +kernel))) (nd_all (lf_all (okD_ok (by decide +kernel))) (lf_all (okD_ok (by decide +kernel))))) (nd_all (nd_all (lf_all (okD_ok (by decide +kernel))) (lf_all (okD_ok (by decide +kernel)))) (nd_all (lf_all (okD_ok (by decide +kernel))) (lf_all (okD_ok (by decide +kernel)))))))))))
def tX6_init : Nat → Option mE := (nd 30 (nd 15 (nd 7 (nd 4 (nd 1 (lf 0 (.aload_n 0, 1, 0, 0)) (lf 1 (.invokespecial 3, 4, 0, 0))) (nd 5 (lf 4 (.aload_n 0, 5, 0, 0)) (lf 5 (.bipush 80, 7, 0, 80)))) (nd 12 (nd 9 (lf 7 (.newarray .int, 9, 0, 0)) (lf 9 (.putfield 11, 12, 0, 0))) (nd 13 (lf 12 (.aload_n 0, 13, 0, 0)) (lf 13 (.bipush 7, 15, 0, 7))))) (nd 23 (nd 21 (nd 18 (lf 15 (.anewarray 15, 18, 0, 0)) (lf 18 (.putfield 17, 21, 0, 0))) (nd 22 (lf 21 (.iconst 0, 22, 0, 0)) (lf 22 (.istore_n 1, 23, 0, 0)))) (nd 26 (nd 24 (lf 23 (.iload_n 1, 24, 0, 0)) (lf 24 (.bipush 7, 26, 0, 7))) (nd 29 (lf 26 (.if_icmp .ge 29, 29, 55, 0)) (lf 29 (.aload_n 0, 30, 0, 0)))))) (nd 44 (nd 38 (nd 34 (nd 33 (lf 30 (.getfield 17, 33, 0, 0)) (lf 33 (.iload_n 1, 34, 0, 0))) (nd 37 (lf 34 (.new 15, 37, 0, 0)) (lf 37 (.dup, 38, 0, 0)))) (nd 41 (nd 40 (lf 38 (.bipush 80, 40, 0, 80)) (lf 40 (.iload_n 1, 41, 0, 0))) (nd 42 (lf 41 (.ishr, 42, 0, 0)) (lf 42 (.bipush 32, 44, 0, 32))))) (nd 52 (nd 48 (nd 45 (lf 44 (.imul, 45, 0, 0)) (lf 45 (.invokespecial 21, 48, 0, 0))) (nd 49 (lf 48 (.aastore, 49, 0, 0)) (lf 49 (.iinc 1 1, 52, 0, 1)))) (nd 56 (nd 55 (lf 52 (.goto (-29), 55, 23, 0)) (lf 55 (.aload_n 0, 56, 0, 0))) (nd 57 (lf 56 (.iconst 0, 57, 0, 0)) (nd 60 (lf 57 (.putfield 24, 60, 0, 0)) (lf 60 (.return_, 61, 0, 0))))))))
theorem tX6_init_ok : tAll (okC cX6_init 2) tX6_init := (nd_all (nd_all (nd_all (nd_all (nd_all (lf_all (okD_ok (by decide +kernel))) (lf_all (okD_ok (by decide +kernel)))) (nd_all (lf_all (okD_ok (by decide +kernel))) (lf_all (okD_ok (by decide +kernel))))) (nd_all (nd_all (lf_all (okD_ok (by decide +kernel))) (lf_all (okD_ok (by decide +kernel)))) (nd_all (lf_all (okD_ok (by decide +kernel))) (lf_all (okD_ok (by decide +kernel)))))) (nd_all (nd_all (nd_all (lf_all (okD_ok (by decide +kernel))) (lf_all (okD_ok (by decide +kernel)))) (nd_all (lf_all (okD_ok (by decide +kernel))) (lf_all (okD_ok (by decide +kernel))))) (nd_all (nd_all (lf_all (okD_ok (by decide +kernel))) (lf_all (okD_ok (by decide +kernel)))) (nd_all (lf_all (okD_ok (by decide +kernel))) (lf_all (okD_ok (by decide +kernel))))))) (nd_all (nd_all (nd_all (nd_all (lf_all (okD_ok (by decide +kernel))) (lf_all (okD_ok (by decide +kernel)))) (nd_all (lf_all (okD_ok (by decide +kernel))) (lf_all (okD_ok (by decide +kernel))))) (nd_all (nd_all (lf_all (okD_ok (by decide +kernel))) (lf_all (okD_ok (by decide +kernel)))) (nd_all (lf_all (okD_ok (by decide +kernel))) (lf_all (okD_ok (by decide +kernel)))))) (nd_all (nd_all (nd_all (lf_all (okD_ok (by decide +kernel))) (lf_all (okD_ok (by decide +kernel)))) (nd_all (lf_all (okD_ok (by decide +kernel))) (lf_all (okD_ok (by decide +kernel))))) (nd_all (nd_all (lf_all (okD_ok (by decide +kernel))) (lf_all (okD_ok (by decide +kernel)))) (nd_all (lf_all (okD_ok (by decide +kernel))) (nd_all (lf_all (okD_ok (by decide +kernel))) (lf_all (okD_ok (by decide +kernel)))))))))
def tX6_isFull : Nat → Option mE := (nd 9 (nd 4 (nd 1 (lf 0 (.aload_n 0, 1, 0, 0)) (lf 1 (.getfield 24, 4, 0, 0))) (nd 6 (lf 4 (.bipush 80, 6, 0, 80)) (lf 6 (.if_icmp .lt 7, 9, 13, 0)))) (nd 13 (nd 10 (lf 9 (.iconst 1, 10, 0, 1)) (lf 10 (.goto 4, 13, 14, 0))) (nd 14 (lf 13 (.iconst 0, 14, 0, 0)) (lf 14 (.ireturn, 15, 0, 0)))))
theorem tX6_isFull_ok : tAll (okC cX6_isFull 1) tX6_isFull := (nd_all (nd_all (nd_all (lf_all (okD_ok (by decide +kernel))) (lf_all (okD_ok (by decide +kernel)))) (nd_all (lf_all (okD_ok (by decide +kernel))) (lf_all (okD_ok (by decide +kernel))))) (nd_all (nd_all (lf_all (okD_ok (by decide +kernel))) (lf_all (okD_ok (by decide +kernel)))) (nd_all (lf_all (okD_ok (by decide +kernel))) (lf_all (okD_ok (by decide +kernel))))))
def tX6_leafAt : Nat → Option mE := (nd 12 (nd 5 (nd 1 (lf 0 (.iload_n 1, 1, 0, 0)) (nd 4 (lf 1 (.ifCond .lt 20, 4, 21, 0)) (lf 4 (.iload_n 1, 5, 0, 0)))) (nd 6 (lf 5 (.aload_n 0, 6, 0, 0)) (nd 9 (lf 6 (.getfield 24, 9, 0, 0)) (lf 9 (.if_icmp .ge 12, 12, 21, 0))))) (nd 17 (nd 13 (lf 12 (.aload_n 0, 13, 0, 0)) (nd 16 (lf 13 (.getfield 11, 16, 0, 0)) (lf 16 (.iload_n 1, 17, 0, 0)))) (nd 21 (nd 18 (lf 17 (.iaload, 18, 0, 0)) (lf 18 (.goto 4, 21, 22, 0))) (nd 22 (lf 21 (.iconst 0, 22, 0, 0)) (lf 22 (.ireturn, 23, 0, 0))))))
theorem tX6_leafAt_ok : tAll (okC cX6_leafAt 2) tX6_leafAt := (nd_all (nd_all (nd_all (lf_all (okD_ok (by decide +kernel))) (nd_all (lf_all (okD_ok (by decide +kernel))) (lf_all (okD_ok (by decide +kernel))))) (nd_all (lf_all (okD_ok (by decide +kernel))) (nd_all (lf_all (okD_ok (by decide +kernel))) (lf_all (okD_ok (by decide +kernel)))))) (nd_all (nd_all (lf_all (okD_ok (by decide +kernel))) (nd_all (lf_all (okD_ok (by decide +kernel))) (lf_all (okD_ok (by decide +kernel))))) (nd_all (nd_all (lf_all (okD_ok (by decide +kernel))) (lf_all (okD_ok (by decide +kernel)))) (nd_all (lf_all (okD_ok (by decide +kernel))) (lf_all (okD_ok (by decide +kernel)))))))
def tX6_addLeaf : Nat → Option mE := (nd 72 (nd 37 (nd 19 (nd 10 (nd 4 (nd 1 (lf 0 (.aload_n 0, 1, 0, 0)) (lf 1 (.getfield 24, 4, 0, 0))) (nd 6 (lf 4 (.bipush 80, 6, 0, 80)) (nd 9 (lf 6 (.if_icmp .lt 4, 9, 10, 0)) (lf 9 (.return_, 10, 0, 0))))) (nd 14 (nd 11 (lf 10 (.aload_n 0, 11, 0, 0)) (lf 11 (.getfield 11, 14, 0, 0))) (nd 15 (lf 14 (.aload_n 0, 15, 0, 0)) (nd 18 (lf 15 (.getfield 24, 18, 0, 0)) (lf 18 (.iload_n 2, 19, 0, 0)))))) (nd 26 (nd 21 (nd 20 (lf 19 (.iastore, 20, 0, 0)) (lf 20 (.aload_n 0, 21, 0, 0))) (nd 22 (lf 21 (.dup, 22, 0, 0)) (nd 25 (lf 22 (.getfield 24, 25, 0, 0)) (lf 25 (.iconst 1, 26, 0, 1))))) (nd 30 (nd 27 (lf 26 (.iadd, 27, 0, 0)) (lf 27 (.putfield 24, 30, 0, 0))) (nd 31 (lf 30 (.aload_n 1, 31, 0, 0)) (nd 34 (lf 31 (.getfield 28, 34, 0, 0)) (lf 34 (.invokevirtual 34, 37, 0, 0))))))) (nd 57 (nd 46 (nd 41 (nd 38 (lf 37 (.aload_n 1, 38, 0, 0)) (lf 38 (.getfield 28, 41, 0, 0))) (nd 42 (lf 41 (.iconst 0, 42, 0, 0)) (nd 45 (lf 42 (.invokevirtual 37, 45, 0, 0)) (lf 45 (.aload_n 1, 46, 0, 0))))) (nd 50 (nd 49 (lf 46 (.getfield 28, 49, 0, 0)) (lf 49 (.iload_n 2, 50, 0, 0))) (nd 53 (lf 50 (.invokevirtual 40, 53, 0, 0)) (nd 54 (lf 53 (.aload_n 0, 54, 0, 0)) (lf 54 (.getfield 17, 57, 0, 0)))))) (nd 64 (nd 59 (nd 58 (lf 57 (.iconst 0, 58, 0, 0)) (lf 58 (.aaload, 59, 0, 0))) (nd 60 (lf 59 (.aload_n 1, 60, 0, 0)) (nd 63 (lf 60 (.invokevirtual 43, 63, 0, 0)) (lf 63 (.iconst 0, 64, 0, 0))))) (nd 69 (nd 66 (lf 64 (.bipush 32, 66, 0, 32)) (lf 66 (.invokevirtual 47, 69, 0, 0))) (nd 70 (lf 69 (.iconst 1, 70, 0, 1)) (nd 71 (lf 70 (.istore_n 3, 71, 0, 0)) (lf 71 (.iload_n 3, 72, 0, 0)))))))) (nd 106 (nd 89 (nd 82 (nd 77 (nd 74 (lf 72 (.bipush 7, 74, 0, 7)) (lf 74 (.if_icmp .ge 70, 77, 144, 0))) (nd 78 (lf 77 (.aload_n 0, 78, 0, 0)) (nd 81 (lf 78 (.getfield 24, 81, 0, 0)) (lf 81 (.iconst 1, 82, 0, 1))))) (nd 84 (nd 83 (lf 82 (.iload_n 3, 83, 0, 0)) (lf 83 (.ishl, 84, 0, 0))) (nd 85 (lf 84 (.irem, 85, 0, 0)) (nd 88 (lf 85 (.ifCond .ne 59, 88, 144, 0)) (lf 88 (.aload_n 0, 89, 0, 0)))))) (nd 96 (nd 93 (nd 92 (lf 89 (.getfield 17, 92, 0, 0)) (lf 92 (.iload_n 3, 93, 0, 0))) (nd 94 (lf 93 (.iconst 1, 94, 0, 1)) (nd 95 (lf 94 (.isub, 95, 0, 0)) (lf 95 (.aaload, 96, 0, 0))))) (nd 99 (nd 98 (lf 96 (.astore 4, 98, 0, 0)) (lf 98 (.aload_n 1, 99, 0, 0))) (nd 101 (lf 99 (.aload 4, 101, 0, 0)) (nd 103 (lf 101 (.aload 4, 103, 0, 0)) (lf 103 (.getfield 51, 106, 0, 0))))))) (nd 125 (nd 116 (nd 109 (nd 108 (lf 106 (.bipush 64, 108, 0, 64)) (lf 108 (.isub, 109, 0, 0))) (nd 111 (lf 109 (.aload 4, 111, 0, 0)) (nd 113 (lf 111 (.aload 4, 113, 0, 0)) (lf 113 (.getfield 51, 116, 0, 0))))) (nd 119 (nd 118 (lf 116 (.bipush 32, 118, 0, 32)) (lf 118 (.isub, 119, 0, 0))) (nd 122 (lf 119 (.invokevirtual 54, 122, 0, 0)) (nd 124 (lf 122 (.astore 5, 124, 0, 0)) (lf 124 (.aload_n 0, 125, 0, 0)))))) (nd 133 (nd 129 (nd 128 (lf 125 (.getfield 17, 128, 0, 0)) (lf 128 (.iload_n 3, 129, 0, 0))) (nd 130 (lf 129 (.aaload, 130, 0, 0)) (nd 132 (lf 130 (.aload 5, 132, 0, 0)) (lf 132 (.iconst 0, 133, 0, 0))))) (nd 138 (nd 135 (lf 133 (.bipush 32, 135, 0, 32)) (lf 135 (.invokevirtual 47, 138, 0, 0))) (nd 141 (lf 138 (.iinc 3 1, 141, 0, 1)) (nd 144 (lf 141 (.goto (-70), 144, 71, 0)) (lf 144 (.return_, 145, 0, 0)))))))))
theorem tX6_addLeaf_ok : tAll (okC cX6_addLeaf 6) tX6_addLeaf := (nd_all (nd_all (nd_all (nd_all (nd_all (nd_all (lf_all (okD_ok (by decide +kernel))) (lf_all (okD_ok (by decide +kernel)))) (nd_all (lf_all (okD_ok (by decide +kernel))) (nd_all (lf_all (okD_ok (by decide +kernel))) (lf_all (okD_ok (by decide +kernel)))))) (nd_all (nd_all (lf_all (okD_ok (by decide +kernel))) (lf_all (okD_ok (by decide +kernel)))) (nd_all (lf_all (okD_ok (by decide +kernel))) (nd_all (lf_all (okD_ok (by decide +kernel))) (lf_all (okD_ok (by decide +kernel))))))) (nd_all (nd_all (nd_all (lf_all (okD_ok (by decide +kernel))) (lf_all (okD_ok (by decide +kernel)))) (nd_all (lf_all (okD_ok (by decide +kernel))) (nd_all (lf_all (okD_ok (by decide +kernel))) (lf_all (okD_ok (by decide +kernel)))))) (nd_all (nd_all (lf_all (okD_ok (by decide +kernel))) (lf_all (okD_ok (by decide +kernel)))) (nd_all (lf_all (okD_ok (by decide +kernel))) (nd_all (lf_all (okD_ok (by decide +kernel))) (lf_all (okD_ok (by decide +kernel)))))))) (nd_all (nd_all (nd_all (nd_all (lf_all (okD_ok (by decide +kernel))) (lf_all (okD_ok (by decide +kernel)))) (nd_all (lf_all (okD_ok (by decide +kernel))) (nd_all (lf_all (okD_ok (by decide +kernel))) (lf_all (okD_ok (by decide +kernel)))))) (nd_all (nd_all (lf_all (okD_ok (by decide +kernel))) (lf_all (okD_ok (by decide +kernel)))) (nd_all (lf_all (okD_ok (by decide +kernel))) (nd_all (lf_all (okD_ok (by decide +kernel))) (lf_all (okD_ok (by decide +kernel))))))) (nd_all (nd_all (nd_all (lf_all (okD_ok (by decide +kernel))) (lf_all (okD_ok (by decide +kernel)))) (nd_all (lf_all (okD_ok (by decide +kernel))) (nd_all (lf_all (okD_ok (by decide +kernel))) (lf_all (okD_ok (by decide +kernel)))))) (nd_all (nd_all (lf_all (okD_ok (by decide +kernel))) (lf_all (okD_ok (by decide +kernel)))) (nd_all (lf_all (okD_ok (by decide +kernel))) (nd_all (lf_all (okD_ok (by decide +kernel))) (lf_all (okD_ok (by decide +kernel))))))))) (nd_all (nd_all (nd_all (nd_all (nd_all (lf_all (okD_ok (by decide +kernel))) (lf_all (okD_ok (by decide +kernel)))) (nd_all (lf_all (okD_ok (by decide +kernel))) (nd_all (lf_all (okD_ok (by decide +kernel))) (lf_all (okD_ok (by decide +kernel)))))) (nd_all (nd_all (lf_all (okD_ok (by decide +kernel))) (lf_all (okD_ok (by decide +kernel)))) (nd_all (lf_all (okD_ok (by decide +kernel))) (nd_all (lf_all (okD_ok (by decide +kernel))) (lf_all (okD_ok (by decide +kernel))))))) (nd_all (nd_all (nd_all (lf_all (okD_ok (by decide +kernel))) (lf_all (okD_ok (by decide +kernel)))) (nd_all (lf_all (okD_ok (by decide +kernel))) (nd_all (lf_all (okD_ok (by decide +kernel))) (lf_all (okD_ok (by decide +kernel)))))) (nd_all (nd_all (lf_all (okD_ok (by decide +kernel))) (lf_all (okD_ok (by decide +kernel)))) (nd_all (lf_all (okD_ok (by decide +kernel))) (nd_all (lf_all (okD_ok (by decide +kernel))) (lf_all (okD_ok (by decide +kernel)))))))) (nd_all (nd_all (nd_all (nd_all (lf_all (okD_ok (by decide +kernel))) (lf_all (okD_ok (by decide +kernel)))) (nd_all (lf_all (okD_ok (by decide +kernel))) (nd_all (lf_all (okD_ok (by decide +kernel))) (lf_all (okD_ok (by decide +kernel)))))) (nd_all (nd_all (lf_all (okD_ok (by decide +kernel))) (lf_all (okD_ok (by decide +kernel)))) (nd_all (lf_all (okD_ok (by decide +kernel))) (nd_all (lf_all (okD_ok (by decide +kernel))) (lf_all (okD_ok (by decide +kernel))))))) (nd_all (nd_all (nd_all (lf_all (okD_ok (by decide +kernel))) (lf_all (okD_ok (by decide +kernel)))) (nd_all (lf_all (okD_ok (by decide +kernel))) (nd_all (lf_all (okD_ok (by decide +kernel))) (lf_all (okD_ok (by decide +kernel)))))) (nd_all (nd_all (lf_all (okD_ok (by decide +kernel))) (lf_all (okD_ok (by decide +kernel)))) (nd_all (lf_all (okD_ok (by decide +kernel))) (nd_all (lf_all (okD_ok (by decide +kernel))) (lf_all (okD_ok (by decide +kernel))))))))))
def tX6_rootOf : Nat → Option mE := (nd 60 (nd 29 (nd 14 (nd 5 (nd 2 (nd 1 (lf 0 (.iload_n 3, 1, 0, 0)) (lf 1 (.iload_n 2, 2, 0, 0))) (nd 3 (lf 2 (.isub, 3, 0, 0)) (lf 3 (.istore 4, 5, 0, 0)))) (nd 10 (nd 7 (lf 5 (.iload 4, 7, 0, 0)) (lf 7 (.ifCond .gt 15, 10, 22, 0))) (nd 11 (lf 10 (.aload_n 1, 11, 0, 0)) (lf 11 (.getfield 28, 14, 0, 0))))) (nd 22 (nd 18 (nd 17 (lf 14 (.invokevirtual 34, 17, 0, 0)) (lf 17 (.aload_n 1, 18, 0, 0))) (nd 21 (lf 18 (.invokevirtual 43, 21, 0, 0)) (lf 21 (.areturn, 22, 0, 0)))) (nd 25 (nd 23 (lf 22 (.iload_n 3, 23, 0, 0)) (lf 23 (.istore 5, 25, 0, 0))) (nd 26 (lf 25 (.iconst 0, 26, 0, 0)) (nd 28 (lf 26 (.istore 6, 28, 0, 0)) (lf 28 (.iconst 0, 29, 0, 0))))))) (nd 45 (nd 38 (nd 33 (nd 31 (lf 29 (.istore 7, 31, 0, 0)) (lf 31 (.iload 7, 33, 0, 0))) (nd 35 (lf 33 (.bipush 7, 35, 0, 7)) (lf 35 (.if_icmp .ge 87, 38, 122, 0)))) (nd 42 (nd 40 (lf 38 (.iload 4, 40, 0, 0)) (lf 40 (.iload 7, 42, 0, 0))) (nd 43 (lf 42 (.ishr, 43, 0, 0)) (nd 44 (lf 43 (.iconst 1, 44, 0, 1)) (lf 44 (.iand, 45, 0, 0)))))) (nd 52 (nd 49 (nd 46 (lf 45 (.iconst 1, 46, 0, 1)) (lf 46 (.if_icmp .ne 70, 49, 116, 0))) (nd 51 (lf 49 (.iload 5, 51, 0, 0)) (lf 51 (.iconst 1, 52, 0, 1)))) (nd 55 (nd 54 (lf 52 (.iload 7, 54, 0, 0)) (lf 54 (.ishl, 55, 0, 0))) (nd 56 (lf 55 (.isub, 56, 0, 0)) (nd 58 (lf 56 (.istore 5, 58, 0, 0)) (lf 58 (.iload 5, 60, 0, 0)))))))) (nd 91 (nd 74 (nd 66 (nd 63 (nd 62 (lf 60 (.iload 7, 62, 0, 0)) (lf 62 (.ishr, 63, 0, 0))) (nd 65 (lf 63 (.bipush 32, 65, 0, 32)) (lf 65 (.imul, 66, 0, 0)))) (nd 70 (nd 68 (lf 66 (.istore 8, 68, 0, 0)) (lf 68 (.iload 6, 70, 0, 0))) (nd 73 (lf 70 (.ifCond .eq 25, 73, 95, 0)) (lf 73 (.aload_n 1, 74, 0, 0))))) (nd 81 (nd 78 (nd 75 (lf 74 (.aload_n 0, 75, 0, 0)) (lf 75 (.getfield 17, 78, 0, 0))) (nd 80 (lf 78 (.iload 7, 80, 0, 0)) (lf 80 (.aaload, 81, 0, 0)))) (nd 84 (nd 83 (lf 81 (.iload 8, 83, 0, 0)) (lf 83 (.aload_n 1, 84, 0, 0))) (nd 87 (lf 84 (.getfield 58, 87, 0, 0)) (nd 88 (lf 87 (.iconst 0, 88, 0, 0)) (lf 88 (.invokevirtual 54, 91, 0, 0))))))) (nd 108 (nd 99 (nd 95 (nd 92 (lf 91 (.pop, 92, 0, 0)) (lf 92 (.goto 21, 95, 113, 0))) (nd 96 (lf 95 (.aload_n 1, 96, 0, 0)) (lf 96 (.getfield 58, 99, 0, 0)))) (nd 103 (nd 100 (lf 99 (.aload_n 0, 100, 0, 0)) (lf 100 (.getfield 17, 103, 0, 0))) (nd 105 (lf 103 (.iload 7, 105, 0, 0)) (nd 106 (lf 105 (.aaload, 106, 0, 0)) (lf 106 (.iload 8, 108, 0, 0)))))) (nd 116 (nd 113 (nd 110 (lf 108 (.bipush 32, 110, 0, 32)) (lf 110 (.invokevirtual 61, 113, 0, 0))) (nd 114 (lf 113 (.iconst 1, 114, 0, 1)) (lf 114 (.istore 6, 116, 0, 0)))) (nd 122 (nd 119 (lf 116 (.iinc 7 1, 119, 0, 1)) (lf 119 (.goto (-88), 122, 31, 0))) (nd 123 (lf 122 (.aload_n 1, 123, 0, 0)) (nd 126 (lf 123 (.getfield 58, 126, 0, 0)) (lf 126 (.areturn, 127, 0, 0)))))))))
theorem tX6_rootOf_ok : tAll (okC cX6_rootOf 9) tX6_rootOf := (nd_all (nd_all (nd_all (nd_all (nd_all (nd_all (lf_all (okD_ok (by decide +kernel))) (lf_all (okD_ok (by decide +kernel)))) (nd_all (lf_all (okD_ok (by decide +kernel))) (lf_all (okD_ok (by decide +kernel))))) (nd_all (nd_all (lf_all (okD_ok (by decide +kernel))) (lf_all (okD_ok (by decide +kernel)))) (nd_all (lf_all (okD_ok (by decide +kernel))) (lf_all (okD_ok (by decide +kernel)))))) (nd_all (nd_all (nd_all (lf_all (okD_ok (by decide +kernel))) (lf_all (okD_ok (by decide +kernel)))) (nd_all (lf_all (okD_ok (by decide +kernel))) (lf_all (okD_ok (by decide +kernel))))) (nd_all (nd_all (lf_all (okD_ok (by decide +kernel))) (lf_all (okD_ok (by decide +kernel)))) (nd_all (lf_all (okD_ok (by decide +kernel))) (nd_all (lf_all (okD_ok (by decide +kernel))) (lf_all (okD_ok (by decide +kernel)))))))) (nd_all (nd_all (nd_all (nd_all (lf_all (okD_ok (by decide +kernel))) (lf_all (okD_ok (by decide +kernel)))) (nd_all (lf_all (okD_ok (by decide +kernel))) (lf_all (okD_ok (by decide +kernel))))) (nd_all (nd_all (lf_all (okD_ok (by decide +kernel))) (lf_all (okD_ok (by decide +kernel)))) (nd_all (lf_all (okD_ok (by decide +kernel))) (nd_all (lf_all (okD_ok (by decide +kernel))) (lf_all (okD_ok (by decide +kernel))))))) (nd_all (nd_all (nd_all (lf_all (okD_ok (by decide +kernel))) (lf_all (okD_ok (by decide +kernel)))) (nd_all (lf_all (okD_ok (by decide +kernel))) (lf_all (okD_ok (by decide +kernel))))) (nd_all (nd_all (lf_all (okD_ok (by decide +kernel))) (lf_all (okD_ok (by decide +kernel)))) (nd_all (lf_all (okD_ok (by decide +kernel))) (nd_all (lf_all (okD_ok (by decide +kernel))) (lf_all (okD_ok (by decide +kernel))))))))) (nd_all (nd_all (nd_all (nd_all (nd_all (lf_all (okD_ok (by decide +kernel))) (lf_all (okD_ok (by decide +kernel)))) (nd_all (lf_all (okD_ok (by decide +kernel))) (lf_all (okD_ok (by decide +kernel))))) (nd_all (nd_all (lf_all (okD_ok (by decide +kernel))) (lf_all (okD_ok (by decide +kernel)))) (nd_all (lf_all (okD_ok (by decide +kernel))) (lf_all (okD_ok (by decide +kernel)))))) (nd_all (nd_all (nd_all (lf_all (okD_ok (by decide +kernel))) (lf_all (okD_ok (by decide +kernel)))) (nd_all (lf_all (okD_ok (by decide +kernel))) (lf_all (okD_ok (by decide +kernel))))) (nd_all (nd_all (lf_all (okD_ok (by decide +kernel))) (lf_all (okD_ok (by decide +kernel)))) (nd_all (lf_all (okD_ok (by decide +kernel))) (nd_all (lf_all (okD_ok (by decide +kernel))) (lf_all (okD_ok (by decide +kernel)))))))) (nd_all (nd_all (nd_all (nd_all (lf_all (okD_ok (by decide +kernel))) (lf_all (okD_ok (by decide +kernel)))) (nd_all (lf_all (okD_ok (by decide +kernel))) (lf_all (okD_ok (by decide +kernel))))) (nd_all (nd_all (lf_all (okD_ok (by decide +kernel))) (lf_all (okD_ok (by decide +kernel)))) (nd_all (lf_all (okD_ok (by decide +kernel))) (nd_all (lf_all (okD_ok (by decide +kernel))) (lf_all (okD_ok (by decide +kernel))))))) (nd_all (nd_all (nd_all (lf_all (okD_ok (by decide +kernel))) (lf_all (okD_ok (by decide +kernel)))) (nd_all (lf_all (okD_ok (by decide +kernel))) (lf_all (okD_ok (by decide +kernel))))) (nd_all (nd_all (lf_all (okD_ok (by decide +kernel))) (lf_all (okD_ok (by decide +kernel)))) (nd_all (lf_all (okD_ok (by decide +kernel))) (nd_all (lf_all (okD_ok (by decide +kernel))) (lf_all (okD_ok (by decide +kernel))))))))))
def tX6_pushPath : Nat → Option mE := (nd 46 (nd 21 (nd 9 (nd 4 (nd 1 (lf 0 (.iconst 0, 1, 0, 0)) (nd 3 (lf 1 (.istore 5, 3, 0, 0)) (lf 3 (.iload_n 2, 4, 0, 0)))) (nd 6 (lf 4 (.istore 6, 6, 0, 0)) (nd 7 (lf 6 (.iconst 0, 7, 0, 0)) (lf 7 (.istore 7, 9, 0, 0))))) (nd 16 (nd 11 (lf 9 (.iload 7, 11, 0, 0)) (nd 13 (lf 11 (.bipush 7, 13, 0, 7)) (lf 13 (.if_icmp .ge 82, 16, 95, 0)))) (nd 18 (lf 16 (.iload 6, 18, 0, 0)) (nd 20 (lf 18 (.iload 5, 20, 0, 0)) (lf 20 (.isub, 21, 0, 0)))))) (nd 32 (nd 27 (nd 22 (lf 21 (.iconst 1, 22, 0, 1)) (nd 25 (lf 22 (.if_icmp .le 73, 25, 95, 0)) (lf 25 (.iload 5, 27, 0, 0)))) (nd 29 (lf 27 (.iload 6, 29, 0, 0)) (nd 31 (lf 29 (.iload 5, 31, 0, 0)) (lf 31 (.isub, 32, 0, 0))))) (nd 38 (nd 35 (lf 32 (.invokestatic 64, 35, 0, 0)) (nd 36 (lf 35 (.iadd, 36, 0, 0)) (lf 36 (.istore 8, 38, 0, 0)))) (nd 41 (nd 39 (lf 38 (.iload_n 3, 39, 0, 0)) (lf 39 (.iload 8, 41, 0, 0))) (nd 44 (lf 41 (.if_icmp .ge 27, 44, 68, 0)) (lf 44 (.aload 4, 46, 0, 0))))))) (nd 70 (nd 56 (nd 50 (nd 47 (lf 46 (.aload_n 0, 47, 0, 0)) (nd 48 (lf 47 (.aload_n 1, 48, 0, 0)) (lf 48 (.iload 8, 50, 0, 0)))) (nd 52 (lf 50 (.iload 6, 52, 0, 0)) (nd 55 (lf 52 (.invokevirtual 68, 55, 0, 0)) (lf 55 (.iconst 0, 56, 0, 0))))) (nd 63 (nd 58 (lf 56 (.bipush 32, 58, 0, 32)) (nd 61 (lf 58 (.invokevirtual 47, 61, 0, 0)) (lf 61 (.iload 8, 63, 0, 0)))) (nd 65 (lf 63 (.istore 6, 65, 0, 0)) (nd 68 (lf 65 (.goto 24, 68, 89, 0)) (lf 68 (.aload 4, 70, 0, 0)))))) (nd 80 (nd 74 (nd 71 (lf 70 (.aload_n 0, 71, 0, 0)) (nd 72 (lf 71 (.aload_n 1, 72, 0, 0)) (lf 72 (.iload 5, 74, 0, 0)))) (nd 76 (lf 74 (.iload 8, 76, 0, 0)) (nd 79 (lf 76 (.invokevirtual 68, 79, 0, 0)) (lf 79 (.iconst 0, 80, 0, 0))))) (nd 87 (nd 82 (lf 80 (.bipush 32, 82, 0, 32)) (nd 85 (lf 82 (.invokevirtual 47, 85, 0, 0)) (lf 85 (.iload 8, 87, 0, 0)))) (nd 92 (nd 89 (lf 87 (.istore 5, 89, 0, 0)) (lf 89 (.iinc 7 1, 92, 0, 1))) (nd 95 (lf 92 (.goto (-83), 95, 9, 0)) (lf 95 (.return_, 96, 0, 0))))))))
theorem tX6_pushPath_ok : tAll (okC cX6_pushPath 9) tX6_pushPath := (nd_all (nd_all (nd_all (nd_all (nd_all (lf_all (okD_ok (by decide +kernel))) (nd_all (lf_all (okD_ok (by decide +kernel))) (lf_all (okD_ok (by decide +kernel))))) (nd_all (lf_all (okD_ok (by decide +kernel))) (nd_all (lf_all (okD_ok (by decide +kernel))) (lf_all (okD_ok (by decide +kernel)))))) (nd_all (nd_all (lf_all (okD_ok (by decide +kernel))) (nd_all (lf_all (okD_ok (by decide +kernel))) (lf_all (okD_ok (by decide +kernel))))) (nd_all (lf_all (okD_ok (by decide +kernel))) (nd_all (lf_all (okD_ok (by decide +kernel))) (lf_all (okD_ok (by decide +kernel))))))) (nd_all (nd_all (nd_all (lf_all (okD_ok (by decide +kernel))) (nd_all (lf_all (okD_ok (by decide +kernel))) (lf_all (okD_ok (by decide +kernel))))) (nd_all (lf_all (okD_ok (by decide +kernel))) (nd_all (lf_all (okD_ok (by decide +kernel))) (lf_all (okD_ok (by decide +kernel)))))) (nd_all (nd_all (lf_all (okD_ok (by decide +kernel))) (nd_all (lf_all (okD_ok (by decide +kernel))) (lf_all (okD_ok (by decide +kernel))))) (nd_all (nd_all (lf_all (okD_ok (by decide +kernel))) (lf_all (okD_ok (by decide +kernel)))) (nd_all (lf_all (okD_ok (by decide +kernel))) (lf_all (okD_ok (by decide +kernel)))))))) (nd_all (nd_all (nd_all (nd_all (lf_all (okD_ok (by decide +kernel))) (nd_all (lf_all (okD_ok (by decide +kernel))) (lf_all (okD_ok (by decide +kernel))))) (nd_all (lf_all (okD_ok (by decide +kernel))) (nd_all (lf_all (okD_ok (by decide +kernel))) (lf_all (okD_ok (by decide +kernel)))))) (nd_all (nd_all (lf_all (okD_ok (by decide +kernel))) (nd_all (lf_all (okD_ok (by decide +kernel))) (lf_all (okD_ok (by decide +kernel))))) (nd_all (lf_all (okD_ok (by decide +kernel))) (nd_all (lf_all (okD_ok (by decide +kernel))) (lf_all (okD_ok (by decide +kernel))))))) (nd_all (nd_all (nd_all (lf_all (okD_ok (by decide +kernel))) (nd_all (lf_all (okD_ok (by decide +kernel))) (lf_all (okD_ok (by decide +kernel))))) (nd_all (lf_all (okD_ok (by decide +kernel))) (nd_all (lf_all (okD_ok (by decide +kernel))) (lf_all (okD_ok (by decide +kernel)))))) (nd_all (nd_all (lf_all (okD_ok (by decide +kernel))) (nd_all (lf_all (okD_ok (by decide +kernel))) (lf_all (okD_ok (by decide +kernel))))) (nd_all (nd_all (lf_all (okD_ok (by decide +kernel))) (lf_all (okD_ok (by decide +kernel)))) (nd_all (lf_all (okD_ok (by decide +kernel))) (lf_all (okD_ok (by decide +kernel)))))))))
def tX6_pushProof : Nat → Option mE := (nd 53 (nd 26 (nd 11 (nd 4 (nd 1 (lf 0 (.iconst 0, 1, 0, 0)) (nd 3 (lf 1 (.istore 5, 3, 0, 0)) (lf 3 (.iload_n 3, 4, 0, 0)))) (nd 7 (nd 6 (lf 4 (.istore 6, 6, 0, 0)) (lf 6 (.iconst 0, 7, 0, 0))) (nd 9 (lf 7 (.istore 7, 9, 0, 0)) (lf 9 (.iload 7, 11, 0, 0))))) (nd 18 (nd 13 (lf 11 (.bipush 7, 13, 0, 7)) (nd 16 (lf 13 (.if_icmp .ge 79, 16, 92, 0)) (lf 16 (.iload 6, 18, 0, 0)))) (nd 22 (nd 19 (lf 18 (.iload_n 2, 19, 0, 0)) (lf 19 (.if_icmp .eq 73, 22, 92, 0))) (nd 24 (lf 22 (.iload 5, 24, 0, 0)) (lf 24 (.iload 6, 26, 0, 0)))))) (nd 38 (nd 32 (nd 28 (lf 26 (.iload 5, 28, 0, 0)) (nd 29 (lf 28 (.isub, 29, 0, 0)) (lf 29 (.invokestatic 64, 32, 0, 0)))) (nd 35 (nd 33 (lf 32 (.iadd, 33, 0, 0)) (lf 33 (.istore 8, 35, 0, 0))) (nd 36 (lf 35 (.iload_n 2, 36, 0, 0)) (lf 36 (.iload 8, 38, 0, 0))))) (nd 45 (nd 43 (nd 41 (lf 38 (.if_icmp .gt 27, 41, 65, 0)) (lf 41 (.aload 4, 43, 0, 0))) (nd 44 (lf 43 (.aload_n 0, 44, 0, 0)) (lf 44 (.aload_n 1, 45, 0, 0)))) (nd 49 (nd 47 (lf 45 (.iload 8, 47, 0, 0)) (lf 47 (.iload 6, 49, 0, 0))) (nd 52 (lf 49 (.invokevirtual 68, 52, 0, 0)) (lf 52 (.iconst 0, 53, 0, 0))))))) (nd 84 (nd 68 (nd 60 (nd 55 (lf 53 (.bipush 32, 55, 0, 32)) (nd 58 (lf 55 (.invokevirtual 47, 58, 0, 0)) (lf 58 (.iload 8, 60, 0, 0)))) (nd 65 (nd 62 (lf 60 (.istore 6, 62, 0, 0)) (lf 62 (.goto 24, 65, 86, 0))) (nd 67 (lf 65 (.aload 4, 67, 0, 0)) (lf 67 (.aload_n 0, 68, 0, 0))))) (nd 76 (nd 71 (nd 69 (lf 68 (.aload_n 1, 69, 0, 0)) (lf 69 (.iload 5, 71, 0, 0))) (nd 73 (lf 71 (.iload 8, 73, 0, 0)) (lf 73 (.invokevirtual 68, 76, 0, 0)))) (nd 79 (nd 77 (lf 76 (.iconst 0, 77, 0, 0)) (lf 77 (.bipush 32, 79, 0, 32))) (nd 82 (lf 79 (.invokevirtual 47, 82, 0, 0)) (lf 82 (.iload 8, 84, 0, 0)))))) (nd 100 (nd 92 (nd 86 (lf 84 (.istore 5, 86, 0, 0)) (nd 89 (lf 86 (.iinc 7 1, 89, 0, 1)) (lf 89 (.goto (-80), 92, 9, 0)))) (nd 97 (nd 94 (lf 92 (.iload 5, 94, 0, 0)) (lf 94 (.ifCond .le 20, 97, 114, 0))) (nd 99 (lf 97 (.aload 4, 99, 0, 0)) (lf 99 (.aload_n 0, 100, 0, 0))))) (nd 108 (nd 103 (nd 101 (lf 100 (.aload_n 1, 101, 0, 0)) (lf 101 (.iload 5, 103, 0, 0))) (nd 105 (lf 103 (.iload 6, 105, 0, 0)) (lf 105 (.invokevirtual 68, 108, 0, 0)))) (nd 111 (nd 109 (lf 108 (.iconst 0, 109, 0, 0)) (lf 109 (.bipush 32, 111, 0, 32))) (nd 114 (lf 111 (.invokevirtual 47, 114, 0, 0)) (lf 114 (.return_, 115, 0, 0))))))))
theorem tX6_pushProof_ok : tAll (okC cX6_pushProof 9) tX6_pushProof := (nd_all (nd_all (nd_all (nd_all (nd_all (lf_all (okD_ok (by decide +kernel))) (nd_all (lf_all (okD_ok (by decide +kernel))) (lf_all (okD_ok (by decide +kernel))))) (nd_all (nd_all (lf_all (okD_ok (by decide +kernel))) (lf_all (okD_ok (by decide +kernel)))) (nd_all (lf_all (okD_ok (by decide +kernel))) (lf_all (okD_ok (by decide +kernel)))))) (nd_all (nd_all (lf_all (okD_ok (by decide +kernel))) (nd_all (lf_all (okD_ok (by decide +kernel))) (lf_all (okD_ok (by decide +kernel))))) (nd_all (nd_all (lf_all (okD_ok (by decide +kernel))) (lf_all (okD_ok (by decide +kernel)))) (nd_all (lf_all (okD_ok (by decide +kernel))) (lf_all (okD_ok (by decide +kernel))))))) (nd_all (nd_all (nd_all (lf_all (okD_ok (by decide +kernel))) (nd_all (lf_all (okD_ok (by decide +kernel))) (lf_all (okD_ok (by decide +kernel))))) (nd_all (nd_all (lf_all (okD_ok (by decide +kernel))) (lf_all (okD_ok (by decide +kernel)))) (nd_all (lf_all (okD_ok (by decide +kernel))) (lf_all (okD_ok (by decide +kernel)))))) (nd_all (nd_all (nd_all (lf_all (okD_ok (by decide +kernel))) (lf_all (okD_ok (by decide +kernel)))) (nd_all (lf_all (okD_ok (by decide +kernel))) (lf_all (okD_ok (by decide +kernel))))) (nd_all (nd_all (lf_all (okD_ok (by decide +kernel))) (lf_all (okD_ok (by decide +kernel)))) (nd_all (lf_all (okD_ok (by decide +kernel))) (lf_all (okD_ok (by decide +kernel)))))))) (nd_all (nd_all (nd_all (nd_all (lf_all (okD_ok (by decide +kernel))) (nd_all (lf_all (okD_ok (by decide +kernel))) (lf_all (okD_ok (by decide +kernel))))) (nd_all (nd_all (lf_all (okD_ok (by decide +kernel))) (lf_all (okD_ok (by decide +kernel)))) (nd_all (lf_all (okD_ok (by decide +kernel))) (lf_all (okD_ok (by decide +kernel)))))) (nd_all (nd_all (nd_all (lf_all (okD_ok (by decide +kernel))) (lf_all (okD_ok (by decide +kernel)))) (nd_all (lf_all (okD_ok (by decide +kernel))) (lf_all (okD_ok (by decide +kernel))))) (nd_all (nd_all (lf_all (okD_ok (by decide +kernel))) (lf_all (okD_ok (by decide +kernel)))) (nd_all (lf_all (okD_ok (by decide +kernel))) (lf_all (okD_ok (by decide +kernel))))))) (nd_all (nd_all (nd_all (lf_all (okD_ok (by decide +kernel))) (nd_all (lf_all (okD_ok (by decide +kernel))) (lf_all (okD_ok (by decide +kernel))))) (nd_all (nd_all (lf_all (okD_ok (by decide +kernel))) (lf_all (okD_ok (by decide +kernel)))) (nd_all (lf_all (okD_ok (by decide +kernel))) (lf_all (okD_ok (by decide +kernel)))))) (nd_all (nd_all (nd_all (lf_all (okD_ok (by decide +kernel))) (lf_all (okD_ok (by decide +kernel)))) (nd_all (lf_all (okD_ok (by decide +kernel))) (lf_all (okD_ok (by decide +kernel))))) (nd_all (nd_all (lf_all (okD_ok (by decide +kernel))) (lf_all (okD_ok (by decide +kernel)))) (nd_all (lf_all (okD_ok (by decide +kernel))) (lf_all (okD_ok (by decide +kernel)))))))))
def tX6_splitOf : Nat → Option mE := (nd 13 (nd 5 (nd 2 (nd 1 (lf 0 (.iconst 1, 1, 0, 1)) (lf 1 (.istore_n 1, 2, 0, 0))) (nd 3 (lf 2 (.iconst 1, 3, 0, 1)) (nd 4 (lf 3 (.istore_n 2, 4, 0, 0)) (lf 4 (.iload_n 2, 5, 0, 0))))) (nd 10 (nd 7 (lf 5 (.bipush 7, 7, 0, 7)) (lf 7 (.if_icmp .ge 20, 10, 27, 0))) (nd 11 (lf 10 (.iload_n 1, 11, 0, 0)) (nd 12 (lf 11 (.iconst 2, 12, 0, 2)) (lf 12 (.imul, 13, 0, 0)))))) (nd 20 (nd 17 (nd 14 (lf 13 (.iload_n 0, 14, 0, 0)) (lf 14 (.if_icmp .ge 13, 17, 27, 0))) (nd 18 (lf 17 (.iload_n 1, 18, 0, 0)) (nd 19 (lf 18 (.iconst 2, 19, 0, 2)) (lf 19 (.imul, 20, 0, 0))))) (nd 24 (nd 21 (lf 20 (.istore_n 1, 21, 0, 0)) (lf 21 (.iinc 2 1, 24, 0, 1))) (nd 27 (lf 24 (.goto (-20), 27, 4, 0)) (nd 28 (lf 27 (.iload_n 1, 28, 0, 0)) (lf 28 (.ireturn, 29, 0, 0)))))))
theorem tX6_splitOf_ok : tAll (okC cX6_splitOf 3) tX6_splitOf := (nd_all (nd_all (nd_all (nd_all (lf_all (okD_ok (by decide +kernel))) (lf_all (okD_ok (by decide +kernel)))) (nd_all (lf_all (okD_ok (by decide +kernel))) (nd_all (lf_all (okD_ok (by decide +kernel))) (lf_all (okD_ok (by decide +kernel)))))) (nd_all (nd_all (lf_all (okD_ok (by decide +kernel))) (lf_all (okD_ok (by decide +kernel)))) (nd_all (lf_all (okD_ok (by decide +kernel))) (nd_all (lf_all (okD_ok (by decide +kernel))) (lf_all (okD_ok (by decide +kernel))))))) (nd_all (nd_all (nd_all (lf_all (okD_ok (by decide +kernel))) (lf_all (okD_ok (by decide +kernel)))) (nd_all (lf_all (okD_ok (by decide +kernel))) (nd_all (lf_all (okD_ok (by decide +kernel))) (lf_all (okD_ok (by decide +kernel)))))) (nd_all (nd_all (lf_all (okD_ok (by decide +kernel))) (lf_all (okD_ok (by decide +kernel)))) (nd_all (lf_all (okD_ok (by decide +kernel))) (nd_all (lf_all (okD_ok (by decide +kernel))) (lf_all (okD_ok (by decide +kernel))))))))
def tX7_init : Nat → Option mE := (nd 99 (nd 50 (nd 26 (nd 12 (nd 5 (nd 1 (lf 0 (.aload_n 0, 1, 0, 0)) (nd 4 (lf 1 (.invokespecial 3, 4, 0, 0)) (lf 4 (.aload_n 0, 5, 0, 0)))) (nd 8 (lf 5 (.new 9, 8, 0, 0)) (nd 9 (lf 8 (.dup, 9, 0, 0)) (lf 9 (.invokespecial 11, 12, 0, 0))))) (nd 19 (nd 15 (lf 12 (.putfield 12, 15, 0, 0)) (nd 16 (lf 15 (.aload_n 0, 16, 0, 0)) (lf 16 (.new 16, 19, 0, 0)))) (nd 20 (lf 19 (.dup, 20, 0, 0)) (nd 23 (lf 20 (.invokespecial 18, 23, 0, 0)) (lf 23 (.putfield 19, 26, 0, 0)))))) (nd 38 (nd 31 (nd 27 (lf 26 (.aload_n 0, 27, 0, 0)) (nd 30 (lf 27 (.getfield 19, 30, 0, 0)) (lf 30 (.aload_n 0, 31, 0, 0)))) (nd 34 (lf 31 (.getfield 12, 34, 0, 0)) (nd 35 (lf 34 (.lload_n 1, 35, 0, 0)) (lf 35 (.invokevirtual 23, 38, 0, 0))))) (nd 43 (nd 39 (lf 38 (.aload_n 0, 39, 0, 0)) (nd 42 (lf 39 (.new 27, 42, 0, 0)) (lf 42 (.dup, 43, 0, 0)))) (nd 46 (lf 43 (.invokespecial 29, 46, 0, 0)) (nd 49 (lf 46 (.putfield 30, 49, 0, 0)) (lf 49 (.aload_n 0, 50, 0, 0))))))) (nd 73 (nd 61 (nd 58 (nd 52 (lf 50 (.bipush 8, 52, 0, 8)) (nd 55 (lf 52 (.anewarray 34, 55, 0, 0)) (lf 55 (.putfield 36, 58, 0, 0)))) (nd 59 (lf 58 (.iconst 0, 59, 0, 0)) (nd 60 (lf 59 (.istore_n 3, 60, 0, 0)) (lf 60 (.iload_n 3, 61, 0, 0))))) (nd 66 (nd 62 (lf 61 (.aload_n 0, 62, 0, 0)) (nd 65 (lf 62 (.getfield 36, 65, 0, 0)) (lf 65 (.arraylength, 66, 0, 0)))) (nd 69 (lf 66 (.if_icmp .ge 22, 69, 88, 0)) (nd 70 (lf 69 (.aload_n 0, 70, 0, 0)) (lf 70 (.getfield 36, 73, 0, 0)))))) (nd 85 (nd 78 (nd 74 (lf 73 (.iload_n 3, 74, 0, 0)) (nd 77 (lf 74 (.new 34, 77, 0, 0)) (lf 77 (.dup, 78, 0, 0)))) (nd 81 (lf 78 (.invokespecial 40, 81, 0, 0)) (nd 82 (lf 81 (.aastore, 82, 0, 0)) (lf 82 (.iinc 3 1, 85, 0, 1))))) (nd 91 (nd 88 (lf 85 (.goto (-25), 88, 60, 0)) (nd 89 (lf 88 (.aload_n 0, 89, 0, 0)) (lf 89 (.bipush 60, 91, 0, 60)))) (nd 97 (nd 94 (lf 91 (.anewarray 41, 94, 0, 0)) (lf 94 (.putfield 43, 97, 0, 0))) (nd 98 (lf 97 (.iconst 0, 98, 0, 0)) (lf 98 (.istore_n 3, 99, 0, 0)))))))) (nd 146 (nd 121 (nd 109 (nd 104 (nd 100 (lf 99 (.iload_n 3, 100, 0, 0)) (nd 101 (lf 100 (.aload_n 0, 101, 0, 0)) (lf 101 (.getfield 43, 104, 0, 0)))) (nd 105 (lf 104 (.arraylength, 105, 0, 0)) (nd 108 (lf 105 (.if_icmp .ge 22, 108, 127, 0)) (lf 108 (.aload_n 0, 109, 0, 0))))) (nd 116 (nd 112 (lf 109 (.getfield 43, 112, 0, 0)) (nd 113 (lf 112 (.iload_n 3, 113, 0, 0)) (lf 113 (.new 41, 116, 0, 0)))) (nd 117 (lf 116 (.dup, 117, 0, 0)) (nd 120 (lf 117 (.invokespecial 47, 120, 0, 0)) (lf 120 (.aastore, 121, 0, 0)))))) (nd 135 (nd 128 (nd 124 (lf 121 (.iinc 3 1, 124, 0, 1)) (nd 127 (lf 124 (.goto (-25), 127, 99, 0)) (lf 127 (.aload_n 0, 128, 0, 0)))) (nd 129 (lf 128 (.iconst 4, 129, 0, 4)) (nd 132 (lf 129 (.anewarray 48, 132, 0, 0)) (lf 132 (.putfield 50, 135, 0, 0))))) (nd 138 (nd 136 (lf 135 (.iconst 0, 136, 0, 0)) (nd 137 (lf 136 (.istore_n 3, 137, 0, 0)) (lf 137 (.iload_n 3, 138, 0, 0)))) (nd 142 (nd 139 (lf 138 (.aload_n 0, 139, 0, 0)) (lf 139 (.getfield 50, 142, 0, 0))) (nd 143 (lf 142 (.arraylength, 143, 0, 0)) (lf 143 (.if_icmp .ge 22, 146, 165, 0))))))) (nd 170 (nd 158 (nd 151 (nd 147 (lf 146 (.aload_n 0, 147, 0, 0)) (nd 150 (lf 147 (.getfield 50, 150, 0, 0)) (lf 150 (.iload_n 3, 151, 0, 0)))) (nd 154 (lf 151 (.new 48, 154, 0, 0)) (nd 155 (lf 154 (.dup, 155, 0, 0)) (lf 155 (.invokespecial 54, 158, 0, 0))))) (nd 165 (nd 159 (lf 158 (.aastore, 159, 0, 0)) (nd 162 (lf 159 (.iinc 3 1, 162, 0, 1)) (lf 162 (.goto (-25), 165, 137, 0)))) (nd 166 (lf 165 (.aload_n 0, 166, 0, 0)) (nd 169 (lf 166 (.new 55, 169, 0, 0)) (lf 169 (.dup, 170, 0, 0)))))) (nd 184 (nd 179 (nd 173 (lf 170 (.sipush 634, 173, 0, 634)) (nd 176 (lf 173 (.invokespecial 57, 176, 0, 0)) (lf 176 (.putfield 60, 179, 0, 0)))) (nd 180 (lf 179 (.aload_n 0, 180, 0, 0)) (nd 183 (lf 180 (.new 55, 183, 0, 0)) (lf 183 (.dup, 184, 0, 0))))) (nd 193 (nd 187 (lf 184 (.sipush 256, 187, 0, 256)) (nd 190 (lf 187 (.invokespecial 57, 190, 0, 0)) (lf 190 (.putfield 64, 193, 0, 0)))) (nd 195 (nd 194 (lf 193 (.aload_n 0, 194, 0, 0)) (lf 194 (.iconst 0, 195, 0, 0))) (nd 198 (lf 195 (.putfield 67, 198, 0, 0)) (lf 198 (.return_, 199, 0, 0)))))))))
theorem tX7_init_ok : tAll (okC cX7_init 4) tX7_init := (nd_all (nd_all (nd_all (nd_all (nd_all (nd_all (lf_all (okD_ok (by decide +kernel))) (nd_all (lf_all (okD_ok (by decide +kernel))) (lf_all (okD_ok (by decide +kernel))))) (nd_all (lf_all (okD_ok (by decide +kernel))) (nd_all (lf_all (okD_ok (by decide +kernel))) (lf_all (okD_ok (by decide +kernel)))))) (nd_all (nd_all (lf_all (okD_ok (by decide +kernel))) (nd_all (lf_all (okD_ok (by decide +kernel))) (lf_all (okD_ok (by decide +kernel))))) (nd_all (lf_all (okD_ok (by decide +kernel))) (nd_all (lf_all (okD_ok (by decide +kernel))) (lf_all (okD_ok (by decide +kernel))))))) (nd_all (nd_all (nd_all (lf_all (okD_ok (by decide +kernel))) (nd_all (lf_all (okD_ok (by decide +kernel))) (lf_all (okD_ok (by decide +kernel))))) (nd_all (lf_all (okD_ok (by decide +kernel))) (nd_all (lf_all (okD_ok (by decide +kernel))) (lf_all (okD_ok (by decide +kernel)))))) (nd_all (nd_all (lf_all (okD_ok (by decide +kernel))) (nd_all (lf_all (okD_ok (by decide +kernel))) (lf_all (okD_ok (by decide +kernel))))) (nd_all (lf_all (okD_ok (by decide +kernel))) (nd_all (lf_all (okD_ok (by decide +kernel))) (lf_all (okD_ok (by decide +kernel)))))))) (nd_all (nd_all (nd_all (nd_all (lf_all (okD_ok (by decide +kernel))) (nd_all (lf_all (okD_ok (by decide +kernel))) (lf_all (okD_ok (by decide +kernel))))) (nd_all (lf_all (okD_ok (by decide +kernel))) (nd_all (lf_all (okD_ok (by decide +kernel))) (lf_all (okD_ok (by decide +kernel)))))) (nd_all (nd_all (lf_all (okD_ok (by decide +kernel))) (nd_all (lf_all (okD_ok (by decide +kernel))) (lf_all (okD_ok (by decide +kernel))))) (nd_all (lf_all (okD_ok (by decide +kernel))) (nd_all (lf_all (okD_ok (by decide +kernel))) (lf_all (okD_ok (by decide +kernel))))))) (nd_all (nd_all (nd_all (lf_all (okD_ok (by decide +kernel))) (nd_all (lf_all (okD_ok (by decide +kernel))) (lf_all (okD_ok (by decide +kernel))))) (nd_all (lf_all (okD_ok (by decide +kernel))) (nd_all (lf_all (okD_ok (by decide +kernel))) (lf_all (okD_ok (by decide +kernel)))))) (nd_all (nd_all (lf_all (okD_ok (by decide +kernel))) (nd_all (lf_all (okD_ok (by decide +kernel))) (lf_all (okD_ok (by decide +kernel))))) (nd_all (nd_all (lf_all (okD_ok (by decide +kernel))) (lf_all (okD_ok (by decide +kernel)))) (nd_all (lf_all (okD_ok (by decide +kernel))) (lf_all (okD_ok (by decide +kernel))))))))) (nd_all (nd_all (nd_all (nd_all (nd_all (lf_all (okD_ok (by decide +kernel))) (nd_all (lf_all (okD_ok (by decide +kernel))) (lf_all (okD_ok (by decide +kernel))))) (nd_all (lf_all (okD_ok (by decide +kernel))) (nd_all (lf_all (okD_ok (by decide +kernel))) (lf_all (okD_ok (by decide +kernel)))))) (nd_all (nd_all (lf_all (okD_ok (by decide +kernel))) (nd_all (lf_all (okD_ok (by decide +kernel))) (lf_all (okD_ok (by decide +kernel))))) (nd_all (lf_all (okD_ok (by decide +kernel))) (nd_all (lf_all (okD_ok (by decide +kernel))) (lf_all (okD_ok (by decide +kernel))))))) (nd_all (nd_all (nd_all (lf_all (okD_ok (by decide +kernel))) (nd_all (lf_all (okD_ok (by decide +kernel))) (lf_all (okD_ok (by decide +kernel))))) (nd_all (lf_all (okD_ok (by decide +kernel))) (nd_all (lf_all (okD_ok (by decide +kernel))) (lf_all (okD_ok (by decide +kernel)))))) (nd_all (nd_all (lf_all (okD_ok (by decide +kernel))) (nd_all (lf_all (okD_ok (by decide +kernel))) (lf_all (okD_ok (by decide +kernel))))) (nd_all (nd_all (lf_all (okD_ok (by decide +kernel))) (lf_all (okD_ok (by decide +kernel)))) (nd_all (lf_all (okD_ok (by decide +kernel))) (lf_all (okD_ok (by decide +kernel)))))))) (nd_all (nd_all (nd_all (nd_all (lf_all (okD_ok (by decide +kernel))) (nd_all (lf_all (okD_ok (by decide +kernel))) (lf_all (okD_ok (by decide +kernel))))) (nd_all (lf_all (okD_ok (by decide +kernel))) (nd_all (lf_all (okD_ok (by decide +kernel))) (lf_all (okD_ok (by decide +kernel)))))) (nd_all (nd_all (lf_all (okD_ok (by decide +kernel))) (nd_all (lf_all (okD_ok (by decide +kernel))) (lf_all (okD_ok (by decide +kernel))))) (nd_all (lf_all (okD_ok (by decide +kernel))) (nd_all (lf_all (okD_ok (by decide +kernel))) (lf_all (okD_ok (by decide +kernel))))))) (nd_all (nd_all (nd_all (lf_all (okD_ok (by decide +kernel))) (nd_all (lf_all (okD_ok (by decide +kernel))) (lf_all (okD_ok (by decide +kernel))))) (nd_all (lf_all (okD_ok (by decide +kernel))) (nd_all (lf_all (okD_ok (by decide +kernel))) (lf_all (okD_ok (by decide +kernel)))))) (nd_all (nd_all (lf_all (okD_ok (by decide +kernel))) (nd_all (lf_all (okD_ok (by decide +kernel))) (lf_all (okD_ok (by decide +kernel))))) (nd_all (nd_all (lf_all (okD_ok (by decide +kernel))) (lf_all (okD_ok (by decide +kernel)))) (nd_all (lf_all (okD_ok (by decide +kernel))) (lf_all (okD_ok (by decide +kernel))))))))))
def tX7_append : Nat → Option mE := (nd 21 (nd 8 (nd 2 (nd 1 (lf 0 (.aload_n 0, 1, 0, 0)) (lf 1 (.iload_n 1, 2, 0, 0))) (nd 3 (lf 2 (.iload_n 2, 3, 0, 0)) (nd 6 (lf 3 (.invokevirtual 71, 6, 0, 0)) (lf 6 (.astore 4, 8, 0, 0))))) (nd 13 (nd 10 (lf 8 (.aload 4, 10, 0, 0)) (lf 10 (.ifnull 11, 13, 21, 0))) (nd 15 (lf 13 (.aload 4, 15, 0, 0)) (nd 18 (lf 15 (.invokevirtual 75, 18, 0, 0)) (lf 18 (.ifCond .eq 5, 21, 23, 0)))))) (nd 29 (nd 23 (nd 22 (lf 21 (.iconst (-1), 22, 0, (-1))) (lf 22 (.ireturn, 23, 0, 0))) (nd 25 (lf 23 (.aload 4, 25, 0, 0)) (nd 26 (lf 25 (.aload_n 0, 26, 0, 0)) (lf 26 (.getfield 12, 29, 0, 0))))) (nd 33 (nd 30 (lf 29 (.iload_n 3, 30, 0, 0)) (lf 30 (.invokevirtual 79, 33, 0, 0))) (nd 35 (lf 33 (.aload 4, 35, 0, 0)) (nd 38 (lf 35 (.getfield 83, 38, 0, 0)) (lf 38 (.ireturn, 39, 0, 0)))))))
theorem tX7_append_ok : tAll (okC cX7_append 5) tX7_append := (nd_all (nd_all (nd_all (nd_all (lf_all (okD_ok (by decide +kernel))) (lf_all (okD_ok (by decide +kernel)))) (nd_all (lf_all (okD_ok (by decide +kernel))) (nd_all (lf_all (okD_ok (by decide +kernel))) (lf_all (okD_ok (by decide +kernel)))))) (nd_all (nd_all (lf_all (okD_ok (by decide +kernel))) (lf_all (okD_ok (by decide +kernel)))) (nd_all (lf_all (okD_ok (by decide +kernel))) (nd_all (lf_all (okD_ok (by decide +kernel))) (lf_all (okD_ok (by decide +kernel))))))) (nd_all (nd_all (nd_all (lf_all (okD_ok (by decide +kernel))) (lf_all (okD_ok (by decide +kernel)))) (nd_all (lf_all (okD_ok (by decide +kernel))) (nd_all (lf_all (okD_ok (by decide +kernel))) (lf_all (okD_ok (by decide +kernel)))))) (nd_all (nd_all (lf_all (okD_ok (by decide +kernel))) (lf_all (okD_ok (by decide +kernel)))) (nd_all (lf_all (okD_ok (by decide +kernel))) (nd_all (lf_all (okD_ok (by decide +kernel))) (lf_all (okD_ok (by decide +kernel))))))))
def tX7_leaves : Nat → Option mE := (nd 8 (nd 3 (nd 1 (lf 0 (.aload_n 0, 1, 0, 0)) (nd 2 (lf 1 (.iload_n 1, 2, 0, 0)) (lf 2 (.iload_n 2, 3, 0, 0)))) (nd 6 (lf 3 (.invokevirtual 71, 6, 0, 0)) (nd 7 (lf 6 (.astore_n 3, 7, 0, 0)) (lf 7 (.aload_n 3, 8, 0, 0))))) (nd 15 (nd 11 (lf 8 (.ifnonnull 7, 11, 15, 0)) (nd 12 (lf 11 (.iconst (-1), 12, 0, (-1))) (lf 12 (.goto 7, 15, 19, 0)))) (nd 16 (lf 15 (.aload_n 3, 16, 0, 0)) (nd 19 (lf 16 (.getfield 83, 19, 0, 0)) (lf 19 (.ireturn, 20, 0, 0))))))
theorem tX7_leaves_ok : tAll (okC cX7_leaves 4) tX7_leaves := (nd_all (nd_all (nd_all (lf_all (okD_ok (by decide +kernel))) (nd_all (lf_all (okD_ok (by decide +kernel))) (lf_all (okD_ok (by decide +kernel))))) (nd_all (lf_all (okD_ok (by decide +kernel))) (nd_all (lf_all (okD_ok (by decide +kernel))) (lf_all (okD_ok (by decide +kernel)))))) (nd_all (nd_all (lf_all (okD_ok (by decide +kernel))) (nd_all (lf_all (okD_ok (by decide +kernel))) (lf_all (okD_ok (by decide +kernel))))) (nd_all (lf_all (okD_ok (by decide +kernel))) (nd_all (lf_all (okD_ok (by decide +kernel))) (lf_all (okD_ok (by decide +kernel)))))))
def tX7_head : Nat → Option mE := (nd 51 (nd 26 (nd 10 (nd 3 (nd 1 (lf 0 (.aload_n 0, 1, 0, 0)) (nd 2 (lf 1 (.iload_n 1, 2, 0, 0)) (lf 2 (.iload_n 2, 3, 0, 0)))) (nd 6 (lf 3 (.invokevirtual 71, 6, 0, 0)) (nd 8 (lf 6 (.astore 4, 8, 0, 0)) (lf 8 (.aload 4, 10, 0, 0))))) (nd 17 (nd 13 (lf 10 (.ifnull 25, 13, 35, 0)) (nd 14 (lf 13 (.iload_n 3, 14, 0, 0)) (lf 14 (.ifCond .lt 21, 17, 35, 0)))) (nd 20 (nd 18 (lf 17 (.iload_n 3, 18, 0, 0)) (lf 18 (.aload 4, 20, 0, 0))) (nd 23 (lf 20 (.getfield 83, 23, 0, 0)) (lf 23 (.if_icmp .gt 12, 26, 35, 0)))))) (nd 38 (nd 32 (nd 27 (lf 26 (.aload_n 0, 27, 0, 0)) (nd 30 (lf 27 (.getfield 67, 30, 0, 0)) (lf 30 (.bipush 60, 32, 0, 60)))) (nd 36 (nd 35 (lf 32 (.if_icmp .lt 5, 35, 37, 0)) (lf 35 (.iconst (-1), 36, 0, (-1)))) (nd 37 (lf 36 (.ireturn, 37, 0, 0)) (lf 37 (.aload_n 0, 38, 0, 0))))) (nd 43 (nd 39 (lf 38 (.iconst 0, 39, 0, 0)) (nd 40 (lf 39 (.iload_n 1, 40, 0, 0)) (lf 40 (.invokevirtual 86, 43, 0, 0)))) (nd 47 (nd 45 (lf 43 (.astore 5, 45, 0, 0)) (lf 45 (.aload 5, 47, 0, 0))) (nd 48 (lf 47 (.iload_n 3, 48, 0, 0)) (lf 48 (.invokevirtual 90, 51, 0, 0))))))) (nd 76 (nd 61 (nd 56 (nd 53 (lf 51 (.aload 5, 53, 0, 0)) (nd 55 (lf 53 (.aload 4, 55, 0, 0)) (lf 55 (.aload_n 0, 56, 0, 0)))) (nd 59 (lf 56 (.getfield 12, 59, 0, 0)) (nd 60 (lf 59 (.iconst 0, 60, 0, 0)) (lf 60 (.iload_n 3, 61, 0, 0))))) (nd 67 (nd 64 (lf 61 (.invokevirtual 93, 64, 0, 0)) (nd 65 (lf 64 (.iconst 0, 65, 0, 0)) (lf 65 (.bipush 32, 67, 0, 32)))) (nd 72 (nd 70 (lf 67 (.invokevirtual 97, 70, 0, 0)) (lf 70 (.aload 5, 72, 0, 0))) (nd 73 (lf 72 (.aload_n 0, 73, 0, 0)) (lf 73 (.getfield 19, 76, 0, 0)))))) (nd 88 (nd 82 (nd 77 (lf 76 (.aload_n 0, 77, 0, 0)) (nd 80 (lf 77 (.getfield 12, 80, 0, 0)) (lf 80 (.aload 5, 82, 0, 0)))) (nd 84 (nd 83 (lf 82 (.iconst 0, 83, 0, 0)) (lf 83 (.iconst 1, 84, 0, 1))) (nd 87 (lf 84 (.invokevirtual 101, 87, 0, 0)) (lf 87 (.iconst 0, 88, 0, 0))))) (nd 94 (nd 90 (lf 88 (.bipush 8, 90, 0, 8)) (nd 93 (lf 90 (.invokevirtual 97, 93, 0, 0)) (lf 93 (.aload_n 0, 94, 0, 0)))) (nd 98 (nd 97 (lf 94 (.getfield 67, 97, 0, 0)) (lf 97 (.iconst 1, 98, 0, 1))) (nd 99 (lf 98 (.isub, 99, 0, 0)) (lf 99 (.ireturn, 100, 0, 0))))))))
theorem tX7_head_ok : tAll (okC cX7_head 6) tX7_head := (nd_all (nd_all (nd_all (nd_all (nd_all (lf_all (okD_ok (by decide +kernel))) (nd_all (lf_all (okD_ok (by decide +kernel))) (lf_all (okD_ok (by decide +kernel))))) (nd_all (lf_all (okD_ok (by decide +kernel))) (nd_all (lf_all (okD_ok (by decide +kernel))) (lf_all (okD_ok (by decide +kernel)))))) (nd_all (nd_all (lf_all (okD_ok (by decide +kernel))) (nd_all (lf_all (okD_ok (by decide +kernel))) (lf_all (okD_ok (by decide +kernel))))) (nd_all (nd_all (lf_all (okD_ok (by decide +kernel))) (lf_all (okD_ok (by decide +kernel)))) (nd_all (lf_all (okD_ok (by decide +kernel))) (lf_all (okD_ok (by decide +kernel))))))) (nd_all (nd_all (nd_all (lf_all (okD_ok (by decide +kernel))) (nd_all (lf_all (okD_ok (by decide +kernel))) (lf_all (okD_ok (by decide +kernel))))) (nd_all (nd_all (lf_all (okD_ok (by decide +kernel))) (lf_all (okD_ok (by decide +kernel)))) (nd_all (lf_all (okD_ok (by decide +kernel))) (lf_all (okD_ok (by decide +kernel)))))) (nd_all (nd_all (lf_all (okD_ok (by decide +kernel))) (nd_all (lf_all (okD_ok (by decide +kernel))) (lf_all (okD_ok (by decide +kernel))))) (nd_all (nd_all (lf_all (okD_ok (by decide +kernel))) (lf_all (okD_ok (by decide +kernel)))) (nd_all (lf_all (okD_ok (by decide +kernel))) (lf_all (okD_ok (by decide +kernel)))))))) (nd_all (nd_all (nd_all (nd_all (lf_all (okD_ok (by decide +kernel))) (nd_all (lf_all (okD_ok (by decide +kernel))) (lf_all (okD_ok (by decide +kernel))))) (nd_all (lf_all (okD_ok (by decide +kernel))) (nd_all (lf_all (okD_ok (by decide +kernel))) (lf_all (okD_ok (by decide +kernel)))))) (nd_all (nd_all (lf_all (okD_ok (by decide +kernel))) (nd_all (lf_all (okD_ok (by decide +kernel))) (lf_all (okD_ok (by decide +kernel))))) (nd_all (nd_all (lf_all (okD_ok (by decide +kernel))) (lf_all (okD_ok (by decide +kernel)))) (nd_all (lf_all (okD_ok (by decide +kernel))) (lf_all (okD_ok (by decide +kernel))))))) (nd_all (nd_all (nd_all (lf_all (okD_ok (by decide +kernel))) (nd_all (lf_all (okD_ok (by decide +kernel))) (lf_all (okD_ok (by decide +kernel))))) (nd_all (nd_all (lf_all (okD_ok (by decide +kernel))) (lf_all (okD_ok (by decide +kernel)))) (nd_all (lf_all (okD_ok (by decide +kernel))) (lf_all (okD_ok (by decide +kernel)))))) (nd_all (nd_all (lf_all (okD_ok (by decide +kernel))) (nd_all (lf_all (okD_ok (by decide +kernel))) (lf_all (okD_ok (by decide +kernel))))) (nd_all (nd_all (lf_all (okD_ok (by decide +kernel))) (lf_all (okD_ok (by decide +kernel)))) (nd_all (lf_all (okD_ok (by decide +kernel))) (lf_all (okD_ok (by decide +kernel)))))))))
def tX7_proof : Nat → Option mE := (nd 60 (nd 30 (nd 13 (nd 3 (nd 1 (lf 0 (.aload_n 0, 1, 0, 0)) (nd 2 (lf 1 (.iload_n 1, 2, 0, 0)) (lf 2 (.iload_n 2, 3, 0, 0)))) (nd 8 (nd 6 (lf 3 (.invokevirtual 71, 6, 0, 0)) (lf 6 (.astore 5, 8, 0, 0))) (nd 10 (lf 8 (.aload 5, 10, 0, 0)) (lf 10 (.ifnull 32, 13, 42, 0))))) (nd 20 (nd 17 (nd 14 (lf 13 (.iload_n 3, 14, 0, 0)) (lf 14 (.ifCond .le 28, 17, 42, 0))) (nd 18 (lf 17 (.iload_n 3, 18, 0, 0)) (lf 18 (.iload 4, 20, 0, 0)))) (nd 25 (nd 23 (lf 20 (.if_icmp .ge 22, 23, 42, 0)) (lf 23 (.iload 4, 25, 0, 0))) (nd 27 (lf 25 (.aload 5, 27, 0, 0)) (lf 27 (.getfield 83, 30, 0, 0)))))) (nd 45 (nd 39 (nd 34 (nd 33 (lf 30 (.if_icmp .gt 12, 33, 42, 0)) (lf 33 (.aload_n 0, 34, 0, 0))) (nd 37 (lf 34 (.getfield 67, 37, 0, 0)) (lf 37 (.bipush 60, 39, 0, 60)))) (nd 43 (nd 42 (lf 39 (.if_icmp .lt 5, 42, 44, 0)) (lf 42 (.iconst (-1), 43, 0, (-1)))) (nd 44 (lf 43 (.ireturn, 44, 0, 0)) (lf 44 (.aload_n 0, 45, 0, 0))))) (nd 52 (nd 47 (nd 46 (lf 45 (.iconst 1, 46, 0, 1)) (lf 46 (.iload_n 1, 47, 0, 0))) (nd 50 (lf 47 (.invokevirtual 86, 50, 0, 0)) (lf 50 (.astore 6, 52, 0, 0)))) (nd 55 (nd 54 (lf 52 (.aload 6, 54, 0, 0)) (lf 54 (.iload_n 3, 55, 0, 0))) (nd 58 (lf 55 (.invokevirtual 90, 58, 0, 0)) (lf 58 (.aload 6, 60, 0, 0))))))) (nd 93 (nd 75 (nd 69 (nd 65 (nd 62 (lf 60 (.iload 4, 62, 0, 0)) (lf 62 (.invokevirtual 90, 65, 0, 0))) (nd 67 (lf 65 (.aload 6, 67, 0, 0)) (lf 67 (.aload 5, 69, 0, 0)))) (nd 73 (nd 70 (lf 69 (.aload_n 0, 70, 0, 0)) (lf 70 (.getfield 12, 73, 0, 0))) (nd 74 (lf 73 (.iconst 0, 74, 0, 0)) (lf 74 (.iload_n 3, 75, 0, 0))))) (nd 84 (nd 79 (nd 78 (lf 75 (.invokevirtual 93, 78, 0, 0)) (lf 78 (.iconst 0, 79, 0, 0))) (nd 81 (lf 79 (.bipush 32, 81, 0, 32)) (lf 81 (.invokevirtual 97, 84, 0, 0)))) (nd 88 (nd 85 (lf 84 (.aload_n 0, 85, 0, 0)) (lf 85 (.getfield 64, 88, 0, 0))) (nd 91 (lf 88 (.invokevirtual 105, 91, 0, 0)) (lf 91 (.aload 5, 93, 0, 0)))))) (nd 109 (nd 100 (nd 97 (nd 94 (lf 93 (.aload_n 0, 94, 0, 0)) (lf 94 (.getfield 12, 97, 0, 0))) (nd 98 (lf 97 (.iload_n 3, 98, 0, 0)) (lf 98 (.iload 4, 100, 0, 0)))) (nd 104 (nd 101 (lf 100 (.aload_n 0, 101, 0, 0)) (lf 101 (.getfield 64, 104, 0, 0))) (nd 107 (lf 104 (.invokevirtual 108, 107, 0, 0)) (lf 107 (.aload 6, 109, 0, 0))))) (nd 117 (nd 113 (nd 110 (lf 109 (.aload_n 0, 110, 0, 0)) (lf 110 (.getfield 64, 113, 0, 0))) (nd 116 (lf 113 (.invokevirtual 112, 116, 0, 0)) (lf 116 (.aload_n 0, 117, 0, 0)))) (nd 121 (nd 120 (lf 117 (.getfield 67, 120, 0, 0)) (lf 120 (.iconst 1, 121, 0, 1))) (nd 122 (lf 121 (.isub, 122, 0, 0)) (lf 122 (.ireturn, 123, 0, 0))))))))
theorem tX7_proof_ok : tAll (okC cX7_proof 7) tX7_proof := (nd_all (nd_all (nd_all (nd_all (nd_all (lf_all (okD_ok (by decide +kernel))) (nd_all (lf_all (okD_ok (by decide +kernel))) (lf_all (okD_ok (by decide +kernel))))) (nd_all (nd_all (lf_all (okD_ok (by decide +kernel))) (lf_all (okD_ok (by decide +kernel)))) (nd_all (lf_all (okD_ok (by decide +kernel))) (lf_all (okD_ok (by decide +kernel)))))) (nd_all (nd_all (nd_all (lf_all (okD_ok (by decide +kernel))) (lf_all (okD_ok (by decide +kernel)))) (nd_all (lf_all (okD_ok (by decide +kernel))) (lf_all (okD_ok (by decide +kernel))))) (nd_all (nd_all (lf_all (okD_ok (by decide +kernel))) (lf_all (okD_ok (by decide +kernel)))) (nd_all (lf_all (okD_ok (by decide +kernel))) (lf_all (okD_ok (by decide +kernel))))))) (nd_all (nd_all (nd_all (nd_all (lf_all (okD_ok (by decide +kernel))) (lf_all (okD_ok (by decide +kernel)))) (nd_all (lf_all (okD_ok (by decide +kernel))) (lf_all (okD_ok (by decide +kernel))))) (nd_all (nd_all (lf_all (okD_ok (by decide +kernel))) (lf_all (okD_ok (by decide +kernel)))) (nd_all (lf_all (okD_ok (by decide +kernel))) (lf_all (okD_ok (by decide +kernel)))))) (nd_all (nd_all (nd_all (lf_all (okD_ok (by decide +kernel))) (lf_all (okD_ok (by decide +kernel)))) (nd_all (lf_all (okD_ok (by decide +kernel))) (lf_all (okD_ok (by decide +kernel))))) (nd_all (nd_all (lf_all (okD_ok (by decide +kernel))) (lf_all (okD_ok (by decide +kernel)))) (nd_all (lf_all (okD_ok (by decide +kernel))) (lf_all (okD_ok (by decide +kernel)))))))) (nd_all (nd_all (nd_all (nd_all (nd_all (lf_all (okD_ok (by decide +kernel))) (lf_all (okD_ok (by decide +kernel)))) (nd_all (lf_all (okD_ok (by decide +kernel))) (lf_all (okD_ok (by decide +kernel))))) (nd_all (nd_all (lf_all (okD_ok (by decide +kernel))) (lf_all (okD_ok (by decide +kernel)))) (nd_all (lf_all (okD_ok (by decide +kernel))) (lf_all (okD_ok (by decide +kernel)))))) (nd_all (nd_all (nd_all (lf_all (okD_ok (by decide +kernel))) (lf_all (okD_ok (by decide +kernel)))) (nd_all (lf_all (okD_ok (by decide +kernel))) (lf_all (okD_ok (by decide +kernel))))) (nd_all (nd_all (lf_all (okD_ok (by decide +kernel))) (lf_all (okD_ok (by decide +kernel)))) (nd_all (lf_all (okD_ok (by decide +kernel))) (lf_all (okD_ok (by decide +kernel))))))) (nd_all (nd_all (nd_all (nd_all (lf_all (okD_ok (by decide +kernel))) (lf_all (okD_ok (by decide +kernel)))) (nd_all (lf_all (okD_ok (by decide +kernel))) (lf_all (okD_ok (by decide +kernel))))) (nd_all (nd_all (lf_all (okD_ok (by decide +kernel))) (lf_all (okD_ok (by decide +kernel)))) (nd_all (lf_all (okD_ok (by decide +kernel))) (lf_all (okD_ok (by decide +kernel)))))) (nd_all (nd_all (nd_all (lf_all (okD_ok (by decide +kernel))) (lf_all (okD_ok (by decide +kernel)))) (nd_all (lf_all (okD_ok (by decide +kernel))) (lf_all (okD_ok (by decide +kernel))))) (nd_all (nd_all (lf_all (okD_ok (by decide +kernel))) (lf_all (okD_ok (by decide +kernel)))) (nd_all (lf_all (okD_ok (by decide +kernel))) (lf_all (okD_ok (by decide +kernel)))))))))
def tX7_path : Nat → Option mE := (nd 55 (nd 29 (nd 13 (nd 3 (nd 1 (lf 0 (.aload_n 0, 1, 0, 0)) (nd 2 (lf 1 (.iload_n 1, 2, 0, 0)) (lf 2 (.iload_n 2, 3, 0, 0)))) (nd 8 (nd 6 (lf 3 (.invokevirtual 71, 6, 0, 0)) (lf 6 (.astore 5, 8, 0, 0))) (nd 10 (lf 8 (.aload 5, 10, 0, 0)) (lf 10 (.ifnull 32, 13, 42, 0))))) (nd 19 (nd 14 (lf 13 (.iload_n 3, 14, 0, 0)) (nd 16 (lf 14 (.aload 5, 16, 0, 0)) (lf 16 (.getfield 83, 19, 0, 0)))) (nd 24 (nd 22 (lf 19 (.if_icmp .gt 23, 22, 42, 0)) (lf 22 (.iload 4, 24, 0, 0))) (nd 27 (lf 24 (.ifCond .lt 18, 27, 42, 0)) (lf 27 (.iload 4, 29, 0, 0)))))) (nd 43 (nd 34 (nd 30 (lf 29 (.iload_n 3, 30, 0, 0)) (nd 33 (lf 30 (.if_icmp .ge 12, 33, 42, 0)) (lf 33 (.aload_n 0, 34, 0, 0)))) (nd 39 (nd 37 (lf 34 (.getfield 67, 37, 0, 0)) (lf 37 (.bipush 60, 39, 0, 60))) (nd 42 (lf 39 (.if_icmp .lt 5, 42, 44, 0)) (lf 42 (.iconst (-1), 43, 0, (-1)))))) (nd 47 (nd 45 (nd 44 (lf 43 (.ireturn, 44, 0, 0)) (lf 44 (.aload_n 0, 45, 0, 0))) (nd 46 (lf 45 (.iconst 2, 46, 0, 2)) (lf 46 (.iload_n 1, 47, 0, 0)))) (nd 52 (nd 50 (lf 47 (.invokevirtual 86, 50, 0, 0)) (lf 50 (.astore 6, 52, 0, 0))) (nd 54 (lf 52 (.aload 6, 54, 0, 0)) (lf 54 (.iload_n 3, 55, 0, 0))))))) (nd 87 (nd 71 (nd 62 (nd 58 (lf 55 (.invokevirtual 90, 58, 0, 0)) (nd 60 (lf 58 (.aload 6, 60, 0, 0)) (lf 60 (.iload 4, 62, 0, 0)))) (nd 67 (nd 65 (lf 62 (.invokevirtual 90, 65, 0, 0)) (lf 65 (.aload 6, 67, 0, 0))) (nd 69 (lf 67 (.aload 5, 69, 0, 0)) (lf 69 (.iload 4, 71, 0, 0))))) (nd 78 (nd 74 (lf 71 (.invokevirtual 116, 74, 0, 0)) (nd 77 (lf 74 (.invokevirtual 90, 77, 0, 0)) (lf 77 (.aload_n 0, 78, 0, 0)))) (nd 84 (nd 81 (lf 78 (.getfield 64, 81, 0, 0)) (lf 81 (.invokevirtual 105, 84, 0, 0))) (nd 86 (lf 84 (.aload 5, 86, 0, 0)) (lf 86 (.aload_n 0, 87, 0, 0)))))) (nd 102 (nd 93 (nd 90 (lf 87 (.getfield 12, 90, 0, 0)) (nd 91 (lf 90 (.iload_n 3, 91, 0, 0)) (lf 91 (.iload 4, 93, 0, 0)))) (nd 97 (nd 94 (lf 93 (.aload_n 0, 94, 0, 0)) (lf 94 (.getfield 64, 97, 0, 0))) (nd 100 (lf 97 (.invokevirtual 120, 100, 0, 0)) (lf 100 (.aload 6, 102, 0, 0))))) (nd 110 (nd 106 (nd 103 (lf 102 (.aload_n 0, 103, 0, 0)) (lf 103 (.getfield 64, 106, 0, 0))) (nd 109 (lf 106 (.invokevirtual 112, 109, 0, 0)) (lf 109 (.aload_n 0, 110, 0, 0)))) (nd 114 (nd 113 (lf 110 (.getfield 67, 113, 0, 0)) (lf 113 (.iconst 1, 114, 0, 1))) (nd 115 (lf 114 (.isub, 115, 0, 0)) (lf 115 (.ireturn, 116, 0, 0))))))))
theorem tX7_path_ok : tAll (okC cX7_path 7) tX7_path := (nd_all (nd_all (nd_all (nd_all (nd_all (lf_all (okD_ok (by decide +kernel))) (nd_all (lf_all (okD_ok (by decide +kernel))) (lf_all (okD_ok (by decide +kernel))))) (nd_all (nd_all (lf_all (okD_ok (by decide +kernel))) (lf_all (okD_ok (by decide +kernel)))) (nd_all (lf_all (okD_ok (by decide +kernel))) (lf_all (okD_ok (by decide +kernel)))))) (nd_all (nd_all (lf_all (okD_ok (by decide +kernel))) (nd_all (lf_all (okD_ok (by decide +kernel))) (lf_all (okD_ok (by decide +kernel))))) (nd_all (nd_all (lf_all (okD_ok (by decide +kernel))) (lf_all (okD_ok (by decide +kernel)))) (nd_all (lf_all (okD_ok (by decide +kernel))) (lf_all (okD_ok (by decide +kernel))))))) (nd_all (nd_all (nd_all (lf_all (okD_ok (by decide +kernel))) (nd_all (lf_all (okD_ok (by decide +kernel))) (lf_all (okD_ok (by decide +kernel))))) (nd_all (nd_all (lf_all (okD_ok (by decide +kernel))) (lf_all (okD_ok (by decide +kernel)))) (nd_all (lf_all (okD_ok (by decide +kernel))) (lf_all (okD_ok (by decide +kernel)))))) (nd_all (nd_all (nd_all (lf_all (okD_ok (by decide +kernel))) (lf_all (okD_ok (by decide +kernel)))) (nd_all (lf_all (okD_ok (by decide +kernel))) (lf_all (okD_ok (by decide +kernel))))) (nd_all (nd_all (lf_all (okD_ok (by decide +kernel))) (lf_all (okD_ok (by decide +kernel)))) (nd_all (lf_all (okD_ok (by decide +kernel))) (lf_all (okD_ok (by decide +kernel)))))))) (nd_all (nd_all (nd_all (nd_all (lf_all (okD_ok (by decide +kernel))) (nd_all (lf_all (okD_ok (by decide +kernel))) (lf_all (okD_ok (by decide +kernel))))) (nd_all (nd_all (lf_all (okD_ok (by decide +kernel))) (lf_all (okD_ok (by decide +kernel)))) (nd_all (lf_all (okD_ok (by decide +kernel))) (lf_all (okD_ok (by decide +kernel)))))) (nd_all (nd_all (lf_all (okD_ok (by decide +kernel))) (nd_all (lf_all (okD_ok (by decide +kernel))) (lf_all (okD_ok (by decide +kernel))))) (nd_all (nd_all (lf_all (okD_ok (by decide +kernel))) (lf_all (okD_ok (by decide +kernel)))) (nd_all (lf_all (okD_ok (by decide +kernel))) (lf_all (okD_ok (by decide +kernel))))))) (nd_all (nd_all (nd_all (lf_all (okD_ok (by decide +kernel))) (nd_all (lf_all (okD_ok (by decide +kernel))) (lf_all (okD_ok (by decide +kernel))))) (nd_all (nd_all (lf_all (okD_ok (by decide +kernel))) (lf_all (okD_ok (by decide +kernel)))) (nd_all (lf_all (okD_ok (by decide +kernel))) (lf_all (okD_ok (by decide +kernel)))))) (nd_all (nd_all (nd_all (lf_all (okD_ok (by decide +kernel))) (lf_all (okD_ok (by decide +kernel)))) (nd_all (lf_all (okD_ok (by decide +kernel))) (lf_all (okD_ok (by decide +kernel))))) (nd_all (nd_all (lf_all (okD_ok (by decide +kernel))) (lf_all (okD_ok (by decide +kernel)))) (nd_all (lf_all (okD_ok (by decide +kernel))) (lf_all (okD_ok (by decide +kernel)))))))))
def tX7_alter : Nat → Option mE := (nd 28 (nd 14 (nd 5 (nd 1 (lf 0 (.aload_n 0, 1, 0, 0)) (nd 2 (lf 1 (.iload_n 1, 2, 0, 0)) (lf 2 (.invokevirtual 123, 5, 0, 0)))) (nd 9 (nd 7 (lf 5 (.astore 4, 7, 0, 0)) (lf 7 (.aload 4, 9, 0, 0))) (nd 12 (lf 9 (.ifnull 15, 12, 24, 0)) (lf 12 (.aload 4, 14, 0, 0))))) (nd 21 (nd 17 (lf 14 (.getfield 127, 17, 0, 0)) (nd 18 (lf 17 (.iload_n 2, 18, 0, 0)) (lf 18 (.invokevirtual 130, 21, 0, 0)))) (nd 25 (nd 24 (lf 21 (.ifCond .ne 5, 24, 26, 0)) (lf 24 (.iconst (-1), 25, 0, (-1)))) (nd 26 (lf 25 (.ireturn, 26, 0, 0)) (lf 26 (.aload 4, 28, 0, 0)))))) (nd 42 (nd 34 (nd 31 (lf 28 (.getfield 127, 31, 0, 0)) (nd 32 (lf 31 (.iload_n 2, 32, 0, 0)) (lf 32 (.aload 4, 34, 0, 0)))) (nd 38 (nd 37 (lf 34 (.getfield 127, 37, 0, 0)) (lf 37 (.iload_n 2, 38, 0, 0))) (nd 41 (lf 38 (.invokevirtual 134, 41, 0, 0)) (lf 41 (.iload_n 3, 42, 0, 0))))) (nd 48 (nd 43 (lf 42 (.ixor, 43, 0, 0)) (nd 46 (lf 43 (.invokevirtual 137, 46, 0, 0)) (lf 46 (.aload 4, 48, 0, 0)))) (nd 52 (nd 51 (lf 48 (.getfield 127, 51, 0, 0)) (lf 51 (.iload_n 2, 52, 0, 0))) (nd 55 (lf 52 (.invokevirtual 134, 55, 0, 0)) (lf 55 (.ireturn, 56, 0, 0)))))))
theorem tX7_alter_ok : tAll (okC cX7_alter 5) tX7_alter := (nd_all (nd_all (nd_all (nd_all (lf_all (okD_ok (by decide +kernel))) (nd_all (lf_all (okD_ok (by decide +kernel))) (lf_all (okD_ok (by decide +kernel))))) (nd_all (nd_all (lf_all (okD_ok (by decide +kernel))) (lf_all (okD_ok (by decide +kernel)))) (nd_all (lf_all (okD_ok (by decide +kernel))) (lf_all (okD_ok (by decide +kernel)))))) (nd_all (nd_all (lf_all (okD_ok (by decide +kernel))) (nd_all (lf_all (okD_ok (by decide +kernel))) (lf_all (okD_ok (by decide +kernel))))) (nd_all (nd_all (lf_all (okD_ok (by decide +kernel))) (lf_all (okD_ok (by decide +kernel)))) (nd_all (lf_all (okD_ok (by decide +kernel))) (lf_all (okD_ok (by decide +kernel))))))) (nd_all (nd_all (nd_all (lf_all (okD_ok (by decide +kernel))) (nd_all (lf_all (okD_ok (by decide +kernel))) (lf_all (okD_ok (by decide +kernel))))) (nd_all (nd_all (lf_all (okD_ok (by decide +kernel))) (lf_all (okD_ok (by decide +kernel)))) (nd_all (lf_all (okD_ok (by decide +kernel))) (lf_all (okD_ok (by decide +kernel)))))) (nd_all (nd_all (lf_all (okD_ok (by decide +kernel))) (nd_all (lf_all (okD_ok (by decide +kernel))) (lf_all (okD_ok (by decide +kernel))))) (nd_all (nd_all (lf_all (okD_ok (by decide +kernel))) (lf_all (okD_ok (by decide +kernel)))) (nd_all (lf_all (okD_ok (by decide +kernel))) (lf_all (okD_ok (by decide +kernel))))))))
def tX7_cut : Nat → Option mE := (nd 25 (nd 11 (nd 5 (nd 1 (lf 0 (.aload_n 0, 1, 0, 0)) (nd 2 (lf 1 (.iload_n 1, 2, 0, 0)) (lf 2 (.invokevirtual 123, 5, 0, 0)))) (nd 7 (nd 6 (lf 5 (.astore_n 3, 6, 0, 0)) (lf 6 (.aload_n 3, 7, 0, 0))) (nd 10 (lf 7 (.ifnull 15, 10, 22, 0)) (lf 10 (.iload_n 2, 11, 0, 0))))) (nd 19 (nd 15 (nd 14 (lf 11 (.ifCond .lt 11, 14, 22, 0)) (lf 14 (.iload_n 2, 15, 0, 0))) (nd 16 (lf 15 (.aload_n 3, 16, 0, 0)) (lf 16 (.invokevirtual 141, 19, 0, 0)))) (nd 23 (nd 22 (lf 19 (.if_icmp .le 5, 22, 24, 0)) (lf 22 (.iconst (-1), 23, 0, (-1)))) (nd 24 (lf 23 (.ireturn, 24, 0, 0)) (lf 24 (.aload_n 3, 25, 0, 0)))))) (nd 40 (nd 32 (nd 29 (nd 28 (lf 25 (.invokevirtual 141, 28, 0, 0)) (lf 28 (.iload_n 2, 29, 0, 0))) (nd 30 (lf 29 (.isub, 30, 0, 0)) (lf 30 (.istore 4, 32, 0, 0)))) (nd 36 (nd 33 (lf 32 (.aload_n 3, 33, 0, 0)) (lf 33 (.getfield 127, 36, 0, 0))) (nd 37 (lf 36 (.aload_n 3, 37, 0, 0)) (lf 37 (.getfield 127, 40, 0, 0))))) (nd 48 (nd 45 (nd 43 (lf 40 (.getfield 145, 43, 0, 0)) (lf 43 (.iload 4, 45, 0, 0))) (nd 47 (lf 45 (.bipush 32, 47, 0, 32)) (lf 47 (.imul, 48, 0, 0)))) (nd 52 (nd 49 (lf 48 (.isub, 49, 0, 0)) (lf 49 (.invokevirtual 148, 52, 0, 0))) (nd 54 (lf 52 (.iload 4, 54, 0, 0)) (lf 54 (.ireturn, 55, 0, 0)))))))
theorem tX7_cut_ok : tAll (okC cX7_cut 5) tX7_cut := (nd_all (nd_all (nd_all (nd_all (lf_all (okD_ok (by decide +kernel))) (nd_all (lf_all (okD_ok (by decide +kernel))) (lf_all (okD_ok (by decide +kernel))))) (nd_all (nd_all (lf_all (okD_ok (by decide +kernel))) (lf_all (okD_ok (by decide +kernel)))) (nd_all (lf_all (okD_ok (by decide +kernel))) (lf_all (okD_ok (by decide +kernel)))))) (nd_all (nd_all (nd_all (lf_all (okD_ok (by decide +kernel))) (lf_all (okD_ok (by decide +kernel)))) (nd_all (lf_all (okD_ok (by decide +kernel))) (lf_all (okD_ok (by decide +kernel))))) (nd_all (nd_all (lf_all (okD_ok (by decide +kernel))) (lf_all (okD_ok (by decide +kernel)))) (nd_all (lf_all (okD_ok (by decide +kernel))) (lf_all (okD_ok (by decide +kernel))))))) (nd_all (nd_all (nd_all (nd_all (lf_all (okD_ok (by decide +kernel))) (lf_all (okD_ok (by decide +kernel)))) (nd_all (lf_all (okD_ok (by decide +kernel))) (lf_all (okD_ok (by decide +kernel))))) (nd_all (nd_all (lf_all (okD_ok (by decide +kernel))) (lf_all (okD_ok (by decide +kernel)))) (nd_all (lf_all (okD_ok (by decide +kernel))) (lf_all (okD_ok (by decide +kernel)))))) (nd_all (nd_all (nd_all (lf_all (okD_ok (by decide +kernel))) (lf_all (okD_ok (by decide +kernel)))) (nd_all (lf_all (okD_ok (by decide +kernel))) (lf_all (okD_ok (by decide +kernel))))) (nd_all (nd_all (lf_all (okD_ok (by decide +kernel))) (lf_all (okD_ok (by decide +kernel)))) (nd_all (lf_all (okD_ok (by decide +kernel))) (lf_all (okD_ok (by decide +kernel))))))))
def tX7_sign : Nat → Option mE := (nd 35 (nd 17 (nd 6 (nd 2 (nd 1 (lf 0 (.aload_n 0, 1, 0, 0)) (lf 1 (.iload_n 1, 2, 0, 0))) (nd 5 (lf 2 (.invokevirtual 123, 5, 0, 0)) (lf 5 (.astore_n 2, 6, 0, 0)))) (nd 10 (nd 7 (lf 6 (.aload_n 2, 7, 0, 0)) (lf 7 (.ifnull 22, 10, 29, 0))) (nd 11 (lf 10 (.aload_n 2, 11, 0, 0)) (nd 14 (lf 11 (.getfield 151, 14, 0, 0)) (lf 14 (.ifCond .ne 15, 17, 29, 0)))))) (nd 26 (nd 21 (nd 18 (lf 17 (.aload_n 2, 18, 0, 0)) (lf 18 (.getfield 127, 21, 0, 0))) (nd 22 (lf 21 (.iconst 0, 22, 0, 0)) (nd 25 (lf 22 (.invokevirtual 134, 25, 0, 0)) (lf 25 (.iconst 4, 26, 0, 4))))) (nd 30 (nd 29 (lf 26 (.if_icmp .lt 5, 29, 31, 0)) (lf 29 (.iconst 0, 30, 0, 0))) (nd 31 (lf 30 (.ireturn, 31, 0, 0)) (nd 32 (lf 31 (.aload_n 0, 32, 0, 0)) (lf 32 (.getfield 19, 35, 0, 0))))))) (nd 53 (nd 44 (nd 39 (nd 36 (lf 35 (.aload_n 0, 36, 0, 0)) (lf 36 (.getfield 12, 39, 0, 0))) (nd 40 (lf 39 (.aload_n 2, 40, 0, 0)) (nd 43 (lf 40 (.getfield 127, 43, 0, 0)) (lf 43 (.iconst 0, 44, 0, 0))))) (nd 48 (nd 45 (lf 44 (.iconst 1, 45, 0, 1)) (lf 45 (.invokevirtual 101, 48, 0, 0))) (nd 49 (lf 48 (.astore_n 3, 49, 0, 0)) (nd 50 (lf 49 (.aload_n 2, 50, 0, 0)) (lf 50 (.getfield 127, 53, 0, 0)))))) (nd 63 (nd 58 (nd 55 (lf 53 (.bipush 37, 55, 0, 37)) (lf 55 (.invokevirtual 148, 58, 0, 0))) (nd 59 (lf 58 (.aload_n 2, 59, 0, 0)) (nd 62 (lf 59 (.getfield 127, 62, 0, 0)) (lf 62 (.aload_n 3, 63, 0, 0))))) (nd 66 (nd 64 (lf 63 (.iconst 0, 64, 0, 0)) (lf 64 (.bipush 8, 66, 0, 8))) (nd 69 (lf 66 (.invokevirtual 97, 69, 0, 0)) (nd 70 (lf 69 (.iconst 1, 70, 0, 1)) (lf 70 (.ireturn, 71, 0, 0))))))))
theorem tX7_sign_ok : tAll (okC cX7_sign 4) tX7_sign := (nd_all (nd_all (nd_all (nd_all (nd_all (lf_all (okD_ok (by decide +kernel))) (lf_all (okD_ok (by decide +kernel)))) (nd_all (lf_all (okD_ok (by decide +kernel))) (lf_all (okD_ok (by decide +kernel))))) (nd_all (nd_all (lf_all (okD_ok (by decide +kernel))) (lf_all (okD_ok (by decide +kernel)))) (nd_all (lf_all (okD_ok (by decide +kernel))) (nd_all (lf_all (okD_ok (by decide +kernel))) (lf_all (okD_ok (by decide +kernel))))))) (nd_all (nd_all (nd_all (lf_all (okD_ok (by decide +kernel))) (lf_all (okD_ok (by decide +kernel)))) (nd_all (lf_all (okD_ok (by decide +kernel))) (nd_all (lf_all (okD_ok (by decide +kernel))) (lf_all (okD_ok (by decide +kernel)))))) (nd_all (nd_all (lf_all (okD_ok (by decide +kernel))) (lf_all (okD_ok (by decide +kernel)))) (nd_all (lf_all (okD_ok (by decide +kernel))) (nd_all (lf_all (okD_ok (by decide +kernel))) (lf_all (okD_ok (by decide +kernel)))))))) (nd_all (nd_all (nd_all (nd_all (lf_all (okD_ok (by decide +kernel))) (lf_all (okD_ok (by decide +kernel)))) (nd_all (lf_all (okD_ok (by decide +kernel))) (nd_all (lf_all (okD_ok (by decide +kernel))) (lf_all (okD_ok (by decide +kernel)))))) (nd_all (nd_all (lf_all (okD_ok (by decide +kernel))) (lf_all (okD_ok (by decide +kernel)))) (nd_all (lf_all (okD_ok (by decide +kernel))) (nd_all (lf_all (okD_ok (by decide +kernel))) (lf_all (okD_ok (by decide +kernel))))))) (nd_all (nd_all (nd_all (lf_all (okD_ok (by decide +kernel))) (lf_all (okD_ok (by decide +kernel)))) (nd_all (lf_all (okD_ok (by decide +kernel))) (nd_all (lf_all (okD_ok (by decide +kernel))) (lf_all (okD_ok (by decide +kernel)))))) (nd_all (nd_all (lf_all (okD_ok (by decide +kernel))) (lf_all (okD_ok (by decide +kernel)))) (nd_all (lf_all (okD_ok (by decide +kernel))) (nd_all (lf_all (okD_ok (by decide +kernel))) (lf_all (okD_ok (by decide +kernel)))))))))
def tX7_clear : Nat → Option mE := (nd 6 (nd 4 (nd 1 (lf 0 (.aload_n 0, 1, 0, 0)) (lf 1 (.getfield 67, 4, 0, 0))) (nd 5 (lf 4 (.istore_n 1, 5, 0, 0)) (lf 5 (.aload_n 0, 6, 0, 0)))) (nd 10 (nd 7 (lf 6 (.iconst 0, 7, 0, 0)) (lf 7 (.putfield 67, 10, 0, 0))) (nd 11 (lf 10 (.iload_n 1, 11, 0, 0)) (lf 11 (.ireturn, 12, 0, 0)))))
theorem tX7_clear_ok : tAll (okC cX7_clear 2) tX7_clear := (nd_all (nd_all (nd_all (lf_all (okD_ok (by decide +kernel))) (lf_all (okD_ok (by decide +kernel)))) (nd_all (lf_all (okD_ok (by decide +kernel))) (lf_all (okD_ok (by decide +kernel))))) (nd_all (nd_all (lf_all (okD_ok (by decide +kernel))) (lf_all (okD_ok (by decide +kernel)))) (nd_all (lf_all (okD_ok (by decide +kernel))) (lf_all (okD_ok (by decide +kernel))))))
def tX7_letters : Nat → Option mE := (nd 1 (lf 0 (.aload_n 0, 1, 0, 0)) (nd 4 (lf 1 (.getfield 67, 4, 0, 0)) (lf 4 (.ireturn, 5, 0, 0))))
theorem tX7_letters_ok : tAll (okC cX7_letters 1) tX7_letters := (nd_all (lf_all (okD_ok (by decide +kernel))) (nd_all (lf_all (okD_ok (by decide +kernel))) (lf_all (okD_ok (by decide +kernel)))))
def tX7_letter : Nat → Option mE := (nd 21 (nd 10 (nd 5 (nd 1 (lf 0 (.aload_n 0, 1, 0, 0)) (nd 2 (lf 1 (.iload_n 1, 2, 0, 0)) (lf 2 (.invokevirtual 123, 5, 0, 0)))) (nd 6 (lf 5 (.astore_n 3, 6, 0, 0)) (nd 7 (lf 6 (.aload_n 3, 7, 0, 0)) (lf 7 (.ifnonnull 5, 10, 12, 0))))) (nd 13 (nd 11 (lf 10 (.iconst (-1), 11, 0, (-1))) (nd 12 (lf 11 (.ireturn, 12, 0, 0)) (lf 12 (.iload_n 2, 13, 0, 0)))) (nd 17 (nd 14 (lf 13 (.iconst (-1), 14, 0, (-1))) (lf 14 (.if_icmp .ne 8, 17, 22, 0))) (nd 18 (lf 17 (.aload_n 3, 18, 0, 0)) (lf 18 (.getfield 151, 21, 0, 0)))))) (nd 32 (nd 25 (nd 22 (lf 21 (.ireturn, 22, 0, 0)) (nd 23 (lf 22 (.iload_n 2, 23, 0, 0)) (lf 23 (.bipush (-2), 25, 0, (-2))))) (nd 28 (lf 25 (.if_icmp .ne 13, 28, 38, 0)) (nd 29 (lf 28 (.aload_n 3, 29, 0, 0)) (lf 29 (.getfield 127, 32, 0, 0))))) (nd 39 (nd 35 (lf 32 (.getfield 145, 35, 0, 0)) (nd 38 (lf 35 (.goto 11, 38, 46, 0)) (lf 38 (.aload_n 3, 39, 0, 0)))) (nd 43 (nd 42 (lf 39 (.getfield 127, 42, 0, 0)) (lf 42 (.iload_n 2, 43, 0, 0))) (nd 46 (lf 43 (.invokevirtual 134, 46, 0, 0)) (lf 46 (.ireturn, 47, 0, 0)))))))
theorem tX7_letter_ok : tAll (okC cX7_letter 4) tX7_letter := (nd_all (nd_all (nd_all (nd_all (lf_all (okD_ok (by decide +kernel))) (nd_all (lf_all (okD_ok (by decide +kernel))) (lf_all (okD_ok (by decide +kernel))))) (nd_all (lf_all (okD_ok (by decide +kernel))) (nd_all (lf_all (okD_ok (by decide +kernel))) (lf_all (okD_ok (by decide +kernel)))))) (nd_all (nd_all (lf_all (okD_ok (by decide +kernel))) (nd_all (lf_all (okD_ok (by decide +kernel))) (lf_all (okD_ok (by decide +kernel))))) (nd_all (nd_all (lf_all (okD_ok (by decide +kernel))) (lf_all (okD_ok (by decide +kernel)))) (nd_all (lf_all (okD_ok (by decide +kernel))) (lf_all (okD_ok (by decide +kernel))))))) (nd_all (nd_all (nd_all (lf_all (okD_ok (by decide +kernel))) (nd_all (lf_all (okD_ok (by decide +kernel))) (lf_all (okD_ok (by decide +kernel))))) (nd_all (lf_all (okD_ok (by decide +kernel))) (nd_all (lf_all (okD_ok (by decide +kernel))) (lf_all (okD_ok (by decide +kernel)))))) (nd_all (nd_all (lf_all (okD_ok (by decide +kernel))) (nd_all (lf_all (okD_ok (by decide +kernel))) (lf_all (okD_ok (by decide +kernel))))) (nd_all (nd_all (lf_all (okD_ok (by decide +kernel))) (lf_all (okD_ok (by decide +kernel)))) (nd_all (lf_all (okD_ok (by decide +kernel))) (lf_all (okD_ok (by decide +kernel))))))))
def tX7_take : Nat → Option mE := (nd 73 (nd 34 (nd 14 (nd 6 (nd 2 (nd 1 (lf 0 (.aload_n 0, 1, 0, 0)) (lf 1 (.iload_n 1, 2, 0, 0))) (nd 5 (lf 2 (.invokevirtual 154, 5, 0, 0)) (lf 5 (.astore_n 3, 6, 0, 0)))) (nd 8 (nd 7 (lf 6 (.aload_n 0, 7, 0, 0)) (lf 7 (.iload_n 2, 8, 0, 0))) (nd 11 (lf 8 (.invokevirtual 123, 11, 0, 0)) (nd 13 (lf 11 (.astore 4, 13, 0, 0)) (lf 13 (.aload_n 3, 14, 0, 0)))))) (nd 24 (nd 19 (nd 17 (lf 14 (.ifnull 8, 17, 22, 0)) (lf 17 (.aload 4, 19, 0, 0))) (nd 22 (lf 19 (.ifnonnull 6, 22, 25, 0)) (lf 22 (.bipush (-2), 24, 0, (-2))))) (nd 27 (nd 25 (lf 24 (.ireturn, 25, 0, 0)) (lf 25 (.aload 4, 27, 0, 0))) (nd 30 (lf 27 (.getfield 127, 30, 0, 0)) (nd 32 (lf 30 (.astore 5, 32, 0, 0)) (lf 32 (.aload 4, 34, 0, 0))))))) (nd 52 (nd 44 (nd 40 (nd 37 (lf 34 (.getfield 151, 37, 0, 0)) (lf 37 (.ifCond .ne 40, 40, 77, 0))) (nd 41 (lf 40 (.aload_n 0, 41, 0, 0)) (lf 41 (.getfield 19, 44, 0, 0)))) (nd 48 (nd 45 (lf 44 (.aload_n 0, 45, 0, 0)) (lf 45 (.getfield 12, 48, 0, 0))) (nd 50 (lf 48 (.aload 5, 50, 0, 0)) (nd 51 (lf 50 (.iconst 0, 51, 0, 0)) (lf 51 (.iconst 1, 52, 0, 1)))))) (nd 63 (nd 57 (nd 55 (lf 52 (.invokevirtual 158, 55, 0, 0)) (lf 55 (.istore 6, 57, 0, 0))) (nd 58 (lf 57 (.aload_n 3, 58, 0, 0)) (nd 60 (lf 58 (.iload 6, 60, 0, 0)) (lf 60 (.ifCond .eq 12, 63, 72, 0))))) (nd 66 (nd 64 (lf 63 (.aload_n 3, 64, 0, 0)) (lf 64 (.aload 5, 66, 0, 0))) (nd 69 (lf 66 (.invokevirtual 162, 69, 0, 0)) (nd 72 (lf 69 (.goto 4, 72, 73, 0)) (lf 72 (.iconst (-1), 73, 0, (-1))))))))) (nd 110 (nd 91 (nd 82 (nd 77 (nd 76 (lf 73 (.invokevirtual 166, 76, 0, 0)) (lf 76 (.ireturn, 77, 0, 0))) (nd 79 (lf 77 (.aload 4, 79, 0, 0)) (lf 79 (.getfield 151, 82, 0, 0)))) (nd 86 (nd 83 (lf 82 (.iconst 1, 83, 0, 1)) (lf 83 (.if_icmp .ne 45, 86, 128, 0))) (nd 87 (lf 86 (.aload_n 0, 87, 0, 0)) (nd 90 (lf 87 (.getfield 30, 90, 0, 0)) (lf 90 (.aload_n 0, 91, 0, 0)))))) (nd 100 (nd 96 (nd 94 (lf 91 (.getfield 12, 94, 0, 0)) (lf 94 (.aload 5, 96, 0, 0))) (nd 98 (lf 96 (.bipush 9, 98, 0, 9)) (lf 98 (.aload 5, 100, 0, 0)))) (nd 104 (nd 101 (lf 100 (.iconst 1, 101, 0, 1)) (lf 101 (.invokevirtual 169, 104, 0, 0))) (nd 106 (lf 104 (.aload 5, 106, 0, 0)) (nd 107 (lf 106 (.iconst 5, 107, 0, 5)) (lf 107 (.invokevirtual 169, 110, 0, 0))))))) (nd 128 (nd 117 (nd 115 (nd 113 (lf 110 (.invokevirtual 172, 113, 0, 0)) (lf 113 (.astore 6, 115, 0, 0))) (nd 116 (lf 115 (.aload_n 3, 116, 0, 0)) (lf 116 (.aload_n 3, 117, 0, 0)))) (nd 121 (nd 119 (lf 117 (.aload 5, 119, 0, 0)) (lf 119 (.aload 6, 121, 0, 0))) (nd 124 (lf 121 (.invokevirtual 176, 124, 0, 0)) (nd 127 (lf 124 (.invokevirtual 166, 127, 0, 0)) (lf 127 (.ireturn, 128, 0, 0)))))) (nd 136 (nd 131 (nd 129 (lf 128 (.aload_n 3, 129, 0, 0)) (lf 129 (.aload 5, 131, 0, 0))) (nd 132 (lf 131 (.aload_n 0, 132, 0, 0)) (nd 135 (lf 132 (.getfield 30, 135, 0, 0)) (lf 135 (.aload_n 0, 136, 0, 0))))) (nd 141 (nd 139 (lf 136 (.getfield 12, 139, 0, 0)) (lf 139 (.aload 5, 141, 0, 0))) (nd 144 (lf 141 (.invokevirtual 180, 144, 0, 0)) (nd 147 (lf 144 (.invokevirtual 184, 147, 0, 0)) (lf 147 (.ireturn, 148, 0, 0)))))))))
theorem tX7_take_ok : tAll (okC cX7_take 7) tX7_take := (nd_all (nd_all (nd_all (nd_all (nd_all (nd_all (lf_all (okD_ok (by decide +kernel))) (lf_all (okD_ok (by decide +kernel)))) (nd_all (lf_all (okD_ok (by decide +kernel))) (lf_all (okD_ok (by decide +kernel))))) (nd_all (nd_all (lf_all (okD_ok (by decide +kernel))) (lf_all (okD_ok (by decide +kernel)))) (nd_all (lf_all (okD_ok (by decide +kernel))) (nd_all (lf_all (okD_ok (by decide +kernel))) (lf_all (okD_ok (by decide +kernel))))))) (nd_all (nd_all (nd_all (lf_all (okD_ok (by decide +kernel))) (lf_all (okD_ok (by decide +kernel)))) (nd_all (lf_all (okD_ok (by decide +kernel))) (lf_all (okD_ok (by decide +kernel))))) (nd_all (nd_all (lf_all (okD_ok (by decide +kernel))) (lf_all (okD_ok (by decide +kernel)))) (nd_all (lf_all (okD_ok (by decide +kernel))) (nd_all (lf_all (okD_ok (by decide +kernel))) (lf_all (okD_ok (by decide +kernel)))))))) (nd_all (nd_all (nd_all (nd_all (lf_all (okD_ok (by decide +kernel))) (lf_all (okD_ok (by decide +kernel)))) (nd_all (lf_all (okD_ok (by decide +kernel))) (lf_all (okD_ok (by decide +kernel))))) (nd_all (nd_all (lf_all (okD_ok (by decide +kernel))) (lf_all (okD_ok (by decide +kernel)))) (nd_all (lf_all (okD_ok (by decide +kernel))) (nd_all (lf_all (okD_ok (by decide +kernel))) (lf_all (okD_ok (by decide +kernel))))))) (nd_all (nd_all (nd_all (lf_all (okD_ok (by decide +kernel))) (lf_all (okD_ok (by decide +kernel)))) (nd_all (lf_all (okD_ok (by decide +kernel))) (nd_all (lf_all (okD_ok (by decide +kernel))) (lf_all (okD_ok (by decide +kernel)))))) (nd_all (nd_all (lf_all (okD_ok (by decide +kernel))) (lf_all (okD_ok (by decide +kernel)))) (nd_all (lf_all (okD_ok (by decide +kernel))) (nd_all (lf_all (okD_ok (by decide +kernel))) (lf_all (okD_ok (by decide +kernel))))))))) (nd_all (nd_all (nd_all (nd_all (nd_all (lf_all (okD_ok (by decide +kernel))) (lf_all (okD_ok (by decide +kernel)))) (nd_all (lf_all (okD_ok (by decide +kernel))) (lf_all (okD_ok (by decide +kernel))))) (nd_all (nd_all (lf_all (okD_ok (by decide +kernel))) (lf_all (okD_ok (by decide +kernel)))) (nd_all (lf_all (okD_ok (by decide +kernel))) (nd_all (lf_all (okD_ok (by decide +kernel))) (lf_all (okD_ok (by decide +kernel))))))) (nd_all (nd_all (nd_all (lf_all (okD_ok (by decide +kernel))) (lf_all (okD_ok (by decide +kernel)))) (nd_all (lf_all (okD_ok (by decide +kernel))) (lf_all (okD_ok (by decide +kernel))))) (nd_all (nd_all (lf_all (okD_ok (by decide +kernel))) (lf_all (okD_ok (by decide +kernel)))) (nd_all (lf_all (okD_ok (by decide +kernel))) (nd_all (lf_all (okD_ok (by decide +kernel))) (lf_all (okD_ok (by decide +kernel)))))))) (nd_all (nd_all (nd_all (nd_all (lf_all (okD_ok (by decide +kernel))) (lf_all (okD_ok (by decide +kernel)))) (nd_all (lf_all (okD_ok (by decide +kernel))) (lf_all (okD_ok (by decide +kernel))))) (nd_all (nd_all (lf_all (okD_ok (by decide +kernel))) (lf_all (okD_ok (by decide +kernel)))) (nd_all (lf_all (okD_ok (by decide +kernel))) (nd_all (lf_all (okD_ok (by decide +kernel))) (lf_all (okD_ok (by decide +kernel))))))) (nd_all (nd_all (nd_all (lf_all (okD_ok (by decide +kernel))) (lf_all (okD_ok (by decide +kernel)))) (nd_all (lf_all (okD_ok (by decide +kernel))) (nd_all (lf_all (okD_ok (by decide +kernel))) (lf_all (okD_ok (by decide +kernel)))))) (nd_all (nd_all (lf_all (okD_ok (by decide +kernel))) (lf_all (okD_ok (by decide +kernel)))) (nd_all (lf_all (okD_ok (by decide +kernel))) (nd_all (lf_all (okD_ok (by decide +kernel))) (lf_all (okD_ok (by decide +kernel))))))))))
def tX7_gossip : Nat → Option mE := (nd 33 (nd 17 (nd 7 (nd 2 (nd 1 (lf 0 (.aload_n 0, 1, 0, 0)) (lf 1 (.iload_n 1, 2, 0, 0))) (nd 5 (lf 2 (.invokevirtual 154, 5, 0, 0)) (nd 6 (lf 5 (.astore_n 3, 6, 0, 0)) (lf 6 (.aload_n 0, 7, 0, 0))))) (nd 11 (nd 8 (lf 7 (.iload_n 2, 8, 0, 0)) (lf 8 (.invokevirtual 154, 11, 0, 0))) (nd 13 (lf 11 (.astore 4, 13, 0, 0)) (nd 14 (lf 13 (.aload_n 3, 14, 0, 0)) (lf 14 (.ifnull 13, 17, 27, 0)))))) (nd 27 (nd 22 (nd 19 (lf 17 (.aload 4, 19, 0, 0)) (lf 19 (.ifnull 8, 22, 27, 0))) (nd 23 (lf 22 (.iload_n 1, 23, 0, 0)) (nd 24 (lf 23 (.iload_n 2, 24, 0, 0)) (lf 24 (.if_icmp .ne 5, 27, 29, 0))))) (nd 29 (nd 28 (lf 27 (.iconst (-1), 28, 0, (-1))) (lf 28 (.ireturn, 29, 0, 0))) (nd 30 (lf 29 (.iconst 0, 30, 0, 0)) (nd 32 (lf 30 (.istore 5, 32, 0, 0)) (lf 32 (.iconst 0, 33, 0, 0))))))) (nd 54 (nd 44 (nd 37 (nd 35 (lf 33 (.istore 6, 35, 0, 0)) (lf 35 (.iload 6, 37, 0, 0))) (nd 38 (lf 37 (.aload_n 3, 38, 0, 0)) (nd 41 (lf 38 (.getfield 187, 41, 0, 0)) (lf 41 (.if_icmp .ge 33, 44, 74, 0))))) (nd 48 (nd 46 (lf 44 (.aload 4, 46, 0, 0)) (lf 46 (.aload 4, 48, 0, 0))) (nd 49 (lf 48 (.aload_n 3, 49, 0, 0)) (nd 52 (lf 49 (.getfield 190, 52, 0, 0)) (lf 52 (.iload 6, 54, 0, 0)))))) (nd 65 (nd 58 (nd 55 (lf 54 (.aaload, 55, 0, 0)) (lf 55 (.invokevirtual 162, 58, 0, 0))) (nd 61 (lf 58 (.invokevirtual 166, 61, 0, 0)) (nd 62 (lf 61 (.iconst 1, 62, 0, 1)) (lf 62 (.if_icmp .ne 6, 65, 68, 0))))) (nd 71 (nd 68 (lf 65 (.iinc 5 1, 68, 0, 1)) (lf 68 (.iinc 6 1, 71, 0, 1))) (nd 74 (lf 71 (.goto (-36), 74, 35, 0)) (nd 76 (lf 74 (.iload 5, 76, 0, 0)) (lf 76 (.ireturn, 77, 0, 0))))))))
theorem tX7_gossip_ok : tAll (okC cX7_gossip 7) tX7_gossip := (nd_all (nd_all (nd_all (nd_all (nd_all (lf_all (okD_ok (by decide +kernel))) (lf_all (okD_ok (by decide +kernel)))) (nd_all (lf_all (okD_ok (by decide +kernel))) (nd_all (lf_all (okD_ok (by decide +kernel))) (lf_all (okD_ok (by decide +kernel)))))) (nd_all (nd_all (lf_all (okD_ok (by decide +kernel))) (lf_all (okD_ok (by decide +kernel)))) (nd_all (lf_all (okD_ok (by decide +kernel))) (nd_all (lf_all (okD_ok (by decide +kernel))) (lf_all (okD_ok (by decide +kernel))))))) (nd_all (nd_all (nd_all (lf_all (okD_ok (by decide +kernel))) (lf_all (okD_ok (by decide +kernel)))) (nd_all (lf_all (okD_ok (by decide +kernel))) (nd_all (lf_all (okD_ok (by decide +kernel))) (lf_all (okD_ok (by decide +kernel)))))) (nd_all (nd_all (lf_all (okD_ok (by decide +kernel))) (lf_all (okD_ok (by decide +kernel)))) (nd_all (lf_all (okD_ok (by decide +kernel))) (nd_all (lf_all (okD_ok (by decide +kernel))) (lf_all (okD_ok (by decide +kernel)))))))) (nd_all (nd_all (nd_all (nd_all (lf_all (okD_ok (by decide +kernel))) (lf_all (okD_ok (by decide +kernel)))) (nd_all (lf_all (okD_ok (by decide +kernel))) (nd_all (lf_all (okD_ok (by decide +kernel))) (lf_all (okD_ok (by decide +kernel)))))) (nd_all (nd_all (lf_all (okD_ok (by decide +kernel))) (lf_all (okD_ok (by decide +kernel)))) (nd_all (lf_all (okD_ok (by decide +kernel))) (nd_all (lf_all (okD_ok (by decide +kernel))) (lf_all (okD_ok (by decide +kernel))))))) (nd_all (nd_all (nd_all (lf_all (okD_ok (by decide +kernel))) (lf_all (okD_ok (by decide +kernel)))) (nd_all (lf_all (okD_ok (by decide +kernel))) (nd_all (lf_all (okD_ok (by decide +kernel))) (lf_all (okD_ok (by decide +kernel)))))) (nd_all (nd_all (lf_all (okD_ok (by decide +kernel))) (lf_all (okD_ok (by decide +kernel)))) (nd_all (lf_all (okD_ok (by decide +kernel))) (nd_all (lf_all (okD_ok (by decide +kernel))) (lf_all (okD_ok (by decide +kernel)))))))))
def tX7_holds : Nat → Option mE := (nd 10 (nd 5 (nd 1 (lf 0 (.aload_n 0, 1, 0, 0)) (nd 2 (lf 1 (.iload_n 1, 2, 0, 0)) (lf 2 (.invokevirtual 154, 5, 0, 0)))) (nd 6 (lf 5 (.astore_n 3, 6, 0, 0)) (nd 7 (lf 6 (.aload_n 3, 7, 0, 0)) (lf 7 (.ifnonnull 7, 10, 14, 0))))) (nd 15 (nd 11 (lf 10 (.iconst (-1), 11, 0, (-1))) (nd 14 (lf 11 (.goto 8, 14, 19, 0)) (lf 14 (.aload_n 3, 15, 0, 0)))) (nd 16 (lf 15 (.iload_n 2, 16, 0, 0)) (nd 19 (lf 16 (.invokevirtual 194, 19, 0, 0)) (lf 19 (.ireturn, 20, 0, 0))))))
theorem tX7_holds_ok : tAll (okC cX7_holds 4) tX7_holds := (nd_all (nd_all (nd_all (lf_all (okD_ok (by decide +kernel))) (nd_all (lf_all (okD_ok (by decide +kernel))) (lf_all (okD_ok (by decide +kernel))))) (nd_all (lf_all (okD_ok (by decide +kernel))) (nd_all (lf_all (okD_ok (by decide +kernel))) (lf_all (okD_ok (by decide +kernel)))))) (nd_all (nd_all (lf_all (okD_ok (by decide +kernel))) (nd_all (lf_all (okD_ok (by decide +kernel))) (lf_all (okD_ok (by decide +kernel))))) (nd_all (lf_all (okD_ok (by decide +kernel))) (nd_all (lf_all (okD_ok (by decide +kernel))) (lf_all (okD_ok (by decide +kernel)))))))
def tX7_held : Nat → Option mE := (nd 18 (nd 7 (nd 2 (nd 1 (lf 0 (.aload_n 0, 1, 0, 0)) (lf 1 (.iload_n 1, 2, 0, 0))) (nd 5 (lf 2 (.invokevirtual 154, 5, 0, 0)) (lf 5 (.astore 4, 7, 0, 0)))) (nd 12 (nd 9 (lf 7 (.aload 4, 9, 0, 0)) (lf 9 (.ifnull 12, 12, 21, 0))) (nd 14 (lf 12 (.aload 4, 14, 0, 0)) (nd 15 (lf 14 (.iload_n 2, 15, 0, 0)) (lf 15 (.invokevirtual 197, 18, 0, 0)))))) (nd 30 (nd 22 (nd 21 (lf 18 (.ifCond .ne 7, 21, 25, 0)) (lf 21 (.iconst (-1), 22, 0, (-1)))) (nd 25 (lf 22 (.goto 14, 25, 36, 0)) (nd 27 (lf 25 (.aload 4, 27, 0, 0)) (lf 27 (.getfield 190, 30, 0, 0))))) (nd 32 (nd 31 (lf 30 (.iload_n 2, 31, 0, 0)) (lf 31 (.aaload, 32, 0, 0))) (nd 33 (lf 32 (.iload_n 3, 33, 0, 0)) (nd 36 (lf 33 (.invokevirtual 134, 36, 0, 0)) (lf 36 (.ireturn, 37, 0, 0)))))))
theorem tX7_held_ok : tAll (okC cX7_held 5) tX7_held := (nd_all (nd_all (nd_all (nd_all (lf_all (okD_ok (by decide +kernel))) (lf_all (okD_ok (by decide +kernel)))) (nd_all (lf_all (okD_ok (by decide +kernel))) (lf_all (okD_ok (by decide +kernel))))) (nd_all (nd_all (lf_all (okD_ok (by decide +kernel))) (lf_all (okD_ok (by decide +kernel)))) (nd_all (lf_all (okD_ok (by decide +kernel))) (nd_all (lf_all (okD_ok (by decide +kernel))) (lf_all (okD_ok (by decide +kernel))))))) (nd_all (nd_all (nd_all (lf_all (okD_ok (by decide +kernel))) (lf_all (okD_ok (by decide +kernel)))) (nd_all (lf_all (okD_ok (by decide +kernel))) (nd_all (lf_all (okD_ok (by decide +kernel))) (lf_all (okD_ok (by decide +kernel)))))) (nd_all (nd_all (lf_all (okD_ok (by decide +kernel))) (lf_all (okD_ok (by decide +kernel)))) (nd_all (lf_all (okD_ok (by decide +kernel))) (nd_all (lf_all (okD_ok (by decide +kernel))) (lf_all (okD_ok (by decide +kernel))))))))
def tX7_fact : Nat → Option mE := (nd 12 (nd 5 (nd 1 (lf 0 (.aload_n 0, 1, 0, 0)) (nd 2 (lf 1 (.iload_n 1, 2, 0, 0)) (lf 2 (.invokevirtual 154, 5, 0, 0)))) (nd 7 (lf 5 (.astore 4, 7, 0, 0)) (nd 9 (lf 7 (.aload 4, 9, 0, 0)) (lf 9 (.ifnonnull 7, 12, 16, 0))))) (nd 18 (nd 13 (lf 12 (.iconst (-1), 13, 0, (-1))) (nd 16 (lf 13 (.goto 10, 16, 23, 0)) (lf 16 (.aload 4, 18, 0, 0)))) (nd 20 (nd 19 (lf 18 (.iload_n 2, 19, 0, 0)) (lf 19 (.iload_n 3, 20, 0, 0))) (nd 23 (lf 20 (.invokevirtual 200, 23, 0, 0)) (lf 23 (.ireturn, 24, 0, 0))))))
theorem tX7_fact_ok : tAll (okC cX7_fact 5) tX7_fact := (nd_all (nd_all (nd_all (lf_all (okD_ok (by decide +kernel))) (nd_all (lf_all (okD_ok (by decide +kernel))) (lf_all (okD_ok (by decide +kernel))))) (nd_all (lf_all (okD_ok (by decide +kernel))) (nd_all (lf_all (okD_ok (by decide +kernel))) (lf_all (okD_ok (by decide +kernel)))))) (nd_all (nd_all (lf_all (okD_ok (by decide +kernel))) (nd_all (lf_all (okD_ok (by decide +kernel))) (lf_all (okD_ok (by decide +kernel))))) (nd_all (nd_all (lf_all (okD_ok (by decide +kernel))) (lf_all (okD_ok (by decide +kernel)))) (nd_all (lf_all (okD_ok (by decide +kernel))) (lf_all (okD_ok (by decide +kernel)))))))
def tX7_record : Nat → Option mE := (nd 12 (nd 5 (nd 1 (lf 0 (.aload_n 0, 1, 0, 0)) (nd 2 (lf 1 (.iload_n 1, 2, 0, 0)) (lf 2 (.invokevirtual 154, 5, 0, 0)))) (nd 7 (lf 5 (.astore 4, 7, 0, 0)) (nd 9 (lf 7 (.aload 4, 9, 0, 0)) (lf 9 (.ifnonnull 7, 12, 16, 0))))) (nd 18 (nd 13 (lf 12 (.iconst (-1), 13, 0, (-1))) (nd 16 (lf 13 (.goto 10, 16, 23, 0)) (lf 16 (.aload 4, 18, 0, 0)))) (nd 20 (nd 19 (lf 18 (.iload_n 2, 19, 0, 0)) (lf 19 (.iload_n 3, 20, 0, 0))) (nd 23 (lf 20 (.invokevirtual 204, 23, 0, 0)) (lf 23 (.ireturn, 24, 0, 0))))))
theorem tX7_record_ok : tAll (okC cX7_record 5) tX7_record := (nd_all (nd_all (nd_all (lf_all (okD_ok (by decide +kernel))) (nd_all (lf_all (okD_ok (by decide +kernel))) (lf_all (okD_ok (by decide +kernel))))) (nd_all (lf_all (okD_ok (by decide +kernel))) (nd_all (lf_all (okD_ok (by decide +kernel))) (lf_all (okD_ok (by decide +kernel)))))) (nd_all (nd_all (lf_all (okD_ok (by decide +kernel))) (nd_all (lf_all (okD_ok (by decide +kernel))) (lf_all (okD_ok (by decide +kernel))))) (nd_all (nd_all (lf_all (okD_ok (by decide +kernel))) (lf_all (okD_ok (by decide +kernel)))) (nd_all (lf_all (okD_ok (by decide +kernel))) (lf_all (okD_ok (by decide +kernel)))))))
def tX7_lay : Nat → Option mE := (nd 18 (nd 7 (nd 2 (nd 1 (lf 0 (.aload_n 0, 1, 0, 0)) (lf 1 (.iload_n 1, 2, 0, 0))) (nd 5 (lf 2 (.invokevirtual 154, 5, 0, 0)) (nd 6 (lf 5 (.astore_n 3, 6, 0, 0)) (lf 6 (.aload_n 3, 7, 0, 0))))) (nd 11 (nd 10 (lf 7 (.ifnull 11, 10, 18, 0)) (lf 10 (.aload_n 3, 11, 0, 0))) (nd 12 (lf 11 (.iload_n 2, 12, 0, 0)) (nd 15 (lf 12 (.invokevirtual 207, 15, 0, 0)) (lf 15 (.ifCond .ne 5, 18, 20, 0)))))) (nd 23 (nd 20 (nd 19 (lf 18 (.iconst (-1), 19, 0, (-1))) (lf 19 (.ireturn, 20, 0, 0))) (nd 21 (lf 20 (.aload_n 3, 21, 0, 0)) (nd 22 (lf 21 (.iload_n 2, 22, 0, 0)) (lf 22 (.aload_n 0, 23, 0, 0))))) (nd 30 (nd 26 (lf 23 (.getfield 60, 26, 0, 0)) (nd 29 (lf 26 (.invokevirtual 210, 29, 0, 0)) (lf 29 (.aload_n 0, 30, 0, 0)))) (nd 33 (lf 30 (.getfield 60, 33, 0, 0)) (nd 36 (lf 33 (.getfield 145, 36, 0, 0)) (lf 36 (.ireturn, 37, 0, 0)))))))
theorem tX7_lay_ok : tAll (okC cX7_lay 4) tX7_lay := (nd_all (nd_all (nd_all (nd_all (lf_all (okD_ok (by decide +kernel))) (lf_all (okD_ok (by decide +kernel)))) (nd_all (lf_all (okD_ok (by decide +kernel))) (nd_all (lf_all (okD_ok (by decide +kernel))) (lf_all (okD_ok (by decide +kernel)))))) (nd_all (nd_all (lf_all (okD_ok (by decide +kernel))) (lf_all (okD_ok (by decide +kernel)))) (nd_all (lf_all (okD_ok (by decide +kernel))) (nd_all (lf_all (okD_ok (by decide +kernel))) (lf_all (okD_ok (by decide +kernel))))))) (nd_all (nd_all (nd_all (lf_all (okD_ok (by decide +kernel))) (lf_all (okD_ok (by decide +kernel)))) (nd_all (lf_all (okD_ok (by decide +kernel))) (nd_all (lf_all (okD_ok (by decide +kernel))) (lf_all (okD_ok (by decide +kernel)))))) (nd_all (nd_all (lf_all (okD_ok (by decide +kernel))) (nd_all (lf_all (okD_ok (by decide +kernel))) (lf_all (okD_ok (by decide +kernel))))) (nd_all (lf_all (okD_ok (by decide +kernel))) (nd_all (lf_all (okD_ok (by decide +kernel))) (lf_all (okD_ok (by decide +kernel))))))))
def tX7_desk : Nat → Option mE := (nd 4 (nd 1 (lf 0 (.aload_n 0, 1, 0, 0)) (lf 1 (.getfield 60, 4, 0, 0))) (nd 5 (lf 4 (.iload_n 1, 5, 0, 0)) (nd 8 (lf 5 (.invokevirtual 134, 8, 0, 0)) (lf 8 (.ireturn, 9, 0, 0)))))
theorem tX7_desk_ok : tAll (okC cX7_desk 2) tX7_desk := (nd_all (nd_all (lf_all (okD_ok (by decide +kernel))) (lf_all (okD_ok (by decide +kernel)))) (nd_all (lf_all (okD_ok (by decide +kernel))) (nd_all (lf_all (okD_ok (by decide +kernel))) (lf_all (okD_ok (by decide +kernel))))))
def tX7_patch : Nat → Option mE := (nd 13 (nd 5 (nd 1 (lf 0 (.aload_n 0, 1, 0, 0)) (nd 4 (lf 1 (.getfield 60, 4, 0, 0)) (lf 4 (.iload_n 1, 5, 0, 0)))) (nd 11 (nd 8 (lf 5 (.invokevirtual 130, 8, 0, 0)) (lf 8 (.ifCond .ne 5, 11, 13, 0))) (nd 12 (lf 11 (.iconst 0, 12, 0, 0)) (lf 12 (.ireturn, 13, 0, 0))))) (nd 18 (nd 14 (lf 13 (.aload_n 0, 14, 0, 0)) (nd 17 (lf 14 (.getfield 60, 17, 0, 0)) (lf 17 (.iload_n 1, 18, 0, 0)))) (nd 22 (nd 19 (lf 18 (.iload_n 2, 19, 0, 0)) (lf 19 (.invokevirtual 137, 22, 0, 0))) (nd 23 (lf 22 (.iconst 1, 23, 0, 1)) (lf 23 (.ireturn, 24, 0, 0))))))
theorem tX7_patch_ok : tAll (okC cX7_patch 3) tX7_patch := (nd_all (nd_all (nd_all (lf_all (okD_ok (by decide +kernel))) (nd_all (lf_all (okD_ok (by decide +kernel))) (lf_all (okD_ok (by decide +kernel))))) (nd_all (nd_all (lf_all (okD_ok (by decide +kernel))) (lf_all (okD_ok (by decide +kernel)))) (nd_all (lf_all (okD_ok (by decide +kernel))) (lf_all (okD_ok (by decide +kernel)))))) (nd_all (nd_all (lf_all (okD_ok (by decide +kernel))) (nd_all (lf_all (okD_ok (by decide +kernel))) (lf_all (okD_ok (by decide +kernel))))) (nd_all (nd_all (lf_all (okD_ok (by decide +kernel))) (lf_all (okD_ok (by decide +kernel)))) (nd_all (lf_all (okD_ok (by decide +kernel))) (lf_all (okD_ok (by decide +kernel)))))))
def tX7_trim : Nat → Option mE := (nd 12 (nd 5 (nd 1 (lf 0 (.iload_n 1, 1, 0, 0)) (nd 4 (lf 1 (.ifCond .lt 10, 4, 11, 0)) (lf 4 (.iload_n 1, 5, 0, 0)))) (nd 8 (lf 5 (.sipush 634, 8, 0, 634)) (nd 11 (lf 8 (.if_icmp .le 5, 11, 13, 0)) (lf 11 (.iconst 0, 12, 0, 0))))) (nd 17 (nd 13 (lf 12 (.ireturn, 13, 0, 0)) (nd 14 (lf 13 (.aload_n 0, 14, 0, 0)) (lf 14 (.getfield 60, 17, 0, 0)))) (nd 21 (nd 18 (lf 17 (.iload_n 1, 18, 0, 0)) (lf 18 (.invokevirtual 148, 21, 0, 0))) (nd 22 (lf 21 (.iconst 1, 22, 0, 1)) (lf 22 (.ireturn, 23, 0, 0))))))
theorem tX7_trim_ok : tAll (okC cX7_trim 2) tX7_trim := (nd_all (nd_all (nd_all (lf_all (okD_ok (by decide +kernel))) (nd_all (lf_all (okD_ok (by decide +kernel))) (lf_all (okD_ok (by decide +kernel))))) (nd_all (lf_all (okD_ok (by decide +kernel))) (nd_all (lf_all (okD_ok (by decide +kernel))) (lf_all (okD_ok (by decide +kernel)))))) (nd_all (nd_all (lf_all (okD_ok (by decide +kernel))) (nd_all (lf_all (okD_ok (by decide +kernel))) (lf_all (okD_ok (by decide +kernel))))) (nd_all (nd_all (lf_all (okD_ok (by decide +kernel))) (lf_all (okD_ok (by decide +kernel)))) (nd_all (lf_all (okD_ok (by decide +kernel))) (lf_all (okD_ok (by decide +kernel)))))))
def tX7_audit : Nat → Option mE := (nd 40 (nd 15 (nd 8 (nd 4 (nd 1 (lf 0 (.aload_n 0, 1, 0, 0)) (lf 1 (.getfield 60, 4, 0, 0))) (nd 5 (lf 4 (.iconst 0, 5, 0, 0)) (lf 5 (.invokevirtual 134, 8, 0, 0)))) (nd 10 (nd 9 (lf 8 (.istore_n 1, 9, 0, 0)) (lf 9 (.iload_n 1, 10, 0, 0))) (nd 11 (lf 10 (.iconst 1, 11, 0, 1)) (nd 14 (lf 11 (.if_icmp .ne 35, 14, 46, 0)) (lf 14 (.aload_n 0, 15, 0, 0)))))) (nd 27 (nd 21 (nd 18 (lf 15 (.getfield 60, 18, 0, 0)) (lf 18 (.getfield 145, 21, 0, 0))) (nd 23 (lf 21 (.bipush 90, 23, 0, 90)) (nd 26 (lf 23 (.if_icmp .ne 21, 26, 44, 0)) (lf 26 (.aload_n 0, 27, 0, 0))))) (nd 33 (nd 30 (lf 27 (.invokevirtual 214, 30, 0, 0)) (lf 30 (.ifCond .eq 14, 33, 44, 0))) (nd 34 (lf 33 (.aload_n 0, 34, 0, 0)) (nd 37 (lf 34 (.invokevirtual 217, 37, 0, 0)) (lf 37 (.ifCond .eq 7, 40, 44, 0))))))) (nd 58 (nd 47 (nd 44 (nd 41 (lf 40 (.iconst 1, 41, 0, 1)) (lf 41 (.goto 4, 44, 45, 0))) (nd 45 (lf 44 (.iconst 0, 45, 0, 0)) (nd 46 (lf 45 (.ireturn, 46, 0, 0)) (lf 46 (.iload_n 1, 47, 0, 0))))) (nd 51 (nd 48 (lf 47 (.iconst 2, 48, 0, 2)) (lf 48 (.if_icmp .ne 28, 51, 76, 0))) (nd 52 (lf 51 (.aload_n 0, 52, 0, 0)) (nd 55 (lf 52 (.invokevirtual 220, 55, 0, 0)) (lf 55 (.ifCond .eq 21, 58, 76, 0)))))) (nd 69 (nd 62 (nd 59 (lf 58 (.aload_n 0, 59, 0, 0)) (lf 59 (.invokevirtual 214, 62, 0, 0))) (nd 65 (lf 62 (.ifCond .eq 14, 65, 76, 0)) (nd 66 (lf 65 (.aload_n 0, 66, 0, 0)) (lf 66 (.invokevirtual 223, 69, 0, 0))))) (nd 73 (nd 72 (lf 69 (.ifCond .eq 7, 72, 76, 0)) (lf 72 (.iconst 1, 73, 0, 1))) (nd 76 (lf 73 (.goto 4, 76, 77, 0)) (nd 77 (lf 76 (.iconst 0, 77, 0, 0)) (lf 77 (.ireturn, 78, 0, 0))))))))
theorem tX7_audit_ok : tAll (okC cX7_audit 2) tX7_audit := (nd_all (nd_all (nd_all (nd_all (nd_all (lf_all (okD_ok (by decide +kernel))) (lf_all (okD_ok (by decide +kernel)))) (nd_all (lf_all (okD_ok (by decide +kernel))) (lf_all (okD_ok (by decide +kernel))))) (nd_all (nd_all (lf_all (okD_ok (by decide +kernel))) (lf_all (okD_ok (by decide +kernel)))) (nd_all (lf_all (okD_ok (by decide +kernel))) (nd_all (lf_all (okD_ok (by decide +kernel))) (lf_all (okD_ok (by decide +kernel))))))) (nd_all (nd_all (nd_all (lf_all (okD_ok (by decide +kernel))) (lf_all (okD_ok (by decide +kernel)))) (nd_all (lf_all (okD_ok (by decide +kernel))) (nd_all (lf_all (okD_ok (by decide +kernel))) (lf_all (okD_ok (by decide +kernel)))))) (nd_all (nd_all (lf_all (okD_ok (by decide +kernel))) (lf_all (okD_ok (by decide +kernel)))) (nd_all (lf_all (okD_ok (by decide +kernel))) (nd_all (lf_all (okD_ok (by decide +kernel))) (lf_all (okD_ok (by decide +kernel)))))))) (nd_all (nd_all (nd_all (nd_all (lf_all (okD_ok (by decide +kernel))) (lf_all (okD_ok (by decide +kernel)))) (nd_all (lf_all (okD_ok (by decide +kernel))) (nd_all (lf_all (okD_ok (by decide +kernel))) (lf_all (okD_ok (by decide +kernel)))))) (nd_all (nd_all (lf_all (okD_ok (by decide +kernel))) (lf_all (okD_ok (by decide +kernel)))) (nd_all (lf_all (okD_ok (by decide +kernel))) (nd_all (lf_all (okD_ok (by decide +kernel))) (lf_all (okD_ok (by decide +kernel))))))) (nd_all (nd_all (nd_all (lf_all (okD_ok (by decide +kernel))) (lf_all (okD_ok (by decide +kernel)))) (nd_all (lf_all (okD_ok (by decide +kernel))) (nd_all (lf_all (okD_ok (by decide +kernel))) (lf_all (okD_ok (by decide +kernel)))))) (nd_all (nd_all (lf_all (okD_ok (by decide +kernel))) (lf_all (okD_ok (by decide +kernel)))) (nd_all (lf_all (okD_ok (by decide +kernel))) (nd_all (lf_all (okD_ok (by decide +kernel))) (lf_all (okD_ok (by decide +kernel)))))))))
def tX7_hash : Nat → Option mE := (nd 16 (nd 7 (nd 4 (nd 1 (lf 0 (.iload_n 1, 1, 0, 0)) (lf 1 (.ifCond .lt 9, 4, 10, 0))) (nd 5 (lf 4 (.iload_n 1, 5, 0, 0)) (lf 5 (.bipush 32, 7, 0, 32)))) (nd 11 (nd 10 (lf 7 (.if_icmp .lt 5, 10, 12, 0)) (lf 10 (.iconst (-1), 11, 0, (-1)))) (nd 12 (lf 11 (.ireturn, 12, 0, 0)) (nd 13 (lf 12 (.aload_n 0, 13, 0, 0)) (lf 13 (.getfield 12, 16, 0, 0)))))) (nd 27 (nd 20 (nd 19 (lf 16 (.getfield 226, 19, 0, 0)) (lf 19 (.aload_n 0, 20, 0, 0))) (nd 23 (lf 20 (.getfield 60, 23, 0, 0)) (nd 26 (lf 23 (.invokevirtual 229, 26, 0, 0)) (lf 26 (.aload_n 0, 27, 0, 0))))) (nd 33 (nd 30 (lf 27 (.getfield 12, 30, 0, 0)) (lf 30 (.invokevirtual 232, 33, 0, 0))) (nd 34 (lf 33 (.iload_n 1, 34, 0, 0)) (nd 37 (lf 34 (.invokevirtual 134, 37, 0, 0)) (lf 37 (.ireturn, 38, 0, 0)))))))
theorem tX7_hash_ok : tAll (okC cX7_hash 2) tX7_hash := (nd_all (nd_all (nd_all (nd_all (lf_all (okD_ok (by decide +kernel))) (lf_all (okD_ok (by decide +kernel)))) (nd_all (lf_all (okD_ok (by decide +kernel))) (lf_all (okD_ok (by decide +kernel))))) (nd_all (nd_all (lf_all (okD_ok (by decide +kernel))) (lf_all (okD_ok (by decide +kernel)))) (nd_all (lf_all (okD_ok (by decide +kernel))) (nd_all (lf_all (okD_ok (by decide +kernel))) (lf_all (okD_ok (by decide +kernel))))))) (nd_all (nd_all (nd_all (lf_all (okD_ok (by decide +kernel))) (lf_all (okD_ok (by decide +kernel)))) (nd_all (lf_all (okD_ok (by decide +kernel))) (nd_all (lf_all (okD_ok (by decide +kernel))) (lf_all (okD_ok (by decide +kernel)))))) (nd_all (nd_all (lf_all (okD_ok (by decide +kernel))) (lf_all (okD_ok (by decide +kernel)))) (nd_all (lf_all (okD_ok (by decide +kernel))) (nd_all (lf_all (okD_ok (by decide +kernel))) (lf_all (okD_ok (by decide +kernel))))))))
def tX7_viewOf : Nat → Option mE := (nd 18 (nd 9 (nd 4 (nd 1 (lf 0 (.iload_n 1, 1, 0, 0)) (lf 1 (.ifCond .lt 17, 4, 18, 0))) (nd 5 (lf 4 (.iload_n 1, 5, 0, 0)) (nd 6 (lf 5 (.iconst 4, 6, 0, 4)) (lf 6 (.if_icmp .ge 12, 9, 18, 0))))) (nd 13 (nd 10 (lf 9 (.iload_n 2, 10, 0, 0)) (lf 10 (.ifCond .lt 8, 13, 18, 0))) (nd 14 (lf 13 (.iload_n 2, 14, 0, 0)) (nd 15 (lf 14 (.iconst 2, 15, 0, 2)) (lf 15 (.if_icmp .lt 5, 18, 20, 0)))))) (nd 25 (nd 20 (nd 19 (lf 18 (.aconst_null, 19, 0, 0)) (lf 19 (.areturn, 20, 0, 0))) (nd 21 (lf 20 (.aload_n 0, 21, 0, 0)) (nd 24 (lf 21 (.getfield 36, 24, 0, 0)) (lf 24 (.iload_n 1, 25, 0, 0))))) (nd 28 (nd 26 (lf 25 (.iconst 2, 26, 0, 2)) (nd 27 (lf 26 (.imul, 27, 0, 0)) (lf 27 (.iload_n 2, 28, 0, 0)))) (nd 29 (lf 28 (.iadd, 29, 0, 0)) (nd 30 (lf 29 (.aaload, 30, 0, 0)) (lf 30 (.areturn, 31, 0, 0)))))))
theorem tX7_viewOf_ok : tAll (okC cX7_viewOf 3) tX7_viewOf := (nd_all (nd_all (nd_all (nd_all (lf_all (okD_ok (by decide +kernel))) (lf_all (okD_ok (by decide +kernel)))) (nd_all (lf_all (okD_ok (by decide +kernel))) (nd_all (lf_all (okD_ok (by decide +kernel))) (lf_all (okD_ok (by decide +kernel)))))) (nd_all (nd_all (lf_all (okD_ok (by decide +kernel))) (lf_all (okD_ok (by decide +kernel)))) (nd_all (lf_all (okD_ok (by decide +kernel))) (nd_all (lf_all (okD_ok (by decide +kernel))) (lf_all (okD_ok (by decide +kernel))))))) (nd_all (nd_all (nd_all (lf_all (okD_ok (by decide +kernel))) (lf_all (okD_ok (by decide +kernel)))) (nd_all (lf_all (okD_ok (by decide +kernel))) (nd_all (lf_all (okD_ok (by decide +kernel))) (lf_all (okD_ok (by decide +kernel)))))) (nd_all (nd_all (lf_all (okD_ok (by decide +kernel))) (nd_all (lf_all (okD_ok (by decide +kernel))) (lf_all (okD_ok (by decide +kernel))))) (nd_all (lf_all (okD_ok (by decide +kernel))) (nd_all (lf_all (okD_ok (by decide +kernel))) (lf_all (okD_ok (by decide +kernel))))))))
def tX7_letterOf : Nat → Option mE := (nd 12 (nd 5 (nd 1 (lf 0 (.iload_n 1, 1, 0, 0)) (nd 4 (lf 1 (.ifCond .lt 11, 4, 12, 0)) (lf 4 (.iload_n 1, 5, 0, 0)))) (nd 6 (lf 5 (.aload_n 0, 6, 0, 0)) (nd 9 (lf 6 (.getfield 67, 9, 0, 0)) (lf 9 (.if_icmp .lt 7, 12, 16, 0))))) (nd 17 (nd 13 (lf 12 (.aconst_null, 13, 0, 0)) (nd 16 (lf 13 (.goto 9, 16, 22, 0)) (lf 16 (.aload_n 0, 17, 0, 0)))) (nd 21 (nd 20 (lf 17 (.getfield 43, 20, 0, 0)) (lf 20 (.iload_n 1, 21, 0, 0))) (nd 22 (lf 21 (.aaload, 22, 0, 0)) (lf 22 (.areturn, 23, 0, 0))))))
theorem tX7_letterOf_ok : tAll (okC cX7_letterOf 2) tX7_letterOf := (nd_all (nd_all (nd_all (lf_all (okD_ok (by decide +kernel))) (nd_all (lf_all (okD_ok (by decide +kernel))) (lf_all (okD_ok (by decide +kernel))))) (nd_all (lf_all (okD_ok (by decide +kernel))) (nd_all (lf_all (okD_ok (by decide +kernel))) (lf_all (okD_ok (by decide +kernel)))))) (nd_all (nd_all (lf_all (okD_ok (by decide +kernel))) (nd_all (lf_all (okD_ok (by decide +kernel))) (lf_all (okD_ok (by decide +kernel))))) (nd_all (nd_all (lf_all (okD_ok (by decide +kernel))) (lf_all (okD_ok (by decide +kernel)))) (nd_all (lf_all (okD_ok (by decide +kernel))) (lf_all (okD_ok (by decide +kernel)))))))
def tX7_monitorOf : Nat → Option mE := (nd 10 (nd 5 (nd 1 (lf 0 (.iload_n 1, 1, 0, 0)) (nd 4 (lf 1 (.ifCond .lt 8, 4, 9, 0)) (lf 4 (.iload_n 1, 5, 0, 0)))) (nd 6 (lf 5 (.iconst 4, 6, 0, 4)) (nd 9 (lf 6 (.if_icmp .lt 7, 9, 13, 0)) (lf 9 (.aconst_null, 10, 0, 0))))) (nd 17 (nd 13 (lf 10 (.goto 9, 13, 19, 0)) (nd 14 (lf 13 (.aload_n 0, 14, 0, 0)) (lf 14 (.getfield 50, 17, 0, 0)))) (nd 18 (lf 17 (.iload_n 1, 18, 0, 0)) (nd 19 (lf 18 (.aaload, 19, 0, 0)) (lf 19 (.areturn, 20, 0, 0))))))
theorem tX7_monitorOf_ok : tAll (okC cX7_monitorOf 2) tX7_monitorOf := (nd_all (nd_all (nd_all (lf_all (okD_ok (by decide +kernel))) (nd_all (lf_all (okD_ok (by decide +kernel))) (lf_all (okD_ok (by decide +kernel))))) (nd_all (lf_all (okD_ok (by decide +kernel))) (nd_all (lf_all (okD_ok (by decide +kernel))) (lf_all (okD_ok (by decide +kernel)))))) (nd_all (nd_all (lf_all (okD_ok (by decide +kernel))) (nd_all (lf_all (okD_ok (by decide +kernel))) (lf_all (okD_ok (by decide +kernel))))) (nd_all (lf_all (okD_ok (by decide +kernel))) (nd_all (lf_all (okD_ok (by decide +kernel))) (lf_all (okD_ok (by decide +kernel)))))))
def tX7_nextLetter : Nat → Option mE := (nd 20 (nd 10 (nd 5 (nd 1 (lf 0 (.aload_n 0, 1, 0, 0)) (nd 4 (lf 1 (.getfield 43, 4, 0, 0)) (lf 4 (.aload_n 0, 5, 0, 0)))) (nd 8 (lf 5 (.getfield 67, 8, 0, 0)) (nd 9 (lf 8 (.aaload, 9, 0, 0)) (lf 9 (.astore_n 3, 10, 0, 0))))) (nd 15 (nd 11 (lf 10 (.aload_n 0, 11, 0, 0)) (nd 12 (lf 11 (.dup, 12, 0, 0)) (lf 12 (.getfield 67, 15, 0, 0)))) (nd 16 (lf 15 (.iconst 1, 16, 0, 1)) (nd 17 (lf 16 (.iadd, 17, 0, 0)) (lf 17 (.putfield 67, 20, 0, 0)))))) (nd 32 (nd 25 (nd 21 (lf 20 (.aload_n 3, 21, 0, 0)) (nd 22 (lf 21 (.iload_n 1, 22, 0, 0)) (lf 22 (.putfield 151, 25, 0, 0)))) (nd 26 (lf 25 (.aload_n 3, 26, 0, 0)) (nd 29 (lf 26 (.getfield 127, 29, 0, 0)) (lf 29 (.invokevirtual 105, 32, 0, 0))))) (nd 37 (nd 33 (lf 32 (.aload_n 3, 33, 0, 0)) (nd 36 (lf 33 (.getfield 127, 36, 0, 0)) (lf 36 (.iload_n 2, 37, 0, 0)))) (nd 41 (nd 40 (lf 37 (.invokevirtual 236, 40, 0, 0)) (lf 40 (.aload_n 3, 41, 0, 0))) (nd 44 (lf 41 (.getfield 127, 44, 0, 0)) (lf 44 (.areturn, 45, 0, 0)))))))
theorem tX7_nextLetter_ok : tAll (okC cX7_nextLetter 4) tX7_nextLetter := (nd_all (nd_all (nd_all (nd_all (lf_all (okD_ok (by decide +kernel))) (nd_all (lf_all (okD_ok (by decide +kernel))) (lf_all (okD_ok (by decide +kernel))))) (nd_all (lf_all (okD_ok (by decide +kernel))) (nd_all (lf_all (okD_ok (by decide +kernel))) (lf_all (okD_ok (by decide +kernel)))))) (nd_all (nd_all (lf_all (okD_ok (by decide +kernel))) (nd_all (lf_all (okD_ok (by decide +kernel))) (lf_all (okD_ok (by decide +kernel))))) (nd_all (lf_all (okD_ok (by decide +kernel))) (nd_all (lf_all (okD_ok (by decide +kernel))) (lf_all (okD_ok (by decide +kernel))))))) (nd_all (nd_all (nd_all (lf_all (okD_ok (by decide +kernel))) (nd_all (lf_all (okD_ok (by decide +kernel))) (lf_all (okD_ok (by decide +kernel))))) (nd_all (lf_all (okD_ok (by decide +kernel))) (nd_all (lf_all (okD_ok (by decide +kernel))) (lf_all (okD_ok (by decide +kernel)))))) (nd_all (nd_all (lf_all (okD_ok (by decide +kernel))) (nd_all (lf_all (okD_ok (by decide +kernel))) (lf_all (okD_ok (by decide +kernel))))) (nd_all (nd_all (lf_all (okD_ok (by decide +kernel))) (lf_all (okD_ok (by decide +kernel)))) (nd_all (lf_all (okD_ok (by decide +kernel))) (lf_all (okD_ok (by decide +kernel))))))))
def tX7_bothAreSigned : Nat → Option mE := (nd 24 (nd 12 (nd 5 (nd 1 (lf 0 (.aload_n 0, 1, 0, 0)) (nd 4 (lf 1 (.getfield 19, 4, 0, 0)) (lf 4 (.aload_n 0, 5, 0, 0)))) (nd 8 (lf 5 (.getfield 12, 8, 0, 0)) (nd 9 (lf 8 (.aload_n 0, 9, 0, 0)) (lf 9 (.getfield 60, 12, 0, 0))))) (nd 17 (nd 13 (lf 12 (.iconst 1, 13, 0, 1)) (nd 14 (lf 13 (.iconst 2, 14, 0, 2)) (lf 14 (.invokevirtual 158, 17, 0, 0)))) (nd 20 (lf 17 (.ifCond .eq 28, 20, 45, 0)) (nd 21 (lf 20 (.aload_n 0, 21, 0, 0)) (lf 21 (.getfield 19, 24, 0, 0)))))) (nd 35 (nd 29 (nd 25 (lf 24 (.aload_n 0, 25, 0, 0)) (nd 28 (lf 25 (.getfield 12, 28, 0, 0)) (lf 28 (.aload_n 0, 29, 0, 0)))) (nd 32 (lf 29 (.getfield 60, 32, 0, 0)) (nd 33 (lf 32 (.iconst 1, 33, 0, 1)) (lf 33 (.bipush 46, 35, 0, 46))))) (nd 42 (nd 38 (lf 35 (.invokevirtual 158, 38, 0, 0)) (nd 41 (lf 38 (.ifCond .eq 7, 41, 45, 0)) (lf 41 (.iconst 1, 42, 0, 1)))) (nd 45 (lf 42 (.goto 4, 45, 46, 0)) (nd 46 (lf 45 (.iconst 0, 46, 0, 0)) (lf 46 (.ireturn, 47, 0, 0)))))))
theorem tX7_bothAreSigned_ok : tAll (okC cX7_bothAreSigned 1) tX7_bothAreSigned := (nd_all (nd_all (nd_all (nd_all (lf_all (okD_ok (by decide +kernel))) (nd_all (lf_all (okD_ok (by decide +kernel))) (lf_all (okD_ok (by decide +kernel))))) (nd_all (lf_all (okD_ok (by decide +kernel))) (nd_all (lf_all (okD_ok (by decide +kernel))) (lf_all (okD_ok (by decide +kernel)))))) (nd_all (nd_all (lf_all (okD_ok (by decide +kernel))) (nd_all (lf_all (okD_ok (by decide +kernel))) (lf_all (okD_ok (by decide +kernel))))) (nd_all (lf_all (okD_ok (by decide +kernel))) (nd_all (lf_all (okD_ok (by decide +kernel))) (lf_all (okD_ok (by decide +kernel))))))) (nd_all (nd_all (nd_all (lf_all (okD_ok (by decide +kernel))) (nd_all (lf_all (okD_ok (by decide +kernel))) (lf_all (okD_ok (by decide +kernel))))) (nd_all (lf_all (okD_ok (by decide +kernel))) (nd_all (lf_all (okD_ok (by decide +kernel))) (lf_all (okD_ok (by decide +kernel)))))) (nd_all (nd_all (lf_all (okD_ok (by decide +kernel))) (nd_all (lf_all (okD_ok (by decide +kernel))) (lf_all (okD_ok (by decide +kernel))))) (nd_all (lf_all (okD_ok (by decide +kernel))) (nd_all (lf_all (okD_ok (by decide +kernel))) (lf_all (okD_ok (by decide +kernel))))))))
def tX7_isFork : Nat → Option mE := (nd 24 (nd 9 (nd 4 (nd 1 (lf 0 (.aload_n 0, 1, 0, 0)) (lf 1 (.getfield 60, 4, 0, 0))) (nd 5 (lf 4 (.iconst 2, 5, 0, 2)) (nd 8 (lf 5 (.invokevirtual 169, 8, 0, 0)) (lf 8 (.aload_n 0, 9, 0, 0))))) (nd 17 (nd 12 (lf 9 (.getfield 60, 12, 0, 0)) (nd 14 (lf 12 (.bipush 46, 14, 0, 46)) (lf 14 (.invokevirtual 169, 17, 0, 0)))) (nd 20 (lf 17 (.if_icmp .ne 27, 20, 44, 0)) (nd 21 (lf 20 (.aload_n 0, 21, 0, 0)) (lf 21 (.getfield 60, 24, 0, 0)))))) (nd 34 (nd 27 (nd 26 (lf 24 (.bipush 6, 26, 0, 6)) (lf 26 (.aload_n 0, 27, 0, 0))) (nd 30 (lf 27 (.getfield 60, 30, 0, 0)) (nd 32 (lf 30 (.bipush 50, 32, 0, 50)) (lf 32 (.bipush 32, 34, 0, 32))))) (nd 41 (nd 37 (lf 34 (.invokevirtual 239, 37, 0, 0)) (nd 40 (lf 37 (.ifCond .ne 7, 40, 44, 0)) (lf 40 (.iconst 1, 41, 0, 1)))) (nd 44 (lf 41 (.goto 4, 44, 45, 0)) (nd 45 (lf 44 (.iconst 0, 45, 0, 0)) (lf 45 (.ireturn, 46, 0, 0)))))))
theorem tX7_isFork_ok : tAll (okC cX7_isFork 1) tX7_isFork := (nd_all (nd_all (nd_all (nd_all (lf_all (okD_ok (by decide +kernel))) (lf_all (okD_ok (by decide +kernel)))) (nd_all (lf_all (okD_ok (by decide +kernel))) (nd_all (lf_all (okD_ok (by decide +kernel))) (lf_all (okD_ok (by decide +kernel)))))) (nd_all (nd_all (lf_all (okD_ok (by decide +kernel))) (nd_all (lf_all (okD_ok (by decide +kernel))) (lf_all (okD_ok (by decide +kernel))))) (nd_all (lf_all (okD_ok (by decide +kernel))) (nd_all (lf_all (okD_ok (by decide +kernel))) (lf_all (okD_ok (by decide +kernel))))))) (nd_all (nd_all (nd_all (lf_all (okD_ok (by decide +kernel))) (lf_all (okD_ok (by decide +kernel)))) (nd_all (lf_all (okD_ok (by decide +kernel))) (nd_all (lf_all (okD_ok (by decide +kernel))) (lf_all (okD_ok (by decide +kernel)))))) (nd_all (nd_all (lf_all (okD_ok (by decide +kernel))) (nd_all (lf_all (okD_ok (by decide +kernel))) (lf_all (okD_ok (by decide +kernel))))) (nd_all (lf_all (okD_ok (by decide +kernel))) (nd_all (lf_all (okD_ok (by decide +kernel))) (lf_all (okD_ok (by decide +kernel))))))))
def tX7_endsWithWholeHashes : Nat → Option mE := (nd 19 (nd 9 (nd 4 (nd 1 (lf 0 (.aload_n 0, 1, 0, 0)) (lf 1 (.getfield 60, 4, 0, 0))) (nd 7 (lf 4 (.getfield 145, 7, 0, 0)) (lf 7 (.bipush 122, 9, 0, 122)))) (nd 13 (nd 12 (lf 9 (.if_icmp .lt 23, 12, 32, 0)) (lf 12 (.aload_n 0, 13, 0, 0))) (nd 16 (lf 13 (.getfield 60, 16, 0, 0)) (lf 16 (.getfield 145, 19, 0, 0))))) (nd 25 (nd 22 (nd 21 (lf 19 (.bipush 122, 21, 0, 122)) (lf 21 (.isub, 22, 0, 0))) (nd 24 (lf 22 (.bipush 32, 24, 0, 32)) (lf 24 (.irem, 25, 0, 0)))) (nd 29 (nd 28 (lf 25 (.ifCond .ne 7, 28, 32, 0)) (lf 28 (.iconst 1, 29, 0, 1))) (nd 32 (lf 29 (.goto 4, 32, 33, 0)) (nd 33 (lf 32 (.iconst 0, 33, 0, 0)) (lf 33 (.ireturn, 34, 0, 0)))))))
theorem tX7_endsWithWholeHashes_ok : tAll (okC cX7_endsWithWholeHashes 1) tX7_endsWithWholeHashes := (nd_all (nd_all (nd_all (nd_all (lf_all (okD_ok (by decide +kernel))) (lf_all (okD_ok (by decide +kernel)))) (nd_all (lf_all (okD_ok (by decide +kernel))) (lf_all (okD_ok (by decide +kernel))))) (nd_all (nd_all (lf_all (okD_ok (by decide +kernel))) (lf_all (okD_ok (by decide +kernel)))) (nd_all (lf_all (okD_ok (by decide +kernel))) (lf_all (okD_ok (by decide +kernel)))))) (nd_all (nd_all (nd_all (lf_all (okD_ok (by decide +kernel))) (lf_all (okD_ok (by decide +kernel)))) (nd_all (lf_all (okD_ok (by decide +kernel))) (lf_all (okD_ok (by decide +kernel))))) (nd_all (nd_all (lf_all (okD_ok (by decide +kernel))) (lf_all (okD_ok (by decide +kernel)))) (nd_all (lf_all (okD_ok (by decide +kernel))) (nd_all (lf_all (okD_ok (by decide +kernel))) (lf_all (okD_ok (by decide +kernel))))))))
def tX7_isBreach : Nat → Option mE := (nd 45 (nd 22 (nd 10 (nd 4 (nd 1 (lf 0 (.aload_n 0, 1, 0, 0)) (lf 1 (.getfield 60, 4, 0, 0))) (nd 6 (lf 4 (.bipush 90, 6, 0, 90)) (nd 7 (lf 6 (.aload_n 0, 7, 0, 0)) (lf 7 (.getfield 60, 10, 0, 0))))) (nd 17 (nd 12 (lf 10 (.bipush 6, 12, 0, 6)) (nd 14 (lf 12 (.bipush 32, 14, 0, 32)) (lf 14 (.invokevirtual 239, 17, 0, 0)))) (nd 20 (lf 17 (.ifCond .eq 5, 20, 22, 0)) (nd 21 (lf 20 (.iconst 0, 21, 0, 0)) (lf 21 (.ireturn, 22, 0, 0)))))) (nd 32 (nd 27 (nd 23 (lf 22 (.aload_n 0, 23, 0, 0)) (nd 26 (lf 23 (.getfield 60, 26, 0, 0)) (lf 26 (.iconst 2, 27, 0, 2)))) (nd 30 (lf 27 (.invokevirtual 169, 30, 0, 0)) (nd 31 (lf 30 (.istore_n 1, 31, 0, 0)) (lf 31 (.aload_n 0, 32, 0, 0))))) (nd 40 (nd 35 (lf 32 (.getfield 60, 35, 0, 0)) (nd 37 (lf 35 (.bipush 46, 37, 0, 46)) (lf 37 (.invokevirtual 169, 40, 0, 0)))) (nd 41 (lf 40 (.istore_n 2, 41, 0, 0)) (nd 42 (lf 41 (.aload_n 0, 42, 0, 0)) (lf 42 (.getfield 30, 45, 0, 0))))))) (nd 65 (nd 55 (nd 49 (nd 46 (lf 45 (.aload_n 0, 46, 0, 0)) (lf 46 (.getfield 12, 49, 0, 0))) (nd 50 (lf 49 (.aload_n 0, 50, 0, 0)) (nd 53 (lf 50 (.getfield 60, 53, 0, 0)) (lf 53 (.bipush 90, 55, 0, 90))))) (nd 60 (nd 56 (lf 55 (.iload_n 1, 56, 0, 0)) (nd 57 (lf 56 (.iload_n 2, 57, 0, 0)) (lf 57 (.invokevirtual 172, 60, 0, 0)))) (nd 61 (lf 60 (.astore_n 3, 61, 0, 0)) (nd 62 (lf 61 (.aload_n 3, 62, 0, 0)) (lf 62 (.ifnull 23, 65, 85, 0)))))) (nd 75 (nd 68 (nd 66 (lf 65 (.aload_n 3, 66, 0, 0)) (nd 67 (lf 66 (.iconst 0, 67, 0, 0)) (lf 67 (.aload_n 0, 68, 0, 0)))) (nd 71 (lf 68 (.getfield 60, 71, 0, 0)) (nd 73 (lf 71 (.bipush 50, 73, 0, 50)) (lf 73 (.bipush 32, 75, 0, 32))))) (nd 82 (nd 78 (lf 75 (.invokevirtual 239, 78, 0, 0)) (nd 81 (lf 78 (.ifCond .eq 7, 81, 85, 0)) (lf 81 (.iconst 1, 82, 0, 1)))) (nd 85 (lf 82 (.goto 4, 85, 86, 0)) (nd 86 (lf 85 (.iconst 0, 86, 0, 0)) (lf 86 (.ireturn, 87, 0, 0))))))))
theorem tX7_isBreach_ok : tAll (okC cX7_isBreach 4) tX7_isBreach := (nd_all (nd_all (nd_all (nd_all (nd_all (lf_all (okD_ok (by decide +kernel))) (lf_all (okD_ok (by decide +kernel)))) (nd_all (lf_all (okD_ok (by decide +kernel))) (nd_all (lf_all (okD_ok (by decide +kernel))) (lf_all (okD_ok (by decide +kernel)))))) (nd_all (nd_all (lf_all (okD_ok (by decide +kernel))) (nd_all (lf_all (okD_ok (by decide +kernel))) (lf_all (okD_ok (by decide +kernel))))) (nd_all (lf_all (okD_ok (by decide +kernel))) (nd_all (lf_all (okD_ok (by decide +kernel))) (lf_all (okD_ok (by decide +kernel))))))) (nd_all (nd_all (nd_all (lf_all (okD_ok (by decide +kernel))) (nd_all (lf_all (okD_ok (by decide +kernel))) (lf_all (okD_ok (by decide +kernel))))) (nd_all (lf_all (okD_ok (by decide +kernel))) (nd_all (lf_all (okD_ok (by decide +kernel))) (lf_all (okD_ok (by decide +kernel)))))) (nd_all (nd_all (lf_all (okD_ok (by decide +kernel))) (nd_all (lf_all (okD_ok (by decide +kernel))) (lf_all (okD_ok (by decide +kernel))))) (nd_all (lf_all (okD_ok (by decide +kernel))) (nd_all (lf_all (okD_ok (by decide +kernel))) (lf_all (okD_ok (by decide +kernel)))))))) (nd_all (nd_all (nd_all (nd_all (lf_all (okD_ok (by decide +kernel))) (lf_all (okD_ok (by decide +kernel)))) (nd_all (lf_all (okD_ok (by decide +kernel))) (nd_all (lf_all (okD_ok (by decide +kernel))) (lf_all (okD_ok (by decide +kernel)))))) (nd_all (nd_all (lf_all (okD_ok (by decide +kernel))) (nd_all (lf_all (okD_ok (by decide +kernel))) (lf_all (okD_ok (by decide +kernel))))) (nd_all (lf_all (okD_ok (by decide +kernel))) (nd_all (lf_all (okD_ok (by decide +kernel))) (lf_all (okD_ok (by decide +kernel))))))) (nd_all (nd_all (nd_all (lf_all (okD_ok (by decide +kernel))) (nd_all (lf_all (okD_ok (by decide +kernel))) (lf_all (okD_ok (by decide +kernel))))) (nd_all (lf_all (okD_ok (by decide +kernel))) (nd_all (lf_all (okD_ok (by decide +kernel))) (lf_all (okD_ok (by decide +kernel)))))) (nd_all (nd_all (lf_all (okD_ok (by decide +kernel))) (nd_all (lf_all (okD_ok (by decide +kernel))) (lf_all (okD_ok (by decide +kernel))))) (nd_all (lf_all (okD_ok (by decide +kernel))) (nd_all (lf_all (okD_ok (by decide +kernel))) (lf_all (okD_ok (by decide +kernel)))))))))
end
