section
-- ===== PART A: goes FIRST, ahead of the names: the tables' words, and 'selects' of the private methods out of them =====
/-- a private method of a class that the tables say can be made, by its rows of tables_1 -/
def lw_okq (q : MethodName × Nat) : Prop := (q.1.cls ≠ "java/lang/invoke/MethodHandle" ∧ q.1.cls ≠ "java/lang/invoke/VarHandle") ∧ Cond.instantiable q.1.cls q.2 ∈ tables_1 ∧ Cond.privateMethod q.1 ∈ tables_1 ∧ Cond.instanceMethod q.1 ∈ tables_1
theorem lw_p0 : lw_okq (⟨"GossipWatch$Sha", "stretch", "()V"⟩, 4) := ⟨⟨by decide +kernel, by decide +kernel⟩, List.mem_of_getElem? (i := 21) (by decide +kernel), List.mem_of_getElem? (i := 112) (by decide +kernel), List.mem_of_getElem? (i := 113) (by decide +kernel)⟩
theorem lw_p1 : lw_okq (⟨"GossipWatch$Sha", "mix", "()V"⟩, 4) := ⟨⟨by decide +kernel, by decide +kernel⟩, List.mem_of_getElem? (i := 21) (by decide +kernel), List.mem_of_getElem? (i := 116) (by decide +kernel), List.mem_of_getElem? (i := 117) (by decide +kernel)⟩
theorem lw_p2 : lw_okq (⟨"GossipWatch", "viewOf", "(II)LGossipWatch$View;"⟩, 9) := ⟨⟨by decide +kernel, by decide +kernel⟩, List.mem_of_getElem? (i := 13) (by decide +kernel), List.mem_of_getElem? (i := 257) (by decide +kernel), List.mem_of_getElem? (i := 258) (by decide +kernel)⟩
theorem lw_p3 : lw_okq (⟨"GossipWatch", "nextLetter", "(II)LGossipWatch$Row;"⟩, 9) := ⟨⟨by decide +kernel, by decide +kernel⟩, List.mem_of_getElem? (i := 13) (by decide +kernel), List.mem_of_getElem? (i := 288) (by decide +kernel), List.mem_of_getElem? (i := 289) (by decide +kernel)⟩
theorem lw_p4 : lw_okq (⟨"GossipWatch", "letterOf", "(I)LGossipWatch$Letter;"⟩, 9) := ⟨⟨by decide +kernel, by decide +kernel⟩, List.mem_of_getElem? (i := 13) (by decide +kernel), List.mem_of_getElem? (i := 345) (by decide +kernel), List.mem_of_getElem? (i := 346) (by decide +kernel)⟩
theorem lw_p5 : lw_okq (⟨"GossipWatch", "monitorOf", "(I)LGossipWatch$Monitor;"⟩, 9) := ⟨⟨by decide +kernel, by decide +kernel⟩, List.mem_of_getElem? (i := 13) (by decide +kernel), List.mem_of_getElem? (i := 390) (by decide +kernel), List.mem_of_getElem? (i := 391) (by decide +kernel)⟩
theorem lw_p6 : lw_okq (⟨"GossipWatch$Monitor", "holdsLike", "(LGossipWatch$Row;)Z"⟩, 9) := ⟨⟨by decide +kernel, by decide +kernel⟩, List.mem_of_getElem? (i := 183) (by decide +kernel), List.mem_of_getElem? (i := 409) (by decide +kernel), List.mem_of_getElem? (i := 410) (by decide +kernel)⟩
theorem lw_p7 : lw_okq (⟨"GossipWatch$Monitor", "raiseForks", "(LGossipWatch$Row;)Z"⟩, 9) := ⟨⟨by decide +kernel, by decide +kernel⟩, List.mem_of_getElem? (i := 183) (by decide +kernel), List.mem_of_getElem? (i := 414) (by decide +kernel), List.mem_of_getElem? (i := 415) (by decide +kernel)⟩
theorem lw_p8 : lw_okq (⟨"GossipWatch$Monitor", "raise", "(IIII)Z"⟩, 9) := ⟨⟨by decide +kernel, by decide +kernel⟩, List.mem_of_getElem? (i := 183) (by decide +kernel), List.mem_of_getElem? (i := 418) (by decide +kernel), List.mem_of_getElem? (i := 419) (by decide +kernel)⟩
theorem lw_p9 : lw_okq (⟨"GossipWatch$Monitor", "raiseBreachesOfHead", "(LGossipWatch$Row;)Z"⟩, 9) := ⟨⟨by decide +kernel, by decide +kernel⟩, List.mem_of_getElem? (i := 183) (by decide +kernel), List.mem_of_getElem? (i := 422) (by decide +kernel), List.mem_of_getElem? (i := 423) (by decide +kernel)⟩
theorem lw_p10 : lw_okq (⟨"GossipWatch$Climb", "rises", "(LGossipWatch$Sha;IILGossipWatch$Row;I)Z"⟩, 2) := ⟨⟨by decide +kernel, by decide +kernel⟩, List.mem_of_getElem? (i := 128) (by decide +kernel), List.mem_of_getElem? (i := 443) (by decide +kernel), List.mem_of_getElem? (i := 444) (by decide +kernel)⟩
theorem lw_p11 : lw_okq (⟨"GossipWatch$Monitor", "headAccepting", "(LGossipWatch$Row;LGossipWatch$Row;)I"⟩, 9) := ⟨⟨by decide +kernel, by decide +kernel⟩, List.mem_of_getElem? (i := 183) (by decide +kernel), List.mem_of_getElem? (i := 454) (by decide +kernel), List.mem_of_getElem? (i := 455) (by decide +kernel)⟩
theorem lw_p12 : lw_okq (⟨"GossipWatch$Monitor", "hasFactLike", "(LGossipWatch$Row;I)Z"⟩, 9) := ⟨⟨by decide +kernel, by decide +kernel⟩, List.mem_of_getElem? (i := 183) (by decide +kernel), List.mem_of_getElem? (i := 459) (by decide +kernel), List.mem_of_getElem? (i := 460) (by decide +kernel)⟩
theorem lw_p13 : lw_okq (⟨"GossipWatch$Monitor", "raiseBreachesOfFact", "(LGossipWatch$Row;I)Z"⟩, 9) := ⟨⟨by decide +kernel, by decide +kernel⟩, List.mem_of_getElem? (i := 183) (by decide +kernel), List.mem_of_getElem? (i := 463) (by decide +kernel), List.mem_of_getElem? (i := 464) (by decide +kernel)⟩
theorem lw_p14 : lw_okq (⟨"GossipWatch$Monitor", "hasFact", "(I)Z"⟩, 9) := ⟨⟨by decide +kernel, by decide +kernel⟩, List.mem_of_getElem? (i := 183) (by decide +kernel), List.mem_of_getElem? (i := 508) (by decide +kernel), List.mem_of_getElem? (i := 509) (by decide +kernel)⟩
theorem lw_p15 : lw_okq (⟨"GossipWatch", "bothAreSigned", "()Z"⟩, 9) := ⟨⟨by decide +kernel, by decide +kernel⟩, List.mem_of_getElem? (i := 13) (by decide +kernel), List.mem_of_getElem? (i := 554) (by decide +kernel), List.mem_of_getElem? (i := 555) (by decide +kernel)⟩
def lw_privs_1 : List (MethodName × Nat) := [(⟨"GossipWatch$Sha", "stretch", "()V"⟩, 4), (⟨"GossipWatch$Sha", "mix", "()V"⟩, 4), (⟨"GossipWatch", "viewOf", "(II)LGossipWatch$View;"⟩, 9), (⟨"GossipWatch", "nextLetter", "(II)LGossipWatch$Row;"⟩, 9), (⟨"GossipWatch", "letterOf", "(I)LGossipWatch$Letter;"⟩, 9), (⟨"GossipWatch", "monitorOf", "(I)LGossipWatch$Monitor;"⟩, 9), (⟨"GossipWatch$Monitor", "holdsLike", "(LGossipWatch$Row;)Z"⟩, 9), (⟨"GossipWatch$Monitor", "raiseForks", "(LGossipWatch$Row;)Z"⟩, 9), (⟨"GossipWatch$Monitor", "raise", "(IIII)Z"⟩, 9), (⟨"GossipWatch$Monitor", "raiseBreachesOfHead", "(LGossipWatch$Row;)Z"⟩, 9), (⟨"GossipWatch$Climb", "rises", "(LGossipWatch$Sha;IILGossipWatch$Row;I)Z"⟩, 2), (⟨"GossipWatch$Monitor", "headAccepting", "(LGossipWatch$Row;LGossipWatch$Row;)I"⟩, 9), (⟨"GossipWatch$Monitor", "hasFactLike", "(LGossipWatch$Row;I)Z"⟩, 9), (⟨"GossipWatch$Monitor", "raiseBreachesOfFact", "(LGossipWatch$Row;I)Z"⟩, 9), (⟨"GossipWatch$Monitor", "hasFact", "(I)Z"⟩, 9), (⟨"GossipWatch", "bothAreSigned", "()Z"⟩, 9)]
theorem lw_r1 : ∀ q ∈ lw_privs_1, lw_okq q := List.forall_mem_cons.mpr ⟨lw_p0, List.forall_mem_cons.mpr ⟨lw_p1, List.forall_mem_cons.mpr ⟨lw_p2, List.forall_mem_cons.mpr ⟨lw_p3, List.forall_mem_cons.mpr ⟨lw_p4, List.forall_mem_cons.mpr ⟨lw_p5, List.forall_mem_cons.mpr ⟨lw_p6, List.forall_mem_cons.mpr ⟨lw_p7, List.forall_mem_cons.mpr ⟨lw_p8, List.forall_mem_cons.mpr ⟨lw_p9, List.forall_mem_cons.mpr ⟨lw_p10, List.forall_mem_cons.mpr ⟨lw_p11, List.forall_mem_cons.mpr ⟨lw_p12, List.forall_mem_cons.mpr ⟨lw_p13, List.forall_mem_cons.mpr ⟨lw_p14, List.forall_mem_cons.mpr ⟨lw_p15, fun _ h => absurd h List.not_mem_nil⟩⟩⟩⟩⟩⟩⟩⟩⟩⟩⟩⟩⟩⟩⟩⟩
theorem lw_p16 : lw_okq (⟨"GossipWatch", "isFork", "()Z"⟩, 9) := ⟨⟨by decide +kernel, by decide +kernel⟩, List.mem_of_getElem? (i := 13) (by decide +kernel), List.mem_of_getElem? (i := 558) (by decide +kernel), List.mem_of_getElem? (i := 559) (by decide +kernel)⟩
theorem lw_p17 : lw_okq (⟨"GossipWatch", "endsWithWholeHashes", "()Z"⟩, 9) := ⟨⟨by decide +kernel, by decide +kernel⟩, List.mem_of_getElem? (i := 13) (by decide +kernel), List.mem_of_getElem? (i := 563) (by decide +kernel), List.mem_of_getElem? (i := 564) (by decide +kernel)⟩
theorem lw_p18 : lw_okq (⟨"GossipWatch", "isBreach", "()Z"⟩, 9) := ⟨⟨by decide +kernel, by decide +kernel⟩, List.mem_of_getElem? (i := 13) (by decide +kernel), List.mem_of_getElem? (i := 567) (by decide +kernel), List.mem_of_getElem? (i := 568) (by decide +kernel)⟩
theorem lw_p19 : lw_okq (⟨"GossipWatchModel", "start", "()V"⟩, 35) := ⟨⟨by decide +kernel, by decide +kernel⟩, List.mem_of_getElem? (i := 580) (by decide +kernel), List.mem_of_getElem? (i := 658) (by decide +kernel), List.mem_of_getElem? (i := 659) (by decide +kernel)⟩
theorem lw_p20 : lw_okq (⟨"GossipWatchModel", "put", "(I)V"⟩, 35) := ⟨⟨by decide +kernel, by decide +kernel⟩, List.mem_of_getElem? (i := 580) (by decide +kernel), List.mem_of_getElem? (i := 662) (by decide +kernel), List.mem_of_getElem? (i := 663) (by decide +kernel)⟩
theorem lw_p21 : lw_okq (⟨"GossipWatchModel", "putNumber", "(JI)V"⟩, 35) := ⟨⟨by decide +kernel, by decide +kernel⟩, List.mem_of_getElem? (i := 580) (by decide +kernel), List.mem_of_getElem? (i := 666) (by decide +kernel), List.mem_of_getElem? (i := 667) (by decide +kernel)⟩
theorem lw_p22 : lw_okq (⟨"GossipWatchModel", "sum", "(I)V"⟩, 35) := ⟨⟨by decide +kernel, by decide +kernel⟩, List.mem_of_getElem? (i := 580) (by decide +kernel), List.mem_of_getElem? (i := 670) (by decide +kernel), List.mem_of_getElem? (i := 671) (by decide +kernel)⟩
theorem lw_p23 : lw_okq (⟨"GossipWatchModel", "block", "(I)V"⟩, 35) := ⟨⟨by decide +kernel, by decide +kernel⟩, List.mem_of_getElem? (i := 580) (by decide +kernel), List.mem_of_getElem? (i := 675) (by decide +kernel), List.mem_of_getElem? (i := 676) (by decide +kernel)⟩
theorem lw_p24 : lw_okq (⟨"GossipWatchModel", "begins", "(II)V"⟩, 35) := ⟨⟨by decide +kernel, by decide +kernel⟩, List.mem_of_getElem? (i := 580) (by decide +kernel), List.mem_of_getElem? (i := 806) (by decide +kernel), List.mem_of_getElem? (i := 807) (by decide +kernel)⟩
theorem lw_p25 : lw_okq (⟨"GossipWatchModel", "adds", "(I)V"⟩, 35) := ⟨⟨by decide +kernel, by decide +kernel⟩, List.mem_of_getElem? (i := 580) (by decide +kernel), List.mem_of_getElem? (i := 810) (by decide +kernel), List.mem_of_getElem? (i := 811) (by decide +kernel)⟩
theorem lw_p26 : lw_okq (⟨"GossipWatchModel", "addsNumber", "(I)V"⟩, 35) := ⟨⟨by decide +kernel, by decide +kernel⟩, List.mem_of_getElem? (i := 580) (by decide +kernel), List.mem_of_getElem? (i := 814) (by decide +kernel), List.mem_of_getElem? (i := 815) (by decide +kernel)⟩
theorem lw_p27 : lw_okq (⟨"GossipWatchModel", "root", "(IIII)V"⟩, 35) := ⟨⟨by decide +kernel, by decide +kernel⟩, List.mem_of_getElem? (i := 580) (by decide +kernel), List.mem_of_getElem? (i := 818) (by decide +kernel), List.mem_of_getElem? (i := 819) (by decide +kernel)⟩
theorem lw_p28 : lw_okq (⟨"GossipWatchModel", "joined", "([BI[BII)V"⟩, 35) := ⟨⟨by decide +kernel, by decide +kernel⟩, List.mem_of_getElem? (i := 580) (by decide +kernel), List.mem_of_getElem? (i := 825) (by decide +kernel), List.mem_of_getElem? (i := 826) (by decide +kernel)⟩
theorem lw_p29 : lw_okq (⟨"GossipWatchModel", "putRow", "([BII)V"⟩, 35) := ⟨⟨by decide +kernel, by decide +kernel⟩, List.mem_of_getElem? (i := 580) (by decide +kernel), List.mem_of_getElem? (i := 829) (by decide +kernel), List.mem_of_getElem? (i := 830) (by decide +kernel)⟩
theorem lw_p30 : lw_okq (⟨"GossipWatchModel", "addsHash", "(I)V"⟩, 35) := ⟨⟨by decide +kernel, by decide +kernel⟩, List.mem_of_getElem? (i := 580) (by decide +kernel), List.mem_of_getElem? (i := 833) (by decide +kernel), List.mem_of_getElem? (i := 834) (by decide +kernel)⟩
theorem lw_p31 : lw_okq (⟨"GossipWatchModel", "signs", "([BII)V"⟩, 35) := ⟨⟨by decide +kernel, by decide +kernel⟩, List.mem_of_getElem? (i := 580) (by decide +kernel), List.mem_of_getElem? (i := 837) (by decide +kernel), List.mem_of_getElem? (i := 838) (by decide +kernel)⟩
def lw_privs_2 : List (MethodName × Nat) := [(⟨"GossipWatch", "isFork", "()Z"⟩, 9), (⟨"GossipWatch", "endsWithWholeHashes", "()Z"⟩, 9), (⟨"GossipWatch", "isBreach", "()Z"⟩, 9), (⟨"GossipWatchModel", "start", "()V"⟩, 35), (⟨"GossipWatchModel", "put", "(I)V"⟩, 35), (⟨"GossipWatchModel", "putNumber", "(JI)V"⟩, 35), (⟨"GossipWatchModel", "sum", "(I)V"⟩, 35), (⟨"GossipWatchModel", "block", "(I)V"⟩, 35), (⟨"GossipWatchModel", "begins", "(II)V"⟩, 35), (⟨"GossipWatchModel", "adds", "(I)V"⟩, 35), (⟨"GossipWatchModel", "addsNumber", "(I)V"⟩, 35), (⟨"GossipWatchModel", "root", "(IIII)V"⟩, 35), (⟨"GossipWatchModel", "joined", "([BI[BII)V"⟩, 35), (⟨"GossipWatchModel", "putRow", "([BII)V"⟩, 35), (⟨"GossipWatchModel", "addsHash", "(I)V"⟩, 35), (⟨"GossipWatchModel", "signs", "([BII)V"⟩, 35)]
theorem lw_r2 : ∀ q ∈ lw_privs_2, lw_okq q := List.forall_mem_cons.mpr ⟨lw_p16, List.forall_mem_cons.mpr ⟨lw_p17, List.forall_mem_cons.mpr ⟨lw_p18, List.forall_mem_cons.mpr ⟨lw_p19, List.forall_mem_cons.mpr ⟨lw_p20, List.forall_mem_cons.mpr ⟨lw_p21, List.forall_mem_cons.mpr ⟨lw_p22, List.forall_mem_cons.mpr ⟨lw_p23, List.forall_mem_cons.mpr ⟨lw_p24, List.forall_mem_cons.mpr ⟨lw_p25, List.forall_mem_cons.mpr ⟨lw_p26, List.forall_mem_cons.mpr ⟨lw_p27, List.forall_mem_cons.mpr ⟨lw_p28, List.forall_mem_cons.mpr ⟨lw_p29, List.forall_mem_cons.mpr ⟨lw_p30, List.forall_mem_cons.mpr ⟨lw_p31, fun _ h => absurd h List.not_mem_nil⟩⟩⟩⟩⟩⟩⟩⟩⟩⟩⟩⟩⟩⟩⟩⟩
theorem lw_p32 : lw_okq (⟨"GossipWatchModel", "ends", "()I"⟩, 35) := ⟨⟨by decide +kernel, by decide +kernel⟩, List.mem_of_getElem? (i := 580) (by decide +kernel), List.mem_of_getElem? (i := 841) (by decide +kernel), List.mem_of_getElem? (i := 842) (by decide +kernel)⟩
theorem lw_p33 : lw_okq (⟨"GossipWatchModel", "note", "(II)V"⟩, 35) := ⟨⟨by decide +kernel, by decide +kernel⟩, List.mem_of_getElem? (i := 580) (by decide +kernel), List.mem_of_getElem? (i := 849) (by decide +kernel), List.mem_of_getElem? (i := 850) (by decide +kernel)⟩
theorem lw_p34 : lw_okq (⟨"GossipWatchModel", "addsNoted", "(I)V"⟩, 35) := ⟨⟨by decide +kernel, by decide +kernel⟩, List.mem_of_getElem? (i := 580) (by decide +kernel), List.mem_of_getElem? (i := 853) (by decide +kernel), List.mem_of_getElem? (i := 854) (by decide +kernel)⟩
theorem lw_p35 : lw_okq (⟨"GossipWatchModel", "isLetter", "(I)Z"⟩, 35) := ⟨⟨by decide +kernel, by decide +kernel⟩, List.mem_of_getElem? (i := 580) (by decide +kernel), List.mem_of_getElem? (i := 865) (by decide +kernel), List.mem_of_getElem? (i := 866) (by decide +kernel)⟩
theorem lw_p36 : lw_okq (⟨"GossipWatchModel", "takesHead", "(I[BI)I"⟩, 35) := ⟨⟨by decide +kernel, by decide +kernel⟩, List.mem_of_getElem? (i := 580) (by decide +kernel), List.mem_of_getElem? (i := 896) (by decide +kernel), List.mem_of_getElem? (i := 897) (by decide +kernel)⟩
theorem lw_p37 : lw_okq (⟨"GossipWatchModel", "isSigned", "([BI)Z"⟩, 35) := ⟨⟨by decide +kernel, by decide +kernel⟩, List.mem_of_getElem? (i := 580) (by decide +kernel), List.mem_of_getElem? (i := 900) (by decide +kernel), List.mem_of_getElem? (i := 901) (by decide +kernel)⟩
theorem lw_p38 : lw_okq (⟨"GossipWatchModel", "isAgainst", "(II[BI)Z"⟩, 35) := ⟨⟨by decide +kernel, by decide +kernel⟩, List.mem_of_getElem? (i := 580) (by decide +kernel), List.mem_of_getElem? (i := 913) (by decide +kernel), List.mem_of_getElem? (i := 914) (by decide +kernel)⟩
theorem lw_p39 : lw_okq (⟨"GossipWatchModel", "records", "(IIIII)V"⟩, 35) := ⟨⟨by decide +kernel, by decide +kernel⟩, List.mem_of_getElem? (i := 580) (by decide +kernel), List.mem_of_getElem? (i := 920) (by decide +kernel), List.mem_of_getElem? (i := 921) (by decide +kernel)⟩
theorem lw_p40 : lw_okq (⟨"GossipWatchModel", "answered", "(II)I"⟩, 35) := ⟨⟨by decide +kernel, by decide +kernel⟩, List.mem_of_getElem? (i := 580) (by decide +kernel), List.mem_of_getElem? (i := 924) (by decide +kernel), List.mem_of_getElem? (i := 925) (by decide +kernel)⟩
theorem lw_p41 : lw_okq (⟨"GossipWatchModel", "takesProof", "(II)I"⟩, 35) := ⟨⟨by decide +kernel, by decide +kernel⟩, List.mem_of_getElem? (i := 580) (by decide +kernel), List.mem_of_getElem? (i := 928) (by decide +kernel), List.mem_of_getElem? (i := 929) (by decide +kernel)⟩
theorem lw_p42 : lw_okq (⟨"GossipWatchModel", "accepts", "(I[BI)Z"⟩, 35) := ⟨⟨by decide +kernel, by decide +kernel⟩, List.mem_of_getElem? (i := 580) (by decide +kernel), List.mem_of_getElem? (i := 932) (by decide +kernel), List.mem_of_getElem? (i := 933) (by decide +kernel)⟩
theorem lw_p43 : lw_okq (⟨"GossipWatchModel", "leads", "(II[BIII[BI)Z"⟩, 35) := ⟨⟨by decide +kernel, by decide +kernel⟩, List.mem_of_getElem? (i := 580) (by decide +kernel), List.mem_of_getElem? (i := 936) (by decide +kernel), List.mem_of_getElem? (i := 937) (by decide +kernel)⟩
theorem lw_p44 : lw_okq (⟨"GossipWatchModel", "copies", "([BII)V"⟩, 35) := ⟨⟨by decide +kernel, by decide +kernel⟩, List.mem_of_getElem? (i := 580) (by decide +kernel), List.mem_of_getElem? (i := 940) (by decide +kernel), List.mem_of_getElem? (i := 941) (by decide +kernel)⟩
theorem lw_p45 : lw_okq (⟨"GossipWatchModel", "isWay", "(II[BIII[BI)Z"⟩, 35) := ⟨⟨by decide +kernel, by decide +kernel⟩, List.mem_of_getElem? (i := 580) (by decide +kernel), List.mem_of_getElem? (i := 944) (by decide +kernel), List.mem_of_getElem? (i := 945) (by decide +kernel)⟩
theorem lw_p46 : lw_okq (⟨"GossipWatchModel", "isOther", "(III)Z"⟩, 35) := ⟨⟨by decide +kernel, by decide +kernel⟩, List.mem_of_getElem? (i := 580) (by decide +kernel), List.mem_of_getElem? (i := 948) (by decide +kernel), List.mem_of_getElem? (i := 949) (by decide +kernel)⟩
theorem lw_p47 : lw_okq (⟨"GossipWatchModel", "isRecord", "(II)Z"⟩, 35) := ⟨⟨by decide +kernel, by decide +kernel⟩, List.mem_of_getElem? (i := 580) (by decide +kernel), List.mem_of_getElem? (i := 972) (by decide +kernel), List.mem_of_getElem? (i := 973) (by decide +kernel)⟩
def lw_privs_3 : List (MethodName × Nat) := [(⟨"GossipWatchModel", "ends", "()I"⟩, 35), (⟨"GossipWatchModel", "note", "(II)V"⟩, 35), (⟨"GossipWatchModel", "addsNoted", "(I)V"⟩, 35), (⟨"GossipWatchModel", "isLetter", "(I)Z"⟩, 35), (⟨"GossipWatchModel", "takesHead", "(I[BI)I"⟩, 35), (⟨"GossipWatchModel", "isSigned", "([BI)Z"⟩, 35), (⟨"GossipWatchModel", "isAgainst", "(II[BI)Z"⟩, 35), (⟨"GossipWatchModel", "records", "(IIIII)V"⟩, 35), (⟨"GossipWatchModel", "answered", "(II)I"⟩, 35), (⟨"GossipWatchModel", "takesProof", "(II)I"⟩, 35), (⟨"GossipWatchModel", "accepts", "(I[BI)Z"⟩, 35), (⟨"GossipWatchModel", "leads", "(II[BIII[BI)Z"⟩, 35), (⟨"GossipWatchModel", "copies", "([BII)V"⟩, 35), (⟨"GossipWatchModel", "isWay", "(II[BIII[BI)Z"⟩, 35), (⟨"GossipWatchModel", "isOther", "(III)Z"⟩, 35), (⟨"GossipWatchModel", "isRecord", "(II)Z"⟩, 35)]
theorem lw_r3 : ∀ q ∈ lw_privs_3, lw_okq q := List.forall_mem_cons.mpr ⟨lw_p32, List.forall_mem_cons.mpr ⟨lw_p33, List.forall_mem_cons.mpr ⟨lw_p34, List.forall_mem_cons.mpr ⟨lw_p35, List.forall_mem_cons.mpr ⟨lw_p36, List.forall_mem_cons.mpr ⟨lw_p37, List.forall_mem_cons.mpr ⟨lw_p38, List.forall_mem_cons.mpr ⟨lw_p39, List.forall_mem_cons.mpr ⟨lw_p40, List.forall_mem_cons.mpr ⟨lw_p41, List.forall_mem_cons.mpr ⟨lw_p42, List.forall_mem_cons.mpr ⟨lw_p43, List.forall_mem_cons.mpr ⟨lw_p44, List.forall_mem_cons.mpr ⟨lw_p45, List.forall_mem_cons.mpr ⟨lw_p46, List.forall_mem_cons.mpr ⟨lw_p47, fun _ h => absurd h List.not_mem_nil⟩⟩⟩⟩⟩⟩⟩⟩⟩⟩⟩⟩⟩⟩⟩⟩
theorem lw_p48 : lw_okq (⟨"GossipWatchModel", "lays", "([BII)V"⟩, 35) := ⟨⟨by decide +kernel, by decide +kernel⟩, List.mem_of_getElem? (i := 580) (by decide +kernel), List.mem_of_getElem? (i := 980) (by decide +kernel), List.mem_of_getElem? (i := 981) (by decide +kernel)⟩
def lw_privs_4 : List (MethodName × Nat) := [(⟨"GossipWatchModel", "lays", "([BII)V"⟩, 35)]
theorem lw_r4 : ∀ q ∈ lw_privs_4, lw_okq q := List.forall_mem_cons.mpr ⟨lw_p48, fun _ h => absurd h List.not_mem_nil⟩
def lw_privs : List (MethodName × Nat) := lw_privs_1 ++ (lw_privs_2 ++ (lw_privs_3 ++ (lw_privs_4)))
def lw_tbl : List Cond := k2_sels lw_privs ++ tables_1
theorem lw_privs_ok : ∀ q ∈ lw_privs, lw_okq q := by
  show ∀ q ∈ lw_privs_1 ++ (lw_privs_2 ++ (lw_privs_3 ++ (lw_privs_4))), lw_okq q
  exact List.forall_mem_append.mpr ⟨lw_r1, List.forall_mem_append.mpr ⟨lw_r2, List.forall_mem_append.mpr ⟨lw_r3, lw_r4⟩⟩⟩
end
section
def RX0 : String := "GossipWatch$Climb"
def TX0 : u_T := fun k => match k with
  | 0 => ("GossipWatch$Climb", "older", "LGossipWatch$Row;", true)
  | _ => ("GossipWatch$Climb", "newer", "LGossipWatch$Row;", true)
def tyX0 : Nat → FieldType := fun k => match k with
  | 0 => .object "GossipWatch$Row"
  | _ => .object "GossipWatch$Row"
abbrev wsX00 : List Cond := u_ws RX0 TX0 2
theorem nmX0 : ∀ a, a < 2 → ∀ b, b < 2 → a ≠ b → (TX0 a).2.1 ≠ (TX0 b).2.1 := by decide +kernel
theorem tyX0_ok : ∀ k, k < 2 → parseFieldDescriptor (TX0 k).2.2.1 = some (tyX0 k) := by decide +kernel
abbrev cX0_init : ByteArray := prog_2_method_1_code
def yX0_init : MethodName := ⟨RX0, "<init>", "()V"⟩
abbrev cX0_ofProof : ByteArray := prog_2_method_2_code
def yX0_ofProof : MethodName := ⟨RX0, "ofProof", "(LGossipWatch$Sha;LGossipWatch$Row;III)LGossipWatch$Row;"⟩
abbrev cX0_ofPath : ByteArray := prog_2_method_3_code
def yX0_ofPath : MethodName := ⟨RX0, "ofPath", "(LGossipWatch$Sha;LGossipWatch$Row;)LGossipWatch$Row;"⟩
abbrev cX0_rises : ByteArray := prog_2_method_4_code
def yX0_rises : MethodName := ⟨RX0, "rises", "(LGossipWatch$Sha;IILGossipWatch$Row;I)Z"⟩
def RX1 : String := "GossipWatch$Keys"
def TX1 : u_T := fun k => match k with
  | _ => ("GossipWatch$Keys", "keys", "LGossipWatch$Row;", true)
def tyX1 : Nat → FieldType := fun k => match k with
  | _ => .object "GossipWatch$Row"
abbrev wsX10 : List Cond := u_ws RX1 TX1 1
theorem nmX1 : ∀ a, a < 1 → ∀ b, b < 1 → a ≠ b → (TX1 a).2.1 ≠ (TX1 b).2.1 := by decide +kernel
theorem tyX1_ok : ∀ k, k < 1 → parseFieldDescriptor (TX1 k).2.2.1 = some (tyX1 k) := by decide +kernel
abbrev cX1_init : ByteArray := prog_3_method_1_code
def yX1_init : MethodName := ⟨RX1, "<init>", "()V"⟩
abbrev cX1_makeFrom : ByteArray := prog_3_method_2_code
def yX1_makeFrom : MethodName := ⟨RX1, "makeFrom", "(LGossipWatch$Sha;J)V"⟩
abbrev cX1_signFor : ByteArray := prog_3_method_3_code
def yX1_signFor : MethodName := ⟨RX1, "signFor", "(LGossipWatch$Sha;LGossipWatch$Row;II)LGossipWatch$Row;"⟩
abbrev cX1_haveSigned : ByteArray := prog_3_method_4_code
def yX1_haveSigned : MethodName := ⟨RX1, "haveSigned", "(LGossipWatch$Sha;LGossipWatch$Row;II)Z"⟩
def RX2 : String := "GossipWatch$Letter"
def TX2 : u_T := fun k => match k with
  | 0 => ("GossipWatch$Letter", "bytes", "LGossipWatch$Row;", true)
  | _ => ("GossipWatch$Letter", "kind", "I", false)
def tyX2 : Nat → FieldType := fun k => match k with
  | 0 => .object "GossipWatch$Row"
  | _ => .int
abbrev wsX20 : List Cond := u_ws RX2 TX2 2
theorem nmX2 : ∀ a, a < 2 → ∀ b, b < 2 → a ≠ b → (TX2 a).2.1 ≠ (TX2 b).2.1 := by decide +kernel
theorem tyX2_ok : ∀ k, k < 2 → parseFieldDescriptor (TX2 k).2.2.1 = some (tyX2 k) := by decide +kernel
abbrev cX2_init : ByteArray := prog_4_method_1_code
def yX2_init : MethodName := ⟨RX2, "<init>", "()V"⟩
abbrev cX2_hashCount : ByteArray := prog_4_method_2_code
def yX2_hashCount : MethodName := ⟨RX2, "hashCount", "()I"⟩
def RX3 : String := "GossipWatch$Monitor"
def TX3 : u_T := fun k => match k with
  | 0 => ("GossipWatch$Monitor", "heads", "[LGossipWatch$Row;", true)
  | 1 => ("GossipWatch$Monitor", "proofs", "[LGossipWatch$Row;", true)
  | 2 => ("GossipWatch$Monitor", "factHeads", "[I", true)
  | 3 => ("GossipWatch$Monitor", "records", "[[I", true)
  | 4 => ("GossipWatch$Monitor", "headCount", "I", false)
  | 5 => ("GossipWatch$Monitor", "factCount", "I", false)
  | 6 => ("GossipWatch$Monitor", "recordCount", "I", false)
  | 7 => ("GossipWatch$Monitor", "refused", "I", false)
  | _ => ("GossipWatch$Monitor", "crowded", "I", false)
def tyX3 : Nat → FieldType := fun k => match k with
  | 0 => .array (.object "GossipWatch$Row")
  | 1 => .array (.object "GossipWatch$Row")
  | 2 => .array .int
  | 3 => .array (.array .int)
  | 4 => .int
  | 5 => .int
  | 6 => .int
  | 7 => .int
  | _ => .int
abbrev wsX30 : List Cond := u_ws RX3 TX3 9
theorem nmX3 : ∀ a, a < 9 → ∀ b, b < 9 → a ≠ b → (TX3 a).2.1 ≠ (TX3 b).2.1 := by decide +kernel
theorem tyX3_ok : ∀ k, k < 9 → parseFieldDescriptor (TX3 k).2.2.1 = some (tyX3 k) := by decide +kernel
abbrev cX3_init : ByteArray := prog_5_method_1_code
def yX3_init : MethodName := ⟨RX3, "<init>", "()V"⟩
abbrev cX3_noted : ByteArray := prog_5_method_2_code
def yX3_noted : MethodName := ⟨RX3, "noted", "(I)I"⟩
abbrev cX3_takeHead : ByteArray := prog_5_method_3_code
def yX3_takeHead : MethodName := ⟨RX3, "takeHead", "(LGossipWatch$Row;)I"⟩
abbrev cX3_takeProof : ByteArray := prog_5_method_4_code
def yX3_takeProof : MethodName := ⟨RX3, "takeProof", "(LGossipWatch$Row;LGossipWatch$Row;)I"⟩
abbrev cX3_countAccepting : ByteArray := prog_5_method_5_code
def yX3_countAccepting : MethodName := ⟨RX3, "countAccepting", "(LGossipWatch$Row;LGossipWatch$Row;)I"⟩
abbrev cX3_countOf : ByteArray := prog_5_method_6_code
def yX3_countOf : MethodName := ⟨RX3, "countOf", "(I)I"⟩
abbrev cX3_hasHead : ByteArray := prog_5_method_7_code
def yX3_hasHead : MethodName := ⟨RX3, "hasHead", "(I)Z"⟩
abbrev cX3_hasFact : ByteArray := prog_5_method_8_code
def yX3_hasFact : MethodName := ⟨RX3, "hasFact", "(I)Z"⟩
abbrev cX3_hasRecord : ByteArray := prog_5_method_9_code
def yX3_hasRecord : MethodName := ⟨RX3, "hasRecord", "(I)Z"⟩
abbrev cX3_ofFact : ByteArray := prog_5_method_10_code
def yX3_ofFact : MethodName := ⟨RX3, "ofFact", "(II)I"⟩
abbrev cX3_ofRecord : ByteArray := prog_5_method_11_code
def yX3_ofRecord : MethodName := ⟨RX3, "ofRecord", "(II)I"⟩
abbrev cX3_writeRecord : ByteArray := prog_5_method_12_code
def yX3_writeRecord : MethodName := ⟨RX3, "writeRecord", "(ILGossipWatch$Row;)V"⟩
abbrev cX3_holdsLike : ByteArray := prog_5_method_13_code
def yX3_holdsLike : MethodName := ⟨RX3, "holdsLike", "(LGossipWatch$Row;)Z"⟩
abbrev cX3_headAccepting : ByteArray := prog_5_method_14_code
def yX3_headAccepting : MethodName := ⟨RX3, "headAccepting", "(LGossipWatch$Row;LGossipWatch$Row;)I"⟩
abbrev cX3_hasFactLike : ByteArray := prog_5_method_15_code
def yX3_hasFactLike : MethodName := ⟨RX3, "hasFactLike", "(LGossipWatch$Row;I)Z"⟩
abbrev cX3_raiseForks : ByteArray := prog_5_method_16_code
def yX3_raiseForks : MethodName := ⟨RX3, "raiseForks", "(LGossipWatch$Row;)Z"⟩
abbrev cX3_raiseBreachesOfHead : ByteArray := prog_5_method_17_code
def yX3_raiseBreachesOfHead : MethodName := ⟨RX3, "raiseBreachesOfHead", "(LGossipWatch$Row;)Z"⟩
abbrev cX3_raiseBreachesOfFact : ByteArray := prog_5_method_18_code
def yX3_raiseBreachesOfFact : MethodName := ⟨RX3, "raiseBreachesOfFact", "(LGossipWatch$Row;I)Z"⟩
abbrev cX3_belies : ByteArray := prog_5_method_19_code
def yX3_belies : MethodName := ⟨RX3, "belies", "(LGossipWatch$Row;LGossipWatch$Row;)Z"⟩
abbrev cX3_raise : ByteArray := prog_5_method_20_code
def yX3_raise : MethodName := ⟨RX3, "raise", "(IIII)Z"⟩
def RX4 : String := "GossipWatch$Row"
def TX4 : u_T := fun k => match k with
  | 0 => ("GossipWatch$Row", "bytes", "[B", true)
  | _ => ("GossipWatch$Row", "size", "I", false)
def tyX4 : Nat → FieldType := fun k => match k with
  | 0 => .array .byte
  | _ => .int
abbrev wsX40 : List Cond := u_ws RX4 TX4 2
theorem nmX4 : ∀ a, a < 2 → ∀ b, b < 2 → a ≠ b → (TX4 a).2.1 ≠ (TX4 b).2.1 := by decide +kernel
theorem tyX4_ok : ∀ k, k < 2 → parseFieldDescriptor (TX4 k).2.2.1 = some (tyX4 k) := by decide +kernel
abbrev cX4_init : ByteArray := prog_6_method_1_code
def yX4_init : MethodName := ⟨RX4, "<init>", "(I)V"⟩
abbrev cX4_has : ByteArray := prog_6_method_2_code
def yX4_has : MethodName := ⟨RX4, "has", "(I)Z"⟩
abbrev cX4_at : ByteArray := prog_6_method_3_code
def yX4_at : MethodName := ⟨RX4, "at", "(I)I"⟩
abbrev cX4_number : ByteArray := prog_6_method_4_code
def yX4_number : MethodName := ⟨RX4, "number", "(I)I"⟩
abbrev cX4_put : ByteArray := prog_6_method_5_code
def yX4_put : MethodName := ⟨RX4, "put", "(II)V"⟩
abbrev cX4_empty : ByteArray := prog_6_method_6_code
def yX4_empty : MethodName := ⟨RX4, "empty", "()V"⟩
abbrev cX4_add : ByteArray := prog_6_method_7_code
def yX4_add : MethodName := ⟨RX4, "add", "(I)V"⟩
abbrev cX4_addNumber : ByteArray := prog_6_method_8_code
def yX4_addNumber : MethodName := ⟨RX4, "addNumber", "(I)V"⟩
abbrev cX4_addPart : ByteArray := prog_6_method_9_code
def yX4_addPart : MethodName := ⟨RX4, "addPart", "(LGossipWatch$Row;II)V"⟩
abbrev cX4_addHashesReversed : ByteArray := prog_6_method_10_code
def yX4_addHashesReversed : MethodName := ⟨RX4, "addHashesReversed", "(LGossipWatch$Row;)V"⟩
abbrev cX4_become : ByteArray := prog_6_method_11_code
def yX4_become : MethodName := ⟨RX4, "become", "(LGossipWatch$Row;)V"⟩
abbrev cX4_becomePart : ByteArray := prog_6_method_12_code
def yX4_becomePart : MethodName := ⟨RX4, "becomePart", "(LGossipWatch$Row;II)V"⟩
abbrev cX4_resize : ByteArray := prog_6_method_13_code
def yX4_resize : MethodName := ⟨RX4, "resize", "(I)V"⟩
abbrev cX4_sameAs : ByteArray := prog_6_method_14_code
def yX4_sameAs : MethodName := ⟨RX4, "sameAs", "(ILGossipWatch$Row;II)Z"⟩
def RX5 : String := "GossipWatch$Sha"
def TX5 : u_T := fun k => match k with
  | 0 => ("GossipWatch$Sha", "message", "LGossipWatch$Row;", true)
  | 1 => ("GossipWatch$Sha", "digest", "LGossipWatch$Row;", true)
  | 2 => ("GossipWatch$Sha", "words", "[I", true)
  | _ => ("GossipWatch$Sha", "state", "[I", true)
def tyX5 : Nat → FieldType := fun k => match k with
  | 0 => .object "GossipWatch$Row"
  | 1 => .object "GossipWatch$Row"
  | 2 => .array .int
  | _ => .array .int
abbrev wsX50 : List Cond := u_ws RX5 TX5 4
theorem nmX5 : ∀ a, a < 4 → ∀ b, b < 4 → a ≠ b → (TX5 a).2.1 ≠ (TX5 b).2.1 := by decide +kernel
theorem tyX5_ok : ∀ k, k < 4 → parseFieldDescriptor (TX5 k).2.2.1 = some (tyX5 k) := by decide +kernel
abbrev cX5_init : ByteArray := prog_7_method_1_code
def yX5_init : MethodName := ⟨RX5, "<init>", "()V"⟩
abbrev cX5_finish : ByteArray := prog_7_method_2_code
def yX5_finish : MethodName := ⟨RX5, "finish", "()LGossipWatch$Row;"⟩
abbrev cX5_join : ByteArray := prog_7_method_3_code
def yX5_join : MethodName := ⟨RX5, "join", "(LGossipWatch$Row;ILGossipWatch$Row;I)LGossipWatch$Row;"⟩
abbrev cX5_stretch : ByteArray := prog_7_method_4_code
def yX5_stretch : MethodName := ⟨RX5, "stretch", "()V"⟩
abbrev cX5_mix : ByteArray := prog_7_method_5_code
def yX5_mix : MethodName := ⟨RX5, "mix", "()V"⟩
def RX6 : String := "GossipWatch$View"
def TX6 : u_T := fun k => match k with
  | 0 => ("GossipWatch$View", "values", "[I", true)
  | 1 => ("GossipWatch$View", "levels", "[LGossipWatch$Row;", true)
  | _ => ("GossipWatch$View", "count", "I", false)
def tyX6 : Nat → FieldType := fun k => match k with
  | 0 => .array .int
  | 1 => .array (.object "GossipWatch$Row")
  | _ => .int
abbrev wsX60 : List Cond := u_ws RX6 TX6 3
theorem nmX6 : ∀ a, a < 3 → ∀ b, b < 3 → a ≠ b → (TX6 a).2.1 ≠ (TX6 b).2.1 := by decide +kernel
theorem tyX6_ok : ∀ k, k < 3 → parseFieldDescriptor (TX6 k).2.2.1 = some (tyX6 k) := by decide +kernel
abbrev cX6_init : ByteArray := prog_8_method_1_code
def yX6_init : MethodName := ⟨RX6, "<init>", "()V"⟩
abbrev cX6_isFull : ByteArray := prog_8_method_2_code
def yX6_isFull : MethodName := ⟨RX6, "isFull", "()Z"⟩
abbrev cX6_leafAt : ByteArray := prog_8_method_3_code
def yX6_leafAt : MethodName := ⟨RX6, "leafAt", "(I)I"⟩
abbrev cX6_addLeaf : ByteArray := prog_8_method_4_code
def yX6_addLeaf : MethodName := ⟨RX6, "addLeaf", "(LGossipWatch$Sha;I)V"⟩
abbrev cX6_rootOf : ByteArray := prog_8_method_5_code
def yX6_rootOf : MethodName := ⟨RX6, "rootOf", "(LGossipWatch$Sha;II)LGossipWatch$Row;"⟩
abbrev cX6_pushPath : ByteArray := prog_8_method_6_code
def yX6_pushPath : MethodName := ⟨RX6, "pushPath", "(LGossipWatch$Sha;IILGossipWatch$Row;)V"⟩
abbrev cX6_pushProof : ByteArray := prog_8_method_7_code
def yX6_pushProof : MethodName := ⟨RX6, "pushProof", "(LGossipWatch$Sha;IILGossipWatch$Row;)V"⟩
abbrev cX6_splitOf : ByteArray := prog_8_method_8_code
def yX6_splitOf : MethodName := ⟨RX6, "splitOf", "(I)I"⟩
def RX7 : String := "GossipWatch"
def TX7 : u_T := fun k => match k with
  | 0 => ("GossipWatch", "sha", "LGossipWatch$Sha;", true)
  | 1 => ("GossipWatch", "keys", "LGossipWatch$Keys;", true)
  | 2 => ("GossipWatch", "climb", "LGossipWatch$Climb;", true)
  | 3 => ("GossipWatch", "views", "[LGossipWatch$View;", true)
  | 4 => ("GossipWatch", "post", "[LGossipWatch$Letter;", true)
  | 5 => ("GossipWatch", "monitors", "[LGossipWatch$Monitor;", true)
  | 6 => ("GossipWatch", "onDesk", "LGossipWatch$Row;", true)
  | 7 => ("GossipWatch", "stack", "LGossipWatch$Row;", true)
  | _ => ("GossipWatch", "posted", "I", false)
def tyX7 : Nat → FieldType := fun k => match k with
  | 0 => .object "GossipWatch$Sha"
  | 1 => .object "GossipWatch$Keys"
  | 2 => .object "GossipWatch$Climb"
  | 3 => .array (.object "GossipWatch$View")
  | 4 => .array (.object "GossipWatch$Letter")
  | 5 => .array (.object "GossipWatch$Monitor")
  | 6 => .object "GossipWatch$Row"
  | 7 => .object "GossipWatch$Row"
  | _ => .int
abbrev wsX70 : List Cond := u_ws RX7 TX7 9
theorem nmX7 : ∀ a, a < 9 → ∀ b, b < 9 → a ≠ b → (TX7 a).2.1 ≠ (TX7 b).2.1 := by decide +kernel
theorem tyX7_ok : ∀ k, k < 9 → parseFieldDescriptor (TX7 k).2.2.1 = some (tyX7 k) := by decide +kernel
abbrev cX7_init : ByteArray := prog_1_method_1_code
def yX7_init : MethodName := ⟨RX7, "<init>", "(J)V"⟩
abbrev cX7_append : ByteArray := prog_1_method_2_code
def yX7_append : MethodName := ⟨RX7, "append", "(III)I"⟩
abbrev cX7_leaves : ByteArray := prog_1_method_3_code
def yX7_leaves : MethodName := ⟨RX7, "leaves", "(II)I"⟩
abbrev cX7_head : ByteArray := prog_1_method_4_code
def yX7_head : MethodName := ⟨RX7, "head", "(III)I"⟩
abbrev cX7_proof : ByteArray := prog_1_method_5_code
def yX7_proof : MethodName := ⟨RX7, "proof", "(IIII)I"⟩
abbrev cX7_path : ByteArray := prog_1_method_6_code
def yX7_path : MethodName := ⟨RX7, "path", "(IIII)I"⟩
abbrev cX7_alter : ByteArray := prog_1_method_7_code
def yX7_alter : MethodName := ⟨RX7, "alter", "(III)I"⟩
abbrev cX7_cut : ByteArray := prog_1_method_8_code
def yX7_cut : MethodName := ⟨RX7, "cut", "(II)I"⟩
abbrev cX7_sign : ByteArray := prog_1_method_9_code
def yX7_sign : MethodName := ⟨RX7, "sign", "(I)Z"⟩
abbrev cX7_clear : ByteArray := prog_1_method_10_code
def yX7_clear : MethodName := ⟨RX7, "clear", "()I"⟩
abbrev cX7_letters : ByteArray := prog_1_method_11_code
def yX7_letters : MethodName := ⟨RX7, "letters", "()I"⟩
abbrev cX7_letter : ByteArray := prog_1_method_12_code
def yX7_letter : MethodName := ⟨RX7, "letter", "(II)I"⟩
abbrev cX7_take : ByteArray := prog_1_method_13_code
def yX7_take : MethodName := ⟨RX7, "take", "(II)I"⟩
abbrev cX7_gossip : ByteArray := prog_1_method_14_code
def yX7_gossip : MethodName := ⟨RX7, "gossip", "(II)I"⟩
abbrev cX7_holds : ByteArray := prog_1_method_15_code
def yX7_holds : MethodName := ⟨RX7, "holds", "(II)I"⟩
abbrev cX7_held : ByteArray := prog_1_method_16_code
def yX7_held : MethodName := ⟨RX7, "held", "(III)I"⟩
abbrev cX7_fact : ByteArray := prog_1_method_17_code
def yX7_fact : MethodName := ⟨RX7, "fact", "(III)I"⟩
abbrev cX7_record : ByteArray := prog_1_method_18_code
def yX7_record : MethodName := ⟨RX7, "record", "(III)I"⟩
abbrev cX7_lay : ByteArray := prog_1_method_19_code
def yX7_lay : MethodName := ⟨RX7, "lay", "(II)I"⟩
abbrev cX7_desk : ByteArray := prog_1_method_20_code
def yX7_desk : MethodName := ⟨RX7, "desk", "(I)I"⟩
abbrev cX7_patch : ByteArray := prog_1_method_21_code
def yX7_patch : MethodName := ⟨RX7, "patch", "(II)Z"⟩
abbrev cX7_trim : ByteArray := prog_1_method_22_code
def yX7_trim : MethodName := ⟨RX7, "trim", "(I)Z"⟩
abbrev cX7_audit : ByteArray := prog_1_method_23_code
def yX7_audit : MethodName := ⟨RX7, "audit", "()Z"⟩
abbrev cX7_hash : ByteArray := prog_1_method_24_code
def yX7_hash : MethodName := ⟨RX7, "hash", "(I)I"⟩
abbrev cX7_viewOf : ByteArray := prog_1_method_25_code
def yX7_viewOf : MethodName := ⟨RX7, "viewOf", "(II)LGossipWatch$View;"⟩
abbrev cX7_letterOf : ByteArray := prog_1_method_26_code
def yX7_letterOf : MethodName := ⟨RX7, "letterOf", "(I)LGossipWatch$Letter;"⟩
abbrev cX7_monitorOf : ByteArray := prog_1_method_27_code
def yX7_monitorOf : MethodName := ⟨RX7, "monitorOf", "(I)LGossipWatch$Monitor;"⟩
abbrev cX7_nextLetter : ByteArray := prog_1_method_28_code
def yX7_nextLetter : MethodName := ⟨RX7, "nextLetter", "(II)LGossipWatch$Row;"⟩
abbrev cX7_bothAreSigned : ByteArray := prog_1_method_29_code
def yX7_bothAreSigned : MethodName := ⟨RX7, "bothAreSigned", "()Z"⟩
abbrev cX7_isFork : ByteArray := prog_1_method_30_code
def yX7_isFork : MethodName := ⟨RX7, "isFork", "()Z"⟩
abbrev cX7_endsWithWholeHashes : ByteArray := prog_1_method_31_code
def yX7_endsWithWholeHashes : MethodName := ⟨RX7, "endsWithWholeHashes", "()Z"⟩
abbrev cX7_isBreach : ByteArray := prog_1_method_32_code
def yX7_isBreach : MethodName := ⟨RX7, "isBreach", "()Z"⟩
def RX8 : String := "GossipWatchModel"
def TX8 : u_T := fun k => match k with
  | 0 => ("GossipWatchModel", "k64", "[I", true)
  | 1 => ("GossipWatchModel", "begin", "[I", true)
  | 2 => ("GossipWatchModel", "w", "[I", true)
  | 3 => ("GossipWatchModel", "h", "[I", true)
  | 4 => ("GossipWatchModel", "v", "[I", true)
  | 5 => ("GossipWatchModel", "told", "[B", true)
  | 6 => ("GossipWatchModel", "size", "I", false)
  | 7 => ("GossipWatchModel", "hash", "[B", true)
  | 8 => ("GossipWatchModel", "leaf", "[I", true)
  | 9 => ("GossipWatchModel", "leaves", "[I", true)
  | 10 => ("GossipWatchModel", "key", "[B", true)
  | 11 => ("GossipWatchModel", "letter", "[B", true)
  | 12 => ("GossipWatchModel", "kind", "[I", true)
  | 13 => ("GossipWatchModel", "length", "[I", true)
  | 14 => ("GossipWatchModel", "letters", "I", false)
  | 15 => ("GossipWatchModel", "from", "[I", true)
  | 16 => ("GossipWatchModel", "many", "[I", true)
  | 17 => ("GossipWatchModel", "noted", "I", false)
  | 18 => ("GossipWatchModel", "heads", "[B", true)
  | 19 => ("GossipWatchModel", "facts", "[B", true)
  | 20 => ("GossipWatchModel", "headMany", "[I", true)
  | 21 => ("GossipWatchModel", "factMany", "[I", true)
  | 22 => ("GossipWatchModel", "recordMany", "[I", true)
  | 23 => ("GossipWatchModel", "none", "[I", true)
  | 24 => ("GossipWatchModel", "full", "[I", true)
  | 25 => ("GossipWatchModel", "factLength", "[I", true)
  | 26 => ("GossipWatchModel", "factHead", "[I", true)
  | 27 => ("GossipWatchModel", "rKind", "[I", true)
  | 28 => ("GossipWatchModel", "rFirst", "[I", true)
  | 29 => ("GossipWatchModel", "rOther", "[I", true)
  | 30 => ("GossipWatchModel", "rFact", "[I", true)
  | 31 => ("GossipWatchModel", "desk", "[B", true)
  | 32 => ("GossipWatchModel", "laid", "I", false)
  | 33 => ("GossipWatchModel", "one", "[B", true)
  | _ => ("GossipWatchModel", "two", "[B", true)
def tyX8 : Nat → FieldType := fun k => match k with
  | 0 => .array .int
  | 1 => .array .int
  | 2 => .array .int
  | 3 => .array .int
  | 4 => .array .int
  | 5 => .array .byte
  | 6 => .int
  | 7 => .array .byte
  | 8 => .array .int
  | 9 => .array .int
  | 10 => .array .byte
  | 11 => .array .byte
  | 12 => .array .int
  | 13 => .array .int
  | 14 => .int
  | 15 => .array .int
  | 16 => .array .int
  | 17 => .int
  | 18 => .array .byte
  | 19 => .array .byte
  | 20 => .array .int
  | 21 => .array .int
  | 22 => .array .int
  | 23 => .array .int
  | 24 => .array .int
  | 25 => .array .int
  | 26 => .array .int
  | 27 => .array .int
  | 28 => .array .int
  | 29 => .array .int
  | 30 => .array .int
  | 31 => .array .byte
  | 32 => .int
  | 33 => .array .byte
  | _ => .array .byte
abbrev wsX80 : List Cond := u_ws RX8 TX8 35
theorem nmX8 : ∀ a, a < 35 → ∀ b, b < 35 → a ≠ b → (TX8 a).2.1 ≠ (TX8 b).2.1 := by decide +kernel
theorem tyX8_ok : ∀ k, k < 35 → parseFieldDescriptor (TX8 k).2.2.1 = some (tyX8 k) := by decide +kernel
abbrev cX8_start : ByteArray := prog_10_method_1_code
def yX8_start : MethodName := ⟨RX8, "start", "()V"⟩
abbrev cX8_put : ByteArray := prog_10_method_2_code
def yX8_put : MethodName := ⟨RX8, "put", "(I)V"⟩
abbrev cX8_putNumber : ByteArray := prog_10_method_3_code
def yX8_putNumber : MethodName := ⟨RX8, "putNumber", "(JI)V"⟩
abbrev cX8_putRow : ByteArray := prog_10_method_4_code
def yX8_putRow : MethodName := ⟨RX8, "putRow", "([BII)V"⟩
abbrev cX8_turned : ByteArray := prog_10_method_5_code
def yX8_turned : MethodName := ⟨RX8, "turned", "(II)I"⟩
abbrev cX8_sum : ByteArray := prog_10_method_6_code
def yX8_sum : MethodName := ⟨RX8, "sum", "(I)V"⟩
abbrev cX8_block : ByteArray := prog_10_method_7_code
def yX8_block : MethodName := ⟨RX8, "block", "(I)V"⟩
abbrev cX8_init : ByteArray := prog_10_method_8_code
def yX8_init : MethodName := ⟨RX8, "<init>", "(J)V"⟩
abbrev cX8_in : ByteArray := prog_10_method_9_code
def yX8_in : MethodName := ⟨RX8, "in", "(III)Z"⟩
abbrev cX8_isView : ByteArray := prog_10_method_10_code
def yX8_isView : MethodName := ⟨RX8, "isView", "(II)Z"⟩
abbrev cX8_append : ByteArray := prog_10_method_11_code
def yX8_append : MethodName := ⟨RX8, "append", "(III)I"⟩
abbrev cX8_leaves : ByteArray := prog_10_method_12_code
def yX8_leaves : MethodName := ⟨RX8, "leaves", "(II)I"⟩
abbrev cX8_half : ByteArray := prog_10_method_13_code
def yX8_half : MethodName := ⟨RX8, "half", "(I)I"⟩
abbrev cX8_joined : ByteArray := prog_10_method_14_code
def yX8_joined : MethodName := ⟨RX8, "joined", "([BI[BII)V"⟩
abbrev cX8_root : ByteArray := prog_10_method_15_code
def yX8_root : MethodName := ⟨RX8, "root", "(IIII)V"⟩
abbrev cX8_begins : ByteArray := prog_10_method_16_code
def yX8_begins : MethodName := ⟨RX8, "begins", "(II)V"⟩
abbrev cX8_adds : ByteArray := prog_10_method_17_code
def yX8_adds : MethodName := ⟨RX8, "adds", "(I)V"⟩
abbrev cX8_addsNumber : ByteArray := prog_10_method_18_code
def yX8_addsNumber : MethodName := ⟨RX8, "addsNumber", "(I)V"⟩
abbrev cX8_addsHash : ByteArray := prog_10_method_19_code
def yX8_addsHash : MethodName := ⟨RX8, "addsHash", "(I)V"⟩
abbrev cX8_ends : ByteArray := prog_10_method_20_code
def yX8_ends : MethodName := ⟨RX8, "ends", "()I"⟩
abbrev cX8_signs : ByteArray := prog_10_method_21_code
def yX8_signs : MethodName := ⟨RX8, "signs", "([BII)V"⟩
abbrev cX8_head : ByteArray := prog_10_method_22_code
def yX8_head : MethodName := ⟨RX8, "head", "(III)I"⟩
abbrev cX8_note : ByteArray := prog_10_method_23_code
def yX8_note : MethodName := ⟨RX8, "note", "(II)V"⟩
abbrev cX8_addsNoted : ByteArray := prog_10_method_24_code
def yX8_addsNoted : MethodName := ⟨RX8, "addsNoted", "(I)V"⟩
abbrev cX8_proof : ByteArray := prog_10_method_25_code
def yX8_proof : MethodName := ⟨RX8, "proof", "(IIII)I"⟩
abbrev cX8_path : ByteArray := prog_10_method_26_code
def yX8_path : MethodName := ⟨RX8, "path", "(IIII)I"⟩
abbrev cX8_isLetter : ByteArray := prog_10_method_27_code
def yX8_isLetter : MethodName := ⟨RX8, "isLetter", "(I)Z"⟩
abbrev cX8_headOf : ByteArray := prog_10_method_28_code
def yX8_headOf : MethodName := ⟨RX8, "headOf", "(I)I"⟩
abbrev cX8_alter : ByteArray := prog_10_method_29_code
def yX8_alter : MethodName := ⟨RX8, "alter", "(III)I"⟩
abbrev cX8_cut : ByteArray := prog_10_method_30_code
def yX8_cut : MethodName := ⟨RX8, "cut", "(II)I"⟩
abbrev cX8_sign : ByteArray := prog_10_method_31_code
def yX8_sign : MethodName := ⟨RX8, "sign", "(I)Z"⟩
abbrev cX8_clear : ByteArray := prog_10_method_32_code
def yX8_clear : MethodName := ⟨RX8, "clear", "()I"⟩
abbrev cX8_letters : ByteArray := prog_10_method_33_code
def yX8_letters : MethodName := ⟨RX8, "letters", "()I"⟩
abbrev cX8_letter : ByteArray := prog_10_method_34_code
def yX8_letter : MethodName := ⟨RX8, "letter", "(II)I"⟩
abbrev cX8_number : ByteArray := prog_10_method_35_code
def yX8_number : MethodName := ⟨RX8, "number", "([BI)I"⟩
abbrev cX8_isSame : ByteArray := prog_10_method_36_code
def yX8_isSame : MethodName := ⟨RX8, "isSame", "([BI[BII)Z"⟩
abbrev cX8_isSigned : ByteArray := prog_10_method_37_code
def yX8_isSigned : MethodName := ⟨RX8, "isSigned", "([BI)Z"⟩
abbrev cX8_copies : ByteArray := prog_10_method_38_code
def yX8_copies : MethodName := ⟨RX8, "copies", "([BII)V"⟩
abbrev cX8_leads : ByteArray := prog_10_method_39_code
def yX8_leads : MethodName := ⟨RX8, "leads", "(II[BIII[BI)Z"⟩
abbrev cX8_isWay : ByteArray := prog_10_method_40_code
def yX8_isWay : MethodName := ⟨RX8, "isWay", "(II[BIII[BI)Z"⟩
abbrev cX8_headAt : ByteArray := prog_10_method_41_code
def yX8_headAt : MethodName := ⟨RX8, "headAt", "(II)I"⟩
abbrev cX8_factAt : ByteArray := prog_10_method_42_code
def yX8_factAt : MethodName := ⟨RX8, "factAt", "(II)I"⟩
abbrev cX8_records : ByteArray := prog_10_method_43_code
def yX8_records : MethodName := ⟨RX8, "records", "(IIIII)V"⟩
abbrev cX8_takesHead : ByteArray := prog_10_method_44_code
def yX8_takesHead : MethodName := ⟨RX8, "takesHead", "(I[BI)I"⟩
abbrev cX8_isAgainst : ByteArray := prog_10_method_45_code
def yX8_isAgainst : MethodName := ⟨RX8, "isAgainst", "(II[BI)Z"⟩
abbrev cX8_accepts : ByteArray := prog_10_method_46_code
def yX8_accepts : MethodName := ⟨RX8, "accepts", "(I[BI)Z"⟩
abbrev cX8_takesProof : ByteArray := prog_10_method_47_code
def yX8_takesProof : MethodName := ⟨RX8, "takesProof", "(II)I"⟩
abbrev cX8_isOther : ByteArray := prog_10_method_48_code
def yX8_isOther : MethodName := ⟨RX8, "isOther", "(III)Z"⟩
abbrev cX8_answered : ByteArray := prog_10_method_49_code
def yX8_answered : MethodName := ⟨RX8, "answered", "(II)I"⟩
abbrev cX8_take : ByteArray := prog_10_method_50_code
def yX8_take : MethodName := ⟨RX8, "take", "(II)I"⟩
abbrev cX8_gossip : ByteArray := prog_10_method_51_code
def yX8_gossip : MethodName := ⟨RX8, "gossip", "(II)I"⟩
abbrev cX8_holds : ByteArray := prog_10_method_52_code
def yX8_holds : MethodName := ⟨RX8, "holds", "(II)I"⟩
abbrev cX8_held : ByteArray := prog_10_method_53_code
def yX8_held : MethodName := ⟨RX8, "held", "(III)I"⟩
abbrev cX8_fact : ByteArray := prog_10_method_54_code
def yX8_fact : MethodName := ⟨RX8, "fact", "(III)I"⟩
abbrev cX8_isRecord : ByteArray := prog_10_method_55_code
def yX8_isRecord : MethodName := ⟨RX8, "isRecord", "(II)Z"⟩
abbrev cX8_record : ByteArray := prog_10_method_56_code
def yX8_record : MethodName := ⟨RX8, "record", "(III)I"⟩
abbrev cX8_lays : ByteArray := prog_10_method_57_code
def yX8_lays : MethodName := ⟨RX8, "lays", "([BII)V"⟩
abbrev cX8_lay : ByteArray := prog_10_method_58_code
def yX8_lay : MethodName := ⟨RX8, "lay", "(II)I"⟩
abbrev cX8_desk : ByteArray := prog_10_method_59_code
def yX8_desk : MethodName := ⟨RX8, "desk", "(I)I"⟩
abbrev cX8_patch : ByteArray := prog_10_method_60_code
def yX8_patch : MethodName := ⟨RX8, "patch", "(II)Z"⟩
abbrev cX8_trim : ByteArray := prog_10_method_61_code
def yX8_trim : MethodName := ⟨RX8, "trim", "(I)Z"⟩
abbrev cX8_audit : ByteArray := prog_10_method_62_code
def yX8_audit : MethodName := ⟨RX8, "audit", "()Z"⟩
abbrev cX8_hash : ByteArray := prog_10_method_63_code
def yX8_hash : MethodName := ⟨RX8, "hash", "(I)I"⟩
def RJ9 : String := "java/lang/Math"
def TJ9 : u_T := fun k => match k with
  | _ => ("", "", "", false)
def tyJ9 : Nat → FieldType := fun k => match k with
  | _ => .int
abbrev wsJ90 : List Cond := u_ws RJ9 TJ9 0
theorem nmJ9 : ∀ a, a < 0 → ∀ b, b < 0 → a ≠ b → (TJ9 a).2.1 ≠ (TJ9 b).2.1 := by decide +kernel
theorem tyJ9_ok : ∀ k, k < 0 → parseFieldDescriptor (TJ9 k).2.2.1 = some (tyJ9 k) := by decide +kernel
abbrev cJ9_max_7cf53 : ByteArray := prog_11_method_65_code
def yJ9_max_7cf53 : MethodName := ⟨RJ9, "max", "(II)I"⟩
def RJ10 : String := "java/lang/System"
def TJ10 : u_T := fun k => match k with
  | _ => ("", "", "", false)
def tyJ10 : Nat → FieldType := fun k => match k with
  | _ => .int
abbrev wsJ100 : List Cond := u_ws RJ10 TJ10 0
theorem nmJ10 : ∀ a, a < 0 → ∀ b, b < 0 → a ≠ b → (TJ10 a).2.1 ≠ (TJ10 b).2.1 := by decide +kernel
theorem tyJ10_ok : ∀ k, k < 0 → parseFieldDescriptor (TJ10 k).2.2.1 = some (tyJ10 k) := by decide +kernel
def RL : String := "GossipWatchLaw"
abbrev cL_cell : ByteArray := method_2_code
def yL_cell : MethodName := ⟨RL, "cell", "([II)I"⟩
abbrev cL_law : ByteArray := code
def yL_law : MethodName := ⟨RL, "law", "([I)Z"⟩
abbrev vwCl : List vw_C := [(RX0, TX0, 2), (RX1, TX1, 1), (RX2, TX2, 2), (RX3, TX3, 9), (RX4, TX4, 2), (RX5, TX5, 4), (RX6, TX6, 3), (RX7, TX7, 9), (RX8, TX8, 35)]
set_option maxRecDepth 20000 in
theorem inX0 : ∀ w ∈ wsX00, w ∈ lw_tbl := by decide +kernel
set_option maxRecDepth 20000 in
theorem inX1 : ∀ w ∈ wsX10, w ∈ lw_tbl := by decide +kernel
set_option maxRecDepth 20000 in
theorem inX2 : ∀ w ∈ wsX20, w ∈ lw_tbl := by decide +kernel
set_option maxRecDepth 20000 in
theorem inX3 : ∀ w ∈ wsX30, w ∈ lw_tbl := by decide +kernel
set_option maxRecDepth 20000 in
theorem inX4 : ∀ w ∈ wsX40, w ∈ lw_tbl := by decide +kernel
set_option maxRecDepth 20000 in
theorem inX5 : ∀ w ∈ wsX50, w ∈ lw_tbl := by decide +kernel
set_option maxRecDepth 20000 in
theorem inX6 : ∀ w ∈ wsX60, w ∈ lw_tbl := by decide +kernel
set_option maxRecDepth 20000 in
theorem inX7 : ∀ w ∈ wsX70, w ∈ lw_tbl := by decide +kernel
set_option maxRecDepth 20000 in
theorem inX8 : ∀ w ∈ wsX80, w ∈ lw_tbl := by decide +kernel
end
section
/-! the abstract machine: heaps as a size and a function, nothing below the base ever written -/
abbrev mC : Type := Nat × MethodName × ByteArray × Nat × Option FieldType × Nat × Nat
abbrev mE : Type := Instr × Nat × Nat × Int32
abbrev mRf : Type := (Nat × Nat) ⊕ Int32 ⊕ Int64 ⊕ mC ⊕ Nat
abbrev mX : Type := Nat × Nat × (Nat → Int32)
abbrev mG : Type := va_G × (Nat → ClassId) × Heap × (Nat → mX)
abbrev mS : Type := Nat × (Nat → va_E)
abbrev mL : Type := List (Nat × Value)
def mT : List Cond := lw_tbl.filter goodWord
theorem mT_in {w : Cond} (h : w ∈ lw_tbl) (g : goodWord w = true) : w ∈ mT := List.mem_filter.mpr ⟨h, g⟩
def mb (G : mG) : Nat := G.2.2.1.size
def mTys (G : mG) : List (ClassId × FieldType) := [(G.2.1 0, .int), (G.2.1 1, .byte), (G.2.1 2, .object RX4), (G.2.1 3, .object RX6), (G.2.1 4, .object RX2), (G.2.1 5, .object RX3), (G.2.1 6, .array .int)]
/-- words that don't go through calls by themselves: they are carried as facts of the state -/
def mNest : List (Nat × MethodName) := [(11, yX5_init), (18, yX1_init), (29, yX0_init), (47, yX2_init)]
def mOver : List String := [RX6, RX4, RX2, RX3]
def mr (G : mG) (S : mS) (H : Heap) : Prop := H.size = S.1 ∧ mb G ≤ S.1 ∧ (∀ q : Nat, q < mb G → H[q]? = G.2.2.1[q]?) ∧ ∀ a : Nat, mb G ≤ a → a < S.1 → va_at G.1 vwCl (a, S.2 a) H
def mAt (G : mG) (S : mS) (a : Nat) (e : va_E) : Prop := mb G ≤ a ∧ a < S.1 ∧ S.2 a = e
def mUp (S : mS) (a : Nat) (e : va_E) : mS := (S.1, va_up S.2 a e)
def mPush (S : mS) (e : va_E) : mS := (S.1 + 1, va_up S.2 S.1 e)
section MH
variable {G : mG} {S : mS} {H H1 : Heap} {a : Nat} {e e0 : va_E}
theorem mr.at (h : mr G S H) (ha : mAt G S a e) : va_at G.1 vwCl (a, e) H := by
  have h1 := h.2.2.2 a ha.1 ha.2.1
  rw [ha.2.2] at h1
  exact h1
theorem mr.one (h : mr G S H) (ha : mAt G S a e) : va_P G.1 vwCl [(a, e)] H := by
  intro k q hk
  cases k with
  | zero => cases hk; exact h.at ha
  | succ k => simp at hk
theorem mr.set (h : mr G S H) (ha : mAt G S a e0) (he : va_at G.1 vwCl (a, e) H1) (z : H1.size = H.size) (oq : ∀ q : Nat, q ≠ a → H1[q]? = H[q]?) : mr G (mUp S a e) H1 := by
  refine ⟨z.trans h.1, h.2.1, fun q hq => ?_, fun q h1 h2 => ?_⟩
  · rw [oq q (by have := ha.1; omega)]
    exact h.2.2.1 q hq
  · by_cases hq : q = a
    · subst hq
      have e1 : (mUp S q e).2 q = e := by simp [mUp, va_up]
      rw [e1]
      exact he
    · have e1 : (mUp S a e).2 q = S.2 q := by simp [mUp, va_up, hq]
      rw [e1]
      exact (h.2.2.2 q h1 h2).kept (oq q hq)
theorem mr.push (h : mr G S H) (he : va_at G.1 vwCl (S.1, e) H1) (z : H1.size = S.1 + 1) (oq : ∀ q : Nat, q < S.1 → H1[q]? = H[q]?) : mr G (mPush S e) H1 := by
  have hb := h.2.1
  refine ⟨z, Nat.le_succ_of_le hb, fun q hq => ?_, fun q h1 h2 => ?_⟩
  · rw [oq q (by omega)]
    exact h.2.2.1 q hq
  · by_cases hq : q = S.1
    · subst hq
      have e1 : (mPush S e).2 S.1 = e := by simp [mPush, va_up]
      rw [e1]
      exact he
    · have e1 : (mPush S e).2 q = S.2 q := by simp [mPush, va_up, hq]
      have h3 : q < S.1 + 1 := h2
      have h4 : q < S.1 := by omega
      rw [e1]
      exact (h.2.2.2 q h1 h4).kept (oq q h4)
end MH
section MW
variable {p : Program} {l : Launch} {e : Env} {R : Room} {s : State} {m : MethodId} {args : Array Value} {below : List Frame} {meth : Method} {c : Code} {H : Heap} {locs : List Loc} {cells slots : Nat} {Q : State → Prop}
variable {cc : ByteArray} {pc : Nat} {ls : Array Slot} {rest : List Value} {G : mG} {S : mS} {a : Nat}
theorem r_put (hexec : p.tables.exec = Jvm.exec) (hb : c.code = cc) {own C : String} {T : u_T} {N ci index : Nat} {Ts : List Cond} (hts : ∀ w ∈ Ts, w.before args s = true) (hin : ∀ w ∈ u_ws C T N, w ∈ Ts) (ty0 : Nat → FieldType) (hty : ∀ k, k < N → parseFieldDescriptor (T k).2.2.1 = some (ty0 k)) (hnm : ∀ a, a < N → ∀ b, b < N → a ≠ b → (T a).2.1 ≠ (T b).2.1) (hown : s.vm.findClass own = some m.cls) (hK : va_K G.1 vwCl (mTys G) s) (hr : mr G S H) {fs : List Value} (ha : mAt G S a (.inr (ci, fs))) (hc : vwCl[ci]? = some (C, T, N)) (k : Nat) (hk : k < N) (hlink : (Cond.fieldLink own index (T k).1 (T k).2.1 (T k).2.2.1).before args s = true)
    (hfin : (T k).2.2.2 = false ∨ ((T k).2.2.2 = true ∧ meth.name = "<init>" ∧ (T k).1 = own)) {v : Value} (hn : narrow (ty0 k) v = v) (hfit : fits (ty0 k) v = true) (hl : k < fs.length) (hdg : decode cc pc = .ok (.putfield index, 3))
    (kk : ∀ (H1 : Heap) (L : Loc), L.base = a → mr G (mUp S a (.inr (ci, fs.set k v))) H1 → W p l e R s m args below meth c H1 (locs ++ [L]) cells slots Q (F0 m (pc + 3) ls rest)) : W p l e R s m args below meth c H locs cells slots Q (F0 m pc ls (v :: .ref a :: rest)) := by
  have hd := hty k hk
  have hap := va_apart (own := own) hts hin ty0 hty hnm hK hc
  obtain ⟨r, h1, cell, q1, q2, q3, q4⟩ := hr.at ha
  have hrr : r = (C, T, N) := Option.some.inj (h1.symm.trans hc)
  subst hrr
  obtain ⟨hS, hfc, kC, hkC, hkind⟩ := hK.1 ci _ hc
  obtain ⟨cf, kf, fi, f, hi, hsl⟩ := hS k hk
  have hlay := hts _ (hin _ (u_in_lay hk))
  have hst := (u_facts hfc hkC (u_lays hts hin hk) hi).1
  rcases hfin with hfin | ⟨hfin, hin2, hdecl⟩
  · unfold u_lay at hlay
    rw [if_neg (by rw [hfin]; decide)] at hlay
    have h6 := u_store hfc hkC hkind hlay hi hd hn hfit
    refine W.putK hexec hb (f := f) ⟨hown, hlink, ⟨_, _, _, hi⟩, hst⟩ (by rw [q2]; exact h6) q1 q3 (by rw [hsl]; exact k2_hasslot (q4 k hk)) rfl rfl hdg fun H' e1 e2 e3 => ?_
    rw [hsl] at e1
    exact kk H' _ rfl (hr.set ha ⟨_, hc, t_OB.to (V := updV (vp_V fs) k v) ⟨_, e1, q2, q3, t_set q4 hap hk v⟩ (fun j _ => vp_updV_set hl v j)⟩ e2 e3)
  · unfold u_lay at hlay
    rw [if_pos hfin] at hlay
    have hcf : m.cls = cf := by
      obtain ⟨_, _, c', _, _, _, -, -, hf', -, -, -, hown2, -⟩ := Cond.laysFinal_spec hlay
      have e1 : c' = cf := by have := hi.symm.trans hf'; simp at this; exact this.1.symm
      rw [hdecl] at hown2
      rw [← e1]; exact Option.some.inj (hown.symm.trans hown2)
    have h6 := u_fits hfc hkC hkind (Or.inr hlay) hi hd hn hfit
    refine W.putFinK hexec hb hown hlink hi hst hcf hin2 (by rw [q2]; exact h6) q1 q3 (by rw [hsl]; exact k2_hasslot (q4 k hk)) rfl rfl hdg fun H' e1 e2 e3 => ?_
    rw [hsl] at e1
    exact kk H' _ rfl (hr.set ha ⟨_, hc, t_OB.to (V := updV (vp_V fs) k v) ⟨_, e1, q2, q3, t_set q4 hap hk v⟩ (fun j _ => vp_updV_set hl v j)⟩ e2 e3)
theorem r_iast (hexec : p.tables.exec = Jvm.exec) (hb : c.code = cc) (hK : va_K G.1 vwCl (mTys G) s) (hr : mr G S H) {n : Nat} {f : Nat → Int32} (ha : mAt G S a (.inl (G.2.1 0, n, .inl f))) {i x : Int32} (hin : vp_in i n) (hdg : decode cc pc = .ok (.iastore, 1))
    (kk : ∀ (H1 : Heap) (L : Loc), L.base = a → mr G (mUp S a (.inl (G.2.1 0, n, .inl (upd f i.toNatClampNeg x)))) H1 → W p l e R s m args below meth c H1 (locs ++ [L]) cells slots Q (F0 m (pc + 1) ls rest)) : W p l e R s m args below meth c H locs cells slots Q (F0 m pc ls (.int x :: .int i :: .ref a :: rest)) := by
  refine W.iast hexec hb (hr.at ha) ((hK.2 0 (G.2.1 0, .int) rfl).1 n (fun j => .int (f j))) (fun q => by cases q) (by show ¬ (i < 0 ∨ (arrV _ _ _).slots.size ≤ _); rw [arrV_size]; exact hin) rfl rfl hdg fun H1 e z oq => ?_
  refine kk H1 _ rfl (hr.set ha ?_ z oq)
  show H1[a]? = some (vp_cell _ _)
  rw [e]
  rw [vp_cell_i, vp_cell_i, arrV_store]
  congr 2
  funext q
  by_cases hq : q = i.toNatClampNeg
  · subst hq
    simp [updV, upd]
  · simp [updV, upd, hq]
theorem r_bast (hexec : p.tables.exec = Jvm.exec) (hb : c.code = cc) (hK : va_K G.1 vwCl (mTys G) s) (hr : mr G S H) {n : Nat} {f : Nat → Int32} (ha : mAt G S a (.inl (G.2.1 1, n, .inl f))) {i x : Int32} (hin : vp_in i n) (hdg : decode cc pc = .ok (.bastore, 1))
    (kk : ∀ (H1 : Heap) (L : Loc), L.base = a → mr G (mUp S a (.inl (G.2.1 1, n, .inl (upd f i.toNatClampNeg x.toInt8.toInt32)))) H1 → W p l e R s m args below meth c H1 (locs ++ [L]) cells slots Q (F0 m (pc + 1) ls rest)) : W p l e R s m args below meth c H locs cells slots Q (F0 m pc ls (.int x :: .int i :: .ref a :: rest)) := by
  refine W.bast hexec hb (hr.at ha) ((hK.2 1 (G.2.1 1, .byte) rfl).1 n (fun j => .int (f j))) (fun q => by cases q) (by show ¬ (i < 0 ∨ (arrV _ _ _).slots.size ≤ _); rw [arrV_size]; exact hin) rfl rfl hdg fun H1 e z oq => ?_
  refine kk H1 _ rfl (hr.set ha ?_ z oq)
  show H1[a]? = some (vp_cell _ _)
  rw [e]
  rw [vp_cell_i, vp_cell_i, arrV_store]
  congr 2
  funext q
  by_cases hq : q = i.toNatClampNeg
  · subst hq
    simp [updV, upd, narrow]
  · simp [updV, upd, hq]
theorem r_aast (hexec : p.tables.exec = Jvm.exec) (hb : c.code = cc) (hK : va_K G.1 vwCl (mTys G) s) (hr : mr G S H) {t0 ci n v : Nat} {r : vw_C} {cA : ClassId} {vs : List Value} {f : Nat → Option Nat} (ht : (mTys G)[t0]? = some (cA, .object r.1)) (hc : vwCl[ci]? = some r) (ha : mAt G S a (.inl (cA, n, .inr (.inr (.inr (.inr f)))))) (hv : mAt G S v (.inr (ci, vs))) {i : Int32} (hin : vp_in i n) (hdg : decode cc pc = .ok (.aastore, 1))
    (kk : ∀ (H1 : Heap) (L : Loc), L.base = a → mr G (mUp S a (.inl (cA, n, .inr (.inr (.inr (.inr (va_up f i.toNatClampNeg (some v)))))))) H1 → W p l e R s m args below meth c H1 (locs ++ [L]) cells slots Q (F0 m (pc + 1) ls rest)) : W p l e R s m args below meth c H locs cells slots Q (F0 m pc ls (.ref v :: .int i :: .ref a :: rest)) := by
  have hlt : i.toNatClampNeg < n := Nat.not_le.mp fun q => hin (Or.inr q)
  have h0 : ¬ i < 0 := fun q => hin (Or.inl q)
  obtain ⟨r', hr', cellV, g1, g2, g3, -⟩ := hr.at hv
  have hcls := (hK.1 ci r hc).2
  obtain ⟨kA, comp, k1, k2, k3, -⟩ := (hK.2 t0 _ ht).2
  have hcomp : comp = G.1.1 ci := Option.some.inj (k3.symm.trans hcls.1)
  subst hcomp
  obtain ⟨kC, hkC, -⟩ := id hcls.2
  refine W.aast hexec hb (hr.at ha) (fun q h => by cases h) (fun h => by cases h) k1 k2 rfl hkC ⟨h0, by show _ < (arrV _ _ _).slots.size; rw [arrV_size]; exact hlt⟩ g1 (fun q h => by rw [g3] at h; cases h) (by rw [g2]; exact hkC) (by rw [g2]; exact va_assign hcls) rfl rfl hdg fun H1 e z oq => ?_
  refine kk H1 _ rfl (hr.set ha ?_ z oq)
  show H1[a]? = some (vp_cell _ _)
  rw [e]
  rw [vp_cell_q, vp_cell_q, arrV_store]
  congr 2
  funext q
  by_cases hq : q = i.toNatClampNeg
  · subst hq
    simp [updV, va_up, va_rf]
  · simp [updV, va_up, hq]
theorem r_aald (hexec : p.tables.exec = Jvm.exec) (hb : c.code = cc) (hK : va_K G.1 vwCl (mTys G) s) (hr : mr G S H) {t0 n : Nat} {cA : ClassId} {ty : FieldType} {f : Nat → Option Nat} (ht : (mTys G)[t0]? = some (cA, ty)) (hty : ty.isReference = true) (ha : mAt G S a (.inl (cA, n, .inr (.inr (.inr (.inr f)))))) {i : Int32} (hin : vp_in i n) (hdg : decode cc pc = .ok (.aaload, 1))
    (kk : W p l e R s m args below meth c H locs cells slots Q (F0 m (pc + 1) ls (va_rf (f i.toNatClampNeg) :: rest))) : W p l e R s m args below meth c H locs cells slots Q (F0 m pc ls (.int i :: .ref a :: rest)) := by
  have hlt : i.toNatClampNeg < n := Nat.not_le.mp fun q => hin (Or.inr q)
  exact W.aald (v := va_rf (f i.toNatClampNeg)) (ty := ty) hexec hb (hr.at ha) ((hK.2 t0 _ ht).1 n (fun j => va_rf (f j))) hty (fun q => by cases q) (by show ¬ (i < 0 ∨ (arrV _ _ _).slots.size ≤ _); rw [arrV_size]; exact hin) (by show (arrV _ _ _).slots[_]? = _; rw [arrV_read _ _ hlt]) rfl rfl hdg kk
theorem r_new {own C : String} {T : u_T} {N ci index : Nat} {Ts : List Cond} (hexec : p.tables.exec = Jvm.exec) (hb : c.code = cc) (hts : ∀ w ∈ Ts, w.before args s = true) (hin : ∀ w ∈ u_ws C T N, w ∈ Ts) (ty : Nat → FieldType) (hty : ∀ k, k < N → parseFieldDescriptor (T k).2.2.1 = some (ty k)) (hown : s.vm.findClass own = some m.cls) (hcl : (Cond.classLink own index C).before args s = true) (hinst : (Cond.instantiable C N).before args s = true) (hini : (Cond.initialized C).before args s = true)
    (hK : va_K G.1 vwCl (mTys G) s) (hr : mr G S H) (hc : vwCl[ci]? = some (C, T, N)) {fs : List Value} (hfs : ∀ j, j < N → defaultValue (ty j) = vp_V fs j) (hcells : cells + 1 ≤ R.cells) (hslots : slots + N ≤ R.slots) (hdg : decode cc pc = .ok (.new index, 3))
    (kk : ∀ (H1 : Heap), mr G (mPush S (.inr (ci, fs))) H1 → W p l e R s m args below meth c H1 locs (cells + 1) (slots + N) Q (F0 m (pc + 3) ls (.ref S.1 :: rest))) : W p l e R s m args below meth c H locs cells slots Q (F0 m pc ls rest) := by
  have hKn := hK.1 ci _ hc
  refine W.newcK hexec hb hown hcl hinst hini rfl hdg hcells hslots hKn.2.1 hr.1 fun H1 kC hkC e1 z1 o1 => ?_
  exact kk H1 (hr.push ⟨_, hc, (u_born ty hts hin hKn hkC e1 hty).to hfs⟩ z1 o1)
theorem r_newa (hexec : p.tables.exec = Jvm.exec) (hb : c.code = cc) {atype : ArrayType} {t0 : Nat} {cA0 : ClassId} (harr : (Cond.arrayClass (newarray.typeOf atype)).before args s = true) (hK : va_K G.1 vwCl (mTys G) s) (ht : (mTys G)[t0]? = some (cA0, newarray.typeOf atype)) (hprim : ∀ (A : ClassId), va_RA s A (newarray.typeOf atype) → s.vm.findClass ("[" ++ (newarray.typeOf atype).toString) = some A) (hr : mr G S H)
    {n : Int32} {N' : Nat} (h0 : defaultValue (newarray.typeOf atype) = .int 0) (hn : ¬ n < 0) (hN : n.toNatClampNeg = N') (hbytes : N' * componentBytes (newarray.typeOf atype) ≤ 536870912) (hcells : cells + 1 ≤ R.cells) (hslots : slots + N' ≤ R.slots) (hdg : decode cc pc = .ok (.newarray atype, 2))
    (kk : ∀ (H1 : Heap), mr G (mPush S (.inl (cA0, N', .inl (fun _ => 0)))) H1 → W p l e R s m args below meth c H1 locs (cells + 1) (slots + N') Q (F0 m (pc + 2) ls (.ref S.1 :: rest))) : W p l e R s m args below meth c H locs cells slots Q (F0 m pc ls (.int n :: rest)) := by
  refine va_newaK hexec hb harr rfl hdg rfl hn hN hbytes hcells hslots hr.1 fun H1 cA e1 z1 o1 hAr hNm => ?_
  have hcA : cA = cA0 := Option.some.inj (hNm.symm.trans (hprim _ (hK.2 t0 _ ht).2))
  subst hcA
  refine kk H1 (hr.push ?_ z1 o1)
  show H1[S.1]? = some (vp_cell _ _)
  rw [e1, h0]
  rfl
theorem r_newq (hexec : p.tables.exec = Jvm.exec) (hb : c.code = cc) {own C : String} {index t0 : Nat} {cA0 : ClassId} (hown : s.vm.findClass own = some m.cls) (hclink : (Cond.classLink own index C).before args s = true) (hover : va_AO C s) (hK : va_K G.1 vwCl (mTys G) s) (ht : (mTys G)[t0]? = some (cA0, .object C)) (hr : mr G S H)
    {n : Int32} {N' : Nat} (hn : ¬ n < 0) (hN : n.toNatClampNeg = N') (hbytes : N' * 4 ≤ 536870912) (hcells : cells + 1 ≤ R.cells) (hslots : slots + N' ≤ R.slots) (hdg : decode cc pc = .ok (.anewarray index, 3))
    (kk : ∀ (H1 : Heap), mr G (mPush S (.inl (cA0, N', .inr (.inr (.inr (.inr (fun _ => none))))))) H1 → W p l e R s m args below meth c H1 locs (cells + 1) (slots + N') Q (F0 m (pc + 3) ls (.ref S.1 :: rest))) : W p l e R s m args below meth c H locs cells slots Q (F0 m pc ls (.int n :: rest)) := by
  subst hN
  refine W.anew hexec hb hown hclink (va_AO.use hover) rfl hdg rfl hn hbytes hcells hslots fun cA kA comp f1 f2 f3 f4 => ?_
  obtain ⟨kA', comp', -, -, -, g4⟩ := (hK.2 t0 _ ht).2
  have hcA : cA = cA0 := Option.some.inj (f1.symm.trans g4)
  subst hcA
  rw [hr.1]
  generalize hH1 : H.push ({ cls := cA, slots := Array.replicate n.toNatClampNeg .null, vm := .none } : Cell) = H1
  have z1 : H1.size = S.1 + 1 := by rw [← hH1, Array.size_push, hr.1]
  have e1 : H1[S.1]? = some (arrV cA n.toNatClampNeg (fun _ => .null)) := by rw [← hH1, ← hr.1, Array.getElem?_push_size, ← arrV_new]
  have o1 : ∀ q : Nat, q < S.1 → H1[q]? = H[q]? := fun q hq => by rw [← hH1, Array.getElem?_push, if_neg (by rw [hr.1]; exact Nat.ne_of_lt hq)]
  refine kk H1 (hr.push ?_ z1 o1)
  show H1[S.1]? = some (vp_cell _ _)
  rw [vp_cell_q]
  exact e1
end MW
end
section
section MCP
variable {p : Program} {l : Launch} {e : Env} {R : Room} {s : State} {m : MethodId} {args : Array Value} {below : List Frame} {meth : Method} {c : Code} {H : Heap} {locs : List Loc} {cells slots : Nat} {Q : State → Prop}
variable {cc : ByteArray} {pc : Nat} {ls : Array Slot} {rest : List Value} {G : mG} {S : mS} {a : Nat}
/-- a row of ints that is read alone: the script, the two tables -/
theorem r_xld (hexec : p.tables.exec = Jvm.exec) (hb : c.code = cc) {x : mX} (hX : va_X x.1 x.2.1 x.2.2 s G.2.2.1) (hr : mr G S H) (hlt : x.1 < mb G) {i : Int32} (hin : vp_in i x.2.1) (hdg : decode cc pc = .ok (.iaload, 1))
    (kk : W p l e R s m args below meth c H locs cells slots Q (F0 m (pc + 1) ls (.int (x.2.2 i.toNatClampNeg) :: rest))) : W p l e R s m args below meth c H locs cells slots Q (F0 m pc ls (.int i :: .ref x.1 :: rest)) := by
  obtain ⟨scr, h1, h2, h3, h4, h5⟩ := hX
  have hl : i.toNatClampNeg < x.2.1 := Nat.not_le.mp fun q => hin (Or.inr q)
  exact W.iald (v := .int (x.2.2 i.toNatClampNeg)) hexec hb (by rw [hr.2.2.1 x.1 hlt]; exact h1) h2 h3 (by rw [h4]; exact hin) (h5 _ hl) rfl rfl hdg kk
theorem r_xlen (hexec : p.tables.exec = Jvm.exec) (hb : c.code = cc) {x : mX} (hX : va_X x.1 x.2.1 x.2.2 s G.2.2.1) (hr : mr G S H) (hlt : x.1 < mb G) (hdg : decode cc pc = .ok (.arraylength, 1))
    (kk : W p l e R s m args below meth c H locs cells slots Q (F0 m (pc + 1) ls (.int (Int32.ofNat x.2.1) :: rest))) : W p l e R s m args below meth c H locs cells slots Q (F0 m pc ls (.ref x.1 :: rest)) := by
  obtain ⟨scr, h1, h2, h3, h4, h5⟩ := hX
  exact W.alen (n := Int32.ofNat x.2.1) hexec hb (by rw [hr.2.2.1 x.1 hlt]; exact h1) h2 (by rw [h4] <;> rfl) rfl rfl hdg kk
theorem r_gets (hexec : p.tables.exec = Jvm.exec) (hb : c.code = cc) {C n d own : String} {v : Value} {index : Nat} {A : Nat → Prop} (hZ : va_Z C n d v A s G.2.2.1) (hr : mr G S H) (hown : s.vm.findClass own = some m.cls) (hlink : (Cond.fieldLink own index C n d).before args s = true) (hdg : decode cc pc = .ok (.getstatic index, 3))
    (kk : W p l e R s m args below meth c H locs cells slots Q (F0 m (pc + 3) ls (v :: rest))) : W p l e R s m args below meth c H locs cells slots Q (F0 m pc ls rest) := by
  obtain ⟨cf, kf, fi, f, a, cell, h1, h2, h3, h4, h5, h6, h7, h8⟩ := hZ
  exact W.gets hexec hb hown hlink h1 h2 h3 h4 (by rw [hr.2.2.1 a (Array.getElem?_eq_some_iff.mp h5).1]; exact h5) (fun e => by rw [e] at h6; cases h6) h7 rfl hdg kk
theorem m_copied {c1 : ClassId} {n1 sp dp n L : Nat} (src : Cell) (f g : Nat → Int32) (hv : ∀ j : Nat, j < L → src.slots[j]? = some (.int (f j))) (hs : sp + n ≤ L) :
    (arrV c1 n1 (fun j => .int (g j))).storeRun dp (src.stretch sp n) = arrV c1 n1 (fun j => .int (va_cpy f g sp dp n j)) := by
  have e : src.stretch sp n = (List.range n).map (fun i => Value.int (f (sp + i))) := by
    unfold Cell.stretch
    apply List.map_congr_left
    intro i hi
    have hi' := List.mem_range.mp hi
    rw [Array.getD_eq_getD_getElem?, hv _ (by omega)]
    rfl
  rw [e, Cell.storeRun, va_pairs]
  congr 1
  funext k
  simp only [va_cpy, List.length_map, List.length_range, Nat.add_zero]
  by_cases h : dp ≤ k ∧ k < dp + n
  · rw [if_pos h, if_pos h, List.getD_eq_getElem?_getD, List.getElem?_map, List.getElem?_range (by omega)]
    rfl
  · rw [if_neg h, if_neg h]
theorem m_nn : ∀ z : Int32, ¬ z < 0 → z.toInt = (z.toNatClampNeg : Int) := by
  intro z hz
  have hz0 : (0 : Int) ≤ z.toInt := by
    have := Int32.not_lt.mp hz
    simpa using Int32.le_iff_toInt_le.mp this
  show z.toInt = ((z.toInt.toNat : Nat) : Int)
  omega
/-- arraycopy out of any int-like row 'src' into one of ours -/
theorem r_copy (hexec : p.tables.exec = Jvm.exec) (hb : c.code = cc) (hml : c.maxLocals = ls.size) {own : String} {index : Nat} (hown : s.vm.findClass own = some m.cls) (hlink : (Cond.methodLink own index arraycopyName).before args s = true) (hnat : (Cond.native arraycopyName).before args s = true) (hstat : (Cond.static arraycopyName).before args s = true) (hini : (Cond.initialized "java/lang/System").before args s = true)
    (hK : va_K G.1 vwCl (mTys G) s) (hr : mr G S H) {t1 a0 n0 n1 : Nat} {c1 : ClassId} {f g : Nat → Int32} {ty : FieldType} {src : Cell} (hc0 : H[a0]? = some src) (hob : s.isArrayOf src ty) (hkn : src.vm ≠ .unknown) (hz0 : src.slots.size = n0) (hv0 : ∀ j : Nat, j < n0 → src.slots[j]? = some (.int (f j)))
    (ha1 : mAt G S a (.inl (c1, n1, .inl g))) (ht1 : (mTys G)[t1]? = some (c1, ty)) (hprim : refKind ty = false)
    {sp dp n : Int32} (h1 : ¬ sp < 0) (h2 : ¬ dp < 0) (h3 : ¬ n < 0) (h4 : sp.toNatClampNeg + n.toNatClampNeg ≤ n0) (h5 : dp.toNatClampNeg + n.toNatClampNeg ≤ n1) (hfit : ∀ i, i < n.toNatClampNeg → fits ty (.int (f (sp.toNatClampNeg + i))) = true)
    (hframes : 1 ≤ R.frames) (hlocals : (rest.map fun v => v.category).sum + (nativeFrameWords "java/lang/System" "arraycopy" 5 + 11) ≤ R.locals) (hdg : decode cc pc = .ok (.invokestatic index, 3))
    (kk : ∀ (H1 : Heap) (L : List Loc), (∀ q ∈ L, q.base = a) → mr G (mUp S a (.inl (c1, n1, .inl (va_cpy f g sp.toNatClampNeg dp.toNatClampNeg n.toNatClampNeg)))) H1 → W p l e R s m args below meth c H1 (locs ++ L) cells slots Q (F0 m (pc + 3) ls rest)) : W p l e R s m args below meth c H locs cells slots Q (F0 m pc ls (.int n :: .int dp :: .ref a :: .int sp :: .ref a0 :: rest)) := by
  intro T hT X
  have hc1 : H[a]? = some (vp_cell c1 (n1, .inl g)) := hr.at ha1
  obtain ⟨hst0, k0, hk0, cm0, hkk0⟩ := hob
  obtain ⟨-, k1, hk1, cm1, hkk1⟩ := (hK.2 t1 _ ht1).1 n1 (fun j => .int (g j))
  obtain ⟨vm', X', step⟩ := X.arraycopy hexec hown hlink hnat hstat hini (src := a0) (dst := a) (cs := src) (cd := vp_cell c1 (n1, .inl g)) (srcPos := sp) (destPos := dp) (n := n) (by rw [hT]; exact hc0) (by rw [hT]; exact hc1)
    hst0 (fun _ h => by cases h) hkn (fun h => by cases h) hk0 hk1 hkk0 hkk1 (by simp [hprim]) h1 h2 h3
    (by rw [m_nn sp h1, m_nn n h3, hz0]; omega)
    (by rw [m_nn dp h2, m_nn n h3]; show ¬ _ > ((arrV c1 n1 (fun j => .int (g j))).slots.size : Int); rw [arrV_size]; omega)
    (fun vm₁ _ i hi => by
      have e : src.slots.getD (sp.toNatClampNeg + i) .null = .int (f (sp.toNatClampNeg + i)) := by
        rw [Array.getD_eq_getD_getElem?, hv0 _ (by omega)]
        rfl
      refine ⟨?_, ?_⟩
      · rw [e]
        exact hfit i hi
      · rw [e]
        exact trivial)
    (g := F0 m pc ls (.int n :: .int dp :: .ref a :: .int sp :: .ref a0 :: rest)) rfl (by rw [hml]) (rest := rest) rfl (by rw [hb]; exact hdg) hframes (by show 2 * 0 + _ + _ ≤ _; omega)
  have e1 : copied src (vp_cell c1 (n1, .inl g)) sp dp n = vp_cell c1 (n1, .inl (va_cpy f g sp.toNatClampNeg dp.toNatClampNeg n.toNatClampNeg)) := m_copied src f g hv0 h4
  rw [e1] at X' step
  have hl : a < H.size := (Array.getElem?_eq_some_iff.mp hc1).1
  have hheap : ((T.setVm vm').setCell a (vp_cell c1 (n1, .inl (va_cpy f g sp.toNatClampNeg dp.toNatClampNeg n.toNatClampNeg)))).heap = H.setIfInBounds a (vp_cell c1 (n1, .inl (va_cpy f g sp.toNatClampNeg dp.toNatClampNeg n.toNatClampNeg))) := by rw [← hT]; rfl
  have oq : ∀ q : Nat, q ≠ a → (H.setIfInBounds a (vp_cell c1 (n1, .inl (va_cpy f g sp.toNatClampNeg dp.toNatClampNeg n.toNatClampNeg))))[q]? = H[q]? := fun q hq => by simp [Array.getElem?_setIfInBounds, Ne.symm hq]
  obtain ⟨t, a1, b1⟩ := kk _ _ (fun q h => by
    obtain ⟨z, -, hz⟩ := List.mem_map.mp h
    rw [← hz]) (hr.set ha1 (show (H.setIfInBounds a _)[a]? = some _ by simp [Array.getElem?_setIfInBounds, hl]) (by simp) oq) _ hheap X'
  exact ⟨t, step t a1, b1⟩
end MCP
end
section
/-! locals as a sorted list -/
def lget : mL → Nat → Option Value
  | [], _ => none
  | q :: r, i => bif Nat.beq q.1 i then some q.2 else lget r i
theorem lget_mem {lv : mL} {i : Nat} {v : Value} (h : lget lv i = some v) : (i, v) ∈ lv := by
  induction lv with
  | nil => cases h
  | cons q r ih =>
    unfold lget at h
    cases hq : Nat.beq q.1 i with
    | true =>
      rw [hq] at h
      have h1 : q.2 = v := Option.some.inj h
      have h2 : q.1 = i := Nat.eq_of_beq_eq_true hq
      rw [← h1, ← h2]
      exact List.mem_cons_self
    | false =>
      rw [hq] at h
      exact List.mem_cons_of_mem _ (ih h)
def lins : mL → Nat → Value → mL
  | [], i, v => [(i, v)]
  | q :: r, i, v => bif Nat.blt q.1 i then q :: lins r i v else (i, v) :: q :: r
theorem lins_mem {lv : mL} {i : Nat} {v : Value} {q : Nat × Value} (h : q ∈ lins lv i v) : q ∈ (i, v) :: lv := by
  induction lv with
  | nil => exact h
  | cons x r ih =>
    unfold lins at h
    cases hx : Nat.blt x.1 i with
    | true =>
      rw [hx] at h
      rcases List.mem_cons.mp h with h | h
      · rw [h]; exact List.mem_cons_of_mem _ List.mem_cons_self
      · rcases List.mem_cons.mp (ih h) with h | h
        · rw [h]; exact List.mem_cons_self
        · exact List.mem_cons_of_mem _ (List.mem_cons_of_mem _ h)
    | false =>
      rw [hx] at h
      exact h
def lset (lv : mL) (i : Nat) (v : Value) : mL := lins (lv.filter (fun q => !(q.1 == i) && !(q.1 + 1 == i && q.2.category == 2))) i v
def lset2 (lv : mL) (i : Nat) (v : Value) : mL := lins (lv.filter (fun q => !(q.1 == i) && (!(q.1 == i + 1) && !(q.1 + 1 == i && q.2.category == 2)))) i v
def ltrim (k : Nat) (lv : mL) : mL := lv.filter (fun q => Nat.blt q.1 k)
theorem lv_le {ls : Array Slot} {nL : Nat} {l l' : mL} (h : lv_has ls nL l) (hs : ∀ q ∈ l', q ∈ l) : lv_has ls nL l' := ⟨h.1, h.2.1, fun q hq => h.2.2 q (hs q hq)⟩
/-! what a step asks: branches, cells, calls -/
def eB (c A B : Prop) : Prop := (c → A) ∧ (¬ c → B)
theorem eB.i {c A B : Prop} (f : c → A) (g : ¬ c → B) : eB c A B := ⟨f, g⟩
theorem eB.t {c A B : Prop} (h : c) (a : A) : eB c A B := ⟨fun _ => a, fun q => absurd h q⟩
theorem eB.f {c A B : Prop} (h : ¬ c) (b : B) : eB c A B := ⟨fun q => absurd q h, fun _ => b⟩
def eZ (y : Int32) (A : Prop) : Prop := ¬ y = 0 ∧ A
theorem eZ.i {y : Int32} {A : Prop} (h : ¬ y = 0) (a : A) : eZ y A := ⟨h, a⟩
def eG (G : mG) (S : mS) (a ci k : Nat) (K : Value → Prop) : Prop := ∃ (fs : List Value) (v : Value), mAt G S a (.inr (ci, fs)) ∧ fs[k]? = some v ∧ K v
theorem eG.i {G : mG} {S : mS} {a ci k : Nat} {K : Value → Prop} {fs : List Value} {v : Value} (h : mAt G S a (.inr (ci, fs))) (hv : fs[k]? = some v) (kk : K v) : eG G S a ci k K := ⟨fs, v, h, hv, kk⟩
def mFt (ci k : Nat) : FieldType := match ci with
  | 0 => tyX0 k | 1 => tyX1 k | 2 => tyX2 k | 3 => tyX3 k | 4 => tyX4 k | 5 => tyX5 k | 6 => tyX6 k | 7 => tyX7 k | _ => tyX8 k
def eP (G : mG) (S : mS) (a ci k : Nat) (v : Value) (K : mS → Prop) : Prop := ∃ fs : List Value, mAt G S a (.inr (ci, fs)) ∧ k < fs.length ∧ narrow (mFt ci k) v = v ∧ fits (mFt ci k) v = true ∧ K (mUp S a (.inr (ci, fs.set k v)))
theorem eP.i {G : mG} {S : mS} {a ci k : Nat} {v : Value} {K : mS → Prop} {fs : List Value} (h : mAt G S a (.inr (ci, fs))) (hl : k < fs.length) (hn : narrow (mFt ci k) v = v) (hf : fits (mFt ci k) v = true) (kk : K (mUp S a (.inr (ci, fs.set k v)))) : eP G S a ci k v K := ⟨fs, h, hl, hn, hf, kk⟩
abbrev eIn (G : mG) (n : Nat) (f : Nat → Int32) : va_E := .inl (G.2.1 0, n, .inl f)
abbrev eBy (G : mG) (n : Nat) (f : Nat → Int32) : va_E := .inl (G.2.1 1, n, .inl f)
abbrev eRf (G : mG) (t n : Nat) (f : Nat → Option Nat) : va_E := .inl (G.2.1 t, n, .inr (.inr (.inr (.inr f))))
def eL (G : mG) (S : mS) (a : Nat) (i : Int32) (K : Int32 → Prop) : Prop := (∃ (n : Nat) (f : Nat → Int32), mAt G S a (eIn G n f) ∧ vp_in i n ∧ K (f i.toNatClampNeg)) ∨ ∃ j : Nat, j < 3 ∧ (G.2.2.2 j).1 = a ∧ vp_in i (G.2.2.2 j).2.1 ∧ K ((G.2.2.2 j).2.2 i.toNatClampNeg)
theorem eL.i {G : mG} {S : mS} {a n : Nat} {i : Int32} {K : Int32 → Prop} {f : Nat → Int32} (h : mAt G S a (eIn G n f)) (hi : vp_in i n) (kk : K (f i.toNatClampNeg)) : eL G S a i K := Or.inl ⟨n, f, h, hi, kk⟩
theorem eL.x {G : mG} {S : mS} {i : Int32} {K : Int32 → Prop} (j : Nat) (hj : j < 3) (hi : vp_in i (G.2.2.2 j).2.1) (kk : K ((G.2.2.2 j).2.2 i.toNatClampNeg)) : eL G S (G.2.2.2 j).1 i K := Or.inr ⟨j, hj, rfl, hi, kk⟩
def eLb (G : mG) (S : mS) (a : Nat) (i : Int32) (K : Int32 → Prop) : Prop := ∃ (n : Nat) (f : Nat → Int32), mAt G S a (eBy G n f) ∧ vp_in i n ∧ K (f i.toNatClampNeg)
theorem eLb.i {G : mG} {S : mS} {a n : Nat} {i : Int32} {K : Int32 → Prop} {f : Nat → Int32} (h : mAt G S a (eBy G n f)) (hi : vp_in i n) (kk : K (f i.toNatClampNeg)) : eLb G S a i K := ⟨n, f, h, hi, kk⟩
def eLq (G : mG) (S : mS) (a : Nat) (i : Int32) (K : Value → Prop) : Prop := ∃ (t n : Nat) (f : Nat → Option Nat), (2 ≤ t ∧ t < 7) ∧ mAt G S a (eRf G t n f) ∧ vp_in i n ∧ K (va_rf (f i.toNatClampNeg))
theorem eLq.i {G : mG} {S : mS} {a t n : Nat} {i : Int32} {K : Value → Prop} {f : Nat → Option Nat} (h : mAt G S a (eRf G t n f)) (ht : 2 ≤ t ∧ t < 7) (hi : vp_in i n) (kk : K (va_rf (f i.toNatClampNeg))) : eLq G S a i K := ⟨t, n, f, ht, h, hi, kk⟩
def eN (G : mG) (S : mS) (a : Nat) (K : Int32 → Prop) : Prop := (∃ (t n : Nat) (x : (Nat → Int32) ⊕ (Nat → Int64) ⊕ (Nat → UInt32) ⊕ (Nat → UInt64) ⊕ (Nat → Option Nat)), t < 7 ∧ mAt G S a (.inl (G.2.1 t, n, x)) ∧ K (nI n)) ∨ ∃ j : Nat, j < 3 ∧ (G.2.2.2 j).1 = a ∧ K (nI (G.2.2.2 j).2.1)
theorem eN.i {G : mG} {S : mS} {a t n : Nat} {K : Int32 → Prop} {x : (Nat → Int32) ⊕ (Nat → Int64) ⊕ (Nat → UInt32) ⊕ (Nat → UInt64) ⊕ (Nat → Option Nat)} (h : mAt G S a (.inl (G.2.1 t, n, x))) (ht : t < 7) (kk : K (nI n)) : eN G S a K := Or.inl ⟨t, n, x, ht, h, kk⟩
theorem eN.x {G : mG} {S : mS} {K : Int32 → Prop} (j : Nat) (hj : j < 3) (kk : K (nI (G.2.2.2 j).2.1)) : eN G S (G.2.2.2 j).1 K := Or.inr ⟨j, hj, rfl, kk⟩
def eS (G : mG) (S : mS) (a : Nat) (i x : Int32) (K : mS → Prop) : Prop := ∃ (n : Nat) (f : Nat → Int32), mAt G S a (eIn G n f) ∧ vp_in i n ∧ K (mUp S a (eIn G n (upd f i.toNatClampNeg x)))
theorem eS.i {G : mG} {S : mS} {a n : Nat} {i x : Int32} {K : mS → Prop} {f : Nat → Int32} (h : mAt G S a (eIn G n f)) (hi : vp_in i n) (kk : K (mUp S a (eIn G n (upd f i.toNatClampNeg x)))) : eS G S a i x K := ⟨n, f, h, hi, kk⟩
def eSb (G : mG) (S : mS) (a : Nat) (i x : Int32) (K : mS → Prop) : Prop := ∃ (n : Nat) (f : Nat → Int32), mAt G S a (eBy G n f) ∧ vp_in i n ∧ K (mUp S a (eBy G n (upd f i.toNatClampNeg x.toInt8.toInt32)))
theorem eSb.i {G : mG} {S : mS} {a n : Nat} {i x : Int32} {K : mS → Prop} {f : Nat → Int32} (h : mAt G S a (eBy G n f)) (hi : vp_in i n) (kk : K (mUp S a (eBy G n (upd f i.toNatClampNeg x.toInt8.toInt32)))) : eSb G S a i x K := ⟨n, f, h, hi, kk⟩
def mEl (t : Nat) : Option (Nat × vw_C) := match t with
  | 2 => some (4, (RX4, TX4, 2)) | 3 => some (6, (RX6, TX6, 3)) | 4 => some (2, (RX2, TX2, 2)) | 5 => some (3, (RX3, TX3, 9)) | _ => none
def eSq (G : mG) (S : mS) (a : Nat) (i : Int32) (v : Nat) (K : mS → Prop) : Prop := ∃ (t n : Nat) (f : Nat → Option Nat) (ci : Nat) (r : vw_C) (vs : List Value), mEl t = some (ci, r) ∧ mAt G S a (eRf G t n f) ∧ mAt G S v (.inr (ci, vs)) ∧ vp_in i n ∧ K (mUp S a (eRf G t n (va_up f i.toNatClampNeg (some v))))
theorem eSq.i {G : mG} {S : mS} {a t n v ci : Nat} {r : vw_C} {vs : List Value} {i : Int32} {K : mS → Prop} {f : Nat → Option Nat} (ht : mEl t = some (ci, r)) (h : mAt G S a (eRf G t n f)) (hv : mAt G S v (.inr (ci, vs))) (hi : vp_in i n) (kk : K (mUp S a (eRf G t n (va_up f i.toNatClampNeg (some v))))) : eSq G S a i v K := ⟨t, n, f, ci, r, vs, ht, h, hv, hi, kk⟩
/-- arraycopy: of bytes among ours, of ints out of a table -/
def eY (G : mG) (S : mS) (R : Room) (a0 : Nat) (sp : Int32) (a : Nat) (dp n : Int32) (K : mS → Prop) : Prop := (¬ sp < 0 ∧ ¬ dp < 0 ∧ ¬ n < 0) ∧ 1 ≤ R.frames ∧ 60 ≤ R.locals ∧
  ((∃ (n0 n1 : Nat) (f g : Nat → Int32), mAt G S a0 (eBy G n0 f) ∧ mAt G S a (eBy G n1 g) ∧ sp.toNatClampNeg + n.toNatClampNeg ≤ n0 ∧ dp.toNatClampNeg + n.toNatClampNeg ≤ n1 ∧ (∀ i, i < n.toNatClampNeg → fits .byte (.int (f (sp.toNatClampNeg + i))) = true) ∧ K (mUp S a (eBy G n1 (va_cpy f g sp.toNatClampNeg dp.toNatClampNeg n.toNatClampNeg)))) ∨
   ∃ (j n1 : Nat) (g : Nat → Int32), j < 3 ∧ (G.2.2.2 j).1 = a0 ∧ mAt G S a (eIn G n1 g) ∧ sp.toNatClampNeg + n.toNatClampNeg ≤ (G.2.2.2 j).2.1 ∧ dp.toNatClampNeg + n.toNatClampNeg ≤ n1 ∧ K (mUp S a (eIn G n1 (va_cpy (G.2.2.2 j).2.2 g sp.toNatClampNeg dp.toNatClampNeg n.toNatClampNeg))))
/-! stacks -/
def sI (st : List Value) (k : Int32 → List Value → Prop) : Prop := match st with | .int x :: r => k x r | _ => False
def sJ (st : List Value) (k : Int64 → List Value → Prop) : Prop := match st with | .long x :: r => k x r | _ => False
def sA (st : List Value) (k : Nat → List Value → Prop) : Prop := match st with | .ref x :: r => k x r | _ => False
def s1 (st : List Value) (k : Value → List Value → Prop) : Prop := match st with | .int x :: r => k (.int x) r | .ref x :: r => k (.ref x) r | .null :: r => k .null r | _ => False
def sQ (st : List Value) (k : Value → List Value → Prop) : Prop := match st with | .ref x :: r => k (.ref x) r | .null :: r => k .null r | _ => False
def s0 (st : List Value) (k : Prop) : Prop := match st with | [] => k | _ => False
theorem sI.inv {st : List Value} {k : Int32 → List Value → Prop} (h : sI st k) : ∃ x r, st = .int x :: r ∧ k x r := by
  unfold sI at h; split at h
  · exact ⟨_, _, rfl, h⟩
  · exact h.elim
theorem sJ.inv {st : List Value} {k : Int64 → List Value → Prop} (h : sJ st k) : ∃ x r, st = .long x :: r ∧ k x r := by
  unfold sJ at h; split at h
  · exact ⟨_, _, rfl, h⟩
  · exact h.elim
theorem sA.inv {st : List Value} {k : Nat → List Value → Prop} (h : sA st k) : ∃ x r, st = .ref x :: r ∧ k x r := by
  unfold sA at h; split at h
  · exact ⟨_, _, rfl, h⟩
  · exact h.elim
theorem s1.inv {st : List Value} {k : Value → List Value → Prop} (h : s1 st k) : ∃ v r, st = v :: r ∧ v.category = 1 ∧ k v r := by
  unfold s1 at h; split at h
  · exact ⟨_, _, rfl, rfl, h⟩
  · exact ⟨_, _, rfl, rfl, h⟩
  · exact ⟨_, _, rfl, rfl, h⟩
  · exact h.elim
theorem sQ.inv {st : List Value} {k : Value → List Value → Prop} (h : sQ st k) : ∃ v r, st = v :: r ∧ (v = .null ∨ ∃ a, v = .ref a) ∧ k v r := by
  unfold sQ at h; split at h
  · exact ⟨_, _, rfl, Or.inr ⟨_, rfl⟩, h⟩
  · exact ⟨_, _, rfl, Or.inl rfl, h⟩
  · exact h.elim
theorem s0.inv {st : List Value} {k : Prop} (h : s0 st k) : st = [] ∧ k := by
  unfold s0 at h; split at h
  · exact ⟨rfl, h⟩
  · exact h.elim
/-! contracts of methods -/
def mWs (y : MethodName) (bytes : ByteArray) (maxL : Nat) (ret : Option FieldType) : List Cond := Cond.code y bytes maxL ret :: mT
def mK (G : mG) (U : State) : Prop := va_K G.1 vwCl (mTys G) U ∧ (∀ j : Nat, j < 3 → (G.2.2.2 j).1 < mb G ∧ va_X (G.2.2.2 j).1 (G.2.2.2 j).2.1 (G.2.2.2 j).2.2 U G.2.2.1) ∧ va_Z RX5 "FIRST" "[I" (.ref (G.2.2.2 1).1) (fun q => mb G ≤ q) U G.2.2.1 ∧ va_Z RX5 "ROUND" "[I" (.ref (G.2.2.2 2).1) (fun q => mb G ≤ q) U G.2.2.1 ∧ (∀ q ∈ mNest, va_Nw (.methodLinkNest RX7 q.1 q.2 RX7) U) ∧ (∀ C ∈ mOver, va_AO C U) ∧ (Cond.arrayOver (.array .int)).before #[] U = true
theorem mOv_moved {u U : State} (hvm : u.vm.Alike U.vm) (h : (Cond.arrayOver (.array .int)).before #[] u = true) : (Cond.arrayOver (.array .int)).before #[] U = true := by
  obtain ⟨comp, c, k, h1, h2, h3, h4, h5⟩ := arrayOverA_spec h
  obtain ⟨k', hk', he⟩ := hvm.2.2 _ _ h3
  have hi : (U.vm.classes.findIdx? fun (x : Class) => match x.kind with | .array component _ => component == comp | _ => false) = some c := by
    first | exact (hvm.findIdx?_eq _ (fun _ => rfl)).trans h2 | exact (hvm.findIdx?_eq _ (fun _ => rfl)).symm.trans h2
  have hkind : k'.kind = .array comp (.array .int) := by rw [he]; exact h4
  have f1 : U.vm.findClass (FieldType.array .int).toString = some comp := by rw [hvm.findClass]; exact h1
  have f2 : U.vm.findClass ("[" ++ (FieldType.array .int).toString) = some c := by rw [hvm.findClass]; exact h5
  unfold Cond.before Cond.holds
  simp only [Cond.value]
  rw [f1, Option.bind_some]
  refine (congrArg (fun o : Option Nat => (o.bind (fun c => (U.vm.classes[c]?).map fun (k : Class) => match k.kind with | .array _ ty => decide (ty = FieldType.array .int) && decide (U.vm.findClass ("[" ++ (FieldType.array .int).toString) = some c) | _ => false) == some true)) hi).trans ?_
  simp [hk', hkind, f2]
theorem mK.moved {G : mG} {s U : State} (hW : s.WarmedH U.vm) (h : mK G s) : mK G U := by
  obtain ⟨h1, h2, h3, h4, h5, h6, h7⟩ := h
  exact ⟨va_K.moved hW.alike h1, fun j hj => ⟨(h2 j hj).1, (h2 j hj).2.moved hW.alike⟩, h3.moved hW.alike, h4.moved hW.alike, fun q hq => va_Nw.warmM hW (h5 q hq), fun C hC => (h6 C hC).moved hW.alike, mOv_moved hW.alike h7⟩
theorem mK.same {G : mG} {s U : State} (hv : s.vm = U.vm) (h : mK G s) : mK G U := mK.moved (by rw [← hv]; exact State.WarmedH.refl s) h
def mCon (G : mG) (y : MethodName) (bytes : ByteArray) (maxL : Nat) (ret : Option FieldType) (rm : Room) (av : List Value) (S : mS) (K : Option Value → mS → Prop) : Prop :=
  ∀ l : Launch, Met l y (mWs y bytes maxL ret) rm (va_Pc av (fun U => mr G S U.heap ∧ mK G U)) (fun _ _ o t => ∃ (v : Option Value) (S' : mS), o = .returned v ∧ K v S' ∧ mr G S' t.heap) rm.cells rm.slots (fun q => mb G ≤ q)
/-- a call: a contract, its room, and what follows -/
def eC (G : mG) (R : Room) (q : mC) (av : List Value) (cs : Nat × Nat) (S : mS) (K : Option Value → Nat × Nat → mS → Prop) : Prop :=
  ∃ (rm : Room) (K0 : Option Value → mS → Prop), mCon G q.2.1 q.2.2.1 q.2.2.2.1 q.2.2.2.2.1 rm av S K0 ∧ (rm.frames + 1 ≤ R.frames ∧ 8 + (q.2.2.2.1 + 11) + rm.locals ≤ R.locals) ∧ (cs.1 + rm.cells ≤ R.cells ∧ cs.2 + rm.slots ≤ R.slots) ∧ ∀ (v : Option Value) (S' : mS), K0 v S' → K v (cs.1 + rm.cells, cs.2 + rm.slots) S'
theorem eC.i {G : mG} {R : Room} {q : mC} {av : List Value} {cs : Nat × Nat} {S : mS} {K : Option Value → Nat × Nat → mS → Prop} {rm : Room} {K0 : Option Value → mS → Prop} (h : mCon G q.2.1 q.2.2.1 q.2.2.2.1 q.2.2.2.2.1 rm av S K0) (hR : rm.frames + 1 ≤ R.frames ∧ 8 + (q.2.2.2.1 + 11) + rm.locals ≤ R.locals) (hC : cs.1 + rm.cells ≤ R.cells ∧ cs.2 + rm.slots ≤ R.slots) (kk : ∀ (v : Option Value) (S' : mS), K0 v S' → K v (cs.1 + rm.cells, cs.2 + rm.slots) S') : eC G R q av cs S K := ⟨rm, K0, h, hR, hC, kk⟩
/-- the receiver of a virtual call is an object of its class -/
def eV (G : mG) (S : mS) (a ci : Nat) (K : Prop) : Prop := (∃ fs : List Value, mAt G S a (.inr (ci, fs))) ∧ K
theorem eV.i {G : mG} {S : mS} {a ci : Nat} {K : Prop} {fs : List Value} (h : mAt G S a (.inr (ci, fs))) (kk : K) : eV G S a ci K := ⟨⟨fs, h⟩, kk⟩
/-- the arguments of a call, n of them, the last on top -/
def sArgs : Nat → List Value → List Value → (List Value → List Value → Prop) → Prop
  | 0, st, acc, k => k acc st
  | n + 1, st, acc, k => match st with
    | v :: r => sArgs n r (v :: acc) k
    | [] => False
theorem sArgs.inv {n : Nat} : ∀ {st acc : List Value} {k : List Value → List Value → Prop}, sArgs n st acc k → ∃ as r, as.length = n ∧ st = as.reverse ++ r ∧ k (as ++ acc) r := by
  induction n with
  | zero => intro st acc k h; exact ⟨[], st, rfl, rfl, h⟩
  | succ n ih =>
    intro st acc k h
    cases st with
    | nil => exact h.elim
    | cons v r =>
      obtain ⟨as, r', h1, h2, h3⟩ := ih (h : sArgs n r (v :: acc) k)
      refine ⟨as ++ [v], r', by simp [h1], by simp [h2], by simpa using h3⟩
end
section
def mTb (ci : Nat) : u_T := match ci with
  | 0 => TX0 | 1 => TX1 | 2 => TX2 | 3 => TX3 | 4 => TX4 | 5 => TX5 | 6 => TX6 | 7 => TX7 | _ => TX8
abbrev mI : Type := (String × Nat) × (Nat → Option mRf) × Bool × Option FieldType
def ilen : Instr → Nat
  | .bipush _ | .iload _ | .aload _ | .lload _ | .istore _ | .astore _ | .lstore _ | .ldc _ | .newarray _ => 2
  | .sipush _ | .ldc2_w _ | .iinc _ _ | .ifCond _ _ | .if_icmp _ _ | .ifnull _ | .ifnonnull _ | .goto _ | .getfield _ | .putfield _ | .getstatic _ | .invokevirtual _ | .invokestatic _ | .invokespecial _ | .new _ | .anewarray _ => 3
  | .multianewarray _ _ => 4
  | .tableswitch _ _ _ _ => 0
  | _ => 1
def okI (pc : Nat) (E : mE) : Bool := match E.1 with
  | .goto off | .ifCond _ off | .if_icmp _ off | .ifnull off | .ifnonnull off => decide ((pc : Int) + off = (E.2.2.1 : Int))
  | .iconst n => decide (Int32.ofInt n = E.2.2.2)
  | .bipush n => decide ((Int8.ofInt n).toInt32 = E.2.2.2)
  | .sipush n => decide ((Int16.ofInt n).toInt32 = E.2.2.2)
  | .iinc _ n => decide (Int32.ofInt n = E.2.2.2)
  | .tableswitch d lo hi offs => decide (0 ≤ (pc : Int) + d) && offs.toList.all (fun o => decide (0 ≤ (pc : Int) + o)) && decide ((offs.size : Int) = hi - lo + 1)
  | _ => true
def okE (cc : ByteArray) (pc : Nat) (E : mE) : Bool := decide (decode cc pc = .ok (E.1, E.2.1 - pc)) && decide (pc ≤ E.2.1) && (decide (ilen E.1 = 0) || decide (ilen E.1 = E.2.1 - pc)) && okI pc E
theorem okE.d {cc : ByteArray} {pc : Nat} {E : mE} (h : okE cc pc E = true) (n : Nat) (hn : ilen E.1 = n) (h0 : 0 < n) : decode cc pc = .ok (E.1, n) ∧ E.2.1 = pc + n := by
  simp only [okE, Bool.and_eq_true, Bool.or_eq_true, decide_eq_true_eq] at h
  obtain ⟨⟨⟨h1, h2⟩, h3⟩, -⟩ := h
  have h4 : E.2.1 - pc = n := by omega
  rw [h4] at h1
  exact ⟨h1, by omega⟩
theorem okE.t {cc : ByteArray} {pc : Nat} {E : mE} (h : okE cc pc E = true) : okI pc E = true := by
  simp only [okE, Bool.and_eq_true] at h
  exact h.2
theorem okE.w {cc : ByteArray} {pc : Nat} {E : mE} (h : okE cc pc E = true) : decode cc pc = .ok (E.1, E.2.1 - pc) := by
  simp only [okE, Bool.and_eq_true, decide_eq_true_eq] at h
  exact h.1.1.1
def lI (o : Option Value) (k : Int32 → Prop) : Prop := match o with | some (.int x) => k x | _ => False
def lJ (o : Option Value) (k : Int64 → Prop) : Prop := match o with | some (.long x) => k x | _ => False
def lQ (o : Option Value) (k : Value → Prop) : Prop := match o with | some (.ref x) => k (.ref x) | some .null => k .null | _ => False
theorem lI.inv {o : Option Value} {k : Int32 → Prop} (h : lI o k) : ∃ x, o = some (.int x) ∧ k x := by
  unfold lI at h; split at h
  · exact ⟨_, rfl, h⟩
  · exact h.elim
theorem lJ.inv {o : Option Value} {k : Int64 → Prop} (h : lJ o k) : ∃ x, o = some (.long x) ∧ k x := by
  unfold lJ at h; split at h
  · exact ⟨_, rfl, h⟩
  · exact h.elim
theorem lQ.inv {o : Option Value} {k : Value → Prop} (h : lQ o k) : ∃ v, o = some v ∧ (v = .null ∨ ∃ a, v = .ref a) ∧ k v := by
  unfold lQ at h; split at h
  · exact ⟨_, rfl, Or.inr ⟨_, rfl⟩, h⟩
  · exact ⟨_, rfl, Or.inl rfl, h⟩
  · exact h.elim
def eR (ret : Option FieldType) (v : Option Value) (mc ms : Nat) (cs : Nat × Nat) (A : Prop) : Prop := (cs.1 ≤ mc ∧ cs.2 ≤ ms) ∧ (match v with
  | none => ret = none
  | some (.int x) => ∃ ty, ret = some ty ∧ narrow ty (.int x) = .int x
  | some _ => ∃ ty, ret = some ty ∧ ((∃ n, ty = .object n) ∨ ∃ t, ty = .array t)) ∧ A
def eF (I : mI) (ci k : Nat) (A : Prop) : Prop := ((mTb ci k).2.2.2 = false ∨ ((mTb ci k).2.2.2 = true ∧ I.2.2.1 = true ∧ ci = I.1.2)) ∧ A
def mN (ci : Nat) : Nat := match ci with
  | 0 => 2 | 1 => 1 | 2 => 2 | 3 => 9 | 4 => 2 | 5 => 4 | 6 => 3 | 7 => 9 | _ => 35
def mDef (ci : Nat) : List Value := (List.range (mN ci)).map (fun k => defaultValue (mFt ci k))
def mTo (ci : Nat) : Nat := match ci with
  | 4 => 2 | 6 => 3 | 2 => 4 | 3 => 5 | _ => 7
def mRn (ci : Nat) : String := match ci with
  | 0 => RX0 | 1 => RX1 | 2 => RX2 | 3 => RX3 | 4 => RX4 | 5 => RX5 | 6 => RX6 | 7 => RX7 | _ => RX8
def eM (R : Room) (n : Int32) (cs : Nat × Nat) (A : Prop) : Prop := ¬ n < 0 ∧ n.toNatClampNeg ≤ 100000 ∧ (cs.1 + 1 ≤ R.cells ∧ cs.2 + n.toNatClampNeg ≤ R.slots) ∧ A
def step (G : mG) (R : Room) (I : mI) (mc ms : Nat) (KR : Option Value → mS → Prop) (pc : Nat) (E : mE) (lv : mL) (st : List Value) (cs : Nat × Nat) (S : mS) (K : Nat → mL → List Value → Nat × Nat → mS → Prop) : Prop :=
  match E.1 with
  | .iconst _ => K E.2.1 lv (.int E.2.2.2 :: st) cs S
  | .bipush _ => K E.2.1 lv (.int E.2.2.2 :: st) cs S
  | .sipush _ => K E.2.1 lv (.int E.2.2.2 :: st) cs S
  | .ldc i => match I.2.1 i with
    | some (.inr (.inl v)) => K E.2.1 lv (.int v :: st) cs S
    | _ => False
  | .ldc2_w i => match I.2.1 i with
    | some (.inr (.inr (.inl v))) => K E.2.1 lv (.long v :: st) cs S
    | _ => False
  | .aconst_null => K E.2.1 lv (.null :: st) cs S
  | .iload_n n => lI (lget lv n.val) fun x => K E.2.1 lv (.int x :: st) cs S
  | .iload n => lI (lget lv n) fun x => K E.2.1 lv (.int x :: st) cs S
  | .lload_n n => lJ (lget lv n.val) fun x => K E.2.1 lv (.long x :: st) cs S
  | .aload_n n => lQ (lget lv n.val) fun v => K E.2.1 lv (v :: st) cs S
  | .aload n => lQ (lget lv n) fun v => K E.2.1 lv (v :: st) cs S
  | .istore_n n => sI st fun x r => K E.2.1 (lset lv n.val (.int x)) r cs S
  | .istore n => sI st fun x r => K E.2.1 (lset lv n (.int x)) r cs S
  | .astore_n n => sQ st fun v r => K E.2.1 (lset lv n.val v) r cs S
  | .astore n => sQ st fun v r => K E.2.1 (lset lv n v) r cs S
  | .lstore_n n => sJ st fun x r => K E.2.1 (lset2 lv n.val (.long x)) r cs S
  | .iinc n _ => lI (lget lv n) fun x => K E.2.1 (lset lv n (.int (x + E.2.2.2))) st cs S
  | .iadd => sI st fun y r => sI r fun x r => K E.2.1 lv (.int (x + y) :: r) cs S
  | .isub => sI st fun y r => sI r fun x r => K E.2.1 lv (.int (x - y) :: r) cs S
  | .imul => sI st fun y r => sI r fun x r => K E.2.1 lv (.int (x * y) :: r) cs S
  | .idiv => sI st fun y r => sI r fun x r => eZ y (K E.2.1 lv (.int (x / y) :: r) cs S)
  | .irem => sI st fun y r => sI r fun x r => eZ y (K E.2.1 lv (.int (x - x / y * y) :: r) cs S)
  | .iand => sI st fun y r => sI r fun x r => K E.2.1 lv (.int (x &&& y) :: r) cs S
  | .ior => sI st fun y r => sI r fun x r => K E.2.1 lv (.int (x ||| y) :: r) cs S
  | .ixor => sI st fun y r => sI r fun x r => K E.2.1 lv (.int (x ^^^ y) :: r) cs S
  | .ishl => sI st fun y r => sI r fun x r => K E.2.1 lv (.int (x <<< (y &&& 31)) :: r) cs S
  | .ishr => sI st fun y r => sI r fun x r => K E.2.1 lv (.int (x >>> (y &&& 31)) :: r) cs S
  | .iushr => sI st fun y r => sI r fun x r => K E.2.1 lv (.int (x.toUInt32 >>> (y.toUInt32 &&& Int32.toUInt32 31)).toInt32 :: r) cs S
  | .i2b => sI st fun x r => K E.2.1 lv (.int x.toInt8.toInt32 :: r) cs S
  | .i2l => sI st fun x r => K E.2.1 lv (.long x.toInt64 :: r) cs S
  | .l2i => sJ st fun x r => K E.2.1 lv (.int x.toInt32 :: r) cs S
  | .lmul => sJ st fun y r => sJ r fun x r => K E.2.1 lv (.long (x * y) :: r) cs S
  | .lushr => sI st fun y r => sJ r fun x r => K E.2.1 lv (.long (x.toUInt64 >>> (y.toInt64.toUInt64 &&& Int64.toUInt64 63)).toInt64 :: r) cs S
  | .lshr => sI st fun y r => sJ r fun x r => K E.2.1 lv (.long (x >>> (y.toInt64 &&& 63)) :: r) cs S
  | .dup => s1 st fun v r => K E.2.1 lv (v :: v :: r) cs S
  | .pop => s1 st fun _ r => K E.2.1 lv r cs S
  | .dup2 => s1 st fun v r => s1 r fun w r => K E.2.1 lv (v :: w :: v :: w :: r) cs S
  | .ifCond .eq _ => sI st fun x r => eB (x = 0) (K E.2.2.1 lv r cs S) (K E.2.1 lv r cs S)
  | .ifCond .ne _ => sI st fun x r => eB (x = 0) (K E.2.1 lv r cs S) (K E.2.2.1 lv r cs S)
  | .ifCond .lt _ => sI st fun x r => eB (x < 0) (K E.2.2.1 lv r cs S) (K E.2.1 lv r cs S)
  | .ifCond .ge _ => sI st fun x r => eB (0 ≤ x) (K E.2.2.1 lv r cs S) (K E.2.1 lv r cs S)
  | .ifCond .gt _ => sI st fun x r => eB (0 < x) (K E.2.2.1 lv r cs S) (K E.2.1 lv r cs S)
  | .ifCond .le _ => sI st fun x r => eB (x ≤ 0) (K E.2.2.1 lv r cs S) (K E.2.1 lv r cs S)
  | .if_icmp .eq _ => sI st fun y r => sI r fun x r => eB (x = y) (K E.2.2.1 lv r cs S) (K E.2.1 lv r cs S)
  | .if_icmp .ne _ => sI st fun y r => sI r fun x r => eB (x = y) (K E.2.1 lv r cs S) (K E.2.2.1 lv r cs S)
  | .if_icmp .lt _ => sI st fun y r => sI r fun x r => eB (x < y) (K E.2.2.1 lv r cs S) (K E.2.1 lv r cs S)
  | .if_icmp .ge _ => sI st fun y r => sI r fun x r => eB (y ≤ x) (K E.2.2.1 lv r cs S) (K E.2.1 lv r cs S)
  | .if_icmp .gt _ => sI st fun y r => sI r fun x r => eB (y < x) (K E.2.2.1 lv r cs S) (K E.2.1 lv r cs S)
  | .if_icmp .le _ => sI st fun y r => sI r fun x r => eB (x ≤ y) (K E.2.2.1 lv r cs S) (K E.2.1 lv r cs S)
  | .ifnull _ => match st with
    | .null :: r => K E.2.2.1 lv r cs S
    | .ref _ :: r => K E.2.1 lv r cs S
    | _ => False
  | .ifnonnull _ => match st with
    | .null :: r => K E.2.1 lv r cs S
    | .ref _ :: r => K E.2.2.1 lv r cs S
    | _ => False
  | .goto _ => K E.2.2.1 lv st cs S
  | .tableswitch d lo hi offs => sI st fun x r => eB (x.toInt < lo ∨ hi < x.toInt) (K ((pc : Int) + d).toNat lv r cs S) (∀ (j : Nat) (off : Int), offs[j]? = some off → x.toInt = lo + j → K ((pc : Int) + off).toNat lv r cs S)
  | .getfield i => match I.2.1 i with
    | some (.inl (ci, k)) => sA st fun a r => eG G S a ci k fun v => K E.2.1 lv (v :: r) cs S
    | _ => False
  | .putfield i => match I.2.1 i with
    | some (.inl (ci, k)) => eF I ci k (s1 st fun v r => sA r fun a r => eP G S a ci k v fun S' => K E.2.1 lv r cs S')
    | _ => False
  | .getstatic i => match I.2.1 i with
    | some (.inr (.inr (.inr (.inr 100)))) => K E.2.1 lv (.ref (G.2.2.2 1).1 :: st) cs S
    | some (.inr (.inr (.inr (.inr 101)))) => K E.2.1 lv (.ref (G.2.2.2 2).1 :: st) cs S
    | _ => False
  | .iaload => sI st fun i r => sA r fun a r => eL G S a i fun x => K E.2.1 lv (.int x :: r) cs S
  | .baload => sI st fun i r => sA r fun a r => eLb G S a i fun x => K E.2.1 lv (.int x :: r) cs S
  | .aaload => sI st fun i r => sA r fun a r => eLq G S a i fun v => K E.2.1 lv (v :: r) cs S
  | .iastore => sI st fun x r => sI r fun i r => sA r fun a r => eS G S a i x fun S' => K E.2.1 lv r cs S'
  | .bastore => sI st fun x r => sI r fun i r => sA r fun a r => eSb G S a i x fun S' => K E.2.1 lv r cs S'
  | .aastore => sA st fun v r => sI r fun i r => sA r fun a r => eSq G S a i v fun S' => K E.2.1 lv r cs S'
  | .arraylength => sA st fun a r => eN G S a fun x => K E.2.1 lv (.int x :: r) cs S
  | .invokevirtual i => match I.2.1 i with
    | some (.inr (.inr (.inr (.inl q)))) => q.1 = 0 ∧ sArgs q.2.2.2.2.2.1 st [] fun as r => sA r fun a r => (r.map fun v => v.category).sum ≤ 8 ∧ eV G S a q.2.2.2.2.2.2 (eC G R q (.ref a :: as) cs S fun v cs' S' => K E.2.1 lv (v.toList ++ r) cs' S')
    | _ => False
  | .invokestatic i => match I.2.1 i with
    | some (.inr (.inr (.inr (.inl q)))) => match q.1 with
      | 1 => sArgs q.2.2.2.2.2.1 st [] fun as r => (r.map fun v => v.category).sum ≤ 8 ∧ eC G R q as cs S fun v cs' S' => K E.2.1 lv (v.toList ++ r) cs' S'
      | 5 => sI st fun n r => sI r fun dp r => sA r fun a r => sI r fun sp r => sA r fun a0 r => (r.map fun v => v.category).sum ≤ 8 ∧ eY G S R a0 sp a dp n fun S' => K E.2.1 lv r cs S'
      | 6 => sI st fun y r => sI r fun x r => (r.map fun v => v.category).sum ≤ 8 ∧ (1 ≤ R.frames ∧ 60 ≤ R.locals ∧ cs.1 ≤ R.cells ∧ cs.2 ≤ R.slots) ∧ K E.2.1 lv (.int (if x < y then y else x) :: r) cs S
      | _ => False
    | _ => False
  | .new i => match I.2.1 i with
    | some (.inr (.inr (.inr (.inr ci)))) => ci < 9 ∧ (cs.1 + 1 ≤ R.cells ∧ cs.2 + mN ci ≤ R.slots) ∧ K E.2.1 lv (.ref S.1 :: st) (cs.1 + 1, cs.2 + mN ci) (mPush S (.inr (ci, mDef ci)))
    | _ => False
  | .newarray .int => sI st fun n r => eM R n cs (K E.2.1 lv (.ref S.1 :: r) (cs.1 + 1, cs.2 + n.toNatClampNeg) (mPush S (eIn G n.toNatClampNeg (fun _ => 0))))
  | .newarray .byte => sI st fun n r => eM R n cs (K E.2.1 lv (.ref S.1 :: r) (cs.1 + 1, cs.2 + n.toNatClampNeg) (mPush S (eBy G n.toNatClampNeg (fun _ => 0))))
  | .anewarray i => match I.2.1 i with
    | some (.inr (.inr (.inr (.inr ci)))) => mTo ci < 7 ∧ sI st fun n r => eM R n cs (K E.2.1 lv (.ref S.1 :: r) (cs.1 + 1, cs.2 + n.toNatClampNeg) (mPush S (eRf G (mTo ci) n.toNatClampNeg (fun _ => none))))
    | _ => False
  | .invokespecial i => match I.2.1 i with
    | some (.inr (.inr (.inr (.inl q)))) => match q.1 with
      | 2 => sArgs q.2.2.2.2.2.1 st [] fun as r => sA r fun a r => (r.map fun v => v.category).sum ≤ 8 ∧ eC G R q (.ref a :: as) cs S fun v cs' S' => K E.2.1 lv (v.toList ++ r) cs' S'
      | 3 => sArgs q.2.2.2.2.2.1 st [] fun as r => sA r fun a r => (r.map fun v => v.category).sum ≤ 8 ∧ eC G R q (.ref a :: as) cs S fun v cs' S' => K E.2.1 lv (v.toList ++ r) cs' S'
      | 4 => sA st fun a r => (r.map fun v => v.category).sum ≤ 8 ∧ (1 ≤ R.frames ∧ 60 ≤ R.locals) ∧ K E.2.1 lv r cs S
      | _ => False
    | _ => False
  | .ireturn => sI st fun x r => s0 r (eR I.2.2.2 (some (.int x)) mc ms cs (KR (some (.int x)) S))
  | .areturn => sQ st fun v r => s0 r (eR I.2.2.2 (some v) mc ms cs (KR (some v) S))
  | .return_ => s0 st (eR I.2.2.2 none mc ms cs (KR none S))
  | _ => False
/-! the constants of a class: what they ask of the tables -/
def rW (I : mI) (i : Nat) (r : mRf) : List Cond := match r with
  | .inl (ci, k) => [.fieldLink I.1.1 i (mTb ci k).1 (mTb ci k).2.1 (mTb ci k).2.2.1]
  | .inr (.inl v) => [.constant I.1.1 i v]
  | .inr (.inr (.inl v)) => [.constantLong I.1.1 i v]
  | .inr (.inr (.inr (.inl q))) => match q.1 with
    | 0 => [.methodLink I.1.1 i q.2.1, .instanceMethod q.2.1, .selects q.2.1.cls q.2.1 q.2.1, .initialized q.2.1.cls, .code q.2.1 q.2.2.1 q.2.2.2.1 q.2.2.2.2.1]
    | 1 => [.methodLink I.1.1 i q.2.1, .static q.2.1, .initialized q.2.1.cls, .code q.2.1 q.2.2.1 q.2.2.2.1 q.2.2.2.2.1]
    | 2 => [.methodLink I.1.1 i q.2.1, .instanceMethod q.2.1, .initialized q.2.1.cls, .code q.2.1 q.2.2.1 q.2.2.2.1 none]
    | 3 => [.instanceMethod q.2.1, .initialized q.2.1.cls, .code q.2.1 q.2.2.1 q.2.2.2.1 none]
    | 4 => [.methodLink I.1.1 i objectInit, .instanceMethod objectInit, .code objectInit ⟨#[0xb1]⟩ 1 none]
    | 5 => [.methodLink I.1.1 i arraycopyName, .native arraycopyName, .static arraycopyName, .initialized "java/lang/System"]
    | _ => [.methodLink I.1.1 i Lib.Math.max.name, .static Lib.Math.max.name, .initialized "java/lang/Math", .code Lib.Math.max.name Lib.Math.max.code 2 (some .int)]
  | .inr (.inr (.inr (.inr n))) => if n = 100 then [.fieldLink I.1.1 i RX5 "FIRST" "[I"] else if n = 101 then [.fieldLink I.1.1 i RX5 "ROUND" "[I"] else [.classLink I.1.1 i (mRn n), .instantiable (mRn n) (mN n), .initialized (mRn n)]
def qB (q : mC) : Bool := decide (q.2.1.cls ≠ "java/lang/invoke/MethodHandle" ∧ q.2.1.cls ≠ "java/lang/invoke/VarHandle" ∧ (parseMethodDescriptor q.2.1.desc).map (fun d => d.parameters.length) = some q.2.2.2.2.2.1)
def rB (I : mI) (i : Nat) (r : mRf) : Bool := match r with
  | .inl (ci, k) => decide (ci < 9) && decide (k < mN ci)
  | .inr (.inl _) => true
  | .inr (.inr (.inl _)) => true
  | .inr (.inr (.inr (.inl q))) => match q.1 with
    | 0 => qB q && decide (q.2.2.2.2.2.2 < 9) && decide (mRn q.2.2.2.2.2.2 = q.2.1.cls)
    | 1 => qB q
    | 2 => qB q && decide (q.2.1.name = "<init>") && decide (q.2.2.2.2.1 = none)
    | 3 => qB q && decide (q.2.1.name = "<init>") && decide (q.2.2.2.2.1 = none) && decide ((i, q.2.1) ∈ mNest) && decide (I.1.1 = RX7)
    | _ => true
  | .inr (.inr (.inr (.inr n))) => decide (n < 9) || decide (n = 100) || decide (n = 101)
def cpOK (I : mI) : Prop := ∀ (i : Nat) (r : mRf), I.2.1 i = some r → (∀ w ∈ rW I i r, w ∈ mT) ∧ rB I i r = true
theorem gX0 : ∀ w ∈ wsX00, goodWord w = true := by decide +kernel
theorem gX1 : ∀ w ∈ wsX10, goodWord w = true := by decide +kernel
theorem gX2 : ∀ w ∈ wsX20, goodWord w = true := by decide +kernel
theorem gX3 : ∀ w ∈ wsX30, goodWord w = true := by decide +kernel
theorem gX4 : ∀ w ∈ wsX40, goodWord w = true := by decide +kernel
theorem gX5 : ∀ w ∈ wsX50, goodWord w = true := by decide +kernel
theorem gX6 : ∀ w ∈ wsX60, goodWord w = true := by decide +kernel
theorem gX7 : ∀ w ∈ wsX70, goodWord w = true := by decide +kernel
theorem gX8 : ∀ w ∈ wsX80, goodWord w = true := by decide +kernel
def clGood (ci : Nat) : Prop := vwCl[ci]? = some (mRn ci, mTb ci, mN ci) ∧ (∀ w ∈ u_ws (mRn ci) (mTb ci) (mN ci), w ∈ mT) ∧ (∀ k, k < mN ci → parseFieldDescriptor (mTb ci k).2.2.1 = some (mFt ci k)) ∧ (∀ a, a < mN ci → ∀ b, b < mN ci → a ≠ b → (mTb ci a).2.1 ≠ (mTb ci b).2.1) ∧ ∀ k, k < mN ci → (mTb ci k).1 = mRn ci
theorem clOK : ∀ ci, ci < 9 → clGood ci
  | 0, _ => ⟨rfl, fun w h => mT_in (inX0 w h) (gX0 w h), tyX0_ok, nmX0, by decide +kernel⟩
  | 1, _ => ⟨rfl, fun w h => mT_in (inX1 w h) (gX1 w h), tyX1_ok, nmX1, by decide +kernel⟩
  | 2, _ => ⟨rfl, fun w h => mT_in (inX2 w h) (gX2 w h), tyX2_ok, nmX2, by decide +kernel⟩
  | 3, _ => ⟨rfl, fun w h => mT_in (inX3 w h) (gX3 w h), tyX3_ok, nmX3, by decide +kernel⟩
  | 4, _ => ⟨rfl, fun w h => mT_in (inX4 w h) (gX4 w h), tyX4_ok, nmX4, by decide +kernel⟩
  | 5, _ => ⟨rfl, fun w h => mT_in (inX5 w h) (gX5 w h), tyX5_ok, nmX5, by decide +kernel⟩
  | 6, _ => ⟨rfl, fun w h => mT_in (inX6 w h) (gX6 w h), tyX6_ok, nmX6, by decide +kernel⟩
  | 7, _ => ⟨rfl, fun w h => mT_in (inX7 w h) (gX7 w h), tyX7_ok, nmX7, by decide +kernel⟩
  | 8, _ => ⟨rfl, fun w h => mT_in (inX8 w h) (gX8 w h), tyX8_ok, nmX8, by decide +kernel⟩
  | n + 9, h => absurd h (by omega)
theorem mDef_ok (ci : Nat) : ∀ j, j < mN ci → defaultValue (mFt ci j) = vp_V (mDef ci) j := by
  intro j hj
  simp [vp_V, mDef, hj]
theorem mTo_lt {ci : Nat} (h : mTo ci < 7) : ci < 9 ∧ mRn ci ∈ mOver ∧ ∀ G : mG, (mTys G)[mTo ci]? = some (G.2.1 (mTo ci), .object (mRn ci)) := by
  unfold mTo at h
  split at h
  · exact ⟨by decide, by decide, fun _ => rfl⟩
  · exact ⟨by decide, by decide, fun _ => rfl⟩
  · exact ⟨by decide, by decide, fun _ => rfl⟩
  · exact ⟨by decide, by decide, fun _ => rfl⟩
  · omega
theorem acI : Cond.arrayClass .int ∈ mT := mT_in (by decide +kernel) rfl
theorem acB : Cond.arrayClass .byte ∈ mT := mT_in (by decide +kernel) rfl
end
section
/-- the local that an instruction writes (the second half of a long counted) -/
def iSl : Instr → Option Nat
  | .istore_n n | .astore_n n => some n.val
  | .istore n | .astore n => some n
  | .lstore_n n => some (n.val + 1)
  | .iinc n _ => some n
  | _ => none
section SND
variable {p : Program} {l : Launch} {e : Env} {R : Room} {s : State} {m : MethodId} {args : Array Value} {below : List Frame} {meth : Method} {c : Code}
/-- the facts of a walk -/
def mCx (G : mG) (I : mI) (p : Program) (s : State) (m : MethodId) (args : Array Value) (meth : Method) (c : Code) (cc : ByteArray) (nL : Nat) : Prop :=
  p.tables.exec = Jvm.exec ∧ c.code = cc ∧ c.maxLocals = nL ∧ s.vm.findClass I.1.1 = some m.cls ∧ (∀ w ∈ mT, w.before args s = true) ∧ mK G s ∧ meth.sig.returnType = I.2.2.2 ∧ meth.locks = false ∧ (I.2.2.1 = true → meth.name = "<init>") ∧ mRn I.1.2 = I.1.1
def mQc (G : mG) (KR : Option Value → mS → Prop) : Array Value → State → Outcome → State → Prop := fun _ _ o t => ∃ (v : Option Value) (S' : mS), o = .returned v ∧ KR v S' ∧ mr G S' t.heap
/-- from here the walk comes to its end -/
def gd (p : Program) (l : Launch) (e : Env) (R : Room) (s : State) (m : MethodId) (args : Array Value) (below : List Frame) (meth : Method) (c : Code) (G : mG) (nL : Nat) (Q : State → Prop) (pc : Nat) (lv : mL) (st : List Value) (cs : Nat × Nat) (S : mS) : Prop :=
  ∀ (ls : Array Slot) (H : Heap) (locs : List Loc), lv_has ls nL lv → mr G S H → (∀ q ∈ locs, mb G ≤ q.base) → W p l e R s m args below meth c H locs cs.1 cs.2 Q (F0 m pc ls st)
variable {G : mG} {I : mI} {cc : ByteArray} {nL mc ms : Nat} {KR : Option Value → mS → Prop} {pc : Nat} {E : mE} {lv : mL} {st : List Value} {cs : Nat × Nat} {S : mS} {K : Nat → mL → List Value → Nat × Nat → mS → Prop}
theorem m_locs {G : mG} {locs : List Loc} {L : Loc} {a : Nat} (h : ∀ q ∈ locs, mb G ≤ q.base) (hL : L.base = a) (ha : mb G ≤ a) : ∀ q ∈ locs ++ [L], mb G ≤ q.base := by
  intro q hq
  rcases List.mem_append.mp hq with h1 | h1
  · exact h q h1
  · rw [List.mem_singleton.mp h1, hL]; exact ha
theorem m_locsL {G : mG} {locs L : List Loc} (h : ∀ q ∈ locs, mb G ≤ q.base) (hL : ∀ q ∈ L, mb G ≤ q.base) : ∀ q ∈ locs ++ L, mb G ≤ q.base := by
  intro q hq
  rcases List.mem_append.mp hq with h1 | h1
  · exact h q h1
  · exact hL q h1
theorem mT_good : GoodIn mT mT := fun w h => ⟨h, good_of_word (List.mem_filter.mp h).2⟩
theorem mWs_good {y : MethodName} {b : ByteArray} {n : Nat} {r : Option FieldType} (h : Cond.code y b n r ∈ mT) : GoodIn mT (mWs y b n r) := fun w hw => by
  rcases List.mem_cons.mp hw with h1 | h1
  · rw [h1]; exact mT_good _ h
  · exact mT_good _ h1
theorem m_blind {G : mG} {av : List Value} {S : mS} : FrameBlind (va_Pc av (fun U => mr G S U.heap ∧ mK G U)) := fun a U g mk q => ⟨q.1, q.2.1, mK.same (s := U) (U := U.calling g mk a) rfl q.2.2⟩
theorem m_after {rest : List Value} {np : Nat} {Q : State → Prop} {ls : Array Slot} {H : Heap} {locs : List Loc} {K0 : Option Value → mS → Prop} {a' : Array Value} {st : List Value} {rm : Room}
    (hr : va_Run p l e R s m args below meth c H locs cs.1 cs.2 rm.cells rm.slots (F0 m pc ls st) rest (mQc G K0 a') (fun q => mb G ≤ q)) (hl : lv_has ls nL lv) (hL : ∀ q ∈ locs, mb G ≤ q.base) (hnp : np = pc + 3)
    (kk : ∀ (v : Option Value) (S' : mS), K0 v S' → gd p l e R s m args below meth c G nL Q np lv (v.toList ++ rest) (cs.1 + rm.cells, cs.2 + rm.slots) S') : W p l e R s m args below meth c H locs cs.1 cs.2 Q (F0 m pc ls st) := by
  subst hnp
  intro T hT X
  obtain ⟨v, st₀, t, T', L, h0, X', hL', e1, e2, ⟨v', S', hv, hk, hr'⟩, stp⟩ := hr T hT X
  cases hv
  rw [← e1] at hr'
  obtain ⟨t2, a1, b1⟩ := kk _ S' hk ls T'.heap (locs ++ L) hl hr' (m_locsL hL hL') T' rfl X'
  exact ⟨t2, stp t2 a1, b1⟩

set_option maxHeartbeats 4000000 in
theorem st_ok (X : mCx G I p s m args meth c cc nL) (hcp : cpOK I) (hcut : nL ≤ 30) (hE : okE cc pc E = true) (hlv : ∀ i, iSl E.1 = some i → i < nL) (hs : step G R I mc ms KR pc E lv st cs S K)
    (hK : ∀ (pc' : Nat) (lv' : mL) (st' : List Value) (cs' : Nat × Nat) (S' : mS), K pc' lv' st' cs' S' → gd p l e R s m args below meth c G nL (MQ below (mQc G KR) args s mc ms (fun q => mb G ≤ q)) pc' lv' st' cs' S') :
    gd p l e R s m args below meth c G nL (MQ below (mQc G KR) args s mc ms (fun q => mb G ≤ q)) pc lv st cs S := by
  obtain ⟨hx, hb, hml, hown, hts, hKn, hret, hlocks, hini, hrn⟩ := X
  obtain ⟨ins, np, tg, val⟩ := E
  have hI := okE.t hE
  intro ls H locs hl hr hL
  cases ins with
  | iconst n =>
    obtain ⟨d, hnp⟩ := okE.d hE 1 rfl (by decide)
    subst hnp
    have h := hs
    exact lv_iconst hx hb d (of_decide_eq_true hI) (hK _ _ _ _ _ h ls H locs hl hr hL)
  | bipush n =>
    obtain ⟨d, hnp⟩ := okE.d hE 2 rfl (by decide)
    subst hnp
    have h := hs
    exact lv_bipush hx hb d (of_decide_eq_true hI) (hK _ _ _ _ _ h ls H locs hl hr hL)
  | sipush n =>
    obtain ⟨d, hnp⟩ := okE.d hE 3 rfl (by decide)
    subst hnp
    have h := hs
    exact lv_sipush hx hb d (of_decide_eq_true hI) (hK _ _ _ _ _ h ls H locs hl hr hL)
  | ldc i =>
    obtain ⟨d, hnp⟩ := okE.d hE 2 rfl (by decide)
    subst hnp
    simp only [step] at hs
    split at hs
    · rename_i v hv
      have hw := (hcp _ _ hv).1
      exact lv_ldc hx hb hown (hts _ (hw _ List.mem_cons_self)) d (hK _ _ _ _ _ hs ls H locs hl hr hL)
    · exact hs.elim
  | ldc2_w i =>
    obtain ⟨d, hnp⟩ := okE.d hE 3 rfl (by decide)
    subst hnp
    simp only [step] at hs
    split at hs
    · rename_i v hv
      have hw := (hcp _ _ hv).1
      exact lv_ldc2 hx hb hown (hts _ (hw _ List.mem_cons_self)) d (hK _ _ _ _ _ hs ls H locs hl hr hL)
    · exact hs.elim
  | aconst_null =>
    obtain ⟨d, hnp⟩ := okE.d hE 1 rfl (by decide)
    subst hnp
    have h := hs
    exact lv_null hx hb d (hK _ _ _ _ _ h ls H locs hl hr hL)
  | iload_n n =>
    obtain ⟨d, hnp⟩ := okE.d hE 1 rfl (by decide)
    subst hnp
    obtain ⟨x, hg, h⟩ := lI.inv hs
    exact lv_iload_n hx hb d rfl (hl.2.2 _ (lget_mem hg)) (hK _ _ _ _ _ h ls H locs hl hr hL)
  | iload n =>
    obtain ⟨d, hnp⟩ := okE.d hE 2 rfl (by decide)
    subst hnp
    obtain ⟨x, hg, h⟩ := lI.inv hs
    exact lv_iload hx hb d (hl.2.2 _ (lget_mem hg)) (hK _ _ _ _ _ h ls H locs hl hr hL)
  | lload_n n =>
    obtain ⟨d, hnp⟩ := okE.d hE 1 rfl (by decide)
    subst hnp
    obtain ⟨x, hg, h⟩ := lJ.inv hs
    exact lv_lload_n hx hb d rfl (hl.2.2 _ (lget_mem hg)) (hK _ _ _ _ _ h ls H locs hl hr hL)
  | aload_n n =>
    obtain ⟨d, hnp⟩ := okE.d hE 1 rfl (by decide)
    subst hnp
    simp only [step] at hs
    obtain ⟨v, hg, hv, h⟩ := lQ.inv hs
    rcases hv with rfl | ⟨a, rfl⟩
    · exact lv_aload_nN hx hb d rfl (hl.2.2 _ (lget_mem hg)) (hK _ _ _ _ _ h ls H locs hl hr hL)
    · exact lv_aload_n hx hb d rfl (hl.2.2 _ (lget_mem hg)) (hK _ _ _ _ _ h ls H locs hl hr hL)
  | aload n =>
    obtain ⟨d, hnp⟩ := okE.d hE 2 rfl (by decide)
    subst hnp
    simp only [step] at hs
    obtain ⟨v, hg, hv, h⟩ := lQ.inv hs
    rcases hv with rfl | ⟨a, rfl⟩
    · exact lv_aloadN hx hb d (hl.2.2 _ (lget_mem hg)) (hK _ _ _ _ _ h ls H locs hl hr hL)
    · exact lv_aload hx hb d (hl.2.2 _ (lget_mem hg)) (hK _ _ _ _ _ h ls H locs hl hr hL)
  | istore_n n =>
    obtain ⟨d, hnp⟩ := okE.d hE 1 rfl (by decide)
    subst hnp
    obtain ⟨x, r, rfl, h⟩ := sI.inv hs
    exact lv_istore_n hx hb d rfl hl (hlv _ rfl) rfl (fun ls' hl' => hK _ _ _ _ _ h ls' H locs (lv_le hl' (fun q hq => lins_mem hq)) hr hL)
  | istore n =>
    obtain ⟨d, hnp⟩ := okE.d hE 2 rfl (by decide)
    subst hnp
    obtain ⟨x, r, rfl, h⟩ := sI.inv hs
    exact lv_istore hx hb d hl (hlv _ rfl) rfl (fun ls' hl' => hK _ _ _ _ _ h ls' H locs (lv_le hl' (fun q hq => lins_mem hq)) hr hL)
  | astore_n n =>
    obtain ⟨d, hnp⟩ := okE.d hE 1 rfl (by decide)
    subst hnp
    simp only [step] at hs
    obtain ⟨v, r, rfl, hv, h⟩ := sQ.inv hs
    rcases hv with rfl | ⟨a, rfl⟩
    · exact lv_astore_nN hx hb d rfl hl (hlv _ rfl) rfl (fun ls' hl' => hK _ _ _ _ _ h ls' H locs (lv_le hl' (fun q hq => lins_mem hq)) hr hL)
    · exact lv_astore_n hx hb d rfl hl (hlv _ rfl) rfl (fun ls' hl' => hK _ _ _ _ _ h ls' H locs (lv_le hl' (fun q hq => lins_mem hq)) hr hL)
  | astore n =>
    obtain ⟨d, hnp⟩ := okE.d hE 2 rfl (by decide)
    subst hnp
    simp only [step] at hs
    obtain ⟨v, r, rfl, hv, h⟩ := sQ.inv hs
    rcases hv with rfl | ⟨a, rfl⟩
    · exact lv_astoreN hx hb d hl (hlv _ rfl) rfl (fun ls' hl' => hK _ _ _ _ _ h ls' H locs (lv_le hl' (fun q hq => lins_mem hq)) hr hL)
    · exact lv_astore hx hb d hl (hlv _ rfl) rfl (fun ls' hl' => hK _ _ _ _ _ h ls' H locs (lv_le hl' (fun q hq => lins_mem hq)) hr hL)
  | lstore_n n =>
    obtain ⟨d, hnp⟩ := okE.d hE 1 rfl (by decide)
    subst hnp
    obtain ⟨x, r, rfl, h⟩ := sJ.inv hs
    exact lv_lstore_n hx hb d rfl hl (hlv _ rfl) rfl (fun ls' hl' => hK _ _ _ _ _ h ls' H locs (lv_le hl' (fun q hq => lins_mem hq)) hr hL)
  | iinc n k =>
    obtain ⟨d, hnp⟩ := okE.d hE 3 rfl (by decide)
    subst hnp
    obtain ⟨x, hg, h⟩ := lI.inv hs
    obtain ⟨j, hj⟩ := List.getElem?_of_mem (lget_mem hg)
    exact lv_iinc hx hb d hl hj (by rw [of_decide_eq_true hI]) (hlv _ rfl) rfl (fun ls' hl' => hK _ _ _ _ _ h ls' H locs (lv_le hl' (fun q hq => lins_mem hq)) hr hL)
  | iadd =>
    obtain ⟨d, hnp⟩ := okE.d hE 1 rfl (by decide)
    subst hnp
    obtain ⟨y, r, rfl, h⟩ := sI.inv hs
    obtain ⟨x, r, rfl, h⟩ := sI.inv h
    exact lv_iadd hx hb d (hK _ _ _ _ _ h ls H locs hl hr hL)
  | isub =>
    obtain ⟨d, hnp⟩ := okE.d hE 1 rfl (by decide)
    subst hnp
    obtain ⟨y, r, rfl, h⟩ := sI.inv hs
    obtain ⟨x, r, rfl, h⟩ := sI.inv h
    exact lv_isub hx hb d (hK _ _ _ _ _ h ls H locs hl hr hL)
  | imul =>
    obtain ⟨d, hnp⟩ := okE.d hE 1 rfl (by decide)
    subst hnp
    obtain ⟨y, r, rfl, h⟩ := sI.inv hs
    obtain ⟨x, r, rfl, h⟩ := sI.inv h
    exact lv_imul hx hb d (hK _ _ _ _ _ h ls H locs hl hr hL)
  | iand =>
    obtain ⟨d, hnp⟩ := okE.d hE 1 rfl (by decide)
    subst hnp
    obtain ⟨y, r, rfl, h⟩ := sI.inv hs
    obtain ⟨x, r, rfl, h⟩ := sI.inv h
    exact lv_iand hx hb d (hK _ _ _ _ _ h ls H locs hl hr hL)
  | ior =>
    obtain ⟨d, hnp⟩ := okE.d hE 1 rfl (by decide)
    subst hnp
    obtain ⟨y, r, rfl, h⟩ := sI.inv hs
    obtain ⟨x, r, rfl, h⟩ := sI.inv h
    exact lv_ior hx hb d (hK _ _ _ _ _ h ls H locs hl hr hL)
  | ixor =>
    obtain ⟨d, hnp⟩ := okE.d hE 1 rfl (by decide)
    subst hnp
    obtain ⟨y, r, rfl, h⟩ := sI.inv hs
    obtain ⟨x, r, rfl, h⟩ := sI.inv h
    exact lv_ixor hx hb d (hK _ _ _ _ _ h ls H locs hl hr hL)
  | ishl =>
    obtain ⟨d, hnp⟩ := okE.d hE 1 rfl (by decide)
    subst hnp
    obtain ⟨y, r, rfl, h⟩ := sI.inv hs
    obtain ⟨x, r, rfl, h⟩ := sI.inv h
    exact lv_ishl hx hb d (hK _ _ _ _ _ h ls H locs hl hr hL)
  | ishr =>
    obtain ⟨d, hnp⟩ := okE.d hE 1 rfl (by decide)
    subst hnp
    obtain ⟨y, r, rfl, h⟩ := sI.inv hs
    obtain ⟨x, r, rfl, h⟩ := sI.inv h
    exact lv_ishr hx hb d (hK _ _ _ _ _ h ls H locs hl hr hL)
  | iushr =>
    obtain ⟨d, hnp⟩ := okE.d hE 1 rfl (by decide)
    subst hnp
    obtain ⟨y, r, rfl, h⟩ := sI.inv hs
    obtain ⟨x, r, rfl, h⟩ := sI.inv h
    exact lv_iushr hx hb d rfl (hK _ _ _ _ _ h ls H locs hl hr hL)
  | idiv =>
    obtain ⟨d, hnp⟩ := okE.d hE 1 rfl (by decide)
    subst hnp
    obtain ⟨y, r, rfl, h⟩ := sI.inv hs
    obtain ⟨x, r, rfl, h⟩ := sI.inv h
    obtain ⟨hz, h⟩ := h
    exact lv_idiv hx hb d hz (hK _ _ _ _ _ h ls H locs hl hr hL)
  | irem =>
    obtain ⟨d, hnp⟩ := okE.d hE 1 rfl (by decide)
    subst hnp
    obtain ⟨y, r, rfl, h⟩ := sI.inv hs
    obtain ⟨x, r, rfl, h⟩ := sI.inv h
    obtain ⟨hz, h⟩ := h
    exact lv_irem hx hb d hz (hK _ _ _ _ _ h ls H locs hl hr hL)
  | i2b =>
    obtain ⟨d, hnp⟩ := okE.d hE 1 rfl (by decide)
    subst hnp
    obtain ⟨x, r, rfl, h⟩ := sI.inv hs
    exact lv_i2b hx hb d rfl (hK _ _ _ _ _ h ls H locs hl hr hL)
  | i2l =>
    obtain ⟨d, hnp⟩ := okE.d hE 1 rfl (by decide)
    subst hnp
    obtain ⟨x, r, rfl, h⟩ := sI.inv hs
    exact lv_i2l hx hb d rfl (hK _ _ _ _ _ h ls H locs hl hr hL)
  | l2i =>
    obtain ⟨d, hnp⟩ := okE.d hE 1 rfl (by decide)
    subst hnp
    obtain ⟨x, r, rfl, h⟩ := sJ.inv hs
    exact lv_l2i hx hb d rfl (hK _ _ _ _ _ h ls H locs hl hr hL)
  | lmul =>
    obtain ⟨d, hnp⟩ := okE.d hE 1 rfl (by decide)
    subst hnp
    obtain ⟨y, r, rfl, h⟩ := sJ.inv hs
    obtain ⟨x, r, rfl, h⟩ := sJ.inv h
    exact lv_lmul hx hb d (hK _ _ _ _ _ h ls H locs hl hr hL)
  | lushr =>
    obtain ⟨d, hnp⟩ := okE.d hE 1 rfl (by decide)
    subst hnp
    obtain ⟨y, r, rfl, h⟩ := sI.inv hs
    obtain ⟨x, r, rfl, h⟩ := sJ.inv h
    exact lv_lushr hx hb d rfl (hK _ _ _ _ _ h ls H locs hl hr hL)
  | lshr =>
    obtain ⟨d, hnp⟩ := okE.d hE 1 rfl (by decide)
    subst hnp
    obtain ⟨y, r, rfl, h⟩ := sI.inv hs
    obtain ⟨x, r, rfl, h⟩ := sJ.inv h
    exact lv_lshr hx hb d rfl (hK _ _ _ _ _ h ls H locs hl hr hL)
  | dup =>
    obtain ⟨d, hnp⟩ := okE.d hE 1 rfl (by decide)
    subst hnp
    simp only [step] at hs
    obtain ⟨v, r, rfl, hc, h⟩ := s1.inv hs
    exact lv_dup hx hb d hc (hK _ _ _ _ _ h ls H locs hl hr hL)
  | pop =>
    obtain ⟨d, hnp⟩ := okE.d hE 1 rfl (by decide)
    subst hnp
    simp only [step] at hs
    obtain ⟨v, r, rfl, hc, h⟩ := s1.inv hs
    exact lv_pop hx hb d hc (hK _ _ _ _ _ h ls H locs hl hr hL)
  | dup2 =>
    obtain ⟨d, hnp⟩ := okE.d hE 1 rfl (by decide)
    subst hnp
    simp only [step] at hs
    obtain ⟨v, r, rfl, hc, h⟩ := s1.inv hs
    obtain ⟨v2, r, rfl, hc2, h⟩ := s1.inv h
    exact lv_dup2_11 hx hb d hc hc2 (hK _ _ _ _ _ h ls H locs hl hr hL)
  | ifCond co off =>
    obtain ⟨d, hnp⟩ := okE.d hE 3 rfl (by decide)
    subst hnp
    cases co with
    | eq =>
      obtain ⟨x, r, rfl, h⟩ := sI.inv hs
      exact lv_if_eq hx hb d (of_decide_eq_true hI) (fun q => hK _ _ _ _ _ (h.1 q) ls H locs hl hr hL) (fun q => hK _ _ _ _ _ (h.2 q) ls H locs hl hr hL)
    | ne =>
      obtain ⟨x, r, rfl, h⟩ := sI.inv hs
      exact lv_if_ne hx hb d (of_decide_eq_true hI) (fun q => hK _ _ _ _ _ (h.2 q) ls H locs hl hr hL) (fun q => hK _ _ _ _ _ (h.1 q) ls H locs hl hr hL)
    | lt =>
      obtain ⟨x, r, rfl, h⟩ := sI.inv hs
      exact lv_if_lt hx hb d (of_decide_eq_true hI) (fun q => hK _ _ _ _ _ (h.1 q) ls H locs hl hr hL) (fun q => hK _ _ _ _ _ (h.2 q) ls H locs hl hr hL)
    | ge =>
      obtain ⟨x, r, rfl, h⟩ := sI.inv hs
      exact lv_if_ge hx hb d (of_decide_eq_true hI) (fun q => hK _ _ _ _ _ (h.1 q) ls H locs hl hr hL) (fun q => hK _ _ _ _ _ (h.2 q) ls H locs hl hr hL)
    | gt =>
      obtain ⟨x, r, rfl, h⟩ := sI.inv hs
      exact lv_if_gt hx hb d (of_decide_eq_true hI) (fun q => hK _ _ _ _ _ (h.1 q) ls H locs hl hr hL) (fun q => hK _ _ _ _ _ (h.2 q) ls H locs hl hr hL)
    | le =>
      obtain ⟨x, r, rfl, h⟩ := sI.inv hs
      exact lv_if_le hx hb d (of_decide_eq_true hI) (fun q => hK _ _ _ _ _ (h.1 q) ls H locs hl hr hL) (fun q => hK _ _ _ _ _ (h.2 q) ls H locs hl hr hL)
  | if_icmp co off =>
    obtain ⟨d, hnp⟩ := okE.d hE 3 rfl (by decide)
    subst hnp
    cases co with
    | eq =>
      obtain ⟨y, r, rfl, h⟩ := sI.inv hs
      obtain ⟨x, r, rfl, h⟩ := sI.inv h
      exact lv_icmp_eq hx hb d (of_decide_eq_true hI) (fun q => hK _ _ _ _ _ (h.1 q) ls H locs hl hr hL) (fun q => hK _ _ _ _ _ (h.2 q) ls H locs hl hr hL)
    | ne =>
      obtain ⟨y, r, rfl, h⟩ := sI.inv hs
      obtain ⟨x, r, rfl, h⟩ := sI.inv h
      exact lv_icmp_ne hx hb d (of_decide_eq_true hI) (fun q => hK _ _ _ _ _ (h.2 q) ls H locs hl hr hL) (fun q => hK _ _ _ _ _ (h.1 q) ls H locs hl hr hL)
    | lt =>
      obtain ⟨y, r, rfl, h⟩ := sI.inv hs
      obtain ⟨x, r, rfl, h⟩ := sI.inv h
      exact lv_icmp_lt hx hb d (of_decide_eq_true hI) (fun q => hK _ _ _ _ _ (h.1 q) ls H locs hl hr hL) (fun q => hK _ _ _ _ _ (h.2 q) ls H locs hl hr hL)
    | ge =>
      obtain ⟨y, r, rfl, h⟩ := sI.inv hs
      obtain ⟨x, r, rfl, h⟩ := sI.inv h
      exact lv_icmp_ge hx hb d (of_decide_eq_true hI) (fun q => hK _ _ _ _ _ (h.1 q) ls H locs hl hr hL) (fun q => hK _ _ _ _ _ (h.2 q) ls H locs hl hr hL)
    | gt =>
      obtain ⟨y, r, rfl, h⟩ := sI.inv hs
      obtain ⟨x, r, rfl, h⟩ := sI.inv h
      exact lv_icmp_gt hx hb d (of_decide_eq_true hI) (fun q => hK _ _ _ _ _ (h.1 q) ls H locs hl hr hL) (fun q => hK _ _ _ _ _ (h.2 q) ls H locs hl hr hL)
    | le =>
      obtain ⟨y, r, rfl, h⟩ := sI.inv hs
      obtain ⟨x, r, rfl, h⟩ := sI.inv h
      exact lv_icmp_le hx hb d (of_decide_eq_true hI) (fun q => hK _ _ _ _ _ (h.1 q) ls H locs hl hr hL) (fun q => hK _ _ _ _ _ (h.2 q) ls H locs hl hr hL)
  | ifnull off =>
    obtain ⟨d, hnp⟩ := okE.d hE 3 rfl (by decide)
    subst hnp
    simp only [step] at hs
    split at hs
    · exact lv_ifnullN hx hb d (of_decide_eq_true hI) (hK _ _ _ _ _ hs ls H locs hl hr hL)
    · exact lv_ifnull hx hb d (hK _ _ _ _ _ hs ls H locs hl hr hL)
    · exact hs.elim
  | ifnonnull off =>
    obtain ⟨d, hnp⟩ := okE.d hE 3 rfl (by decide)
    subst hnp
    simp only [step] at hs
    split at hs
    · exact lv_ifnonnullN hx hb d (hK _ _ _ _ _ hs ls H locs hl hr hL)
    · exact lv_ifnonnull hx hb d (of_decide_eq_true hI) (hK _ _ _ _ _ hs ls H locs hl hr hL)
    · exact hs.elim
  | goto off =>
    obtain ⟨d, hnp⟩ := okE.d hE 3 rfl (by decide)
    subst hnp
    have h := hs
    exact lv_goto hx hb d (of_decide_eq_true hI) (hK _ _ _ _ _ h ls H locs hl hr hL)
  | tableswitch df lo hi offs =>
    have d := okE.w hE
    obtain ⟨x, r, rfl, h⟩ := sI.inv hs
    simp only [okI, Bool.and_eq_true, decide_eq_true_eq, List.all_eq_true] at hI
    obtain ⟨⟨hd, ho⟩, hz⟩ := hI
    by_cases hc : x.toInt < lo ∨ hi < x.toInt
    · exact lv_tableOut hx hb d hc (Int.toNat_of_nonneg hd).symm (hK _ _ _ _ _ (h.1 hc) ls H locs hl hr hL)
    · have h9 := h.2 hc
      have q1 : ¬ x.toInt < lo := fun q => hc (Or.inl q)
      have q2 : ¬ hi < x.toInt := fun q => hc (Or.inr q)
      have q3 : (x.toInt - lo).toNat < offs.size := by omega
      have q4 : offs[(x.toInt - lo).toNat]? = some offs[(x.toInt - lo).toNat] := Array.getElem?_eq_getElem q3
      have q5 := ho _ (Array.getElem_mem_toList q3)
      exact lv_tableIn hx hb d q1 q2 q4 (Int.toNat_of_nonneg q5).symm (hK _ _ _ _ _ (h9 _ _ q4 (by omega)) ls H locs hl hr hL)
  | getfield i =>
    obtain ⟨d, hnp⟩ := okE.d hE 3 rfl (by decide)
    subst hnp
    simp only [step] at hs
    split at hs
    · rename_i ci k hv
      obtain ⟨hw, hq⟩ := hcp _ _ hv
      simp only [rB, Bool.and_eq_true, decide_eq_true_eq] at hq
      obtain ⟨g1, g2, -, -, -⟩ := clOK ci hq.1
      obtain ⟨a, r, rfl, h⟩ := sA.inv hs
      obtain ⟨fs, v, ha, hv2, h⟩ := h
      exact va_get hx hb hts g2 hown hKn.1 (hr.one ha) 0 rfl g1 k hq.2 (hts _ (hw _ List.mem_cons_self)) (fun _ h9 => h9) hv2 d (hK _ _ _ _ _ h ls H locs hl hr hL)
    · exact hs.elim
  | putfield i =>
    obtain ⟨d, hnp⟩ := okE.d hE 3 rfl (by decide)
    subst hnp
    simp only [step] at hs
    split at hs
    · rename_i ci k hv
      obtain ⟨hw, hq⟩ := hcp _ _ hv
      simp only [rB, Bool.and_eq_true, decide_eq_true_eq] at hq
      obtain ⟨g1, g2, g3, g4, g5⟩ := clOK ci hq.1
      obtain ⟨hf, hs⟩ := hs
      obtain ⟨v, r, rfl, hc, h⟩ := s1.inv hs
      obtain ⟨a, r, rfl, h⟩ := sA.inv h
      obtain ⟨fs, ha, hlt, hn, hft, h⟩ := h
      refine r_put hx hb hts g2 (mFt ci) g3 g4 hown hKn.1 hr ha g1 k hq.2 (hts _ (hw _ List.mem_cons_self)) ?_ hn hft hlt d (fun H1 L hLb hr1 => hK _ _ _ _ _ h ls H1 _ hl hr1 (m_locs hL hLb ha.1))
      rcases hf with hf | ⟨hf, hi, hci⟩
      · exact Or.inl hf
      · refine Or.inr ⟨hf, hini hi, ?_⟩
        rw [g5 k hq.2, hci]
        exact hrn
    · exact hs.elim
  | getstatic i =>
    obtain ⟨d, hnp⟩ := okE.d hE 3 rfl (by decide)
    subst hnp
    simp only [step] at hs
    split at hs
    · rename_i hv
      have hw := (hcp _ _ hv).1
      exact r_gets hx hb hKn.2.2.1 hr hown (hts _ (hw _ List.mem_cons_self)) d (hK _ _ _ _ _ hs ls H locs hl hr hL)
    · rename_i hv
      have hw := (hcp _ _ hv).1
      exact r_gets hx hb hKn.2.2.2.1 hr hown (hts _ (hw _ List.mem_cons_self)) d (hK _ _ _ _ _ hs ls H locs hl hr hL)
    · exact hs.elim
  | iaload =>
    obtain ⟨d, hnp⟩ := okE.d hE 1 rfl (by decide)
    subst hnp
    obtain ⟨i, r, rfl, h⟩ := sI.inv hs
    obtain ⟨a, r, rfl, h⟩ := sA.inv h
    rcases h with ⟨n, f, ha, hi, h⟩ | ⟨j, hj, rfl, hi, h⟩
    · exact va_iald hx hb hKn.1 (hr.one ha) 0 0 rfl rfl hi d (hK _ _ _ _ _ h ls H locs hl hr hL)
    · exact r_xld hx hb (hKn.2.1 j hj).2 hr (hKn.2.1 j hj).1 hi d (hK _ _ _ _ _ h ls H locs hl hr hL)
  | baload =>
    obtain ⟨d, hnp⟩ := okE.d hE 1 rfl (by decide)
    subst hnp
    obtain ⟨i, r, rfl, h⟩ := sI.inv hs
    obtain ⟨a, r, rfl, h⟩ := sA.inv h
    obtain ⟨n, f, ha, hi, h⟩ := h
    exact va_bald hx hb hKn.1 (hr.one ha) 0 1 rfl rfl hi d (hK _ _ _ _ _ h ls H locs hl hr hL)
  | aaload =>
    obtain ⟨d, hnp⟩ := okE.d hE 1 rfl (by decide)
    subst hnp
    obtain ⟨i, r, rfl, h⟩ := sI.inv hs
    obtain ⟨a, r, rfl, h⟩ := sA.inv h
    obtain ⟨t, n, f, ht, ha, hi, h⟩ := h
    have ht2 : ∃ ty, (mTys G)[t]? = some (G.2.1 t, ty) ∧ ty.isReference = true := by
      rcases (show t = 2 ∨ t = 3 ∨ t = 4 ∨ t = 5 ∨ t = 6 by omega) with rfl | rfl | rfl | rfl | rfl <;> exact ⟨_, rfl, rfl⟩
    obtain ⟨ty, ht3, ht4⟩ := ht2
    exact r_aald hx hb hKn.1 hr ht3 ht4 ha hi d (hK _ _ _ _ _ h ls H locs hl hr hL)
  | iastore =>
    obtain ⟨d, hnp⟩ := okE.d hE 1 rfl (by decide)
    subst hnp
    obtain ⟨x, r, rfl, h⟩ := sI.inv hs
    obtain ⟨i, r, rfl, h⟩ := sI.inv h
    obtain ⟨a, r, rfl, h⟩ := sA.inv h
    obtain ⟨n, f, ha, hi, h⟩ := h
    exact r_iast hx hb hKn.1 hr ha hi d (fun H1 L hLb hr1 => hK _ _ _ _ _ h ls H1 _ hl hr1 (m_locs hL hLb ha.1))
  | bastore =>
    obtain ⟨d, hnp⟩ := okE.d hE 1 rfl (by decide)
    subst hnp
    obtain ⟨x, r, rfl, h⟩ := sI.inv hs
    obtain ⟨i, r, rfl, h⟩ := sI.inv h
    obtain ⟨a, r, rfl, h⟩ := sA.inv h
    obtain ⟨n, f, ha, hi, h⟩ := h
    exact r_bast hx hb hKn.1 hr ha hi d (fun H1 L hLb hr1 => hK _ _ _ _ _ h ls H1 _ hl hr1 (m_locs hL hLb ha.1))
  | aastore =>
    obtain ⟨d, hnp⟩ := okE.d hE 1 rfl (by decide)
    subst hnp
    obtain ⟨v, r, rfl, h⟩ := sA.inv hs
    obtain ⟨i, r, rfl, h⟩ := sI.inv h
    obtain ⟨a, r, rfl, h⟩ := sA.inv h
    obtain ⟨t, n, f, ci, r0, vs, ht, ha, hv, hi, h⟩ := h
    have ht2 : (mTys G)[t]? = some (G.2.1 t, .object r0.1) ∧ vwCl[ci]? = some r0 := by
      unfold mEl at ht
      split at ht <;> first | (cases ht; exact ⟨rfl, rfl⟩) | cases ht
    exact r_aast hx hb hKn.1 hr ht2.1 ht2.2 ha hv hi d (fun H1 L hLb hr1 => hK _ _ _ _ _ h ls H1 _ hl hr1 (m_locs hL hLb ha.1))
  | arraylength =>
    obtain ⟨d, hnp⟩ := okE.d hE 1 rfl (by decide)
    subst hnp
    obtain ⟨a, r, rfl, h⟩ := sA.inv hs
    rcases h with ⟨t, n, x, ht, ha, h⟩ | ⟨j, hj, rfl, h⟩
    · have ht2 : ∃ ty, (mTys G)[t]? = some (G.2.1 t, ty) := by
        rcases (show t = 0 ∨ t = 1 ∨ t = 2 ∨ t = 3 ∨ t = 4 ∨ t = 5 ∨ t = 6 by omega) with rfl | rfl | rfl | rfl | rfl | rfl | rfl <;> exact ⟨_, rfl⟩
      obtain ⟨ty, ht3⟩ := ht2
      exact va_alen hx hb hKn.1 (hr.one ha) 0 t rfl ht3 rfl d (hK _ _ _ _ _ h ls H locs hl hr hL)
    · exact r_xlen hx hb (hKn.2.1 j hj).2 hr (hKn.2.1 j hj).1 d (hK _ _ _ _ _ h ls H locs hl hr hL)
  | invokevirtual i =>
    obtain ⟨d, hnp⟩ := okE.d hE 3 rfl (by decide)
    subst hnp
    simp only [step] at hs
    split at hs
    · rename_i q hv
      obtain ⟨hk0, hs⟩ := hs
      obtain ⟨hw, hq⟩ := hcp _ _ hv
      simp only [rB, hk0, qB, Bool.and_eq_true, decide_eq_true_eq] at hq
      simp only [rW, hk0] at hw
      obtain ⟨⟨hq1, hq2⟩, hq3⟩ := hq
      obtain ⟨as, r, hn, rfl, h⟩ := sArgs.inv hs
      obtain ⟨a, r, rfl, hrm, h⟩ := sA.inv h
      obtain ⟨⟨fs, ha⟩, rm, K0, hcon, hR, hC, h⟩ := h
      rw [List.append_nil] at hcon
      have hw1 : ∀ w : Cond, w ∈ _ → w.before args s = true := fun w h9 => hts w (hw w h9)
      refine m_after (va_runV (As := as) (rest := r) (C := q.2.1.cls) ⟨hx, hb, hml, hown, hts⟩ (hcon l) (ws := mWs q.2.1 q.2.2.1 q.2.2.2.1 q.2.2.2.2.1) (n := q.2.2.2.2.2.1) (bytes := q.2.2.1) (maxL := q.2.2.2.1) (ret := q.2.2.2.2.1) ⟨callB_of _ hts (mWs_good (hw _ (List.mem_of_getElem? (i := 4) rfl))) rfl rfl rfl (hw1 _ (List.mem_of_getElem? (i := 3) rfl)) (hw1 _ (List.mem_of_getElem? (i := 0) rfl)) hq1 hR, hw1 _ (List.mem_of_getElem? (i := 1) rfl), hw1 _ (List.mem_of_getElem? (i := 2) rfl)⟩ ⟨m_blind, ?_, fun U hU hW => ⟨rfl, by rw [hU]; exact hr, mK.moved hW hKn⟩⟩ rfl hn hl.1 rfl (lv_room hrm) d hC) hl hL rfl (fun v S9 h9 => hK _ _ _ _ _ (h v S9 h9))
      have g1 := (clOK q.2.2.2.2.2.2 hq2).1
      have h8 := va_recv hKn.1 (hr.one ha) g1 (q0 := 0) rfl
      rw [show (mRn q.2.2.2.2.2.2, mTb q.2.2.2.2.2.2, mN q.2.2.2.2.2.2).1 = q.2.1.cls from hq3] at h8
      exact h8
    · exact hs.elim
  | invokestatic i =>
    obtain ⟨d, hnp⟩ := okE.d hE 3 rfl (by decide)
    subst hnp
    simp only [step] at hs
    split at hs
    · rename_i q hv
      obtain ⟨hw, hq⟩ := hcp _ _ hv
      split at hs
      · rename_i hk0
        simp only [rB, hk0, qB, decide_eq_true_eq] at hq
        simp only [rW, hk0] at hw
        obtain ⟨as, r, hn, rfl, hrm, h⟩ := sArgs.inv hs
        obtain ⟨rm, K0, hcon, hR, hC, h⟩ := h
        rw [List.append_nil] at hcon
        have hw1 : ∀ w : Cond, w ∈ _ → w.before args s = true := fun w h9 => hts w (hw w h9)
        exact m_after (va_runS (As := as) (rest := r) ⟨hx, hb, hml, hown, hts⟩ (hcon l) (ws := mWs q.2.1 q.2.2.1 q.2.2.2.1 q.2.2.2.2.1) (n := q.2.2.2.2.2.1) (bytes := q.2.2.1) (maxL := q.2.2.2.1) (ret := q.2.2.2.2.1) ⟨callB_of _ hts (mWs_good (hw _ (List.mem_of_getElem? (i := 3) rfl))) rfl rfl rfl (hw1 _ (List.mem_of_getElem? (i := 2) rfl)) (hw1 _ (List.mem_of_getElem? (i := 0) rfl)) hq hR, hw1 _ (List.mem_of_getElem? (i := 1) rfl)⟩ ⟨m_blind, fun U hU hW => ⟨rfl, by rw [hU]; exact hr, mK.moved hW hKn⟩⟩ rfl hn hl.1 rfl (lv_room hrm) d hC) hl hL rfl (fun v S9 h9 => hK _ _ _ _ _ (h v S9 h9))
      · rename_i hk0
        simp only [rW, hk0] at hw
        have hw1 : ∀ w : Cond, w ∈ _ → w.before args s = true := fun w h9 => hts w (hw w h9)
        obtain ⟨n, r1, rfl, h1⟩ := sI.inv hs
        obtain ⟨dp, r2, rfl, h2⟩ := sI.inv h1
        obtain ⟨a, r3, rfl, h3⟩ := sA.inv h2
        obtain ⟨sp, r4, rfl, h4⟩ := sI.inv h3
        obtain ⟨a0, r, rfl, hrm, h⟩ := sA.inv h4
        obtain ⟨⟨z1, z2, z3⟩, hf, hlo, h⟩ := h
        have hlo2 : (r.map fun v => v.category).sum + (nativeFrameWords "java/lang/System" "arraycopy" 5 + 11) ≤ R.locals := by
          have h8 : nativeFrameWords "java/lang/System" "arraycopy" 5 ≤ 41 := by decide
          omega
        rcases h with ⟨n0, n1, f, g, ha0, ha1, h4, h5, hft, h⟩ | ⟨j, n1, g, hj, rfl, ha1, h4, h5, h⟩
        · refine r_copy hx hb (hml.trans hl.1.symm) hown (hw1 _ (List.mem_of_getElem? (i := 0) rfl)) (hw1 _ (List.mem_of_getElem? (i := 1) rfl)) (hw1 _ (List.mem_of_getElem? (i := 2) rfl)) (hw1 _ (List.mem_of_getElem? (i := 3) rfl)) hKn.1 hr (t1 := 1) (n0 := n0) (f := f) (ty := .byte) (hr.at ha0) ((hKn.1.2 1 (G.2.1 1, .byte) rfl).1 n0 (fun j => .int (f j))) (fun q => by cases q) (by show (arrV _ _ _).slots.size = _; rw [arrV_size]) (fun j hj => by show (arrV _ _ _).slots[_]? = _; rw [arrV_read _ _ hj]) ha1 rfl rfl z1 z2 z3 h4 h5 hft hf hlo2 d (fun H1 L hLb hr1 => hK _ _ _ _ _ h ls H1 _ hl hr1 (m_locsL hL (fun q hq9 => by rw [hLb q hq9]; exact ha1.1)))
        · obtain ⟨hlt, scr, x1, x2, x3, x4, x5⟩ := hKn.2.1 j hj
          refine r_copy hx hb (hml.trans hl.1.symm) hown (hw1 _ (List.mem_of_getElem? (i := 0) rfl)) (hw1 _ (List.mem_of_getElem? (i := 1) rfl)) (hw1 _ (List.mem_of_getElem? (i := 2) rfl)) (hw1 _ (List.mem_of_getElem? (i := 3) rfl)) hKn.1 hr (t1 := 0) (n0 := (G.2.2.2 j).2.1) (f := (G.2.2.2 j).2.2) (ty := .int) (src := scr) (by rw [hr.2.2.1 _ hlt]; exact x1) x2 x3 x4 x5 ha1 rfl rfl z1 z2 z3 h4 h5 (fun _ _ => rfl) hf hlo2 d (fun H1 L hLb hr1 => hK _ _ _ _ _ h ls H1 _ hl hr1 (m_locsL hL (fun q hq9 => by rw [hLb q hq9]; exact ha1.1)))
      · rename_i hk0
        simp only [rW, hk0] at hw
        have hw1 : ∀ w : Cond, w ∈ _ → w.before args s = true := fun w h9 => hts w (hw w h9)
        obtain ⟨y, r, rfl, h⟩ := sI.inv hs
        obtain ⟨x, r, rfl, hrm, ⟨hf, hlo, hc1, hc2⟩, h⟩ := sI.inv h
        exact va_mmax hx hb (hml.trans hl.1.symm) hown (hw1 _ (List.mem_of_getElem? (i := 0) rfl)) (hw1 _ (List.mem_of_getElem? (i := 1) rfl)) (hw1 _ (List.mem_of_getElem? (i := 2) rfl)) (hw1 _ (List.mem_of_getElem? (i := 3) rfl)) hf (by omega) hc1 hc2 d (hK _ _ _ _ _ h ls H locs hl hr hL)
      · exact hs.elim
    · exact hs.elim
  | invokespecial i =>
    obtain ⟨d, hnp⟩ := okE.d hE 3 rfl (by decide)
    subst hnp
    simp only [step] at hs
    split at hs
    · rename_i q hv
      obtain ⟨hw, hq⟩ := hcp _ _ hv
      split at hs
      · rename_i hk0
        simp only [rB, hk0, qB, Bool.and_eq_true, decide_eq_true_eq] at hq
        simp only [rW, hk0] at hw
        obtain ⟨⟨hq1, hq2⟩, hq3⟩ := hq
        obtain ⟨as, r, hn, rfl, h⟩ := sArgs.inv hs
        obtain ⟨a, r, rfl, hrm, h⟩ := sA.inv h
        obtain ⟨rm, K0, hcon, hR, hC, h⟩ := h
        rw [List.append_nil, hq3] at hcon
        have hw1 : ∀ w : Cond, w ∈ _ → w.before args s = true := fun w h9 => hts w (hw w h9)
        exact m_after (va_runI (As := as) (rest := r) ⟨hx, hb, hml, hown, hts⟩ (hcon l) (ws := mWs q.2.1 q.2.2.1 q.2.2.2.1 none) (n := q.2.2.2.2.2.1) (bytes := q.2.2.1) (maxL := q.2.2.2.1) ⟨callB_of _ hts (mWs_good (hw _ (List.mem_of_getElem? (i := 3) rfl))) rfl rfl rfl (hw1 _ (List.mem_of_getElem? (i := 2) rfl)) (hw1 _ (List.mem_of_getElem? (i := 0) rfl)) hq1 hR, hq2, hw1 _ (List.mem_of_getElem? (i := 1) rfl)⟩ ⟨m_blind, fun U hU hW => ⟨rfl, by rw [hU]; exact hr, mK.moved hW hKn⟩⟩ rfl hn hl.1 rfl (lv_room hrm) d hC) hl hL rfl (fun v S9 h9 => hK _ _ _ _ _ (h v S9 h9))
      · rename_i hk0
        simp only [rB, hk0, qB, Bool.and_eq_true, decide_eq_true_eq] at hq
        simp only [rW, hk0] at hw
        obtain ⟨⟨⟨⟨hq1, hq2⟩, hq3⟩, hq4⟩, hq5⟩ := hq
        obtain ⟨as, r, hn, rfl, h⟩ := sArgs.inv hs
        obtain ⟨a, r, rfl, hrm, h⟩ := sA.inv h
        obtain ⟨rm, K0, hcon, hR, hC, h⟩ := h
        rw [List.append_nil, hq3] at hcon
        have hw1 : ∀ w : Cond, w ∈ _ → w.before args s = true := fun w h9 => hts w (hw w h9)
        have hnw := hKn.2.2.2.2.1 _ hq4
        rw [hq5] at hown
        exact m_after (va_runIN (As := as) (rest := r) (host := RX7) ⟨hx, hb, hml, hown, hts⟩ (hcon l) (ws := mWs q.2.1 q.2.2.1 q.2.2.2.1 none) (n := q.2.2.2.2.2.1) (bytes := q.2.2.1) (maxL := q.2.2.2.1) ⟨va_cnB _ hts (mWs_good (hw _ (List.mem_of_getElem? (i := 2) rfl))) rfl rfl rfl hnw (hw1 _ (List.mem_of_getElem? (i := 1) rfl)) hq1 hR, hq2, hw1 _ (List.mem_of_getElem? (i := 0) rfl)⟩ ⟨m_blind, fun U hU hW => ⟨rfl, by rw [hU]; exact hr, mK.moved hW hKn⟩⟩ rfl hn hl.1 rfl (lv_room hrm) d hC) hl hL rfl (fun v S9 h9 => hK _ _ _ _ _ (h v S9 h9))
      · rename_i hk0
        simp only [rW, hk0] at hw
        have hw1 : ∀ w : Cond, w ∈ _ → w.before args s = true := fun w h9 => hts w (hw w h9)
        obtain ⟨a, r, rfl, hrm, ⟨hf, hlo⟩, h⟩ := sA.inv hs
        refine W.objInit hx hb hown (hw1 _ (List.mem_of_getElem? (i := 0) rfl)) (hw1 _ (List.mem_of_getElem? (i := 1) rfl)) (hw1 _ (List.mem_of_getElem? (i := 2) rfl)) rfl (by rw [hml]; exact hl.1) rfl d hf ?_ (W.eq (g2 := F0 m (pc + 3) ls r) rfl (hK _ _ _ _ _ h ls H locs hl hr hL))
        show 2 * 0 + _ + 12 ≤ _
        omega
      · exact hs.elim
    · exact hs.elim
  | new i =>
    obtain ⟨d, hnp⟩ := okE.d hE 3 rfl (by decide)
    subst hnp
    simp only [step] at hs
    split at hs
    · rename_i ci hv
      obtain ⟨hw, hq⟩ := hcp _ _ hv
      obtain ⟨hci, ⟨hc1, hc2⟩, h⟩ := hs
      obtain ⟨g1, g2, g3, g4, g5⟩ := clOK ci hci
      have e1 : rW I i (.inr (.inr (.inr (.inr ci)))) = [.classLink I.1.1 i (mRn ci), .instantiable (mRn ci) (mN ci), .initialized (mRn ci)] := by
        simp only [rW]
        rw [if_neg (by omega), if_neg (by omega)]
      rw [e1] at hw
      have hw1 : ∀ w : Cond, w ∈ _ → w.before args s = true := fun w h9 => hts w (hw w h9)
      exact r_new hx hb hts g2 (mFt ci) g3 hown (hw1 _ (List.mem_of_getElem? (i := 0) rfl)) (hw1 _ (List.mem_of_getElem? (i := 1) rfl)) (hw1 _ (List.mem_of_getElem? (i := 2) rfl)) hKn.1 hr g1 (mDef_ok ci) hc1 hc2 d (fun H1 hr1 => hK _ _ _ _ _ h ls H1 locs hl hr1 hL)
    · exact hs.elim
  | newarray at0 =>
    obtain ⟨d, hnp⟩ := okE.d hE 2 rfl (by decide)
    subst hnp
    cases at0 with
    | int =>
      obtain ⟨n, r, rfl, h⟩ := sI.inv hs
      obtain ⟨hn, hn2, ⟨hc1, hc2⟩, h⟩ := h
      exact r_newa (atype := .int) hx hb (hts _ acI) hKn.1 (t0 := 0) rfl (fun A h9 => h9) hr rfl hn rfl (by show _ * _ ≤ _; simp only [componentBytes, newarray.typeOf]; omega) hc1 hc2 d (fun H1 hr1 => hK _ _ _ _ _ h ls H1 locs hl hr1 hL)
    | byte =>
      obtain ⟨n, r, rfl, h⟩ := sI.inv hs
      obtain ⟨hn, hn2, ⟨hc1, hc2⟩, h⟩ := h
      exact r_newa (atype := .byte) hx hb (hts _ acB) hKn.1 (t0 := 1) rfl (fun A h9 => h9) hr rfl hn rfl (by show _ * _ ≤ _; simp only [componentBytes, newarray.typeOf]; omega) hc1 hc2 d (fun H1 hr1 => hK _ _ _ _ _ h ls H1 locs hl hr1 hL)
    | _ => exact False.elim hs
  | anewarray i =>
    obtain ⟨d, hnp⟩ := okE.d hE 3 rfl (by decide)
    subst hnp
    simp only [step] at hs
    split at hs
    · rename_i ci hv
      obtain ⟨hw, hq⟩ := hcp _ _ hv
      obtain ⟨hci, hs⟩ := hs
      obtain ⟨g1, g2, g3⟩ := mTo_lt hci
      have e1 : rW I i (.inr (.inr (.inr (.inr ci)))) = [.classLink I.1.1 i (mRn ci), .instantiable (mRn ci) (mN ci), .initialized (mRn ci)] := by
        simp only [rW]
        rw [if_neg (by omega), if_neg (by omega)]
      rw [e1] at hw
      have hw1 : ∀ w : Cond, w ∈ _ → w.before args s = true := fun w h9 => hts w (hw w h9)
      obtain ⟨n, r, rfl, h⟩ := sI.inv hs
      obtain ⟨hn, hn2, ⟨hc1, hc2⟩, h⟩ := h
      exact r_newq hx hb hown (hw1 _ (List.mem_of_getElem? (i := 0) rfl)) (hKn.2.2.2.2.2.1 _ g2) hKn.1 (g3 G) hr hn rfl (by omega) hc1 hc2 d (fun H1 hr1 => hK _ _ _ _ _ h ls H1 locs hl hr1 hL)
    · exact hs.elim
  | ireturn =>
    obtain ⟨d, hnp⟩ := okE.d hE 1 rfl (by decide)
    subst hnp
    obtain ⟨x, r, rfl, h⟩ := sI.inv hs
    obtain ⟨rfl, h⟩ := s0.inv h
    obtain ⟨hcs, ⟨ty, ht, hn⟩, h⟩ := h
    exact W.widen hcs.1 hcs.2 (W.zret hx hb (hret.trans ht) hn (fun t ht9 hW9 => ⟨_, S, rfl, h, by rw [ht9]; exact hr⟩) hL d hlocks)
  | areturn =>
    obtain ⟨d, hnp⟩ := okE.d hE 1 rfl (by decide)
    subst hnp
    simp only [step] at hs
    obtain ⟨v, r, rfl, hv, h⟩ := sQ.inv hs
    obtain ⟨rfl, h⟩ := s0.inv h
    obtain ⟨hcs, hty, h⟩ := h
    have hty2 : ∃ ty, I.2.2.2 = some ty ∧ ((∃ n, ty = .object n) ∨ ∃ t, ty = .array t) := by
      rcases hv with rfl | ⟨a, rfl⟩ <;> exact hty
    obtain ⟨ty, ht, hty3⟩ := hty2
    exact W.widen hcs.1 hcs.2 (W.aret hx hb (hret.trans ht) hty3 hv (fun t ht9 hW9 => ⟨_, S, rfl, h, by rw [ht9]; exact hr⟩) hL d hlocks)
  | return_ =>
    obtain ⟨d, hnp⟩ := okE.d hE 1 rfl (by decide)
    subst hnp
    obtain ⟨rfl, h⟩ := s0.inv hs
    obtain ⟨hcs, ht, h⟩ := h
    exact W.widen hcs.1 hcs.2 (W.vret hx hb (hret.trans ht) (fun t ht9 hW9 => ⟨_, S, rfl, h, by rw [ht9]; exact hr⟩) hL d hlocks)
  | _ => exact False.elim hs
end SND
end
