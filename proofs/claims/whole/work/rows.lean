section
/-- a private method of a class that the tables say can be made, by its rows of tables_1 -/
def lw_okq (q : MethodName × Nat) : Prop := (q.1.cls ≠ "java/lang/invoke/MethodHandle" ∧ q.1.cls ≠ "java/lang/invoke/VarHandle") ∧ Cond.instantiable q.1.cls q.2 ∈ tables_1 ∧ Cond.privateMethod q.1 ∈ tables_1 ∧ Cond.instanceMethod q.1 ∈ tables_1
theorem lw_p0 : lw_okq (⟨"BoxCourt$History", "stateAt", "(I)LBoxCourt$Tree;"⟩, 3) := ⟨⟨by decide +kernel, by decide +kernel⟩, List.mem_of_getElem? (i := 151) (by decide +kernel), List.mem_of_getElem? (i := 266) (by decide +kernel), List.mem_of_getElem? (i := 267) (by decide +kernel)⟩
theorem lw_p1 : lw_okq (⟨"BoxCourt$Change", "insert", "(II)V"⟩, 12) := ⟨⟨by decide +kernel, by decide +kernel⟩, List.mem_of_getElem? (i := 107) (by decide +kernel), List.mem_of_getElem? (i := 288) (by decide +kernel), List.mem_of_getElem? (i := 289) (by decide +kernel)⟩
theorem lw_p2 : lw_okq (⟨"BoxCourt$Change", "await", "(II)V"⟩, 12) := ⟨⟨by decide +kernel, by decide +kernel⟩, List.mem_of_getElem? (i := 107) (by decide +kernel), List.mem_of_getElem? (i := 292) (by decide +kernel), List.mem_of_getElem? (i := 293) (by decide +kernel)⟩
theorem lw_p3 : lw_okq (⟨"BoxCourt$Tree", "leastGreater", "(II)I"⟩, 11) := ⟨⟨by decide +kernel, by decide +kernel⟩, List.mem_of_getElem? (i := 23) (by decide +kernel), List.mem_of_getElem? (i := 306) (by decide +kernel), List.mem_of_getElem? (i := 307) (by decide +kernel)⟩
theorem lw_p4 : lw_okq (⟨"BoxCourt$Change", "courtIsDue", "(I)Z"⟩, 12) := ⟨⟨by decide +kernel, by decide +kernel⟩, List.mem_of_getElem? (i := 107) (by decide +kernel), List.mem_of_getElem? (i := 348) (by decide +kernel), List.mem_of_getElem? (i := 349) (by decide +kernel)⟩
theorem lw_p5 : lw_okq (⟨"BoxCourt$Change", "holdCourt", "(I)I"⟩, 12) := ⟨⟨by decide +kernel, by decide +kernel⟩, List.mem_of_getElem? (i := 107) (by decide +kernel), List.mem_of_getElem? (i := 353) (by decide +kernel), List.mem_of_getElem? (i := 354) (by decide +kernel)⟩
theorem lw_p6 : lw_okq (⟨"BoxCourt$Change", "farthest", "(II)I"⟩, 12) := ⟨⟨by decide +kernel, by decide +kernel⟩, List.mem_of_getElem? (i := 107) (by decide +kernel), List.mem_of_getElem? (i := 357) (by decide +kernel), List.mem_of_getElem? (i := 358) (by decide +kernel)⟩
theorem lw_p7 : lw_okq (⟨"BoxCourt$Survey", "lookFrom", "(I)V"⟩, 3) := ⟨⟨by decide +kernel, by decide +kernel⟩, List.mem_of_getElem? (i := 91) (by decide +kernel), List.mem_of_getElem? (i := 369) (by decide +kernel), List.mem_of_getElem? (i := 370) (by decide +kernel)⟩
theorem lw_p8 : lw_okq (⟨"BoxCourt$Survey", "note", "(I)V"⟩, 3) := ⟨⟨by decide +kernel, by decide +kernel⟩, List.mem_of_getElem? (i := 91) (by decide +kernel), List.mem_of_getElem? (i := 373) (by decide +kernel), List.mem_of_getElem? (i := 374) (by decide +kernel)⟩
theorem lw_p9 : lw_okq (⟨"BoxCourt$Survey", "levelSeen", "(I)I"⟩, 3) := ⟨⟨by decide +kernel, by decide +kernel⟩, List.mem_of_getElem? (i := 91) (by decide +kernel), List.mem_of_getElem? (i := 382) (by decide +kernel), List.mem_of_getElem? (i := 383) (by decide +kernel)⟩
theorem lw_p10 : lw_okq (⟨"BoxCourt$Survey", "nodeSeen", "(I)I"⟩, 3) := ⟨⟨by decide +kernel, by decide +kernel⟩, List.mem_of_getElem? (i := 91) (by decide +kernel), List.mem_of_getElem? (i := 386) (by decide +kernel), List.mem_of_getElem? (i := 387) (by decide +kernel)⟩
theorem lw_p11 : lw_okq (⟨"BoxCourt$Change", "noteCourt", "(II)V"⟩, 12) := ⟨⟨by decide +kernel, by decide +kernel⟩, List.mem_of_getElem? (i := 107) (by decide +kernel), List.mem_of_getElem? (i := 390) (by decide +kernel), List.mem_of_getElem? (i := 391) (by decide +kernel)⟩
theorem lw_p12 : lw_okq (⟨"BoxCourt$Change", "split", "(I)I"⟩, 12) := ⟨⟨by decide +kernel, by decide +kernel⟩, List.mem_of_getElem? (i := 107) (by decide +kernel), List.mem_of_getElem? (i := 400) (by decide +kernel), List.mem_of_getElem? (i := 401) (by decide +kernel)⟩
theorem lw_p13 : lw_okq (⟨"BoxCourt$Change", "bestWay", "(I)I"⟩, 12) := ⟨⟨by decide +kernel, by decide +kernel⟩, List.mem_of_getElem? (i := 107) (by decide +kernel), List.mem_of_getElem? (i := 404) (by decide +kernel), List.mem_of_getElem? (i := 405) (by decide +kernel)⟩
theorem lw_p14 : lw_okq (⟨"BoxCourt$Change", "arrange", "(II)V"⟩, 12) := ⟨⟨by decide +kernel, by decide +kernel⟩, List.mem_of_getElem? (i := 107) (by decide +kernel), List.mem_of_getElem? (i := 411) (by decide +kernel), List.mem_of_getElem? (i := 412) (by decide +kernel)⟩
theorem lw_p15 : lw_okq (⟨"BoxCourt$Change", "hullOfPart", "(II)I"⟩, 12) := ⟨⟨by decide +kernel, by decide +kernel⟩, List.mem_of_getElem? (i := 107) (by decide +kernel), List.mem_of_getElem? (i := 421) (by decide +kernel), List.mem_of_getElem? (i := 422) (by decide +kernel)⟩
def lw_privs_1 : List (MethodName × Nat) := [(⟨"BoxCourt$History", "stateAt", "(I)LBoxCourt$Tree;"⟩, 3), (⟨"BoxCourt$Change", "insert", "(II)V"⟩, 12), (⟨"BoxCourt$Change", "await", "(II)V"⟩, 12), (⟨"BoxCourt$Tree", "leastGreater", "(II)I"⟩, 11), (⟨"BoxCourt$Change", "courtIsDue", "(I)Z"⟩, 12), (⟨"BoxCourt$Change", "holdCourt", "(I)I"⟩, 12), (⟨"BoxCourt$Change", "farthest", "(II)I"⟩, 12), (⟨"BoxCourt$Survey", "lookFrom", "(I)V"⟩, 3), (⟨"BoxCourt$Survey", "note", "(I)V"⟩, 3), (⟨"BoxCourt$Survey", "levelSeen", "(I)I"⟩, 3), (⟨"BoxCourt$Survey", "nodeSeen", "(I)I"⟩, 3), (⟨"BoxCourt$Change", "noteCourt", "(II)V"⟩, 12), (⟨"BoxCourt$Change", "split", "(I)I"⟩, 12), (⟨"BoxCourt$Change", "bestWay", "(I)I"⟩, 12), (⟨"BoxCourt$Change", "arrange", "(II)V"⟩, 12), (⟨"BoxCourt$Change", "hullOfPart", "(II)I"⟩, 12)]
theorem lw_r1 : ∀ q ∈ lw_privs_1, lw_okq q := List.forall_mem_cons.mpr ⟨lw_p0, List.forall_mem_cons.mpr ⟨lw_p1, List.forall_mem_cons.mpr ⟨lw_p2, List.forall_mem_cons.mpr ⟨lw_p3, List.forall_mem_cons.mpr ⟨lw_p4, List.forall_mem_cons.mpr ⟨lw_p5, List.forall_mem_cons.mpr ⟨lw_p6, List.forall_mem_cons.mpr ⟨lw_p7, List.forall_mem_cons.mpr ⟨lw_p8, List.forall_mem_cons.mpr ⟨lw_p9, List.forall_mem_cons.mpr ⟨lw_p10, List.forall_mem_cons.mpr ⟨lw_p11, List.forall_mem_cons.mpr ⟨lw_p12, List.forall_mem_cons.mpr ⟨lw_p13, List.forall_mem_cons.mpr ⟨lw_p14, List.forall_mem_cons.mpr ⟨lw_p15, fun _ h => absurd h List.not_mem_nil⟩⟩⟩⟩⟩⟩⟩⟩⟩⟩⟩⟩⟩⟩⟩⟩
theorem lw_p16 : lw_okq (⟨"BoxCourt$Change", "dissolveFrom", "(I)V"⟩, 12) := ⟨⟨by decide +kernel, by decide +kernel⟩, List.mem_of_getElem? (i := 107) (by decide +kernel), List.mem_of_getElem? (i := 465) (by decide +kernel), List.mem_of_getElem? (i := 466) (by decide +kernel)⟩
theorem lw_p17 : lw_okq (⟨"BoxCourt$Survey", "hullSeen", "(I)I"⟩, 3) := ⟨⟨by decide +kernel, by decide +kernel⟩, List.mem_of_getElem? (i := 91) (by decide +kernel), List.mem_of_getElem? (i := 515) (by decide +kernel), List.mem_of_getElem? (i := 516) (by decide +kernel)⟩
theorem lw_p18 : lw_okq (⟨"BoxCourt", "boxOfRank", "(III)I"⟩, 9) := ⟨⟨by decide +kernel, by decide +kernel⟩, List.mem_of_getElem? (i := 15) (by decide +kernel), List.mem_of_getElem? (i := 555) (by decide +kernel), List.mem_of_getElem? (i := 556) (by decide +kernel)⟩
theorem lw_p19 : lw_okq (⟨"BoxCourt", "ranksAhead", "(I)I"⟩, 9) := ⟨⟨by decide +kernel, by decide +kernel⟩, List.mem_of_getElem? (i := 15) (by decide +kernel), List.mem_of_getElem? (i := 564) (by decide +kernel), List.mem_of_getElem? (i := 565) (by decide +kernel)⟩
theorem lw_p20 : lw_okq (⟨"BoxCourt$Orders", "reasonAgainst", "(II)I"⟩, 9) := ⟨⟨by decide +kernel, by decide +kernel⟩, List.mem_of_getElem? (i := 171) (by decide +kernel), List.mem_of_getElem? (i := 645) (by decide +kernel), List.mem_of_getElem? (i := 646) (by decide +kernel)⟩
theorem lw_p21 : lw_okq (⟨"BoxCourt$Orders", "signIs", "(I)Z"⟩, 9) := ⟨⟨by decide +kernel, by decide +kernel⟩, List.mem_of_getElem? (i := 171) (by decide +kernel), List.mem_of_getElem? (i := 653) (by decide +kernel), List.mem_of_getElem? (i := 654) (by decide +kernel)⟩
theorem lw_p22 : lw_okq (⟨"BoxCourt$Orders", "readNumber", "(I)Z"⟩, 9) := ⟨⟨by decide +kernel, by decide +kernel⟩, List.mem_of_getElem? (i := 171) (by decide +kernel), List.mem_of_getElem? (i := 658) (by decide +kernel), List.mem_of_getElem? (i := 659) (by decide +kernel)⟩
theorem lw_p23 : lw_okq (⟨"BoxCourt$Orders", "signIsDigit", "()Z"⟩, 9) := ⟨⟨by decide +kernel, by decide +kernel⟩, List.mem_of_getElem? (i := 171) (by decide +kernel), List.mem_of_getElem? (i := 662) (by decide +kernel), List.mem_of_getElem? (i := 663) (by decide +kernel)⟩
theorem lw_p24 : lw_okq (⟨"BoxCourt$Orders", "wrongNumber", "()I"⟩, 9) := ⟨⟨by decide +kernel, by decide +kernel⟩, List.mem_of_getElem? (i := 171) (by decide +kernel), List.mem_of_getElem? (i := 666) (by decide +kernel), List.mem_of_getElem? (i := 667) (by decide +kernel)⟩
theorem lw_p25 : lw_okq (⟨"BoxCourtModel", "isThere", "(I)Z"⟩, 34) := ⟨⟨by decide +kernel, by decide +kernel⟩, List.mem_of_getElem? (i := 680) (by decide +kernel), List.mem_of_getElem? (i := 808) (by decide +kernel), List.mem_of_getElem? (i := 809) (by decide +kernel)⟩
theorem lw_p26 : lw_okq (⟨"BoxCourtModel", "copy", "()V"⟩, 34) := ⟨⟨by decide +kernel, by decide +kernel⟩, List.mem_of_getElem? (i := 680) (by decide +kernel), List.mem_of_getElem? (i := 812) (by decide +kernel), List.mem_of_getElem? (i := 813) (by decide +kernel)⟩
theorem lw_p27 : lw_okq (⟨"BoxCourtModel", "record", "()V"⟩, 34) := ⟨⟨by decide +kernel, by decide +kernel⟩, List.mem_of_getElem? (i := 680) (by decide +kernel), List.mem_of_getElem? (i := 816) (by decide +kernel), List.mem_of_getElem? (i := 817) (by decide +kernel)⟩
theorem lw_p28 : lw_okq (⟨"BoxCourtModel", "putsBox", "(IIIII)V"⟩, 34) := ⟨⟨by decide +kernel, by decide +kernel⟩, List.mem_of_getElem? (i := 680) (by decide +kernel), List.mem_of_getElem? (i := 820) (by decide +kernel), List.mem_of_getElem? (i := 821) (by decide +kernel)⟩
theorem lw_p29 : lw_okq (⟨"BoxCourtModel", "insertion", "(II)V"⟩, 34) := ⟨⟨by decide +kernel, by decide +kernel⟩, List.mem_of_getElem? (i := 680) (by decide +kernel), List.mem_of_getElem? (i := 824) (by decide +kernel), List.mem_of_getElem? (i := 825) (by decide +kernel)⟩
theorem lw_p30 : lw_okq (⟨"BoxCourtModel", "waits", "(II)V"⟩, 34) := ⟨⟨by decide +kernel, by decide +kernel⟩, List.mem_of_getElem? (i := 680) (by decide +kernel), List.mem_of_getElem? (i := 828) (by decide +kernel), List.mem_of_getElem? (i := 829) (by decide +kernel)⟩
theorem lw_p31 : lw_okq (⟨"BoxCourtModel", "comes", "(II)V"⟩, 34) := ⟨⟨by decide +kernel, by decide +kernel⟩, List.mem_of_getElem? (i := 680) (by decide +kernel), List.mem_of_getElem? (i := 832) (by decide +kernel), List.mem_of_getElem? (i := 833) (by decide +kernel)⟩
def lw_privs_2 : List (MethodName × Nat) := [(⟨"BoxCourt$Change", "dissolveFrom", "(I)V"⟩, 12), (⟨"BoxCourt$Survey", "hullSeen", "(I)I"⟩, 3), (⟨"BoxCourt", "boxOfRank", "(III)I"⟩, 9), (⟨"BoxCourt", "ranksAhead", "(I)I"⟩, 9), (⟨"BoxCourt$Orders", "reasonAgainst", "(II)I"⟩, 9), (⟨"BoxCourt$Orders", "signIs", "(I)Z"⟩, 9), (⟨"BoxCourt$Orders", "readNumber", "(I)Z"⟩, 9), (⟨"BoxCourt$Orders", "signIsDigit", "()Z"⟩, 9), (⟨"BoxCourt$Orders", "wrongNumber", "()I"⟩, 9), (⟨"BoxCourtModel", "isThere", "(I)Z"⟩, 34), (⟨"BoxCourtModel", "copy", "()V"⟩, 34), (⟨"BoxCourtModel", "record", "()V"⟩, 34), (⟨"BoxCourtModel", "putsBox", "(IIIII)V"⟩, 34), (⟨"BoxCourtModel", "insertion", "(II)V"⟩, 34), (⟨"BoxCourtModel", "waits", "(II)V"⟩, 34), (⟨"BoxCourtModel", "comes", "(II)V"⟩, 34)]
theorem lw_r2 : ∀ q ∈ lw_privs_2, lw_okq q := List.forall_mem_cons.mpr ⟨lw_p16, List.forall_mem_cons.mpr ⟨lw_p17, List.forall_mem_cons.mpr ⟨lw_p18, List.forall_mem_cons.mpr ⟨lw_p19, List.forall_mem_cons.mpr ⟨lw_p20, List.forall_mem_cons.mpr ⟨lw_p21, List.forall_mem_cons.mpr ⟨lw_p22, List.forall_mem_cons.mpr ⟨lw_p23, List.forall_mem_cons.mpr ⟨lw_p24, List.forall_mem_cons.mpr ⟨lw_p25, List.forall_mem_cons.mpr ⟨lw_p26, List.forall_mem_cons.mpr ⟨lw_p27, List.forall_mem_cons.mpr ⟨lw_p28, List.forall_mem_cons.mpr ⟨lw_p29, List.forall_mem_cons.mpr ⟨lw_p30, List.forall_mem_cons.mpr ⟨lw_p31, fun _ h => absurd h List.not_mem_nil⟩⟩⟩⟩⟩⟩⟩⟩⟩⟩⟩⟩⟩⟩⟩⟩
theorem lw_p32 : lw_okq (⟨"BoxCourtModel", "lay", "()V"⟩, 34) := ⟨⟨by decide +kernel, by decide +kernel⟩, List.mem_of_getElem? (i := 680) (by decide +kernel), List.mem_of_getElem? (i := 836) (by decide +kernel), List.mem_of_getElem? (i := 837) (by decide +kernel)⟩
theorem lw_p33 : lw_okq (⟨"BoxCourtModel", "levelOf", "(I)I"⟩, 34) := ⟨⟨by decide +kernel, by decide +kernel⟩, List.mem_of_getElem? (i := 680) (by decide +kernel), List.mem_of_getElem? (i := 840) (by decide +kernel), List.mem_of_getElem? (i := 841) (by decide +kernel)⟩
theorem lw_p34 : lw_okq (⟨"BoxCourtModel", "layNode", "(I)V"⟩, 34) := ⟨⟨by decide +kernel, by decide +kernel⟩, List.mem_of_getElem? (i := 680) (by decide +kernel), List.mem_of_getElem? (i := 844) (by decide +kernel), List.mem_of_getElem? (i := 845) (by decide +kernel)⟩
theorem lw_p35 : lw_okq (⟨"BoxCourtModel", "manyOf", "(I)I"⟩, 34) := ⟨⟨by decide +kernel, by decide +kernel⟩, List.mem_of_getElem? (i := 680) (by decide +kernel), List.mem_of_getElem? (i := 848) (by decide +kernel), List.mem_of_getElem? (i := 849) (by decide +kernel)⟩
theorem lw_p36 : lw_okq (⟨"BoxCourtModel", "thing", "(II)I"⟩, 34) := ⟨⟨by decide +kernel, by decide +kernel⟩, List.mem_of_getElem? (i := 680) (by decide +kernel), List.mem_of_getElem? (i := 852) (by decide +kernel), List.mem_of_getElem? (i := 853) (by decide +kernel)⟩
theorem lw_p37 : lw_okq (⟨"BoxCourtModel", "side", "(III)I"⟩, 34) := ⟨⟨by decide +kernel, by decide +kernel⟩, List.mem_of_getElem? (i := 680) (by decide +kernel), List.mem_of_getElem? (i := 856) (by decide +kernel), List.mem_of_getElem? (i := 857) (by decide +kernel)⟩
theorem lw_p38 : lw_okq (⟨"BoxCourtModel", "wayOn", "(III)I"⟩, 34) := ⟨⟨by decide +kernel, by decide +kernel⟩, List.mem_of_getElem? (i := 680) (by decide +kernel), List.mem_of_getElem? (i := 866) (by decide +kernel), List.mem_of_getElem? (i := 867) (by decide +kernel)⟩
theorem lw_p39 : lw_okq (⟨"BoxCourtModel", "takes", "([III)V"⟩, 34) := ⟨⟨by decide +kernel, by decide +kernel⟩, List.mem_of_getElem? (i := 680) (by decide +kernel), List.mem_of_getElem? (i := 870) (by decide +kernel), List.mem_of_getElem? (i := 871) (by decide +kernel)⟩
theorem lw_p40 : lw_okq (⟨"BoxCourtModel", "widens", "([III)V"⟩, 34) := ⟨⟨by decide +kernel, by decide +kernel⟩, List.mem_of_getElem? (i := 680) (by decide +kernel), List.mem_of_getElem? (i := 877) (by decide +kernel), List.mem_of_getElem? (i := 878) (by decide +kernel)⟩
theorem lw_p41 : lw_okq (⟨"BoxCourtModel", "puts", "(III)V"⟩, 34) := ⟨⟨by decide +kernel, by decide +kernel⟩, List.mem_of_getElem? (i := 680) (by decide +kernel), List.mem_of_getElem? (i := 881) (by decide +kernel), List.mem_of_getElem? (i := 882) (by decide +kernel)⟩
theorem lw_p42 : lw_okq (⟨"BoxCourtModel", "court", "(I)V"⟩, 34) := ⟨⟨by decide +kernel, by decide +kernel⟩, List.mem_of_getElem? (i := 680) (by decide +kernel), List.mem_of_getElem? (i := 885) (by decide +kernel), List.mem_of_getElem? (i := 886) (by decide +kernel)⟩
theorem lw_p43 : lw_okq (⟨"BoxCourtModel", "farthest", "(II)I"⟩, 34) := ⟨⟨by decide +kernel, by decide +kernel⟩, List.mem_of_getElem? (i := 680) (by decide +kernel), List.mem_of_getElem? (i := 889) (by decide +kernel), List.mem_of_getElem? (i := 890) (by decide +kernel)⟩
theorem lw_p44 : lw_okq (⟨"BoxCourtModel", "farOf", "(II)I"⟩, 34) := ⟨⟨by decide +kernel, by decide +kernel⟩, List.mem_of_getElem? (i := 680) (by decide +kernel), List.mem_of_getElem? (i := 893) (by decide +kernel), List.mem_of_getElem? (i := 894) (by decide +kernel)⟩
theorem lw_p45 : lw_okq (⟨"BoxCourtModel", "drops", "(II)V"⟩, 34) := ⟨⟨by decide +kernel, by decide +kernel⟩, List.mem_of_getElem? (i := 680) (by decide +kernel), List.mem_of_getElem? (i := 897) (by decide +kernel), List.mem_of_getElem? (i := 898) (by decide +kernel)⟩
theorem lw_p46 : lw_okq (⟨"BoxCourtModel", "splits", "(I)I"⟩, 34) := ⟨⟨by decide +kernel, by decide +kernel⟩, List.mem_of_getElem? (i := 680) (by decide +kernel), List.mem_of_getElem? (i := 901) (by decide +kernel), List.mem_of_getElem? (i := 902) (by decide +kernel)⟩
theorem lw_p47 : lw_okq (⟨"BoxCourtModel", "sorts", "(II)V"⟩, 34) := ⟨⟨by decide +kernel, by decide +kernel⟩, List.mem_of_getElem? (i := 680) (by decide +kernel), List.mem_of_getElem? (i := 905) (by decide +kernel), List.mem_of_getElem? (i := 906) (by decide +kernel)⟩
def lw_privs_3 : List (MethodName × Nat) := [(⟨"BoxCourtModel", "lay", "()V"⟩, 34), (⟨"BoxCourtModel", "levelOf", "(I)I"⟩, 34), (⟨"BoxCourtModel", "layNode", "(I)V"⟩, 34), (⟨"BoxCourtModel", "manyOf", "(I)I"⟩, 34), (⟨"BoxCourtModel", "thing", "(II)I"⟩, 34), (⟨"BoxCourtModel", "side", "(III)I"⟩, 34), (⟨"BoxCourtModel", "wayOn", "(III)I"⟩, 34), (⟨"BoxCourtModel", "takes", "([III)V"⟩, 34), (⟨"BoxCourtModel", "widens", "([III)V"⟩, 34), (⟨"BoxCourtModel", "puts", "(III)V"⟩, 34), (⟨"BoxCourtModel", "court", "(I)V"⟩, 34), (⟨"BoxCourtModel", "farthest", "(II)I"⟩, 34), (⟨"BoxCourtModel", "farOf", "(II)I"⟩, 34), (⟨"BoxCourtModel", "drops", "(II)V"⟩, 34), (⟨"BoxCourtModel", "splits", "(I)I"⟩, 34), (⟨"BoxCourtModel", "sorts", "(II)V"⟩, 34)]
theorem lw_r3 : ∀ q ∈ lw_privs_3, lw_okq q := List.forall_mem_cons.mpr ⟨lw_p32, List.forall_mem_cons.mpr ⟨lw_p33, List.forall_mem_cons.mpr ⟨lw_p34, List.forall_mem_cons.mpr ⟨lw_p35, List.forall_mem_cons.mpr ⟨lw_p36, List.forall_mem_cons.mpr ⟨lw_p37, List.forall_mem_cons.mpr ⟨lw_p38, List.forall_mem_cons.mpr ⟨lw_p39, List.forall_mem_cons.mpr ⟨lw_p40, List.forall_mem_cons.mpr ⟨lw_p41, List.forall_mem_cons.mpr ⟨lw_p42, List.forall_mem_cons.mpr ⟨lw_p43, List.forall_mem_cons.mpr ⟨lw_p44, List.forall_mem_cons.mpr ⟨lw_p45, List.forall_mem_cons.mpr ⟨lw_p46, List.forall_mem_cons.mpr ⟨lw_p47, fun _ h => absurd h List.not_mem_nil⟩⟩⟩⟩⟩⟩⟩⟩⟩⟩⟩⟩⟩⟩⟩⟩
theorem lw_p48 : lw_okq (⟨"BoxCourtModel", "common", "()I"⟩, 34) := ⟨⟨by decide +kernel, by decide +kernel⟩, List.mem_of_getElem? (i := 680) (by decide +kernel), List.mem_of_getElem? (i := 909) (by decide +kernel), List.mem_of_getElem? (i := 910) (by decide +kernel)⟩
theorem lw_p49 : lw_okq (⟨"BoxCourtModel", "newNode", "(I)I"⟩, 34) := ⟨⟨by decide +kernel, by decide +kernel⟩, List.mem_of_getElem? (i := 680) (by decide +kernel), List.mem_of_getElem? (i := 913) (by decide +kernel), List.mem_of_getElem? (i := 914) (by decide +kernel)⟩
theorem lw_p50 : lw_okq (⟨"BoxCourtModel", "placeIn", "(II)I"⟩, 34) := ⟨⟨by decide +kernel, by decide +kernel⟩, List.mem_of_getElem? (i := 680) (by decide +kernel), List.mem_of_getElem? (i := 917) (by decide +kernel), List.mem_of_getElem? (i := 918) (by decide +kernel)⟩
theorem lw_p51 : lw_okq (⟨"BoxCourtModel", "tells", "()V"⟩, 34) := ⟨⟨by decide +kernel, by decide +kernel⟩, List.mem_of_getElem? (i := 680) (by decide +kernel), List.mem_of_getElem? (i := 921) (by decide +kernel), List.mem_of_getElem? (i := 922) (by decide +kernel)⟩
theorem lw_p52 : lw_okq (⟨"BoxCourtModel", "levels", "()I"⟩, 34) := ⟨⟨by decide +kernel, by decide +kernel⟩, List.mem_of_getElem? (i := 680) (by decide +kernel), List.mem_of_getElem? (i := 925) (by decide +kernel), List.mem_of_getElem? (i := 926) (by decide +kernel)⟩
theorem lw_p53 : lw_okq (⟨"BoxCourtModel", "takesBox", "(I)V"⟩, 34) := ⟨⟨by decide +kernel, by decide +kernel⟩, List.mem_of_getElem? (i := 680) (by decide +kernel), List.mem_of_getElem? (i := 933) (by decide +kernel), List.mem_of_getElem? (i := 934) (by decide +kernel)⟩
theorem lw_p54 : lw_okq (⟨"BoxCourtModel", "holder", "(II)I"⟩, 34) := ⟨⟨by decide +kernel, by decide +kernel⟩, List.mem_of_getElem? (i := 680) (by decide +kernel), List.mem_of_getElem? (i := 937) (by decide +kernel), List.mem_of_getElem? (i := 938) (by decide +kernel)⟩
theorem lw_p55 : lw_okq (⟨"BoxCourtModel", "placeOf", "(I)I"⟩, 34) := ⟨⟨by decide +kernel, by decide +kernel⟩, List.mem_of_getElem? (i := 680) (by decide +kernel), List.mem_of_getElem? (i := 946) (by decide +kernel), List.mem_of_getElem? (i := 947) (by decide +kernel)⟩
theorem lw_p56 : lw_okq (⟨"BoxCourtModel", "layRow", "(I)V"⟩, 34) := ⟨⟨by decide +kernel, by decide +kernel⟩, List.mem_of_getElem? (i := 680) (by decide +kernel), List.mem_of_getElem? (i := 950) (by decide +kernel), List.mem_of_getElem? (i := 951) (by decide +kernel)⟩
theorem lw_p57 : lw_okq (⟨"BoxCourtModel", "overlapsOf", "(I)I"⟩, 34) := ⟨⟨by decide +kernel, by decide +kernel⟩, List.mem_of_getElem? (i := 680) (by decide +kernel), List.mem_of_getElem? (i := 962) (by decide +kernel), List.mem_of_getElem? (i := 963) (by decide +kernel)⟩
theorem lw_p58 : lw_okq (⟨"BoxCourtModel", "meets", "(IIIIII)Z"⟩, 34) := ⟨⟨by decide +kernel, by decide +kernel⟩, List.mem_of_getElem? (i := 680) (by decide +kernel), List.mem_of_getElem? (i := 978) (by decide +kernel), List.mem_of_getElem? (i := 979) (by decide +kernel)⟩
theorem lw_p59 : lw_okq (⟨"BoxCourtModel", "distance", "(IIII)I"⟩, 34) := ⟨⟨by decide +kernel, by decide +kernel⟩, List.mem_of_getElem? (i := 680) (by decide +kernel), List.mem_of_getElem? (i := 986) (by decide +kernel), List.mem_of_getElem? (i := 987) (by decide +kernel)⟩
theorem lw_p60 : lw_okq (⟨"BoxCourtModel", "back", "()V"⟩, 34) := ⟨⟨by decide +kernel, by decide +kernel⟩, List.mem_of_getElem? (i := 680) (by decide +kernel), List.mem_of_getElem? (i := 994) (by decide +kernel), List.mem_of_getElem? (i := 995) (by decide +kernel)⟩
theorem lw_p61 : lw_okq (⟨"BoxCourtModel", "boxMany", "()I"⟩, 34) := ⟨⟨by decide +kernel, by decide +kernel⟩, List.mem_of_getElem? (i := 680) (by decide +kernel), List.mem_of_getElem? (i := 1006) (by decide +kernel), List.mem_of_getElem? (i := 1007) (by decide +kernel)⟩
theorem lw_p62 : lw_okq (⟨"BoxCourtModel", "nodeMany", "(I)I"⟩, 34) := ⟨⟨by decide +kernel, by decide +kernel⟩, List.mem_of_getElem? (i := 680) (by decide +kernel), List.mem_of_getElem? (i := 1010) (by decide +kernel), List.mem_of_getElem? (i := 1011) (by decide +kernel)⟩
theorem lw_p63 : lw_okq (⟨"BoxCourtModel", "areas", "()I"⟩, 34) := ⟨⟨by decide +kernel, by decide +kernel⟩, List.mem_of_getElem? (i := 680) (by decide +kernel), List.mem_of_getElem? (i := 1014) (by decide +kernel), List.mem_of_getElem? (i := 1015) (by decide +kernel)⟩
def lw_privs_4 : List (MethodName × Nat) := [(⟨"BoxCourtModel", "common", "()I"⟩, 34), (⟨"BoxCourtModel", "newNode", "(I)I"⟩, 34), (⟨"BoxCourtModel", "placeIn", "(II)I"⟩, 34), (⟨"BoxCourtModel", "tells", "()V"⟩, 34), (⟨"BoxCourtModel", "levels", "()I"⟩, 34), (⟨"BoxCourtModel", "takesBox", "(I)V"⟩, 34), (⟨"BoxCourtModel", "holder", "(II)I"⟩, 34), (⟨"BoxCourtModel", "placeOf", "(I)I"⟩, 34), (⟨"BoxCourtModel", "layRow", "(I)V"⟩, 34), (⟨"BoxCourtModel", "overlapsOf", "(I)I"⟩, 34), (⟨"BoxCourtModel", "meets", "(IIIIII)Z"⟩, 34), (⟨"BoxCourtModel", "distance", "(IIII)I"⟩, 34), (⟨"BoxCourtModel", "back", "()V"⟩, 34), (⟨"BoxCourtModel", "boxMany", "()I"⟩, 34), (⟨"BoxCourtModel", "nodeMany", "(I)I"⟩, 34), (⟨"BoxCourtModel", "areas", "()I"⟩, 34)]
theorem lw_r4 : ∀ q ∈ lw_privs_4, lw_okq q := List.forall_mem_cons.mpr ⟨lw_p48, List.forall_mem_cons.mpr ⟨lw_p49, List.forall_mem_cons.mpr ⟨lw_p50, List.forall_mem_cons.mpr ⟨lw_p51, List.forall_mem_cons.mpr ⟨lw_p52, List.forall_mem_cons.mpr ⟨lw_p53, List.forall_mem_cons.mpr ⟨lw_p54, List.forall_mem_cons.mpr ⟨lw_p55, List.forall_mem_cons.mpr ⟨lw_p56, List.forall_mem_cons.mpr ⟨lw_p57, List.forall_mem_cons.mpr ⟨lw_p58, List.forall_mem_cons.mpr ⟨lw_p59, List.forall_mem_cons.mpr ⟨lw_p60, List.forall_mem_cons.mpr ⟨lw_p61, List.forall_mem_cons.mpr ⟨lw_p62, List.forall_mem_cons.mpr ⟨lw_p63, fun _ h => absurd h List.not_mem_nil⟩⟩⟩⟩⟩⟩⟩⟩⟩⟩⟩⟩⟩⟩⟩⟩
theorem lw_p64 : lw_okq (⟨"BoxCourtModel", "tries", "()V"⟩, 34) := ⟨⟨by decide +kernel, by decide +kernel⟩, List.mem_of_getElem? (i := 680) (by decide +kernel), List.mem_of_getElem? (i := 1031) (by decide +kernel), List.mem_of_getElem? (i := 1032) (by decide +kernel)⟩
theorem lw_p65 : lw_okq (⟨"BoxCourtModel", "order", "()V"⟩, 34) := ⟨⟨by decide +kernel, by decide +kernel⟩, List.mem_of_getElem? (i := 680) (by decide +kernel), List.mem_of_getElem? (i := 1035) (by decide +kernel), List.mem_of_getElem? (i := 1036) (by decide +kernel)⟩
theorem lw_p66 : lw_okq (⟨"BoxCourtModel", "here", "()I"⟩, 34) := ⟨⟨by decide +kernel, by decide +kernel⟩, List.mem_of_getElem? (i := 680) (by decide +kernel), List.mem_of_getElem? (i := 1039) (by decide +kernel), List.mem_of_getElem? (i := 1040) (by decide +kernel)⟩
theorem lw_p67 : lw_okq (⟨"BoxCourtModel", "wrong", "(II)V"⟩, 34) := ⟨⟨by decide +kernel, by decide +kernel⟩, List.mem_of_getElem? (i := 680) (by decide +kernel), List.mem_of_getElem? (i := 1043) (by decide +kernel), List.mem_of_getElem? (i := 1044) (by decide +kernel)⟩
theorem lw_p68 : lw_okq (⟨"BoxCourtModel", "reads", "(I)Z"⟩, 34) := ⟨⟨by decide +kernel, by decide +kernel⟩, List.mem_of_getElem? (i := 680) (by decide +kernel), List.mem_of_getElem? (i := 1047) (by decide +kernel), List.mem_of_getElem? (i := 1048) (by decide +kernel)⟩
def lw_privs_5 : List (MethodName × Nat) := [(⟨"BoxCourtModel", "tries", "()V"⟩, 34), (⟨"BoxCourtModel", "order", "()V"⟩, 34), (⟨"BoxCourtModel", "here", "()I"⟩, 34), (⟨"BoxCourtModel", "wrong", "(II)V"⟩, 34), (⟨"BoxCourtModel", "reads", "(I)Z"⟩, 34)]
theorem lw_r5 : ∀ q ∈ lw_privs_5, lw_okq q := List.forall_mem_cons.mpr ⟨lw_p64, List.forall_mem_cons.mpr ⟨lw_p65, List.forall_mem_cons.mpr ⟨lw_p66, List.forall_mem_cons.mpr ⟨lw_p67, List.forall_mem_cons.mpr ⟨lw_p68, fun _ h => absurd h List.not_mem_nil⟩⟩⟩⟩⟩
def lw_privs : List (MethodName × Nat) := lw_privs_1 ++ (lw_privs_2 ++ (lw_privs_3 ++ (lw_privs_4 ++ (lw_privs_5))))
def lw_tbl : List Cond := k2_sels lw_privs ++ tables_1
theorem lw_privs_ok : ∀ q ∈ lw_privs, lw_okq q := by
  show ∀ q ∈ lw_privs_1 ++ (lw_privs_2 ++ (lw_privs_3 ++ (lw_privs_4 ++ (lw_privs_5)))), lw_okq q
  exact List.forall_mem_append.mpr ⟨lw_r1, List.forall_mem_append.mpr ⟨lw_r2, List.forall_mem_append.mpr ⟨lw_r3, List.forall_mem_append.mpr ⟨lw_r4, lw_r5⟩⟩⟩⟩
end
section
def RX0 : String := "BoxCourt$Box"
def TX0 : u_T := fun k => match k with
  | _ => ("", "", "", false)
def tyX0 : Nat → FieldType := fun k => match k with
  | _ => .int
abbrev wsX00 : List Cond := u_ws RX0 TX0 0
theorem nmX0 : ∀ a, a < 0 → ∀ b, b < 0 → a ≠ b → (TX0 a).2.1 ≠ (TX0 b).2.1 := by decide +kernel
theorem tyX0_ok : ∀ k, k < 0 → parseFieldDescriptor (TX0 k).2.2.1 = some (tyX0 k) := by decide +kernel
abbrev cX0_of : ByteArray := prog_2_method_2_code
def yX0_of : MethodName := ⟨RX0, "of", "(IIII)I"⟩
abbrev cX0_side : ByteArray := prog_2_method_3_code
def yX0_side : MethodName := ⟨RX0, "side", "(II)I"⟩
abbrev cX0_area : ByteArray := prog_2_method_4_code
def yX0_area : MethodName := ⟨RX0, "area", "(I)I"⟩
abbrev cX0_around : ByteArray := prog_2_method_5_code
def yX0_around : MethodName := ⟨RX0, "around", "(II)I"⟩
abbrev cX0_touch : ByteArray := prog_2_method_6_code
def yX0_touch : MethodName := ⟨RX0, "touch", "(II)Z"⟩
abbrev cX0_common : ByteArray := prog_2_method_7_code
def yX0_common : MethodName := ⟨RX0, "common", "(II)I"⟩
abbrev cX0_distance : ByteArray := prog_2_method_8_code
def yX0_distance : MethodName := ⟨RX0, "distance", "(III)I"⟩
abbrev cX0_apart : ByteArray := prog_2_method_9_code
def yX0_apart : MethodName := ⟨RX0, "apart", "(II)I"⟩
abbrev cX0_key : ByteArray := prog_2_method_10_code
def yX0_key : MethodName := ⟨RX0, "key", "(II)I"⟩
def RX1 : String := "BoxCourt$Change"
def TX1 : u_T := fun k => match k with
  | 0 => ("BoxCourt$Change", "tree", "LBoxCourt$Tree;", true)
  | 1 => ("BoxCourt$Change", "survey", "LBoxCourt$Survey;", true)
  | 2 => ("BoxCourt$Change", "waiting", "[I", true)
  | 3 => ("BoxCourt$Change", "waitingLevels", "[I", true)
  | 4 => ("BoxCourt$Change", "waits", "I", false)
  | 5 => ("BoxCourt$Change", "courtSet", "I", false)
  | 6 => ("BoxCourt$Change", "courtLevels", "[I", true)
  | 7 => ("BoxCourt$Change", "courtBoxes", "[I", true)
  | 8 => ("BoxCourt$Change", "courts", "I", false)
  | 9 => ("BoxCourt$Change", "orphans", "[I", true)
  | 10 => ("BoxCourt$Change", "things", "[I", true)
  | _ => ("BoxCourt$Change", "hulls", "[I", true)
def tyX1 : Nat → FieldType := fun k => match k with
  | 0 => .object "BoxCourt$Tree"
  | 1 => .object "BoxCourt$Survey"
  | 2 => .array .int
  | 3 => .array .int
  | 4 => .int
  | 5 => .int
  | 6 => .array .int
  | 7 => .array .int
  | 8 => .int
  | 9 => .array .int
  | 10 => .array .int
  | _ => .array .int
abbrev wsX10 : List Cond := u_ws RX1 TX1 12
theorem nmX1 : ∀ a, a < 12 → ∀ b, b < 12 → a ≠ b → (TX1 a).2.1 ≠ (TX1 b).2.1 := by decide +kernel
theorem tyX1_ok : ∀ k, k < 12 → parseFieldDescriptor (TX1 k).2.2.1 = some (tyX1 k) := by decide +kernel
abbrev cX1_init : ByteArray := prog_3_method_1_code
def yX1_init : MethodName := ⟨RX1, "<init>", "(LBoxCourt$Tree;LBoxCourt$Survey;)V"⟩
abbrev cX1_courtLevel : ByteArray := prog_3_method_2_code
def yX1_courtLevel : MethodName := ⟨RX1, "courtLevel", "(I)I"⟩
abbrev cX1_courtBoxes : ByteArray := prog_3_method_3_code
def yX1_courtBoxes : MethodName := ⟨RX1, "courtBoxes", "(I)I"⟩
abbrev cX1_bringIn : ByteArray := prog_3_method_4_code
def yX1_bringIn : MethodName := ⟨RX1, "bringIn", "(II)V"⟩
abbrev cX1_takeOut : ByteArray := prog_3_method_5_code
def yX1_takeOut : MethodName := ⟨RX1, "takeOut", "(I)V"⟩
abbrev cX1_dissolveFrom : ByteArray := prog_3_method_6_code
def yX1_dissolveFrom : MethodName := ⟨RX1, "dissolveFrom", "(I)V"⟩
abbrev cX1_insert : ByteArray := prog_3_method_7_code
def yX1_insert : MethodName := ⟨RX1, "insert", "(II)V"⟩
abbrev cX1_await : ByteArray := prog_3_method_8_code
def yX1_await : MethodName := ⟨RX1, "await", "(II)V"⟩
abbrev cX1_courtIsDue : ByteArray := prog_3_method_9_code
def yX1_courtIsDue : MethodName := ⟨RX1, "courtIsDue", "(I)Z"⟩
abbrev cX1_holdCourt : ByteArray := prog_3_method_10_code
def yX1_holdCourt : MethodName := ⟨RX1, "holdCourt", "(I)I"⟩
abbrev cX1_farthest : ByteArray := prog_3_method_11_code
def yX1_farthest : MethodName := ⟨RX1, "farthest", "(II)I"⟩
abbrev cX1_noteCourt : ByteArray := prog_3_method_12_code
def yX1_noteCourt : MethodName := ⟨RX1, "noteCourt", "(II)V"⟩
abbrev cX1_split : ByteArray := prog_3_method_13_code
def yX1_split : MethodName := ⟨RX1, "split", "(I)I"⟩
abbrev cX1_axisOf : ByteArray := prog_3_method_14_code
def yX1_axisOf : MethodName := ⟨RX1, "axisOf", "(I)I"⟩
abbrev cX1_cutOf : ByteArray := prog_3_method_15_code
def yX1_cutOf : MethodName := ⟨RX1, "cutOf", "(I)I"⟩
abbrev cX1_bestWay : ByteArray := prog_3_method_16_code
def yX1_bestWay : MethodName := ⟨RX1, "bestWay", "(I)I"⟩
abbrev cX1_hullOfPart : ByteArray := prog_3_method_17_code
def yX1_hullOfPart : MethodName := ⟨RX1, "hullOfPart", "(II)I"⟩
abbrev cX1_arrange : ByteArray := prog_3_method_18_code
def yX1_arrange : MethodName := ⟨RX1, "arrange", "(II)V"⟩
def RX2 : String := "BoxCourt$History"
def TX2 : u_T := fun k => match k with
  | 0 => ("BoxCourt$History", "states", "[LBoxCourt$Tree;", true)
  | 1 => ("BoxCourt$History", "oldest", "I", false)
  | _ => ("BoxCourt$History", "count", "I", false)
def tyX2 : Nat → FieldType := fun k => match k with
  | 0 => .array (.object "BoxCourt$Tree")
  | 1 => .int
  | _ => .int
abbrev wsX20 : List Cond := u_ws RX2 TX2 3
theorem nmX2 : ∀ a, a < 3 → ∀ b, b < 3 → a ≠ b → (TX2 a).2.1 ≠ (TX2 b).2.1 := by decide +kernel
theorem tyX2_ok : ∀ k, k < 3 → parseFieldDescriptor (TX2 k).2.2.1 = some (tyX2 k) := by decide +kernel
abbrev cX2_init : ByteArray := prog_4_method_1_code
def yX2_init : MethodName := ⟨RX2, "<init>", "()V"⟩
abbrev cX2_record : ByteArray := prog_4_method_2_code
def yX2_record : MethodName := ⟨RX2, "record", "(LBoxCourt$Tree;)V"⟩
abbrev cX2_restore : ByteArray := prog_4_method_3_code
def yX2_restore : MethodName := ⟨RX2, "restore", "(LBoxCourt$Tree;)V"⟩
abbrev cX2_stateAt : ByteArray := prog_4_method_4_code
def yX2_stateAt : MethodName := ⟨RX2, "stateAt", "(I)LBoxCourt$Tree;"⟩
def RX3 : String := "BoxCourt$Orders"
def TX3 : u_T := fun k => match k with
  | 0 => ("BoxCourt$Orders", "signs", "[I", true)
  | 1 => ("BoxCourt$Orders", "length", "I", false)
  | 2 => ("BoxCourt$Orders", "numbers", "[I", true)
  | 3 => ("BoxCourt$Orders", "puts", "Z", false)
  | 4 => ("BoxCourt$Orders", "at", "I", false)
  | 5 => ("BoxCourt$Orders", "orders", "I", false)
  | 6 => ("BoxCourt$Orders", "place", "I", false)
  | 7 => ("BoxCourt$Orders", "reason", "I", false)
  | _ => ("BoxCourt$Orders", "cause", "I", false)
def tyX3 : Nat → FieldType := fun k => match k with
  | 0 => .array .int
  | 1 => .int
  | 2 => .array .int
  | 3 => .boolean
  | 4 => .int
  | 5 => .int
  | 6 => .int
  | 7 => .int
  | _ => .int
abbrev wsX30 : List Cond := u_ws RX3 TX3 9
theorem nmX3 : ∀ a, a < 9 → ∀ b, b < 9 → a ≠ b → (TX3 a).2.1 ≠ (TX3 b).2.1 := by decide +kernel
theorem tyX3_ok : ∀ k, k < 9 → parseFieldDescriptor (TX3 k).2.2.1 = some (tyX3 k) := by decide +kernel
abbrev cX3_init : ByteArray := prog_5_method_1_code
def yX3_init : MethodName := ⟨RX3, "<init>", "()V"⟩
abbrev cX3_append : ByteArray := prog_5_method_2_code
def yX3_append : MethodName := ⟨RX3, "append", "(I)V"⟩
abbrev cX3_number : ByteArray := prog_5_method_3_code
def yX3_number : MethodName := ⟨RX3, "number", "(I)I"⟩
abbrev cX3_examine : ByteArray := prog_5_method_4_code
def yX3_examine : MethodName := ⟨RX3, "examine", "(I)V"⟩
abbrev cX3_reasonAgainst : ByteArray := prog_5_method_5_code
def yX3_reasonAgainst : MethodName := ⟨RX3, "reasonAgainst", "(II)I"⟩
abbrev cX3_wrongNumber : ByteArray := prog_5_method_6_code
def yX3_wrongNumber : MethodName := ⟨RX3, "wrongNumber", "()I"⟩
abbrev cX3_read : ByteArray := prog_5_method_7_code
def yX3_read : MethodName := ⟨RX3, "read", "(I)Z"⟩
abbrev cX3_readNumber : ByteArray := prog_5_method_8_code
def yX3_readNumber : MethodName := ⟨RX3, "readNumber", "(I)Z"⟩
abbrev cX3_signIs : ByteArray := prog_5_method_9_code
def yX3_signIs : MethodName := ⟨RX3, "signIs", "(I)Z"⟩
abbrev cX3_signIsDigit : ByteArray := prog_5_method_10_code
def yX3_signIsDigit : MethodName := ⟨RX3, "signIsDigit", "()Z"⟩
def RX4 : String := "BoxCourt$Rows"
def TX4 : u_T := fun k => match k with
  | _ => ("", "", "", false)
def tyX4 : Nat → FieldType := fun k => match k with
  | _ => .int
abbrev wsX40 : List Cond := u_ws RX4 TX4 0
theorem nmX4 : ∀ a, a < 0 → ∀ b, b < 0 → a ≠ b → (TX4 a).2.1 ≠ (TX4 b).2.1 := by decide +kernel
theorem tyX4_ok : ∀ k, k < 0 → parseFieldDescriptor (TX4 k).2.2.1 = some (tyX4 k) := by decide +kernel
abbrev cX4_at : ByteArray := prog_6_method_2_code
def yX4_at : MethodName := ⟨RX4, "at", "([II)I"⟩
abbrev cX4_set : ByteArray := prog_6_method_3_code
def yX4_set : MethodName := ⟨RX4, "set", "([III)V"⟩
def RX5 : String := "BoxCourt$Survey"
def TX5 : u_T := fun k => match k with
  | 0 => ("BoxCourt$Survey", "tree", "LBoxCourt$Tree;", true)
  | 1 => ("BoxCourt$Survey", "seen", "[I", true)
  | _ => ("BoxCourt$Survey", "count", "I", false)
def tyX5 : Nat → FieldType := fun k => match k with
  | 0 => .object "BoxCourt$Tree"
  | 1 => .array .int
  | _ => .int
abbrev wsX50 : List Cond := u_ws RX5 TX5 3
theorem nmX5 : ∀ a, a < 3 → ∀ b, b < 3 → a ≠ b → (TX5 a).2.1 ≠ (TX5 b).2.1 := by decide +kernel
theorem tyX5_ok : ∀ k, k < 3 → parseFieldDescriptor (TX5 k).2.2.1 = some (tyX5 k) := by decide +kernel
abbrev cX5_init : ByteArray := prog_7_method_1_code
def yX5_init : MethodName := ⟨RX5, "<init>", "(LBoxCourt$Tree;)V"⟩
abbrev cX5_lookFrom : ByteArray := prog_7_method_2_code
def yX5_lookFrom : MethodName := ⟨RX5, "lookFrom", "(I)V"⟩
abbrev cX5_note : ByteArray := prog_7_method_3_code
def yX5_note : MethodName := ⟨RX5, "note", "(I)V"⟩
abbrev cX5_nodeSeen : ByteArray := prog_7_method_4_code
def yX5_nodeSeen : MethodName := ⟨RX5, "nodeSeen", "(I)I"⟩
abbrev cX5_hullSeen : ByteArray := prog_7_method_5_code
def yX5_hullSeen : MethodName := ⟨RX5, "hullSeen", "(I)I"⟩
abbrev cX5_levelSeen : ByteArray := prog_7_method_6_code
def yX5_levelSeen : MethodName := ⟨RX5, "levelSeen", "(I)I"⟩
abbrev cX5_nodes : ByteArray := prog_7_method_7_code
def yX5_nodes : MethodName := ⟨RX5, "nodes", "()I"⟩
abbrev cX5_leaves : ByteArray := prog_7_method_8_code
def yX5_leaves : MethodName := ⟨RX5, "leaves", "()I"⟩
abbrev cX5_nodeAt : ByteArray := prog_7_method_9_code
def yX5_nodeAt : MethodName := ⟨RX5, "nodeAt", "(II)I"⟩
abbrev cX5_placeOf : ByteArray := prog_7_method_10_code
def yX5_placeOf : MethodName := ⟨RX5, "placeOf", "(I)I"⟩
abbrev cX5_overlapsOf : ByteArray := prog_7_method_11_code
def yX5_overlapsOf : MethodName := ⟨RX5, "overlapsOf", "(I)I"⟩
abbrev cX5_areaOfLeaves : ByteArray := prog_7_method_12_code
def yX5_areaOfLeaves : MethodName := ⟨RX5, "areaOfLeaves", "()I"⟩
abbrev cX5_nodesTouching : ByteArray := prog_7_method_13_code
def yX5_nodesTouching : MethodName := ⟨RX5, "nodesTouching", "(I)I"⟩
abbrev cX5_nodesWithin : ByteArray := prog_7_method_14_code
def yX5_nodesWithin : MethodName := ⟨RX5, "nodesWithin", "(III)I"⟩
abbrev cX5_boxesBelow : ByteArray := prog_7_method_15_code
def yX5_boxesBelow : MethodName := ⟨RX5, "boxesBelow", "(I)I"⟩
def RX6 : String := "BoxCourt$Tree"
def TX6 : u_T := fun k => match k with
  | 0 => ("BoxCourt$Tree", "boxes", "[I", true)
  | 1 => ("BoxCourt$Tree", "homes", "[I", true)
  | 2 => ("BoxCourt$Tree", "levels", "[I", true)
  | 3 => ("BoxCourt$Tree", "sizes", "[I", true)
  | 4 => ("BoxCourt$Tree", "hulls", "[I", true)
  | 5 => ("BoxCourt$Tree", "aboves", "[I", true)
  | 6 => ("BoxCourt$Tree", "rows", "[I", true)
  | 7 => ("BoxCourt$Tree", "root", "I", false)
  | 8 => ("BoxCourt$Tree", "courts", "I", false)
  | 9 => ("BoxCourt$Tree", "splits", "I", false)
  | _ => ("BoxCourt$Tree", "orphans", "I", false)
def tyX6 : Nat → FieldType := fun k => match k with
  | 0 => .array .int
  | 1 => .array .int
  | 2 => .array .int
  | 3 => .array .int
  | 4 => .array .int
  | 5 => .array .int
  | 6 => .array .int
  | 7 => .int
  | 8 => .int
  | 9 => .int
  | _ => .int
abbrev wsX60 : List Cond := u_ws RX6 TX6 11
theorem nmX6 : ∀ a, a < 11 → ∀ b, b < 11 → a ≠ b → (TX6 a).2.1 ≠ (TX6 b).2.1 := by decide +kernel
theorem tyX6_ok : ∀ k, k < 11 → parseFieldDescriptor (TX6 k).2.2.1 = some (tyX6 k) := by decide +kernel
abbrev cX6_init : ByteArray := prog_8_method_1_code
def yX6_init : MethodName := ⟨RX6, "<init>", "()V"⟩
abbrev cX6_copy : ByteArray := prog_8_method_2_code
def yX6_copy : MethodName := ⟨RX6, "copy", "(LBoxCourt$Tree;)V"⟩
abbrev cX6_has : ByteArray := prog_8_method_3_code
def yX6_has : MethodName := ⟨RX6, "has", "(I)Z"⟩
abbrev cX6_homeOf : ByteArray := prog_8_method_4_code
def yX6_homeOf : MethodName := ⟨RX6, "homeOf", "(I)I"⟩
abbrev cX6_levelOf : ByteArray := prog_8_method_5_code
def yX6_levelOf : MethodName := ⟨RX6, "levelOf", "(I)I"⟩
abbrev cX6_sizeOf : ByteArray := prog_8_method_6_code
def yX6_sizeOf : MethodName := ⟨RX6, "sizeOf", "(I)I"⟩
abbrev cX6_aboveOf : ByteArray := prog_8_method_7_code
def yX6_aboveOf : MethodName := ⟨RX6, "aboveOf", "(I)I"⟩
abbrev cX6_height : ByteArray := prog_8_method_8_code
def yX6_height : MethodName := ⟨RX6, "height", "()I"⟩
abbrev cX6_thingAt : ByteArray := prog_8_method_9_code
def yX6_thingAt : MethodName := ⟨RX6, "thingAt", "(II)I"⟩
abbrev cX6_hull : ByteArray := prog_8_method_10_code
def yX6_hull : MethodName := ⟨RX6, "hull", "(II)I"⟩
abbrev cX6_placeIn : ByteArray := prog_8_method_11_code
def yX6_placeIn : MethodName := ⟨RX6, "placeIn", "(II)I"⟩
abbrev cX6_boxSet : ByteArray := prog_8_method_12_code
def yX6_boxSet : MethodName := ⟨RX6, "boxSet", "()I"⟩
abbrev cX6_boxesOfLeaf : ByteArray := prog_8_method_13_code
def yX6_boxesOfLeaf : MethodName := ⟨RX6, "boxesOfLeaf", "(I)I"⟩
abbrev cX6_boxesTouching : ByteArray := prog_8_method_14_code
def yX6_boxesTouching : MethodName := ⟨RX6, "boxesTouching", "(I)I"⟩
abbrev cX6_freeNumber : ByteArray := prog_8_method_15_code
def yX6_freeNumber : MethodName := ⟨RX6, "freeNumber", "()I"⟩
abbrev cX6_nodeFor : ByteArray := prog_8_method_16_code
def yX6_nodeFor : MethodName := ⟨RX6, "nodeFor", "(II)I"⟩
abbrev cX6_leastGreater : ByteArray := prog_8_method_17_code
def yX6_leastGreater : MethodName := ⟨RX6, "leastGreater", "(II)I"⟩
abbrev cX6_setBox : ByteArray := prog_8_method_18_code
def yX6_setBox : MethodName := ⟨RX6, "setBox", "(II)V"⟩
abbrev cX6_add : ByteArray := prog_8_method_19_code
def yX6_add : MethodName := ⟨RX6, "add", "(III)V"⟩
abbrev cX6_remove : ByteArray := prog_8_method_20_code
def yX6_remove : MethodName := ⟨RX6, "remove", "(II)V"⟩
abbrev cX6_refresh : ByteArray := prog_8_method_21_code
def yX6_refresh : MethodName := ⟨RX6, "refresh", "(I)V"⟩
abbrev cX6_newNode : ByteArray := prog_8_method_22_code
def yX6_newNode : MethodName := ⟨RX6, "newNode", "(I)I"⟩
abbrev cX6_clearRow : ByteArray := prog_8_method_23_code
def yX6_clearRow : MethodName := ⟨RX6, "clearRow", "(I)V"⟩
abbrev cX6_drop : ByteArray := prog_8_method_24_code
def yX6_drop : MethodName := ⟨RX6, "drop", "(I)V"⟩
abbrev cX6_raiseRoot : ByteArray := prog_8_method_25_code
def yX6_raiseRoot : MethodName := ⟨RX6, "raiseRoot", "()V"⟩
abbrev cX6_lowerRoot : ByteArray := prog_8_method_26_code
def yX6_lowerRoot : MethodName := ⟨RX6, "lowerRoot", "()V"⟩
def RX7 : String := "BoxCourt"
def TX7 : u_T := fun k => match k with
  | 0 => ("BoxCourt", "tree", "LBoxCourt$Tree;", true)
  | 1 => ("BoxCourt", "survey", "LBoxCourt$Survey;", true)
  | 2 => ("BoxCourt", "change", "LBoxCourt$Change;", true)
  | 3 => ("BoxCourt", "trialTree", "LBoxCourt$Tree;", true)
  | 4 => ("BoxCourt", "trialSurvey", "LBoxCourt$Survey;", true)
  | 5 => ("BoxCourt", "trial", "LBoxCourt$Change;", true)
  | 6 => ("BoxCourt", "history", "LBoxCourt$History;", true)
  | 7 => ("BoxCourt", "text", "LBoxCourt$Orders;", true)
  | _ => ("BoxCourt", "ranks", "[I", true)
def tyX7 : Nat → FieldType := fun k => match k with
  | 0 => .object "BoxCourt$Tree"
  | 1 => .object "BoxCourt$Survey"
  | 2 => .object "BoxCourt$Change"
  | 3 => .object "BoxCourt$Tree"
  | 4 => .object "BoxCourt$Survey"
  | 5 => .object "BoxCourt$Change"
  | 6 => .object "BoxCourt$History"
  | 7 => .object "BoxCourt$Orders"
  | _ => .array .int
abbrev wsX70 : List Cond := u_ws RX7 TX7 9
theorem nmX7 : ∀ a, a < 9 → ∀ b, b < 9 → a ≠ b → (TX7 a).2.1 ≠ (TX7 b).2.1 := by decide +kernel
theorem tyX7_ok : ∀ k, k < 9 → parseFieldDescriptor (TX7 k).2.2.1 = some (tyX7 k) := by decide +kernel
abbrev cX7_init : ByteArray := prog_1_method_1_code
def yX7_init : MethodName := ⟨RX7, "<init>", "()V"⟩
abbrev cX7_put : ByteArray := prog_1_method_2_code
def yX7_put : MethodName := ⟨RX7, "put", "(IIIII)I"⟩
abbrev cX7_take : ByteArray := prog_1_method_3_code
def yX7_take : MethodName := ⟨RX7, "take", "(I)I"⟩
abbrev cX7_boxOf : ByteArray := prog_1_method_4_code
def yX7_boxOf : MethodName := ⟨RX7, "boxOf", "(II)I"⟩
abbrev cX7_nodeOf : ByteArray := prog_1_method_5_code
def yX7_nodeOf : MethodName := ⟨RX7, "nodeOf", "(III)I"⟩
abbrev cX7_overlaps : ByteArray := prog_1_method_6_code
def yX7_overlaps : MethodName := ⟨RX7, "overlaps", "(I)I"⟩
abbrev cX7_overlap : ByteArray := prog_1_method_7_code
def yX7_overlap : MethodName := ⟨RX7, "overlap", "(II)I"⟩
abbrev cX7_court : ByteArray := prog_1_method_8_code
def yX7_court : MethodName := ⟨RX7, "court", "(II)I"⟩
abbrev cX7_window : ByteArray := prog_1_method_9_code
def yX7_window : MethodName := ⟨RX7, "window", "(IIIII)I"⟩
abbrev cX7_nearest : ByteArray := prog_1_method_10_code
def yX7_nearest : MethodName := ⟨RX7, "nearest", "(IIII)I"⟩
abbrev cX7_would : ByteArray := prog_1_method_11_code
def yX7_would : MethodName := ⟨RX7, "would", "(IIIII)I"⟩
abbrev cX7_wouldTake : ByteArray := prog_1_method_12_code
def yX7_wouldTake : MethodName := ⟨RX7, "wouldTake", "(II)I"⟩
abbrev cX7_count : ByteArray := prog_1_method_13_code
def yX7_count : MethodName := ⟨RX7, "count", "(I)I"⟩
abbrev cX7_undo : ByteArray := prog_1_method_14_code
def yX7_undo : MethodName := ⟨RX7, "undo", "()I"⟩
abbrev cX7_type : ByteArray := prog_1_method_15_code
def yX7_type : MethodName := ⟨RX7, "type", "(I)I"⟩
abbrev cX7_clearText : ByteArray := prog_1_method_16_code
def yX7_clearText : MethodName := ⟨RX7, "clearText", "()I"⟩
abbrev cX7_fault : ByteArray := prog_1_method_17_code
def yX7_fault : MethodName := ⟨RX7, "fault", "(I)I"⟩
abbrev cX7_play : ByteArray := prog_1_method_18_code
def yX7_play : MethodName := ⟨RX7, "play", "()I"⟩
abbrev cX7_isUpTo : ByteArray := prog_1_method_19_code
def yX7_isUpTo : MethodName := ⟨RX7, "isUpTo", "(II)Z"⟩
abbrev cX7_isBox : ByteArray := prog_1_method_20_code
def yX7_isBox : MethodName := ⟨RX7, "isBox", "(I)Z"⟩
abbrev cX7_isPoint : ByteArray := prog_1_method_21_code
def yX7_isPoint : MethodName := ⟨RX7, "isPoint", "(I)Z"⟩
abbrev cX7_isWindow : ByteArray := prog_1_method_22_code
def yX7_isWindow : MethodName := ⟨RX7, "isWindow", "(IIII)Z"⟩
abbrev cX7_boxOfRank : ByteArray := prog_1_method_23_code
def yX7_boxOfRank : MethodName := ⟨RX7, "boxOfRank", "(III)I"⟩
abbrev cX7_ranksAhead : ByteArray := prog_1_method_24_code
def yX7_ranksAhead : MethodName := ⟨RX7, "ranksAhead", "(I)I"⟩
def RX8 : String := "BoxCourtModel"
def TX8 : u_T := fun k => match k with
  | 0 => ("BoxCourtModel", "now", "[I", true)
  | 1 => ("BoxCourtModel", "before", "[I", true)
  | 2 => ("BoxCourtModel", "states", "[I", true)
  | 3 => ("BoxCourtModel", "text", "[I", true)
  | 4 => ("BoxCourtModel", "stateMany", "I", false)
  | 5 => ("BoxCourtModel", "stateAt", "I", false)
  | 6 => ("BoxCourtModel", "letters", "I", false)
  | 7 => ("BoxCourtModel", "boxes", "[I", true)
  | 8 => ("BoxCourtModel", "below", "[I", true)
  | 9 => ("BoxCourtModel", "one", "[I", true)
  | 10 => ("BoxCourtModel", "two", "[I", true)
  | 11 => ("BoxCourtModel", "waiting", "[I", true)
  | 12 => ("BoxCourtModel", "waitingLevels", "[I", true)
  | 13 => ("BoxCourtModel", "waitingMany", "I", false)
  | 14 => ("BoxCourtModel", "courtLevels", "I", false)
  | 15 => ("BoxCourtModel", "madeLevels", "[I", true)
  | 16 => ("BoxCourtModel", "madeBoxes", "[I", true)
  | 17 => ("BoxCourtModel", "madeMany", "I", false)
  | 18 => ("BoxCourtModel", "lastLevels", "[I", true)
  | 19 => ("BoxCourtModel", "lastBoxes", "[I", true)
  | 20 => ("BoxCourtModel", "lastMany", "I", false)
  | 21 => ("BoxCourtModel", "sorted", "[I", true)
  | 22 => ("BoxCourtModel", "chosen", "[I", true)
  | 23 => ("BoxCourtModel", "path", "[I", true)
  | 24 => ("BoxCourtModel", "orphans", "[I", true)
  | 25 => ("BoxCourtModel", "row", "[I", true)
  | 26 => ("BoxCourtModel", "next", "[I", true)
  | 27 => ("BoxCourtModel", "rowMany", "I", false)
  | 28 => ("BoxCourtModel", "readAt", "I", false)
  | 29 => ("BoxCourtModel", "numbers", "[I", true)
  | 30 => ("BoxCourtModel", "reason", "I", false)
  | 31 => ("BoxCourtModel", "cause", "I", false)
  | 32 => ("BoxCourtModel", "faultAt", "I", false)
  | _ => ("BoxCourtModel", "orders", "I", false)
def tyX8 : Nat → FieldType := fun k => match k with
  | 0 => .array .int
  | 1 => .array .int
  | 2 => .array .int
  | 3 => .array .int
  | 4 => .int
  | 5 => .int
  | 6 => .int
  | 7 => .array .int
  | 8 => .array .int
  | 9 => .array .int
  | 10 => .array .int
  | 11 => .array .int
  | 12 => .array .int
  | 13 => .int
  | 14 => .int
  | 15 => .array .int
  | 16 => .array .int
  | 17 => .int
  | 18 => .array .int
  | 19 => .array .int
  | 20 => .int
  | 21 => .array .int
  | 22 => .array .int
  | 23 => .array .int
  | 24 => .array .int
  | 25 => .array .int
  | 26 => .array .int
  | 27 => .int
  | 28 => .int
  | 29 => .array .int
  | 30 => .int
  | 31 => .int
  | 32 => .int
  | _ => .int
abbrev wsX80 : List Cond := u_ws RX8 TX8 34
theorem nmX8 : ∀ a, a < 34 → ∀ b, b < 34 → a ≠ b → (TX8 a).2.1 ≠ (TX8 b).2.1 := by decide +kernel
theorem tyX8_ok : ∀ k, k < 34 → parseFieldDescriptor (TX8 k).2.2.1 = some (tyX8 k) := by decide +kernel
abbrev cX8_init : ByteArray := prog_10_method_1_code
def yX8_init : MethodName := ⟨RX8, "<init>", "()V"⟩
abbrev cX8_in : ByteArray := prog_10_method_2_code
def yX8_in : MethodName := ⟨RX8, "in", "(III)Z"⟩
abbrev cX8_least : ByteArray := prog_10_method_3_code
def yX8_least : MethodName := ⟨RX8, "least", "(II)I"⟩
abbrev cX8_most : ByteArray := prog_10_method_4_code
def yX8_most : MethodName := ⟨RX8, "most", "(II)I"⟩
abbrev cX8_copy : ByteArray := prog_10_method_5_code
def yX8_copy : MethodName := ⟨RX8, "copy", "()V"⟩
abbrev cX8_back : ByteArray := prog_10_method_6_code
def yX8_back : MethodName := ⟨RX8, "back", "()V"⟩
abbrev cX8_record : ByteArray := prog_10_method_7_code
def yX8_record : MethodName := ⟨RX8, "record", "()V"⟩
abbrev cX8_undo : ByteArray := prog_10_method_8_code
def yX8_undo : MethodName := ⟨RX8, "undo", "()I"⟩
abbrev cX8_levelOf : ByteArray := prog_10_method_9_code
def yX8_levelOf : MethodName := ⟨RX8, "levelOf", "(I)I"⟩
abbrev cX8_manyOf : ByteArray := prog_10_method_10_code
def yX8_manyOf : MethodName := ⟨RX8, "manyOf", "(I)I"⟩
abbrev cX8_thing : ByteArray := prog_10_method_11_code
def yX8_thing : MethodName := ⟨RX8, "thing", "(II)I"⟩
abbrev cX8_side : ByteArray := prog_10_method_12_code
def yX8_side : MethodName := ⟨RX8, "side", "(III)I"⟩
abbrev cX8_layNode : ByteArray := prog_10_method_13_code
def yX8_layNode : MethodName := ⟨RX8, "layNode", "(I)V"⟩
abbrev cX8_lay : ByteArray := prog_10_method_14_code
def yX8_lay : MethodName := ⟨RX8, "lay", "()V"⟩
abbrev cX8_takes : ByteArray := prog_10_method_15_code
def yX8_takes : MethodName := ⟨RX8, "takes", "([III)V"⟩
abbrev cX8_widens : ByteArray := prog_10_method_16_code
def yX8_widens : MethodName := ⟨RX8, "widens", "([III)V"⟩
abbrev cX8_area : ByteArray := prog_10_method_17_code
def yX8_area : MethodName := ⟨RX8, "area", "([I)I"⟩
abbrev cX8_common : ByteArray := prog_10_method_18_code
def yX8_common : MethodName := ⟨RX8, "common", "()I"⟩
abbrev cX8_newNode : ByteArray := prog_10_method_19_code
def yX8_newNode : MethodName := ⟨RX8, "newNode", "(I)I"⟩
abbrev cX8_puts : ByteArray := prog_10_method_20_code
def yX8_puts : MethodName := ⟨RX8, "puts", "(III)V"⟩
abbrev cX8_drops : ByteArray := prog_10_method_21_code
def yX8_drops : MethodName := ⟨RX8, "drops", "(II)V"⟩
abbrev cX8_placeIn : ByteArray := prog_10_method_22_code
def yX8_placeIn : MethodName := ⟨RX8, "placeIn", "(II)I"⟩
abbrev cX8_holder : ByteArray := prog_10_method_23_code
def yX8_holder : MethodName := ⟨RX8, "holder", "(II)I"⟩
abbrev cX8_waits : ByteArray := prog_10_method_24_code
def yX8_waits : MethodName := ⟨RX8, "waits", "(II)V"⟩
abbrev cX8_wayOn : ByteArray := prog_10_method_25_code
def yX8_wayOn : MethodName := ⟨RX8, "wayOn", "(III)I"⟩
abbrev cX8_farOf : ByteArray := prog_10_method_26_code
def yX8_farOf : MethodName := ⟨RX8, "farOf", "(II)I"⟩
abbrev cX8_farthest : ByteArray := prog_10_method_27_code
def yX8_farthest : MethodName := ⟨RX8, "farthest", "(II)I"⟩
abbrev cX8_court : ByteArray := prog_10_method_28_code
def yX8_court : MethodName := ⟨RX8, "court", "(I)V"⟩
abbrev cX8_sorts : ByteArray := prog_10_method_29_code
def yX8_sorts : MethodName := ⟨RX8, "sorts", "(II)V"⟩
abbrev cX8_splits : ByteArray := prog_10_method_30_code
def yX8_splits : MethodName := ⟨RX8, "splits", "(I)I"⟩
abbrev cX8_comes : ByteArray := prog_10_method_31_code
def yX8_comes : MethodName := ⟨RX8, "comes", "(II)V"⟩
abbrev cX8_insertion : ByteArray := prog_10_method_32_code
def yX8_insertion : MethodName := ⟨RX8, "insertion", "(II)V"⟩
abbrev cX8_levels : ByteArray := prog_10_method_33_code
def yX8_levels : MethodName := ⟨RX8, "levels", "()I"⟩
abbrev cX8_putsBox : ByteArray := prog_10_method_34_code
def yX8_putsBox : MethodName := ⟨RX8, "putsBox", "(IIIII)V"⟩
abbrev cX8_takesBox : ByteArray := prog_10_method_35_code
def yX8_takesBox : MethodName := ⟨RX8, "takesBox", "(I)V"⟩
abbrev cX8_tells : ByteArray := prog_10_method_36_code
def yX8_tells : MethodName := ⟨RX8, "tells", "()V"⟩
abbrev cX8_isBox : ByteArray := prog_10_method_37_code
def yX8_isBox : MethodName := ⟨RX8, "isBox", "(I)Z"⟩
abbrev cX8_areSides : ByteArray := prog_10_method_38_code
def yX8_areSides : MethodName := ⟨RX8, "areSides", "(IIII)Z"⟩
abbrev cX8_isThere : ByteArray := prog_10_method_39_code
def yX8_isThere : MethodName := ⟨RX8, "isThere", "(I)Z"⟩
abbrev cX8_put : ByteArray := prog_10_method_40_code
def yX8_put : MethodName := ⟨RX8, "put", "(IIIII)I"⟩
abbrev cX8_take : ByteArray := prog_10_method_41_code
def yX8_take : MethodName := ⟨RX8, "take", "(I)I"⟩
abbrev cX8_layRow : ByteArray := prog_10_method_42_code
def yX8_layRow : MethodName := ⟨RX8, "layRow", "(I)V"⟩
abbrev cX8_placeOf : ByteArray := prog_10_method_43_code
def yX8_placeOf : MethodName := ⟨RX8, "placeOf", "(I)I"⟩
abbrev cX8_boxOf : ByteArray := prog_10_method_44_code
def yX8_boxOf : MethodName := ⟨RX8, "boxOf", "(II)I"⟩
abbrev cX8_nodeOf : ByteArray := prog_10_method_45_code
def yX8_nodeOf : MethodName := ⟨RX8, "nodeOf", "(III)I"⟩
abbrev cX8_overlapsOf : ByteArray := prog_10_method_46_code
def yX8_overlapsOf : MethodName := ⟨RX8, "overlapsOf", "(I)I"⟩
abbrev cX8_overlaps : ByteArray := prog_10_method_47_code
def yX8_overlaps : MethodName := ⟨RX8, "overlaps", "(I)I"⟩
abbrev cX8_overlap : ByteArray := prog_10_method_48_code
def yX8_overlap : MethodName := ⟨RX8, "overlap", "(II)I"⟩
abbrev cX8_court_ : ByteArray := prog_10_method_49_code
def yX8_court_ : MethodName := ⟨RX8, "court", "(II)I"⟩
abbrev cX8_meets : ByteArray := prog_10_method_50_code
def yX8_meets : MethodName := ⟨RX8, "meets", "(IIIIII)Z"⟩
abbrev cX8_window : ByteArray := prog_10_method_51_code
def yX8_window : MethodName := ⟨RX8, "window", "(IIIII)I"⟩
abbrev cX8_distance : ByteArray := prog_10_method_52_code
def yX8_distance : MethodName := ⟨RX8, "distance", "(IIII)I"⟩
abbrev cX8_nearest : ByteArray := prog_10_method_53_code
def yX8_nearest : MethodName := ⟨RX8, "nearest", "(IIII)I"⟩
abbrev cX8_would : ByteArray := prog_10_method_54_code
def yX8_would : MethodName := ⟨RX8, "would", "(IIIII)I"⟩
abbrev cX8_wouldTake : ByteArray := prog_10_method_55_code
def yX8_wouldTake : MethodName := ⟨RX8, "wouldTake", "(II)I"⟩
abbrev cX8_boxMany : ByteArray := prog_10_method_56_code
def yX8_boxMany : MethodName := ⟨RX8, "boxMany", "()I"⟩
abbrev cX8_nodeMany : ByteArray := prog_10_method_57_code
def yX8_nodeMany : MethodName := ⟨RX8, "nodeMany", "(I)I"⟩
abbrev cX8_areas : ByteArray := prog_10_method_58_code
def yX8_areas : MethodName := ⟨RX8, "areas", "()I"⟩
abbrev cX8_count : ByteArray := prog_10_method_59_code
def yX8_count : MethodName := ⟨RX8, "count", "(I)I"⟩
abbrev cX8_type : ByteArray := prog_10_method_60_code
def yX8_type : MethodName := ⟨RX8, "type", "(I)I"⟩
abbrev cX8_clearText : ByteArray := prog_10_method_61_code
def yX8_clearText : MethodName := ⟨RX8, "clearText", "()I"⟩
abbrev cX8_here : ByteArray := prog_10_method_62_code
def yX8_here : MethodName := ⟨RX8, "here", "()I"⟩
abbrev cX8_reads : ByteArray := prog_10_method_63_code
def yX8_reads : MethodName := ⟨RX8, "reads", "(I)Z"⟩
abbrev cX8_wrong : ByteArray := prog_10_method_64_code
def yX8_wrong : MethodName := ⟨RX8, "wrong", "(II)V"⟩
abbrev cX8_order : ByteArray := prog_10_method_65_code
def yX8_order : MethodName := ⟨RX8, "order", "()V"⟩
abbrev cX8_tries : ByteArray := prog_10_method_66_code
def yX8_tries : MethodName := ⟨RX8, "tries", "()V"⟩
abbrev cX8_fault : ByteArray := prog_10_method_67_code
def yX8_fault : MethodName := ⟨RX8, "fault", "(I)I"⟩
abbrev cX8_play : ByteArray := prog_10_method_68_code
def yX8_play : MethodName := ⟨RX8, "play", "()I"⟩
def RJ6 : String := "java/lang/Integer"
def TJ6 : u_T := fun k => match k with
  | _ => ("", "", "", false)
def tyJ6 : Nat → FieldType := fun k => match k with
  | _ => .int
abbrev wsJ60 : List Cond := u_ws RJ6 TJ6 0
theorem nmJ6 : ∀ a, a < 0 → ∀ b, b < 0 → a ≠ b → (TJ6 a).2.1 ≠ (TJ6 b).2.1 := by decide +kernel
theorem tyJ6_ok : ∀ k, k < 0 → parseFieldDescriptor (TJ6 k).2.2.1 = some (tyJ6 k) := by decide +kernel
abbrev cJ6_bitCount_0f7a4 : ByteArray := prog_11_method_49_code
def yJ6_bitCount_0f7a4 : MethodName := ⟨RJ6, "bitCount", "(I)I"⟩
def RJ9 : String := "java/lang/Math"
def TJ9 : u_T := fun k => match k with
  | _ => ("", "", "", false)
def tyJ9 : Nat → FieldType := fun k => match k with
  | _ => .int
abbrev wsJ90 : List Cond := u_ws RJ9 TJ9 0
theorem nmJ9 : ∀ a, a < 0 → ∀ b, b < 0 → a ≠ b → (TJ9 a).2.1 ≠ (TJ9 b).2.1 := by decide +kernel
theorem tyJ9_ok : ∀ k, k < 0 → parseFieldDescriptor (TJ9 k).2.2.1 = some (tyJ9 k) := by decide +kernel
abbrev cJ9_max_7cf53 : ByteArray := prog_12_method_65_code
def yJ9_max_7cf53 : MethodName := ⟨RJ9, "max", "(II)I"⟩
abbrev cJ9_min_7cf53 : ByteArray := prog_12_method_69_code
def yJ9_min_7cf53 : MethodName := ⟨RJ9, "min", "(II)I"⟩
def RJ10 : String := "java/lang/System"
def TJ10 : u_T := fun k => match k with
  | _ => ("", "", "", false)
def tyJ10 : Nat → FieldType := fun k => match k with
  | _ => .int
abbrev wsJ100 : List Cond := u_ws RJ10 TJ10 0
theorem nmJ10 : ∀ a, a < 0 → ∀ b, b < 0 → a ≠ b → (TJ10 a).2.1 ≠ (TJ10 b).2.1 := by decide +kernel
theorem tyJ10_ok : ∀ k, k < 0 → parseFieldDescriptor (TJ10 k).2.2.1 = some (tyJ10 k) := by decide +kernel
def RJ7 : String := "java/util/Arrays"
def TJ7 : u_T := fun k => match k with
  | _ => ("", "", "", false)
def tyJ7 : Nat → FieldType := fun k => match k with
  | _ => .int
abbrev wsJ70 : List Cond := u_ws RJ7 TJ7 0
theorem nmJ7 : ∀ a, a < 0 → ∀ b, b < 0 → a ≠ b → (TJ7 a).2.1 ≠ (TJ7 b).2.1 := by decide +kernel
theorem tyJ7_ok : ∀ k, k < 0 → parseFieldDescriptor (TJ7 k).2.2.1 = some (tyJ7 k) := by decide +kernel
abbrev cJ7_fill_53178 : ByteArray := prog_14_method_103_code
def yJ7_fill_53178 : MethodName := ⟨RJ7, "fill", "([II)V"⟩
def RL : String := "BoxCourtLaw"
abbrev cL_law : ByteArray := code
def yL_law : MethodName := ⟨RL, "law", "([I)Z"⟩
abbrev vwCl : List vw_C := [(RX1, TX1, 12), (RX2, TX2, 3), (RX3, TX3, 9), (RX5, TX5, 3), (RX6, TX6, 11), (RX7, TX7, 9), (RX8, TX8, 34)]
theorem inX0 : ∀ w ∈ wsX00, w ∈ lw_tbl := by decide +kernel
theorem inX1 : ∀ w ∈ wsX10, w ∈ lw_tbl := by decide +kernel
theorem inX2 : ∀ w ∈ wsX20, w ∈ lw_tbl := by decide +kernel
theorem inX3 : ∀ w ∈ wsX30, w ∈ lw_tbl := by decide +kernel
theorem inX4 : ∀ w ∈ wsX40, w ∈ lw_tbl := by decide +kernel
theorem inX5 : ∀ w ∈ wsX50, w ∈ lw_tbl := by decide +kernel
theorem inX6 : ∀ w ∈ wsX60, w ∈ lw_tbl := by decide +kernel
theorem inX7 : ∀ w ∈ wsX70, w ∈ lw_tbl := by decide +kernel
theorem inX8 : ∀ w ∈ wsX80, w ∈ lw_tbl := by decide +kernel
end
section
theorem dX0_of_0 : decode cX0_of 0 = .ok (.iload_n 0, 1) := by decide +kernel
theorem dX0_of_1 : decode cX0_of 1 = .ok (.iload_n 1, 1) := by decide +kernel
theorem dX0_of_2 : decode cX0_of 2 = .ok (.bipush 7, 2) := by decide +kernel
theorem dX0_of_4 : decode cX0_of 4 = .ok (.ishl, 1) := by decide +kernel
theorem dX0_of_5 : decode cX0_of 5 = .ok (.ior, 1) := by decide +kernel
theorem dX0_of_6 : decode cX0_of 6 = .ok (.iload_n 2, 1) := by decide +kernel
theorem dX0_of_7 : decode cX0_of 7 = .ok (.bipush 14, 2) := by decide +kernel
theorem dX0_of_9 : decode cX0_of 9 = .ok (.ishl, 1) := by decide +kernel
theorem dX0_of_10 : decode cX0_of 10 = .ok (.ior, 1) := by decide +kernel
theorem dX0_of_11 : decode cX0_of 11 = .ok (.iload_n 3, 1) := by decide +kernel
theorem dX0_of_12 : decode cX0_of 12 = .ok (.bipush 21, 2) := by decide +kernel
theorem dX0_of_14 : decode cX0_of 14 = .ok (.ishl, 1) := by decide +kernel
theorem dX0_of_15 : decode cX0_of 15 = .ok (.ior, 1) := by decide +kernel
theorem dX0_of_16 : decode cX0_of 16 = .ok (.ireturn, 1) := by decide +kernel
theorem dX0_side_0 : decode cX0_side 0 = .ok (.iload_n 0, 1) := by decide +kernel
theorem dX0_side_1 : decode cX0_side 1 = .ok (.bipush 7, 2) := by decide +kernel
theorem dX0_side_3 : decode cX0_side 3 = .ok (.iload_n 1, 1) := by decide +kernel
theorem dX0_side_4 : decode cX0_side 4 = .ok (.imul, 1) := by decide +kernel
theorem dX0_side_5 : decode cX0_side 5 = .ok (.ishr, 1) := by decide +kernel
theorem dX0_side_6 : decode cX0_side 6 = .ok (.bipush 127, 2) := by decide +kernel
theorem dX0_side_8 : decode cX0_side 8 = .ok (.iand, 1) := by decide +kernel
theorem dX0_side_9 : decode cX0_side 9 = .ok (.ireturn, 1) := by decide +kernel
theorem dX0_area_0 : decode cX0_area 0 = .ok (.iload_n 0, 1) := by decide +kernel
theorem dX0_area_1 : decode cX0_area 1 = .ok (.iconst (-1), 1) := by decide +kernel
theorem dX0_area_2 : decode cX0_area 2 = .ok (.if_icmp .ne 7, 3) := by decide +kernel
theorem dX0_area_5 : decode cX0_area 5 = .ok (.iconst 0, 1) := by decide +kernel
theorem dX0_area_6 : decode cX0_area 6 = .ok (.goto 26, 3) := by decide +kernel
theorem dX0_area_9 : decode cX0_area 9 = .ok (.iload_n 0, 1) := by decide +kernel
theorem dX0_area_10 : decode cX0_area 10 = .ok (.iconst 2, 1) := by decide +kernel
theorem dX0_area_11 : decode cX0_area 11 = .ok (.invokestatic 9, 3) := by decide +kernel
theorem dX0_area_14 : decode cX0_area 14 = .ok (.iload_n 0, 1) := by decide +kernel
theorem dX0_area_15 : decode cX0_area 15 = .ok (.iconst 0, 1) := by decide +kernel
theorem dX0_area_16 : decode cX0_area 16 = .ok (.invokestatic 9, 3) := by decide +kernel
theorem dX0_area_19 : decode cX0_area 19 = .ok (.isub, 1) := by decide +kernel
theorem dX0_area_20 : decode cX0_area 20 = .ok (.iload_n 0, 1) := by decide +kernel
theorem dX0_area_21 : decode cX0_area 21 = .ok (.iconst 3, 1) := by decide +kernel
theorem dX0_area_22 : decode cX0_area 22 = .ok (.invokestatic 9, 3) := by decide +kernel
theorem dX0_area_25 : decode cX0_area 25 = .ok (.iload_n 0, 1) := by decide +kernel
theorem dX0_area_26 : decode cX0_area 26 = .ok (.iconst 1, 1) := by decide +kernel
theorem dX0_area_27 : decode cX0_area 27 = .ok (.invokestatic 9, 3) := by decide +kernel
theorem dX0_area_30 : decode cX0_area 30 = .ok (.isub, 1) := by decide +kernel
theorem dX0_area_31 : decode cX0_area 31 = .ok (.imul, 1) := by decide +kernel
theorem dX0_area_32 : decode cX0_area 32 = .ok (.ireturn, 1) := by decide +kernel
theorem dX0_around_0 : decode cX0_around 0 = .ok (.iload_n 0, 1) := by decide +kernel
theorem dX0_around_1 : decode cX0_around 1 = .ok (.iconst (-1), 1) := by decide +kernel
theorem dX0_around_2 : decode cX0_around 2 = .ok (.if_icmp .eq 8, 3) := by decide +kernel
theorem dX0_around_5 : decode cX0_around 5 = .ok (.iload_n 1, 1) := by decide +kernel
theorem dX0_around_6 : decode cX0_around 6 = .ok (.iconst (-1), 1) := by decide +kernel
theorem dX0_around_7 : decode cX0_around 7 = .ok (.if_icmp .ne 14, 3) := by decide +kernel
theorem dX0_around_10 : decode cX0_around 10 = .ok (.iload_n 0, 1) := by decide +kernel
theorem dX0_around_11 : decode cX0_around 11 = .ok (.iconst (-1), 1) := by decide +kernel
theorem dX0_around_12 : decode cX0_around 12 = .ok (.if_icmp .ne 7, 3) := by decide +kernel
theorem dX0_around_15 : decode cX0_around 15 = .ok (.iload_n 1, 1) := by decide +kernel
theorem dX0_around_16 : decode cX0_around 16 = .ok (.goto 4, 3) := by decide +kernel
theorem dX0_around_19 : decode cX0_around 19 = .ok (.iload_n 0, 1) := by decide +kernel
theorem dX0_around_20 : decode cX0_around 20 = .ok (.ireturn, 1) := by decide +kernel
theorem dX0_around_21 : decode cX0_around 21 = .ok (.iload_n 0, 1) := by decide +kernel
theorem dX0_around_22 : decode cX0_around 22 = .ok (.iconst 0, 1) := by decide +kernel
theorem dX0_around_23 : decode cX0_around 23 = .ok (.invokestatic 9, 3) := by decide +kernel
theorem dX0_around_26 : decode cX0_around 26 = .ok (.iload_n 1, 1) := by decide +kernel
theorem dX0_around_27 : decode cX0_around 27 = .ok (.iconst 0, 1) := by decide +kernel
theorem dX0_around_28 : decode cX0_around 28 = .ok (.invokestatic 9, 3) := by decide +kernel
theorem dX0_around_31 : decode cX0_around 31 = .ok (.invokestatic 15, 3) := by decide +kernel
theorem dX0_around_34 : decode cX0_around 34 = .ok (.iload_n 0, 1) := by decide +kernel
theorem dX0_around_35 : decode cX0_around 35 = .ok (.iconst 1, 1) := by decide +kernel
theorem dX0_around_36 : decode cX0_around 36 = .ok (.invokestatic 9, 3) := by decide +kernel
theorem dX0_around_39 : decode cX0_around 39 = .ok (.iload_n 1, 1) := by decide +kernel
theorem dX0_around_40 : decode cX0_around 40 = .ok (.iconst 1, 1) := by decide +kernel
theorem dX0_around_41 : decode cX0_around 41 = .ok (.invokestatic 9, 3) := by decide +kernel
theorem dX0_around_44 : decode cX0_around 44 = .ok (.invokestatic 15, 3) := by decide +kernel
theorem dX0_around_47 : decode cX0_around 47 = .ok (.iload_n 0, 1) := by decide +kernel
theorem dX0_around_48 : decode cX0_around 48 = .ok (.iconst 2, 1) := by decide +kernel
theorem dX0_around_49 : decode cX0_around 49 = .ok (.invokestatic 9, 3) := by decide +kernel
theorem dX0_around_52 : decode cX0_around 52 = .ok (.iload_n 1, 1) := by decide +kernel
theorem dX0_around_53 : decode cX0_around 53 = .ok (.iconst 2, 1) := by decide +kernel
theorem dX0_around_54 : decode cX0_around 54 = .ok (.invokestatic 9, 3) := by decide +kernel
theorem dX0_around_57 : decode cX0_around 57 = .ok (.invokestatic 20, 3) := by decide +kernel
theorem dX0_around_60 : decode cX0_around 60 = .ok (.iload_n 0, 1) := by decide +kernel
theorem dX0_around_61 : decode cX0_around 61 = .ok (.iconst 3, 1) := by decide +kernel
theorem dX0_around_62 : decode cX0_around 62 = .ok (.invokestatic 9, 3) := by decide +kernel
theorem dX0_around_65 : decode cX0_around 65 = .ok (.iload_n 1, 1) := by decide +kernel
theorem dX0_around_66 : decode cX0_around 66 = .ok (.iconst 3, 1) := by decide +kernel
theorem dX0_around_67 : decode cX0_around 67 = .ok (.invokestatic 9, 3) := by decide +kernel
theorem dX0_around_70 : decode cX0_around 70 = .ok (.invokestatic 20, 3) := by decide +kernel
theorem dX0_around_73 : decode cX0_around 73 = .ok (.invokestatic 23, 3) := by decide +kernel
theorem dX0_around_76 : decode cX0_around 76 = .ok (.ireturn, 1) := by decide +kernel
theorem dX0_touch_0 : decode cX0_touch 0 = .ok (.iload_n 0, 1) := by decide +kernel
theorem dX0_touch_1 : decode cX0_touch 1 = .ok (.iconst (-1), 1) := by decide +kernel
theorem dX0_touch_2 : decode cX0_touch 2 = .ok (.if_icmp .eq 64, 3) := by decide +kernel
theorem dX0_touch_5 : decode cX0_touch 5 = .ok (.iload_n 1, 1) := by decide +kernel
theorem dX0_touch_6 : decode cX0_touch 6 = .ok (.iconst (-1), 1) := by decide +kernel
theorem dX0_touch_7 : decode cX0_touch 7 = .ok (.if_icmp .eq 59, 3) := by decide +kernel
theorem dX0_touch_10 : decode cX0_touch 10 = .ok (.iload_n 0, 1) := by decide +kernel
theorem dX0_touch_11 : decode cX0_touch 11 = .ok (.iconst 0, 1) := by decide +kernel
theorem dX0_touch_12 : decode cX0_touch 12 = .ok (.invokestatic 9, 3) := by decide +kernel
theorem dX0_touch_15 : decode cX0_touch 15 = .ok (.iload_n 1, 1) := by decide +kernel
theorem dX0_touch_16 : decode cX0_touch 16 = .ok (.iconst 2, 1) := by decide +kernel
theorem dX0_touch_17 : decode cX0_touch 17 = .ok (.invokestatic 9, 3) := by decide +kernel
theorem dX0_touch_20 : decode cX0_touch 20 = .ok (.if_icmp .gt 46, 3) := by decide +kernel
theorem dX0_touch_23 : decode cX0_touch 23 = .ok (.iload_n 1, 1) := by decide +kernel
theorem dX0_touch_24 : decode cX0_touch 24 = .ok (.iconst 0, 1) := by decide +kernel
theorem dX0_touch_25 : decode cX0_touch 25 = .ok (.invokestatic 9, 3) := by decide +kernel
theorem dX0_touch_28 : decode cX0_touch 28 = .ok (.iload_n 0, 1) := by decide +kernel
theorem dX0_touch_29 : decode cX0_touch 29 = .ok (.iconst 2, 1) := by decide +kernel
theorem dX0_touch_30 : decode cX0_touch 30 = .ok (.invokestatic 9, 3) := by decide +kernel
theorem dX0_touch_33 : decode cX0_touch 33 = .ok (.if_icmp .gt 33, 3) := by decide +kernel
theorem dX0_touch_36 : decode cX0_touch 36 = .ok (.iload_n 0, 1) := by decide +kernel
theorem dX0_touch_37 : decode cX0_touch 37 = .ok (.iconst 1, 1) := by decide +kernel
theorem dX0_touch_38 : decode cX0_touch 38 = .ok (.invokestatic 9, 3) := by decide +kernel
theorem dX0_touch_41 : decode cX0_touch 41 = .ok (.iload_n 1, 1) := by decide +kernel
theorem dX0_touch_42 : decode cX0_touch 42 = .ok (.iconst 3, 1) := by decide +kernel
theorem dX0_touch_43 : decode cX0_touch 43 = .ok (.invokestatic 9, 3) := by decide +kernel
theorem dX0_touch_46 : decode cX0_touch 46 = .ok (.if_icmp .gt 20, 3) := by decide +kernel
theorem dX0_touch_49 : decode cX0_touch 49 = .ok (.iload_n 1, 1) := by decide +kernel
theorem dX0_touch_50 : decode cX0_touch 50 = .ok (.iconst 1, 1) := by decide +kernel
theorem dX0_touch_51 : decode cX0_touch 51 = .ok (.invokestatic 9, 3) := by decide +kernel
theorem dX0_touch_54 : decode cX0_touch 54 = .ok (.iload_n 0, 1) := by decide +kernel
theorem dX0_touch_55 : decode cX0_touch 55 = .ok (.iconst 3, 1) := by decide +kernel
theorem dX0_touch_56 : decode cX0_touch 56 = .ok (.invokestatic 9, 3) := by decide +kernel
theorem dX0_touch_59 : decode cX0_touch 59 = .ok (.if_icmp .gt 7, 3) := by decide +kernel
theorem dX0_touch_62 : decode cX0_touch 62 = .ok (.iconst 1, 1) := by decide +kernel
theorem dX0_touch_63 : decode cX0_touch 63 = .ok (.goto 4, 3) := by decide +kernel
theorem dX0_touch_66 : decode cX0_touch 66 = .ok (.iconst 0, 1) := by decide +kernel
theorem dX0_touch_67 : decode cX0_touch 67 = .ok (.ireturn, 1) := by decide +kernel
theorem dX0_common_0 : decode cX0_common 0 = .ok (.iload_n 0, 1) := by decide +kernel
theorem dX0_common_1 : decode cX0_common 1 = .ok (.iload_n 1, 1) := by decide +kernel
theorem dX0_common_2 : decode cX0_common 2 = .ok (.invokestatic 27, 3) := by decide +kernel
theorem dX0_common_5 : decode cX0_common 5 = .ok (.ifCond .ne 5, 3) := by decide +kernel
theorem dX0_common_8 : decode cX0_common 8 = .ok (.iconst 0, 1) := by decide +kernel
theorem dX0_common_9 : decode cX0_common 9 = .ok (.ireturn, 1) := by decide +kernel
theorem dX0_common_10 : decode cX0_common 10 = .ok (.iload_n 0, 1) := by decide +kernel
theorem dX0_common_11 : decode cX0_common 11 = .ok (.iconst 2, 1) := by decide +kernel
theorem dX0_common_12 : decode cX0_common 12 = .ok (.invokestatic 9, 3) := by decide +kernel
theorem dX0_common_15 : decode cX0_common 15 = .ok (.iload_n 1, 1) := by decide +kernel
theorem dX0_common_16 : decode cX0_common 16 = .ok (.iconst 2, 1) := by decide +kernel
theorem dX0_common_17 : decode cX0_common 17 = .ok (.invokestatic 9, 3) := by decide +kernel
theorem dX0_common_20 : decode cX0_common 20 = .ok (.invokestatic 15, 3) := by decide +kernel
theorem dX0_common_23 : decode cX0_common 23 = .ok (.iload_n 0, 1) := by decide +kernel
theorem dX0_common_24 : decode cX0_common 24 = .ok (.iconst 0, 1) := by decide +kernel
theorem dX0_common_25 : decode cX0_common 25 = .ok (.invokestatic 9, 3) := by decide +kernel
theorem dX0_common_28 : decode cX0_common 28 = .ok (.iload_n 1, 1) := by decide +kernel
theorem dX0_common_29 : decode cX0_common 29 = .ok (.iconst 0, 1) := by decide +kernel
theorem dX0_common_30 : decode cX0_common 30 = .ok (.invokestatic 9, 3) := by decide +kernel
theorem dX0_common_33 : decode cX0_common 33 = .ok (.invokestatic 20, 3) := by decide +kernel
theorem dX0_common_36 : decode cX0_common 36 = .ok (.isub, 1) := by decide +kernel
theorem dX0_common_37 : decode cX0_common 37 = .ok (.istore_n 2, 1) := by decide +kernel
theorem dX0_common_38 : decode cX0_common 38 = .ok (.iload_n 0, 1) := by decide +kernel
theorem dX0_common_39 : decode cX0_common 39 = .ok (.iconst 3, 1) := by decide +kernel
theorem dX0_common_40 : decode cX0_common 40 = .ok (.invokestatic 9, 3) := by decide +kernel
theorem dX0_common_43 : decode cX0_common 43 = .ok (.iload_n 1, 1) := by decide +kernel
theorem dX0_common_44 : decode cX0_common 44 = .ok (.iconst 3, 1) := by decide +kernel
theorem dX0_common_45 : decode cX0_common 45 = .ok (.invokestatic 9, 3) := by decide +kernel
theorem dX0_common_48 : decode cX0_common 48 = .ok (.invokestatic 15, 3) := by decide +kernel
theorem dX0_common_51 : decode cX0_common 51 = .ok (.iload_n 0, 1) := by decide +kernel
theorem dX0_common_52 : decode cX0_common 52 = .ok (.iconst 1, 1) := by decide +kernel
theorem dX0_common_53 : decode cX0_common 53 = .ok (.invokestatic 9, 3) := by decide +kernel
theorem dX0_common_56 : decode cX0_common 56 = .ok (.iload_n 1, 1) := by decide +kernel
theorem dX0_common_57 : decode cX0_common 57 = .ok (.iconst 1, 1) := by decide +kernel
theorem dX0_common_58 : decode cX0_common 58 = .ok (.invokestatic 9, 3) := by decide +kernel
theorem dX0_common_61 : decode cX0_common 61 = .ok (.invokestatic 20, 3) := by decide +kernel
theorem dX0_common_64 : decode cX0_common 64 = .ok (.isub, 1) := by decide +kernel
theorem dX0_common_65 : decode cX0_common 65 = .ok (.istore_n 3, 1) := by decide +kernel
theorem dX0_common_66 : decode cX0_common 66 = .ok (.iload_n 2, 1) := by decide +kernel
theorem dX0_common_67 : decode cX0_common 67 = .ok (.iload_n 3, 1) := by decide +kernel
theorem dX0_common_68 : decode cX0_common 68 = .ok (.imul, 1) := by decide +kernel
theorem dX0_common_69 : decode cX0_common 69 = .ok (.ireturn, 1) := by decide +kernel
theorem dX0_distance_0 : decode cX0_distance 0 = .ok (.iconst 0, 1) := by decide +kernel
theorem dX0_distance_1 : decode cX0_distance 1 = .ok (.iload_n 0, 1) := by decide +kernel
theorem dX0_distance_2 : decode cX0_distance 2 = .ok (.iconst 0, 1) := by decide +kernel
theorem dX0_distance_3 : decode cX0_distance 3 = .ok (.invokestatic 9, 3) := by decide +kernel
theorem dX0_distance_6 : decode cX0_distance 6 = .ok (.iload_n 1, 1) := by decide +kernel
theorem dX0_distance_7 : decode cX0_distance 7 = .ok (.isub, 1) := by decide +kernel
theorem dX0_distance_8 : decode cX0_distance 8 = .ok (.iload_n 1, 1) := by decide +kernel
theorem dX0_distance_9 : decode cX0_distance 9 = .ok (.iload_n 0, 1) := by decide +kernel
theorem dX0_distance_10 : decode cX0_distance 10 = .ok (.iconst 2, 1) := by decide +kernel
theorem dX0_distance_11 : decode cX0_distance 11 = .ok (.invokestatic 9, 3) := by decide +kernel
theorem dX0_distance_14 : decode cX0_distance 14 = .ok (.isub, 1) := by decide +kernel
theorem dX0_distance_15 : decode cX0_distance 15 = .ok (.invokestatic 20, 3) := by decide +kernel
theorem dX0_distance_18 : decode cX0_distance 18 = .ok (.invokestatic 20, 3) := by decide +kernel
theorem dX0_distance_21 : decode cX0_distance 21 = .ok (.istore_n 3, 1) := by decide +kernel
theorem dX0_distance_22 : decode cX0_distance 22 = .ok (.iconst 0, 1) := by decide +kernel
theorem dX0_distance_23 : decode cX0_distance 23 = .ok (.iload_n 0, 1) := by decide +kernel
theorem dX0_distance_24 : decode cX0_distance 24 = .ok (.iconst 1, 1) := by decide +kernel
theorem dX0_distance_25 : decode cX0_distance 25 = .ok (.invokestatic 9, 3) := by decide +kernel
theorem dX0_distance_28 : decode cX0_distance 28 = .ok (.iload_n 2, 1) := by decide +kernel
theorem dX0_distance_29 : decode cX0_distance 29 = .ok (.isub, 1) := by decide +kernel
theorem dX0_distance_30 : decode cX0_distance 30 = .ok (.iload_n 2, 1) := by decide +kernel
theorem dX0_distance_31 : decode cX0_distance 31 = .ok (.iload_n 0, 1) := by decide +kernel
theorem dX0_distance_32 : decode cX0_distance 32 = .ok (.iconst 3, 1) := by decide +kernel
theorem dX0_distance_33 : decode cX0_distance 33 = .ok (.invokestatic 9, 3) := by decide +kernel
theorem dX0_distance_36 : decode cX0_distance 36 = .ok (.isub, 1) := by decide +kernel
theorem dX0_distance_37 : decode cX0_distance 37 = .ok (.invokestatic 20, 3) := by decide +kernel
theorem dX0_distance_40 : decode cX0_distance 40 = .ok (.invokestatic 20, 3) := by decide +kernel
theorem dX0_distance_43 : decode cX0_distance 43 = .ok (.istore 4, 2) := by decide +kernel
theorem dX0_distance_45 : decode cX0_distance 45 = .ok (.iload_n 3, 1) := by decide +kernel
theorem dX0_distance_46 : decode cX0_distance 46 = .ok (.iload_n 3, 1) := by decide +kernel
theorem dX0_distance_47 : decode cX0_distance 47 = .ok (.imul, 1) := by decide +kernel
theorem dX0_distance_48 : decode cX0_distance 48 = .ok (.iload 4, 2) := by decide +kernel
theorem dX0_distance_50 : decode cX0_distance 50 = .ok (.iload 4, 2) := by decide +kernel
theorem dX0_distance_52 : decode cX0_distance 52 = .ok (.imul, 1) := by decide +kernel
theorem dX0_distance_53 : decode cX0_distance 53 = .ok (.iadd, 1) := by decide +kernel
theorem dX0_distance_54 : decode cX0_distance 54 = .ok (.ireturn, 1) := by decide +kernel
theorem dX0_apart_0 : decode cX0_apart 0 = .ok (.iload_n 0, 1) := by decide +kernel
theorem dX0_apart_1 : decode cX0_apart 1 = .ok (.iconst 0, 1) := by decide +kernel
theorem dX0_apart_2 : decode cX0_apart 2 = .ok (.invokestatic 9, 3) := by decide +kernel
theorem dX0_apart_5 : decode cX0_apart 5 = .ok (.iload_n 0, 1) := by decide +kernel
theorem dX0_apart_6 : decode cX0_apart 6 = .ok (.iconst 2, 1) := by decide +kernel
theorem dX0_apart_7 : decode cX0_apart 7 = .ok (.invokestatic 9, 3) := by decide +kernel
theorem dX0_apart_10 : decode cX0_apart 10 = .ok (.iadd, 1) := by decide +kernel
theorem dX0_apart_11 : decode cX0_apart 11 = .ok (.iload_n 1, 1) := by decide +kernel
theorem dX0_apart_12 : decode cX0_apart 12 = .ok (.iconst 0, 1) := by decide +kernel
theorem dX0_apart_13 : decode cX0_apart 13 = .ok (.invokestatic 9, 3) := by decide +kernel
theorem dX0_apart_16 : decode cX0_apart 16 = .ok (.isub, 1) := by decide +kernel
theorem dX0_apart_17 : decode cX0_apart 17 = .ok (.iload_n 1, 1) := by decide +kernel
theorem dX0_apart_18 : decode cX0_apart 18 = .ok (.iconst 2, 1) := by decide +kernel
theorem dX0_apart_19 : decode cX0_apart 19 = .ok (.invokestatic 9, 3) := by decide +kernel
theorem dX0_apart_22 : decode cX0_apart 22 = .ok (.isub, 1) := by decide +kernel
theorem dX0_apart_23 : decode cX0_apart 23 = .ok (.istore_n 2, 1) := by decide +kernel
theorem dX0_apart_24 : decode cX0_apart 24 = .ok (.iload_n 0, 1) := by decide +kernel
theorem dX0_apart_25 : decode cX0_apart 25 = .ok (.iconst 1, 1) := by decide +kernel
theorem dX0_apart_26 : decode cX0_apart 26 = .ok (.invokestatic 9, 3) := by decide +kernel
theorem dX0_apart_29 : decode cX0_apart 29 = .ok (.iload_n 0, 1) := by decide +kernel
theorem dX0_apart_30 : decode cX0_apart 30 = .ok (.iconst 3, 1) := by decide +kernel
theorem dX0_apart_31 : decode cX0_apart 31 = .ok (.invokestatic 9, 3) := by decide +kernel
theorem dX0_apart_34 : decode cX0_apart 34 = .ok (.iadd, 1) := by decide +kernel
theorem dX0_apart_35 : decode cX0_apart 35 = .ok (.iload_n 1, 1) := by decide +kernel
theorem dX0_apart_36 : decode cX0_apart 36 = .ok (.iconst 1, 1) := by decide +kernel
theorem dX0_apart_37 : decode cX0_apart 37 = .ok (.invokestatic 9, 3) := by decide +kernel
theorem dX0_apart_40 : decode cX0_apart 40 = .ok (.isub, 1) := by decide +kernel
theorem dX0_apart_41 : decode cX0_apart 41 = .ok (.iload_n 1, 1) := by decide +kernel
theorem dX0_apart_42 : decode cX0_apart 42 = .ok (.iconst 3, 1) := by decide +kernel
theorem dX0_apart_43 : decode cX0_apart 43 = .ok (.invokestatic 9, 3) := by decide +kernel
theorem dX0_apart_46 : decode cX0_apart 46 = .ok (.isub, 1) := by decide +kernel
theorem dX0_apart_47 : decode cX0_apart 47 = .ok (.istore_n 3, 1) := by decide +kernel
theorem dX0_apart_48 : decode cX0_apart 48 = .ok (.iload_n 2, 1) := by decide +kernel
theorem dX0_apart_49 : decode cX0_apart 49 = .ok (.iload_n 2, 1) := by decide +kernel
theorem dX0_apart_50 : decode cX0_apart 50 = .ok (.imul, 1) := by decide +kernel
theorem dX0_apart_51 : decode cX0_apart 51 = .ok (.iload_n 3, 1) := by decide +kernel
theorem dX0_apart_52 : decode cX0_apart 52 = .ok (.iload_n 3, 1) := by decide +kernel
theorem dX0_apart_53 : decode cX0_apart 53 = .ok (.imul, 1) := by decide +kernel
theorem dX0_apart_54 : decode cX0_apart 54 = .ok (.iadd, 1) := by decide +kernel
theorem dX0_apart_55 : decode cX0_apart 55 = .ok (.ireturn, 1) := by decide +kernel
theorem dX0_key_0 : decode cX0_key 0 = .ok (.iload_n 0, 1) := by decide +kernel
theorem dX0_key_1 : decode cX0_key 1 = .ok (.iload_n 1, 1) := by decide +kernel
theorem dX0_key_2 : decode cX0_key 2 = .ok (.invokestatic 9, 3) := by decide +kernel
theorem dX0_key_5 : decode cX0_key 5 = .ok (.bipush 7, 2) := by decide +kernel
theorem dX0_key_7 : decode cX0_key 7 = .ok (.ishl, 1) := by decide +kernel
theorem dX0_key_8 : decode cX0_key 8 = .ok (.iload_n 0, 1) := by decide +kernel
theorem dX0_key_9 : decode cX0_key 9 = .ok (.iload_n 1, 1) := by decide +kernel
theorem dX0_key_10 : decode cX0_key 10 = .ok (.iconst 2, 1) := by decide +kernel
theorem dX0_key_11 : decode cX0_key 11 = .ok (.iadd, 1) := by decide +kernel
theorem dX0_key_12 : decode cX0_key 12 = .ok (.invokestatic 9, 3) := by decide +kernel
theorem dX0_key_15 : decode cX0_key 15 = .ok (.ior, 1) := by decide +kernel
theorem dX0_key_16 : decode cX0_key 16 = .ok (.ireturn, 1) := by decide +kernel
theorem dX1_init_0 : decode cX1_init 0 = .ok (.aload_n 0, 1) := by decide +kernel
theorem dX1_init_1 : decode cX1_init 1 = .ok (.invokespecial 3, 3) := by decide +kernel
theorem dX1_init_4 : decode cX1_init 4 = .ok (.aload_n 0, 1) := by decide +kernel
theorem dX1_init_5 : decode cX1_init 5 = .ok (.bipush 64, 2) := by decide +kernel
theorem dX1_init_7 : decode cX1_init 7 = .ok (.newarray .int, 2) := by decide +kernel
theorem dX1_init_9 : decode cX1_init 9 = .ok (.putfield 9, 3) := by decide +kernel
theorem dX1_init_12 : decode cX1_init 12 = .ok (.aload_n 0, 1) := by decide +kernel
theorem dX1_init_13 : decode cX1_init 13 = .ok (.bipush 64, 2) := by decide +kernel
theorem dX1_init_15 : decode cX1_init 15 = .ok (.newarray .int, 2) := by decide +kernel
theorem dX1_init_17 : decode cX1_init 17 = .ok (.putfield 15, 3) := by decide +kernel
theorem dX1_init_20 : decode cX1_init 20 = .ok (.aload_n 0, 1) := by decide +kernel
theorem dX1_init_21 : decode cX1_init 21 = .ok (.bipush 64, 2) := by decide +kernel
theorem dX1_init_23 : decode cX1_init 23 = .ok (.newarray .int, 2) := by decide +kernel
theorem dX1_init_25 : decode cX1_init 25 = .ok (.putfield 18, 3) := by decide +kernel
theorem dX1_init_28 : decode cX1_init 28 = .ok (.aload_n 0, 1) := by decide +kernel
theorem dX1_init_29 : decode cX1_init 29 = .ok (.bipush 64, 2) := by decide +kernel
theorem dX1_init_31 : decode cX1_init 31 = .ok (.newarray .int, 2) := by decide +kernel
theorem dX1_init_33 : decode cX1_init 33 = .ok (.putfield 21, 3) := by decide +kernel
theorem dX1_init_36 : decode cX1_init 36 = .ok (.aload_n 0, 1) := by decide +kernel
theorem dX1_init_37 : decode cX1_init 37 = .ok (.bipush 8, 2) := by decide +kernel
theorem dX1_init_39 : decode cX1_init 39 = .ok (.newarray .int, 2) := by decide +kernel
theorem dX1_init_41 : decode cX1_init 41 = .ok (.putfield 24, 3) := by decide +kernel
theorem dX1_init_44 : decode cX1_init 44 = .ok (.aload_n 0, 1) := by decide +kernel
theorem dX1_init_45 : decode cX1_init 45 = .ok (.iconst 5, 1) := by decide +kernel
theorem dX1_init_46 : decode cX1_init 46 = .ok (.newarray .int, 2) := by decide +kernel
theorem dX1_init_48 : decode cX1_init 48 = .ok (.putfield 27, 3) := by decide +kernel
theorem dX1_init_51 : decode cX1_init 51 = .ok (.aload_n 0, 1) := by decide +kernel
theorem dX1_init_52 : decode cX1_init 52 = .ok (.iconst 5, 1) := by decide +kernel
theorem dX1_init_53 : decode cX1_init 53 = .ok (.newarray .int, 2) := by decide +kernel
theorem dX1_init_55 : decode cX1_init 55 = .ok (.putfield 30, 3) := by decide +kernel
theorem dX1_init_58 : decode cX1_init 58 = .ok (.aload_n 0, 1) := by decide +kernel
theorem dX1_init_59 : decode cX1_init 59 = .ok (.aload_n 1, 1) := by decide +kernel
theorem dX1_init_60 : decode cX1_init 60 = .ok (.putfield 33, 3) := by decide +kernel
theorem dX1_init_63 : decode cX1_init 63 = .ok (.aload_n 0, 1) := by decide +kernel
theorem dX1_init_64 : decode cX1_init 64 = .ok (.aload_n 2, 1) := by decide +kernel
theorem dX1_init_65 : decode cX1_init 65 = .ok (.putfield 37, 3) := by decide +kernel
theorem dX1_init_68 : decode cX1_init 68 = .ok (.return_, 1) := by decide +kernel
theorem dX1_courtLevel_0 : decode cX1_courtLevel 0 = .ok (.aload_n 0, 1) := by decide +kernel
theorem dX1_courtLevel_1 : decode cX1_courtLevel 1 = .ok (.getfield 18, 3) := by decide +kernel
theorem dX1_courtLevel_4 : decode cX1_courtLevel 4 = .ok (.iload_n 1, 1) := by decide +kernel
theorem dX1_courtLevel_5 : decode cX1_courtLevel 5 = .ok (.invokestatic 41, 3) := by decide +kernel
theorem dX1_courtLevel_8 : decode cX1_courtLevel 8 = .ok (.ireturn, 1) := by decide +kernel
theorem dX1_courtBoxes_0 : decode cX1_courtBoxes 0 = .ok (.aload_n 0, 1) := by decide +kernel
theorem dX1_courtBoxes_1 : decode cX1_courtBoxes 1 = .ok (.getfield 21, 3) := by decide +kernel
theorem dX1_courtBoxes_4 : decode cX1_courtBoxes 4 = .ok (.iload_n 1, 1) := by decide +kernel
theorem dX1_courtBoxes_5 : decode cX1_courtBoxes 5 = .ok (.invokestatic 41, 3) := by decide +kernel
theorem dX1_courtBoxes_8 : decode cX1_courtBoxes 8 = .ok (.ireturn, 1) := by decide +kernel
theorem dX1_bringIn_0 : decode cX1_bringIn 0 = .ok (.aload_n 0, 1) := by decide +kernel
theorem dX1_bringIn_1 : decode cX1_bringIn 1 = .ok (.iconst 0, 1) := by decide +kernel
theorem dX1_bringIn_2 : decode cX1_bringIn 2 = .ok (.putfield 47, 3) := by decide +kernel
theorem dX1_bringIn_5 : decode cX1_bringIn 5 = .ok (.aload_n 0, 1) := by decide +kernel
theorem dX1_bringIn_6 : decode cX1_bringIn 6 = .ok (.getfield 33, 3) := by decide +kernel
theorem dX1_bringIn_9 : decode cX1_bringIn 9 = .ok (.iload_n 1, 1) := by decide +kernel
theorem dX1_bringIn_10 : decode cX1_bringIn 10 = .ok (.iload_n 2, 1) := by decide +kernel
theorem dX1_bringIn_11 : decode cX1_bringIn 11 = .ok (.invokevirtual 51, 3) := by decide +kernel
theorem dX1_bringIn_14 : decode cX1_bringIn 14 = .ok (.aload_n 0, 1) := by decide +kernel
theorem dX1_bringIn_15 : decode cX1_bringIn 15 = .ok (.iload_n 1, 1) := by decide +kernel
theorem dX1_bringIn_16 : decode cX1_bringIn 16 = .ok (.iconst 0, 1) := by decide +kernel
theorem dX1_bringIn_17 : decode cX1_bringIn 17 = .ok (.invokevirtual 57, 3) := by decide +kernel
theorem dX1_bringIn_20 : decode cX1_bringIn 20 = .ok (.return_, 1) := by decide +kernel
theorem dX1_takeOut_0 : decode cX1_takeOut 0 = .ok (.aload_n 0, 1) := by decide +kernel
theorem dX1_takeOut_1 : decode cX1_takeOut 1 = .ok (.iconst 0, 1) := by decide +kernel
theorem dX1_takeOut_2 : decode cX1_takeOut 2 = .ok (.putfield 47, 3) := by decide +kernel
theorem dX1_takeOut_5 : decode cX1_takeOut 5 = .ok (.aload_n 0, 1) := by decide +kernel
theorem dX1_takeOut_6 : decode cX1_takeOut 6 = .ok (.getfield 33, 3) := by decide +kernel
theorem dX1_takeOut_9 : decode cX1_takeOut 9 = .ok (.iload_n 1, 1) := by decide +kernel
theorem dX1_takeOut_10 : decode cX1_takeOut 10 = .ok (.invokevirtual 60, 3) := by decide +kernel
theorem dX1_takeOut_13 : decode cX1_takeOut 13 = .ok (.istore_n 2, 1) := by decide +kernel
theorem dX1_takeOut_14 : decode cX1_takeOut 14 = .ok (.aload_n 0, 1) := by decide +kernel
theorem dX1_takeOut_15 : decode cX1_takeOut 15 = .ok (.getfield 33, 3) := by decide +kernel
theorem dX1_takeOut_18 : decode cX1_takeOut 18 = .ok (.iload_n 2, 1) := by decide +kernel
theorem dX1_takeOut_19 : decode cX1_takeOut 19 = .ok (.aload_n 0, 1) := by decide +kernel
theorem dX1_takeOut_20 : decode cX1_takeOut 20 = .ok (.getfield 33, 3) := by decide +kernel
theorem dX1_takeOut_23 : decode cX1_takeOut 23 = .ok (.iload_n 2, 1) := by decide +kernel
theorem dX1_takeOut_24 : decode cX1_takeOut 24 = .ok (.iload_n 1, 1) := by decide +kernel
theorem dX1_takeOut_25 : decode cX1_takeOut 25 = .ok (.invokevirtual 64, 3) := by decide +kernel
theorem dX1_takeOut_28 : decode cX1_takeOut 28 = .ok (.invokevirtual 68, 3) := by decide +kernel
theorem dX1_takeOut_31 : decode cX1_takeOut 31 = .ok (.aload_n 0, 1) := by decide +kernel
theorem dX1_takeOut_32 : decode cX1_takeOut 32 = .ok (.getfield 33, 3) := by decide +kernel
theorem dX1_takeOut_35 : decode cX1_takeOut 35 = .ok (.iload_n 1, 1) := by decide +kernel
theorem dX1_takeOut_36 : decode cX1_takeOut 36 = .ok (.iconst (-1), 1) := by decide +kernel
theorem dX1_takeOut_37 : decode cX1_takeOut 37 = .ok (.invokevirtual 51, 3) := by decide +kernel
theorem dX1_takeOut_40 : decode cX1_takeOut 40 = .ok (.aload_n 0, 1) := by decide +kernel
theorem dX1_takeOut_41 : decode cX1_takeOut 41 = .ok (.getfield 33, 3) := by decide +kernel
theorem dX1_takeOut_44 : decode cX1_takeOut 44 = .ok (.iload_n 2, 1) := by decide +kernel
theorem dX1_takeOut_45 : decode cX1_takeOut 45 = .ok (.invokevirtual 71, 3) := by decide +kernel
theorem dX1_takeOut_48 : decode cX1_takeOut 48 = .ok (.aload_n 0, 1) := by decide +kernel
theorem dX1_takeOut_49 : decode cX1_takeOut 49 = .ok (.iload_n 2, 1) := by decide +kernel
theorem dX1_takeOut_50 : decode cX1_takeOut 50 = .ok (.invokevirtual 75, 3) := by decide +kernel
theorem dX1_takeOut_53 : decode cX1_takeOut 53 = .ok (.bipush 7, 2) := by decide +kernel
theorem dX1_takeOut_55 : decode cX1_takeOut 55 = .ok (.istore_n 3, 1) := by decide +kernel
theorem dX1_takeOut_56 : decode cX1_takeOut 56 = .ok (.iload_n 3, 1) := by decide +kernel
theorem dX1_takeOut_57 : decode cX1_takeOut 57 = .ok (.ifCond .lt 45, 3) := by decide +kernel
theorem dX1_takeOut_60 : decode cX1_takeOut 60 = .ok (.aload_n 0, 1) := by decide +kernel
theorem dX1_takeOut_61 : decode cX1_takeOut 61 = .ok (.getfield 24, 3) := by decide +kernel
theorem dX1_takeOut_64 : decode cX1_takeOut 64 = .ok (.iload_n 3, 1) := by decide +kernel
theorem dX1_takeOut_65 : decode cX1_takeOut 65 = .ok (.invokestatic 41, 3) := by decide +kernel
theorem dX1_takeOut_68 : decode cX1_takeOut 68 = .ok (.istore 4, 2) := by decide +kernel
theorem dX1_takeOut_70 : decode cX1_takeOut 70 = .ok (.iload 4, 2) := by decide +kernel
theorem dX1_takeOut_72 : decode cX1_takeOut 72 = .ok (.iconst (-1), 1) := by decide +kernel
theorem dX1_takeOut_73 : decode cX1_takeOut 73 = .ok (.if_icmp .eq 23, 3) := by decide +kernel
theorem dX1_takeOut_76 : decode cX1_takeOut 76 = .ok (.aload_n 0, 1) := by decide +kernel
theorem dX1_takeOut_77 : decode cX1_takeOut 77 = .ok (.getfield 33, 3) := by decide +kernel
theorem dX1_takeOut_80 : decode cX1_takeOut 80 = .ok (.dup, 1) := by decide +kernel
theorem dX1_takeOut_81 : decode cX1_takeOut 81 = .ok (.getfield 78, 3) := by decide +kernel
theorem dX1_takeOut_84 : decode cX1_takeOut 84 = .ok (.iconst 1, 1) := by decide +kernel
theorem dX1_takeOut_85 : decode cX1_takeOut 85 = .ok (.iadd, 1) := by decide +kernel
theorem dX1_takeOut_86 : decode cX1_takeOut 86 = .ok (.putfield 78, 3) := by decide +kernel
theorem dX1_takeOut_89 : decode cX1_takeOut 89 = .ok (.aload_n 0, 1) := by decide +kernel
theorem dX1_takeOut_90 : decode cX1_takeOut 90 = .ok (.iload 4, 2) := by decide +kernel
theorem dX1_takeOut_92 : decode cX1_takeOut 92 = .ok (.iload_n 3, 1) := by decide +kernel
theorem dX1_takeOut_93 : decode cX1_takeOut 93 = .ok (.invokevirtual 57, 3) := by decide +kernel
theorem dX1_takeOut_96 : decode cX1_takeOut 96 = .ok (.iinc 3 (-1), 3) := by decide +kernel
theorem dX1_takeOut_99 : decode cX1_takeOut 99 = .ok (.goto (-43), 3) := by decide +kernel
theorem dX1_takeOut_102 : decode cX1_takeOut 102 = .ok (.aload_n 0, 1) := by decide +kernel
theorem dX1_takeOut_103 : decode cX1_takeOut 103 = .ok (.getfield 33, 3) := by decide +kernel
theorem dX1_takeOut_106 : decode cX1_takeOut 106 = .ok (.invokevirtual 80, 3) := by decide +kernel
theorem dX1_takeOut_109 : decode cX1_takeOut 109 = .ok (.return_, 1) := by decide +kernel
theorem dX1_dissolveFrom_0 : decode cX1_dissolveFrom 0 = .ok (.aload_n 0, 1) := by decide +kernel
theorem dX1_dissolveFrom_1 : decode cX1_dissolveFrom 1 = .ok (.getfield 24, 3) := by decide +kernel
theorem dX1_dissolveFrom_4 : decode cX1_dissolveFrom 4 = .ok (.iconst (-1), 1) := by decide +kernel
theorem dX1_dissolveFrom_5 : decode cX1_dissolveFrom 5 = .ok (.invokestatic 83, 3) := by decide +kernel
theorem dX1_dissolveFrom_8 : decode cX1_dissolveFrom 8 = .ok (.iload_n 1, 1) := by decide +kernel
theorem dX1_dissolveFrom_9 : decode cX1_dissolveFrom 9 = .ok (.istore_n 2, 1) := by decide +kernel
theorem dX1_dissolveFrom_10 : decode cX1_dissolveFrom 10 = .ok (.iconst 0, 1) := by decide +kernel
theorem dX1_dissolveFrom_11 : decode cX1_dissolveFrom 11 = .ok (.istore_n 3, 1) := by decide +kernel
theorem dX1_dissolveFrom_12 : decode cX1_dissolveFrom 12 = .ok (.iload_n 3, 1) := by decide +kernel
theorem dX1_dissolveFrom_13 : decode cX1_dissolveFrom 13 = .ok (.bipush 8, 2) := by decide +kernel
theorem dX1_dissolveFrom_15 : decode cX1_dissolveFrom 15 = .ok (.if_icmp .ge 110, 3) := by decide +kernel
theorem dX1_dissolveFrom_18 : decode cX1_dissolveFrom 18 = .ok (.iload_n 2, 1) := by decide +kernel
theorem dX1_dissolveFrom_19 : decode cX1_dissolveFrom 19 = .ok (.iconst (-1), 1) := by decide +kernel
theorem dX1_dissolveFrom_20 : decode cX1_dissolveFrom 20 = .ok (.if_icmp .eq 105, 3) := by decide +kernel
theorem dX1_dissolveFrom_23 : decode cX1_dissolveFrom 23 = .ok (.iload_n 2, 1) := by decide +kernel
theorem dX1_dissolveFrom_24 : decode cX1_dissolveFrom 24 = .ok (.aload_n 0, 1) := by decide +kernel
theorem dX1_dissolveFrom_25 : decode cX1_dissolveFrom 25 = .ok (.getfield 33, 3) := by decide +kernel
theorem dX1_dissolveFrom_28 : decode cX1_dissolveFrom 28 = .ok (.getfield 89, 3) := by decide +kernel
theorem dX1_dissolveFrom_31 : decode cX1_dissolveFrom 31 = .ok (.if_icmp .eq 94, 3) := by decide +kernel
theorem dX1_dissolveFrom_34 : decode cX1_dissolveFrom 34 = .ok (.aload_n 0, 1) := by decide +kernel
theorem dX1_dissolveFrom_35 : decode cX1_dissolveFrom 35 = .ok (.getfield 33, 3) := by decide +kernel
theorem dX1_dissolveFrom_38 : decode cX1_dissolveFrom 38 = .ok (.iload_n 2, 1) := by decide +kernel
theorem dX1_dissolveFrom_39 : decode cX1_dissolveFrom 39 = .ok (.invokevirtual 92, 3) := by decide +kernel
theorem dX1_dissolveFrom_42 : decode cX1_dissolveFrom 42 = .ok (.istore 4, 2) := by decide +kernel
theorem dX1_dissolveFrom_44 : decode cX1_dissolveFrom 44 = .ok (.aload_n 0, 1) := by decide +kernel
theorem dX1_dissolveFrom_45 : decode cX1_dissolveFrom 45 = .ok (.getfield 33, 3) := by decide +kernel
theorem dX1_dissolveFrom_48 : decode cX1_dissolveFrom 48 = .ok (.iload_n 2, 1) := by decide +kernel
theorem dX1_dissolveFrom_49 : decode cX1_dissolveFrom 49 = .ok (.invokevirtual 95, 3) := by decide +kernel
theorem dX1_dissolveFrom_52 : decode cX1_dissolveFrom 52 = .ok (.iconst 2, 1) := by decide +kernel
theorem dX1_dissolveFrom_53 : decode cX1_dissolveFrom 53 = .ok (.if_icmp .ge 63, 3) := by decide +kernel
theorem dX1_dissolveFrom_56 : decode cX1_dissolveFrom 56 = .ok (.aload_n 0, 1) := by decide +kernel
theorem dX1_dissolveFrom_57 : decode cX1_dissolveFrom 57 = .ok (.getfield 24, 3) := by decide +kernel
theorem dX1_dissolveFrom_60 : decode cX1_dissolveFrom 60 = .ok (.aload_n 0, 1) := by decide +kernel
theorem dX1_dissolveFrom_61 : decode cX1_dissolveFrom 61 = .ok (.getfield 33, 3) := by decide +kernel
theorem dX1_dissolveFrom_64 : decode cX1_dissolveFrom 64 = .ok (.iload_n 2, 1) := by decide +kernel
theorem dX1_dissolveFrom_65 : decode cX1_dissolveFrom 65 = .ok (.invokevirtual 98, 3) := by decide +kernel
theorem dX1_dissolveFrom_68 : decode cX1_dissolveFrom 68 = .ok (.aload_n 0, 1) := by decide +kernel
theorem dX1_dissolveFrom_69 : decode cX1_dissolveFrom 69 = .ok (.getfield 33, 3) := by decide +kernel
theorem dX1_dissolveFrom_72 : decode cX1_dissolveFrom 72 = .ok (.iload_n 2, 1) := by decide +kernel
theorem dX1_dissolveFrom_73 : decode cX1_dissolveFrom 73 = .ok (.iconst 0, 1) := by decide +kernel
theorem dX1_dissolveFrom_74 : decode cX1_dissolveFrom 74 = .ok (.invokevirtual 101, 3) := by decide +kernel
theorem dX1_dissolveFrom_77 : decode cX1_dissolveFrom 77 = .ok (.invokestatic 104, 3) := by decide +kernel
theorem dX1_dissolveFrom_80 : decode cX1_dissolveFrom 80 = .ok (.aload_n 0, 1) := by decide +kernel
theorem dX1_dissolveFrom_81 : decode cX1_dissolveFrom 81 = .ok (.getfield 33, 3) := by decide +kernel
theorem dX1_dissolveFrom_84 : decode cX1_dissolveFrom 84 = .ok (.iload 4, 2) := by decide +kernel
theorem dX1_dissolveFrom_86 : decode cX1_dissolveFrom 86 = .ok (.aload_n 0, 1) := by decide +kernel
theorem dX1_dissolveFrom_87 : decode cX1_dissolveFrom 87 = .ok (.getfield 33, 3) := by decide +kernel
theorem dX1_dissolveFrom_90 : decode cX1_dissolveFrom 90 = .ok (.iload 4, 2) := by decide +kernel
theorem dX1_dissolveFrom_92 : decode cX1_dissolveFrom 92 = .ok (.iload_n 2, 1) := by decide +kernel
theorem dX1_dissolveFrom_93 : decode cX1_dissolveFrom 93 = .ok (.invokevirtual 64, 3) := by decide +kernel
theorem dX1_dissolveFrom_96 : decode cX1_dissolveFrom 96 = .ok (.invokevirtual 68, 3) := by decide +kernel
theorem dX1_dissolveFrom_99 : decode cX1_dissolveFrom 99 = .ok (.aload_n 0, 1) := by decide +kernel
theorem dX1_dissolveFrom_100 : decode cX1_dissolveFrom 100 = .ok (.getfield 33, 3) := by decide +kernel
theorem dX1_dissolveFrom_103 : decode cX1_dissolveFrom 103 = .ok (.iload_n 2, 1) := by decide +kernel
theorem dX1_dissolveFrom_104 : decode cX1_dissolveFrom 104 = .ok (.invokevirtual 108, 3) := by decide +kernel
theorem dX1_dissolveFrom_107 : decode cX1_dissolveFrom 107 = .ok (.aload_n 0, 1) := by decide +kernel
theorem dX1_dissolveFrom_108 : decode cX1_dissolveFrom 108 = .ok (.getfield 33, 3) := by decide +kernel
theorem dX1_dissolveFrom_111 : decode cX1_dissolveFrom 111 = .ok (.iload 4, 2) := by decide +kernel
theorem dX1_dissolveFrom_113 : decode cX1_dissolveFrom 113 = .ok (.invokevirtual 71, 3) := by decide +kernel
theorem dX1_dissolveFrom_116 : decode cX1_dissolveFrom 116 = .ok (.iload 4, 2) := by decide +kernel
theorem dX1_dissolveFrom_118 : decode cX1_dissolveFrom 118 = .ok (.istore_n 2, 1) := by decide +kernel
theorem dX1_dissolveFrom_119 : decode cX1_dissolveFrom 119 = .ok (.iinc 3 1, 3) := by decide +kernel
theorem dX1_dissolveFrom_122 : decode cX1_dissolveFrom 122 = .ok (.goto (-110), 3) := by decide +kernel
theorem dX1_dissolveFrom_125 : decode cX1_dissolveFrom 125 = .ok (.return_, 1) := by decide +kernel
theorem dX1_insert_0 : decode cX1_insert 0 = .ok (.aload_n 0, 1) := by decide +kernel
theorem dX1_insert_1 : decode cX1_insert 1 = .ok (.iconst 0, 1) := by decide +kernel
theorem dX1_insert_2 : decode cX1_insert 2 = .ok (.putfield 111, 3) := by decide +kernel
theorem dX1_insert_5 : decode cX1_insert 5 = .ok (.aload_n 0, 1) := by decide +kernel
theorem dX1_insert_6 : decode cX1_insert 6 = .ok (.iconst 0, 1) := by decide +kernel
theorem dX1_insert_7 : decode cX1_insert 7 = .ok (.putfield 114, 3) := by decide +kernel
theorem dX1_insert_10 : decode cX1_insert 10 = .ok (.aload_n 0, 1) := by decide +kernel
theorem dX1_insert_11 : decode cX1_insert 11 = .ok (.iload_n 1, 1) := by decide +kernel
theorem dX1_insert_12 : decode cX1_insert 12 = .ok (.iload_n 2, 1) := by decide +kernel
theorem dX1_insert_13 : decode cX1_insert 13 = .ok (.invokevirtual 117, 3) := by decide +kernel
theorem dX1_insert_16 : decode cX1_insert 16 = .ok (.iconst 0, 1) := by decide +kernel
theorem dX1_insert_17 : decode cX1_insert 17 = .ok (.istore_n 3, 1) := by decide +kernel
theorem dX1_insert_18 : decode cX1_insert 18 = .ok (.iload_n 3, 1) := by decide +kernel
theorem dX1_insert_19 : decode cX1_insert 19 = .ok (.bipush 64, 2) := by decide +kernel
theorem dX1_insert_21 : decode cX1_insert 21 = .ok (.if_icmp .ge 158, 3) := by decide +kernel
theorem dX1_insert_24 : decode cX1_insert 24 = .ok (.aload_n 0, 1) := by decide +kernel
theorem dX1_insert_25 : decode cX1_insert 25 = .ok (.getfield 114, 3) := by decide +kernel
theorem dX1_insert_28 : decode cX1_insert 28 = .ok (.ifCond .le 151, 3) := by decide +kernel
theorem dX1_insert_31 : decode cX1_insert 31 = .ok (.aload_n 0, 1) := by decide +kernel
theorem dX1_insert_32 : decode cX1_insert 32 = .ok (.dup, 1) := by decide +kernel
theorem dX1_insert_33 : decode cX1_insert 33 = .ok (.getfield 114, 3) := by decide +kernel
theorem dX1_insert_36 : decode cX1_insert 36 = .ok (.iconst 1, 1) := by decide +kernel
theorem dX1_insert_37 : decode cX1_insert 37 = .ok (.isub, 1) := by decide +kernel
theorem dX1_insert_38 : decode cX1_insert 38 = .ok (.putfield 114, 3) := by decide +kernel
theorem dX1_insert_41 : decode cX1_insert 41 = .ok (.aload_n 0, 1) := by decide +kernel
theorem dX1_insert_42 : decode cX1_insert 42 = .ok (.getfield 9, 3) := by decide +kernel
theorem dX1_insert_45 : decode cX1_insert 45 = .ok (.aload_n 0, 1) := by decide +kernel
theorem dX1_insert_46 : decode cX1_insert 46 = .ok (.getfield 114, 3) := by decide +kernel
theorem dX1_insert_49 : decode cX1_insert 49 = .ok (.invokestatic 41, 3) := by decide +kernel
theorem dX1_insert_52 : decode cX1_insert 52 = .ok (.istore 4, 2) := by decide +kernel
theorem dX1_insert_54 : decode cX1_insert 54 = .ok (.aload_n 0, 1) := by decide +kernel
theorem dX1_insert_55 : decode cX1_insert 55 = .ok (.getfield 15, 3) := by decide +kernel
theorem dX1_insert_58 : decode cX1_insert 58 = .ok (.aload_n 0, 1) := by decide +kernel
theorem dX1_insert_59 : decode cX1_insert 59 = .ok (.getfield 114, 3) := by decide +kernel
theorem dX1_insert_62 : decode cX1_insert 62 = .ok (.invokestatic 41, 3) := by decide +kernel
theorem dX1_insert_65 : decode cX1_insert 65 = .ok (.istore 5, 2) := by decide +kernel
theorem dX1_insert_67 : decode cX1_insert 67 = .ok (.aload_n 0, 1) := by decide +kernel
theorem dX1_insert_68 : decode cX1_insert 68 = .ok (.getfield 33, 3) := by decide +kernel
theorem dX1_insert_71 : decode cX1_insert 71 = .ok (.aload_n 0, 1) := by decide +kernel
theorem dX1_insert_72 : decode cX1_insert 72 = .ok (.getfield 33, 3) := by decide +kernel
theorem dX1_insert_75 : decode cX1_insert 75 = .ok (.iload 4, 2) := by decide +kernel
theorem dX1_insert_77 : decode cX1_insert 77 = .ok (.iload 5, 2) := by decide +kernel
theorem dX1_insert_79 : decode cX1_insert 79 = .ok (.invokevirtual 120, 3) := by decide +kernel
theorem dX1_insert_82 : decode cX1_insert 82 = .ok (.iload 5, 2) := by decide +kernel
theorem dX1_insert_84 : decode cX1_insert 84 = .ok (.invokevirtual 123, 3) := by decide +kernel
theorem dX1_insert_87 : decode cX1_insert 87 = .ok (.istore 6, 2) := by decide +kernel
theorem dX1_insert_89 : decode cX1_insert 89 = .ok (.aload_n 0, 1) := by decide +kernel
theorem dX1_insert_90 : decode cX1_insert 90 = .ok (.getfield 33, 3) := by decide +kernel
theorem dX1_insert_93 : decode cX1_insert 93 = .ok (.iload 6, 2) := by decide +kernel
theorem dX1_insert_95 : decode cX1_insert 95 = .ok (.aload_n 0, 1) := by decide +kernel
theorem dX1_insert_96 : decode cX1_insert 96 = .ok (.getfield 33, 3) := by decide +kernel
theorem dX1_insert_99 : decode cX1_insert 99 = .ok (.iload 6, 2) := by decide +kernel
theorem dX1_insert_101 : decode cX1_insert 101 = .ok (.invokevirtual 95, 3) := by decide +kernel
theorem dX1_insert_104 : decode cX1_insert 104 = .ok (.iload 4, 2) := by decide +kernel
theorem dX1_insert_106 : decode cX1_insert 106 = .ok (.invokevirtual 126, 3) := by decide +kernel
theorem dX1_insert_109 : decode cX1_insert 109 = .ok (.aload_n 0, 1) := by decide +kernel
theorem dX1_insert_110 : decode cX1_insert 110 = .ok (.getfield 33, 3) := by decide +kernel
theorem dX1_insert_113 : decode cX1_insert 113 = .ok (.iload 6, 2) := by decide +kernel
theorem dX1_insert_115 : decode cX1_insert 115 = .ok (.invokevirtual 71, 3) := by decide +kernel
theorem dX1_insert_118 : decode cX1_insert 118 = .ok (.iconst 0, 1) := by decide +kernel
theorem dX1_insert_119 : decode cX1_insert 119 = .ok (.istore 7, 2) := by decide +kernel
theorem dX1_insert_121 : decode cX1_insert 121 = .ok (.iload 7, 2) := by decide +kernel
theorem dX1_insert_123 : decode cX1_insert 123 = .ok (.bipush 8, 2) := by decide +kernel
theorem dX1_insert_125 : decode cX1_insert 125 = .ok (.if_icmp .ge 48, 3) := by decide +kernel
theorem dX1_insert_128 : decode cX1_insert 128 = .ok (.aload_n 0, 1) := by decide +kernel
theorem dX1_insert_129 : decode cX1_insert 129 = .ok (.getfield 33, 3) := by decide +kernel
theorem dX1_insert_132 : decode cX1_insert 132 = .ok (.iload 6, 2) := by decide +kernel
theorem dX1_insert_134 : decode cX1_insert 134 = .ok (.invokevirtual 95, 3) := by decide +kernel
theorem dX1_insert_137 : decode cX1_insert 137 = .ok (.iconst 4, 1) := by decide +kernel
theorem dX1_insert_138 : decode cX1_insert 138 = .ok (.if_icmp .le 35, 3) := by decide +kernel
theorem dX1_insert_141 : decode cX1_insert 141 = .ok (.aload_n 0, 1) := by decide +kernel
theorem dX1_insert_142 : decode cX1_insert 142 = .ok (.iload 6, 2) := by decide +kernel
theorem dX1_insert_144 : decode cX1_insert 144 = .ok (.invokevirtual 130, 3) := by decide +kernel
theorem dX1_insert_147 : decode cX1_insert 147 = .ok (.ifCond .eq 12, 3) := by decide +kernel
theorem dX1_insert_150 : decode cX1_insert 150 = .ok (.aload_n 0, 1) := by decide +kernel
theorem dX1_insert_151 : decode cX1_insert 151 = .ok (.iload 6, 2) := by decide +kernel
theorem dX1_insert_153 : decode cX1_insert 153 = .ok (.invokevirtual 134, 3) := by decide +kernel
theorem dX1_insert_156 : decode cX1_insert 156 = .ok (.goto 9, 3) := by decide +kernel
theorem dX1_insert_159 : decode cX1_insert 159 = .ok (.aload_n 0, 1) := by decide +kernel
theorem dX1_insert_160 : decode cX1_insert 160 = .ok (.iload 6, 2) := by decide +kernel
theorem dX1_insert_162 : decode cX1_insert 162 = .ok (.invokevirtual 137, 3) := by decide +kernel
theorem dX1_insert_165 : decode cX1_insert 165 = .ok (.istore 6, 2) := by decide +kernel
theorem dX1_insert_167 : decode cX1_insert 167 = .ok (.iinc 7 1, 3) := by decide +kernel
theorem dX1_insert_170 : decode cX1_insert 170 = .ok (.goto (-49), 3) := by decide +kernel
theorem dX1_insert_173 : decode cX1_insert 173 = .ok (.iinc 3 1, 3) := by decide +kernel
theorem dX1_insert_176 : decode cX1_insert 176 = .ok (.goto (-158), 3) := by decide +kernel
theorem dX1_insert_179 : decode cX1_insert 179 = .ok (.return_, 1) := by decide +kernel
theorem dX1_await_0 : decode cX1_await 0 = .ok (.aload_n 0, 1) := by decide +kernel
theorem dX1_await_1 : decode cX1_await 1 = .ok (.getfield 114, 3) := by decide +kernel
theorem dX1_await_4 : decode cX1_await 4 = .ok (.bipush 64, 2) := by decide +kernel
theorem dX1_await_6 : decode cX1_await 6 = .ok (.if_icmp .ge 37, 3) := by decide +kernel
theorem dX1_await_9 : decode cX1_await 9 = .ok (.aload_n 0, 1) := by decide +kernel
theorem dX1_await_10 : decode cX1_await 10 = .ok (.getfield 9, 3) := by decide +kernel
theorem dX1_await_13 : decode cX1_await 13 = .ok (.aload_n 0, 1) := by decide +kernel
theorem dX1_await_14 : decode cX1_await 14 = .ok (.getfield 114, 3) := by decide +kernel
theorem dX1_await_17 : decode cX1_await 17 = .ok (.iload_n 1, 1) := by decide +kernel
theorem dX1_await_18 : decode cX1_await 18 = .ok (.invokestatic 104, 3) := by decide +kernel
theorem dX1_await_21 : decode cX1_await 21 = .ok (.aload_n 0, 1) := by decide +kernel
theorem dX1_await_22 : decode cX1_await 22 = .ok (.getfield 15, 3) := by decide +kernel
theorem dX1_await_25 : decode cX1_await 25 = .ok (.aload_n 0, 1) := by decide +kernel
theorem dX1_await_26 : decode cX1_await 26 = .ok (.getfield 114, 3) := by decide +kernel
theorem dX1_await_29 : decode cX1_await 29 = .ok (.iload_n 2, 1) := by decide +kernel
theorem dX1_await_30 : decode cX1_await 30 = .ok (.invokestatic 104, 3) := by decide +kernel
theorem dX1_await_33 : decode cX1_await 33 = .ok (.aload_n 0, 1) := by decide +kernel
theorem dX1_await_34 : decode cX1_await 34 = .ok (.dup, 1) := by decide +kernel
theorem dX1_await_35 : decode cX1_await 35 = .ok (.getfield 114, 3) := by decide +kernel
theorem dX1_await_38 : decode cX1_await 38 = .ok (.iconst 1, 1) := by decide +kernel
theorem dX1_await_39 : decode cX1_await 39 = .ok (.iadd, 1) := by decide +kernel
theorem dX1_await_40 : decode cX1_await 40 = .ok (.putfield 114, 3) := by decide +kernel
theorem dX1_await_43 : decode cX1_await 43 = .ok (.return_, 1) := by decide +kernel
theorem dX1_courtIsDue_0 : decode cX1_courtIsDue 0 = .ok (.iload_n 1, 1) := by decide +kernel
theorem dX1_courtIsDue_1 : decode cX1_courtIsDue 1 = .ok (.aload_n 0, 1) := by decide +kernel
theorem dX1_courtIsDue_2 : decode cX1_courtIsDue 2 = .ok (.getfield 33, 3) := by decide +kernel
theorem dX1_courtIsDue_5 : decode cX1_courtIsDue 5 = .ok (.getfield 89, 3) := by decide +kernel
theorem dX1_courtIsDue_8 : decode cX1_courtIsDue 8 = .ok (.if_icmp .eq 25, 3) := by decide +kernel
theorem dX1_courtIsDue_11 : decode cX1_courtIsDue 11 = .ok (.aload_n 0, 1) := by decide +kernel
theorem dX1_courtIsDue_12 : decode cX1_courtIsDue 12 = .ok (.getfield 111, 3) := by decide +kernel
theorem dX1_courtIsDue_15 : decode cX1_courtIsDue 15 = .ok (.aload_n 0, 1) := by decide +kernel
theorem dX1_courtIsDue_16 : decode cX1_courtIsDue 16 = .ok (.getfield 33, 3) := by decide +kernel
theorem dX1_courtIsDue_19 : decode cX1_courtIsDue 19 = .ok (.iload_n 1, 1) := by decide +kernel
theorem dX1_courtIsDue_20 : decode cX1_courtIsDue 20 = .ok (.invokevirtual 98, 3) := by decide +kernel
theorem dX1_courtIsDue_23 : decode cX1_courtIsDue 23 = .ok (.ishr, 1) := by decide +kernel
theorem dX1_courtIsDue_24 : decode cX1_courtIsDue 24 = .ok (.iconst 1, 1) := by decide +kernel
theorem dX1_courtIsDue_25 : decode cX1_courtIsDue 25 = .ok (.iand, 1) := by decide +kernel
theorem dX1_courtIsDue_26 : decode cX1_courtIsDue 26 = .ok (.ifCond .ne 7, 3) := by decide +kernel
theorem dX1_courtIsDue_29 : decode cX1_courtIsDue 29 = .ok (.iconst 1, 1) := by decide +kernel
theorem dX1_courtIsDue_30 : decode cX1_courtIsDue 30 = .ok (.goto 4, 3) := by decide +kernel
theorem dX1_courtIsDue_33 : decode cX1_courtIsDue 33 = .ok (.iconst 0, 1) := by decide +kernel
theorem dX1_courtIsDue_34 : decode cX1_courtIsDue 34 = .ok (.ireturn, 1) := by decide +kernel
theorem dX1_holdCourt_0 : decode cX1_holdCourt 0 = .ok (.aload_n 0, 1) := by decide +kernel
theorem dX1_holdCourt_1 : decode cX1_holdCourt 1 = .ok (.getfield 33, 3) := by decide +kernel
theorem dX1_holdCourt_4 : decode cX1_holdCourt 4 = .ok (.iload_n 1, 1) := by decide +kernel
theorem dX1_holdCourt_5 : decode cX1_holdCourt 5 = .ok (.invokevirtual 98, 3) := by decide +kernel
theorem dX1_holdCourt_8 : decode cX1_holdCourt 8 = .ok (.istore_n 2, 1) := by decide +kernel
theorem dX1_holdCourt_9 : decode cX1_holdCourt 9 = .ok (.aload_n 0, 1) := by decide +kernel
theorem dX1_holdCourt_10 : decode cX1_holdCourt 10 = .ok (.iload_n 1, 1) := by decide +kernel
theorem dX1_holdCourt_11 : decode cX1_holdCourt 11 = .ok (.iconst (-1), 1) := by decide +kernel
theorem dX1_holdCourt_12 : decode cX1_holdCourt 12 = .ok (.invokevirtual 140, 3) := by decide +kernel
theorem dX1_holdCourt_15 : decode cX1_holdCourt 15 = .ok (.istore_n 3, 1) := by decide +kernel
theorem dX1_holdCourt_16 : decode cX1_holdCourt 16 = .ok (.aload_n 0, 1) := by decide +kernel
theorem dX1_holdCourt_17 : decode cX1_holdCourt 17 = .ok (.iload_n 1, 1) := by decide +kernel
theorem dX1_holdCourt_18 : decode cX1_holdCourt 18 = .ok (.iload_n 3, 1) := by decide +kernel
theorem dX1_holdCourt_19 : decode cX1_holdCourt 19 = .ok (.invokevirtual 140, 3) := by decide +kernel
theorem dX1_holdCourt_22 : decode cX1_holdCourt 22 = .ok (.istore 4, 2) := by decide +kernel
theorem dX1_holdCourt_24 : decode cX1_holdCourt 24 = .ok (.aload_n 0, 1) := by decide +kernel
theorem dX1_holdCourt_25 : decode cX1_holdCourt 25 = .ok (.getfield 33, 3) := by decide +kernel
theorem dX1_holdCourt_28 : decode cX1_holdCourt 28 = .ok (.iload_n 1, 1) := by decide +kernel
theorem dX1_holdCourt_29 : decode cX1_holdCourt 29 = .ok (.iload_n 3, 1) := by decide +kernel
theorem dX1_holdCourt_30 : decode cX1_holdCourt 30 = .ok (.invokevirtual 101, 3) := by decide +kernel
theorem dX1_holdCourt_33 : decode cX1_holdCourt 33 = .ok (.istore 5, 2) := by decide +kernel
theorem dX1_holdCourt_35 : decode cX1_holdCourt 35 = .ok (.aload_n 0, 1) := by decide +kernel
theorem dX1_holdCourt_36 : decode cX1_holdCourt 36 = .ok (.getfield 33, 3) := by decide +kernel
theorem dX1_holdCourt_39 : decode cX1_holdCourt 39 = .ok (.iload_n 1, 1) := by decide +kernel
theorem dX1_holdCourt_40 : decode cX1_holdCourt 40 = .ok (.iload 4, 2) := by decide +kernel
theorem dX1_holdCourt_42 : decode cX1_holdCourt 42 = .ok (.invokevirtual 101, 3) := by decide +kernel
theorem dX1_holdCourt_45 : decode cX1_holdCourt 45 = .ok (.istore 6, 2) := by decide +kernel
theorem dX1_holdCourt_47 : decode cX1_holdCourt 47 = .ok (.aload_n 0, 1) := by decide +kernel
theorem dX1_holdCourt_48 : decode cX1_holdCourt 48 = .ok (.dup, 1) := by decide +kernel
theorem dX1_holdCourt_49 : decode cX1_holdCourt 49 = .ok (.getfield 111, 3) := by decide +kernel
theorem dX1_holdCourt_52 : decode cX1_holdCourt 52 = .ok (.iconst 1, 1) := by decide +kernel
theorem dX1_holdCourt_53 : decode cX1_holdCourt 53 = .ok (.iload_n 2, 1) := by decide +kernel
theorem dX1_holdCourt_54 : decode cX1_holdCourt 54 = .ok (.ishl, 1) := by decide +kernel
theorem dX1_holdCourt_55 : decode cX1_holdCourt 55 = .ok (.ior, 1) := by decide +kernel
theorem dX1_holdCourt_56 : decode cX1_holdCourt 56 = .ok (.putfield 111, 3) := by decide +kernel
theorem dX1_holdCourt_59 : decode cX1_holdCourt 59 = .ok (.aload_n 0, 1) := by decide +kernel
theorem dX1_holdCourt_60 : decode cX1_holdCourt 60 = .ok (.iload_n 2, 1) := by decide +kernel
theorem dX1_holdCourt_61 : decode cX1_holdCourt 61 = .ok (.iload_n 2, 1) := by decide +kernel
theorem dX1_holdCourt_62 : decode cX1_holdCourt 62 = .ok (.ifCond .ne 7, 3) := by decide +kernel
theorem dX1_holdCourt_65 : decode cX1_holdCourt 65 = .ok (.iconst 2, 1) := by decide +kernel
theorem dX1_holdCourt_66 : decode cX1_holdCourt 66 = .ok (.goto 22, 3) := by decide +kernel
theorem dX1_holdCourt_69 : decode cX1_holdCourt 69 = .ok (.aload_n 0, 1) := by decide +kernel
theorem dX1_holdCourt_70 : decode cX1_holdCourt 70 = .ok (.getfield 37, 3) := by decide +kernel
theorem dX1_holdCourt_73 : decode cX1_holdCourt 73 = .ok (.iload 5, 2) := by decide +kernel
theorem dX1_holdCourt_75 : decode cX1_holdCourt 75 = .ok (.invokevirtual 143, 3) := by decide +kernel
theorem dX1_holdCourt_78 : decode cX1_holdCourt 78 = .ok (.aload_n 0, 1) := by decide +kernel
theorem dX1_holdCourt_79 : decode cX1_holdCourt 79 = .ok (.getfield 37, 3) := by decide +kernel
theorem dX1_holdCourt_82 : decode cX1_holdCourt 82 = .ok (.iload 6, 2) := by decide +kernel
theorem dX1_holdCourt_84 : decode cX1_holdCourt 84 = .ok (.invokevirtual 143, 3) := by decide +kernel
theorem dX1_holdCourt_87 : decode cX1_holdCourt 87 = .ok (.iadd, 1) := by decide +kernel
theorem dX1_holdCourt_88 : decode cX1_holdCourt 88 = .ok (.invokevirtual 148, 3) := by decide +kernel
theorem dX1_holdCourt_91 : decode cX1_holdCourt 91 = .ok (.aload_n 0, 1) := by decide +kernel
theorem dX1_holdCourt_92 : decode cX1_holdCourt 92 = .ok (.getfield 33, 3) := by decide +kernel
theorem dX1_holdCourt_95 : decode cX1_holdCourt 95 = .ok (.iload_n 1, 1) := by decide +kernel
theorem dX1_holdCourt_96 : decode cX1_holdCourt 96 = .ok (.iload_n 3, 1) := by decide +kernel
theorem dX1_holdCourt_97 : decode cX1_holdCourt 97 = .ok (.iload 4, 2) := by decide +kernel
theorem dX1_holdCourt_99 : decode cX1_holdCourt 99 = .ok (.invokestatic 151, 3) := by decide +kernel
theorem dX1_holdCourt_102 : decode cX1_holdCourt 102 = .ok (.invokevirtual 68, 3) := by decide +kernel
theorem dX1_holdCourt_105 : decode cX1_holdCourt 105 = .ok (.aload_n 0, 1) := by decide +kernel
theorem dX1_holdCourt_106 : decode cX1_holdCourt 106 = .ok (.getfield 33, 3) := by decide +kernel
theorem dX1_holdCourt_109 : decode cX1_holdCourt 109 = .ok (.iload_n 1, 1) := by decide +kernel
theorem dX1_holdCourt_110 : decode cX1_holdCourt 110 = .ok (.iload_n 3, 1) := by decide +kernel
theorem dX1_holdCourt_111 : decode cX1_holdCourt 111 = .ok (.iload 4, 2) := by decide +kernel
theorem dX1_holdCourt_113 : decode cX1_holdCourt 113 = .ok (.invokestatic 156, 3) := by decide +kernel
theorem dX1_holdCourt_116 : decode cX1_holdCourt 116 = .ok (.invokevirtual 68, 3) := by decide +kernel
theorem dX1_holdCourt_119 : decode cX1_holdCourt 119 = .ok (.aload_n 0, 1) := by decide +kernel
theorem dX1_holdCourt_120 : decode cX1_holdCourt 120 = .ok (.getfield 33, 3) := by decide +kernel
theorem dX1_holdCourt_123 : decode cX1_holdCourt 123 = .ok (.iload_n 1, 1) := by decide +kernel
theorem dX1_holdCourt_124 : decode cX1_holdCourt 124 = .ok (.invokevirtual 71, 3) := by decide +kernel
theorem dX1_holdCourt_127 : decode cX1_holdCourt 127 = .ok (.aload_n 0, 1) := by decide +kernel
theorem dX1_holdCourt_128 : decode cX1_holdCourt 128 = .ok (.iload 5, 2) := by decide +kernel
theorem dX1_holdCourt_130 : decode cX1_holdCourt 130 = .ok (.iload_n 2, 1) := by decide +kernel
theorem dX1_holdCourt_131 : decode cX1_holdCourt 131 = .ok (.invokevirtual 117, 3) := by decide +kernel
theorem dX1_holdCourt_134 : decode cX1_holdCourt 134 = .ok (.aload_n 0, 1) := by decide +kernel
theorem dX1_holdCourt_135 : decode cX1_holdCourt 135 = .ok (.iload 6, 2) := by decide +kernel
theorem dX1_holdCourt_137 : decode cX1_holdCourt 137 = .ok (.iload_n 2, 1) := by decide +kernel
theorem dX1_holdCourt_138 : decode cX1_holdCourt 138 = .ok (.invokevirtual 117, 3) := by decide +kernel
theorem dX1_holdCourt_141 : decode cX1_holdCourt 141 = .ok (.iload_n 1, 1) := by decide +kernel
theorem dX1_holdCourt_142 : decode cX1_holdCourt 142 = .ok (.ireturn, 1) := by decide +kernel
theorem dX1_farthest_0 : decode cX1_farthest 0 = .ok (.aload_n 0, 1) := by decide +kernel
theorem dX1_farthest_1 : decode cX1_farthest 1 = .ok (.getfield 33, 3) := by decide +kernel
theorem dX1_farthest_4 : decode cX1_farthest 4 = .ok (.iload_n 1, 1) := by decide +kernel
theorem dX1_farthest_5 : decode cX1_farthest 5 = .ok (.invokevirtual 98, 3) := by decide +kernel
theorem dX1_farthest_8 : decode cX1_farthest 8 = .ok (.istore_n 3, 1) := by decide +kernel
theorem dX1_farthest_9 : decode cX1_farthest 9 = .ok (.aload_n 0, 1) := by decide +kernel
theorem dX1_farthest_10 : decode cX1_farthest 10 = .ok (.getfield 33, 3) := by decide +kernel
theorem dX1_farthest_13 : decode cX1_farthest 13 = .ok (.getfield 159, 3) := by decide +kernel
theorem dX1_farthest_16 : decode cX1_farthest 16 = .ok (.iload_n 1, 1) := by decide +kernel
theorem dX1_farthest_17 : decode cX1_farthest 17 = .ok (.invokestatic 41, 3) := by decide +kernel
theorem dX1_farthest_20 : decode cX1_farthest 20 = .ok (.istore 4, 2) := by decide +kernel
theorem dX1_farthest_22 : decode cX1_farthest 22 = .ok (.iconst (-1), 1) := by decide +kernel
theorem dX1_farthest_23 : decode cX1_farthest 23 = .ok (.istore 5, 2) := by decide +kernel
theorem dX1_farthest_25 : decode cX1_farthest 25 = .ok (.iconst 0, 1) := by decide +kernel
theorem dX1_farthest_26 : decode cX1_farthest 26 = .ok (.istore 6, 2) := by decide +kernel
theorem dX1_farthest_28 : decode cX1_farthest 28 = .ok (.iconst 0, 1) := by decide +kernel
theorem dX1_farthest_29 : decode cX1_farthest 29 = .ok (.istore 7, 2) := by decide +kernel
theorem dX1_farthest_31 : decode cX1_farthest 31 = .ok (.iload 7, 2) := by decide +kernel
theorem dX1_farthest_33 : decode cX1_farthest 33 = .ok (.aload_n 0, 1) := by decide +kernel
theorem dX1_farthest_34 : decode cX1_farthest 34 = .ok (.getfield 33, 3) := by decide +kernel
theorem dX1_farthest_37 : decode cX1_farthest 37 = .ok (.iload_n 1, 1) := by decide +kernel
theorem dX1_farthest_38 : decode cX1_farthest 38 = .ok (.invokevirtual 95, 3) := by decide +kernel
theorem dX1_farthest_41 : decode cX1_farthest 41 = .ok (.if_icmp .ge 55, 3) := by decide +kernel
theorem dX1_farthest_44 : decode cX1_farthest 44 = .ok (.aload_n 0, 1) := by decide +kernel
theorem dX1_farthest_45 : decode cX1_farthest 45 = .ok (.getfield 33, 3) := by decide +kernel
theorem dX1_farthest_48 : decode cX1_farthest 48 = .ok (.aload_n 0, 1) := by decide +kernel
theorem dX1_farthest_49 : decode cX1_farthest 49 = .ok (.getfield 33, 3) := by decide +kernel
theorem dX1_farthest_52 : decode cX1_farthest 52 = .ok (.iload_n 1, 1) := by decide +kernel
theorem dX1_farthest_53 : decode cX1_farthest 53 = .ok (.iload 7, 2) := by decide +kernel
theorem dX1_farthest_55 : decode cX1_farthest 55 = .ok (.invokevirtual 101, 3) := by decide +kernel
theorem dX1_farthest_58 : decode cX1_farthest 58 = .ok (.iload_n 3, 1) := by decide +kernel
theorem dX1_farthest_59 : decode cX1_farthest 59 = .ok (.invokevirtual 120, 3) := by decide +kernel
theorem dX1_farthest_62 : decode cX1_farthest 62 = .ok (.iload 4, 2) := by decide +kernel
theorem dX1_farthest_64 : decode cX1_farthest 64 = .ok (.invokestatic 160, 3) := by decide +kernel
theorem dX1_farthest_67 : decode cX1_farthest 67 = .ok (.istore 8, 2) := by decide +kernel
theorem dX1_farthest_69 : decode cX1_farthest 69 = .ok (.iload 7, 2) := by decide +kernel
theorem dX1_farthest_71 : decode cX1_farthest 71 = .ok (.iload_n 2, 1) := by decide +kernel
theorem dX1_farthest_72 : decode cX1_farthest 72 = .ok (.if_icmp .eq 18, 3) := by decide +kernel
theorem dX1_farthest_75 : decode cX1_farthest 75 = .ok (.iload 8, 2) := by decide +kernel
theorem dX1_farthest_77 : decode cX1_farthest 77 = .ok (.iload 6, 2) := by decide +kernel
theorem dX1_farthest_79 : decode cX1_farthest 79 = .ok (.if_icmp .lt 11, 3) := by decide +kernel
theorem dX1_farthest_82 : decode cX1_farthest 82 = .ok (.iload 7, 2) := by decide +kernel
theorem dX1_farthest_84 : decode cX1_farthest 84 = .ok (.istore 5, 2) := by decide +kernel
theorem dX1_farthest_86 : decode cX1_farthest 86 = .ok (.iload 8, 2) := by decide +kernel
theorem dX1_farthest_88 : decode cX1_farthest 88 = .ok (.istore 6, 2) := by decide +kernel
theorem dX1_farthest_90 : decode cX1_farthest 90 = .ok (.iinc 7 1, 3) := by decide +kernel
theorem dX1_farthest_93 : decode cX1_farthest 93 = .ok (.goto (-62), 3) := by decide +kernel
theorem dX1_farthest_96 : decode cX1_farthest 96 = .ok (.iload 5, 2) := by decide +kernel
theorem dX1_farthest_98 : decode cX1_farthest 98 = .ok (.ireturn, 1) := by decide +kernel
theorem dX1_noteCourt_0 : decode cX1_noteCourt 0 = .ok (.aload_n 0, 1) := by decide +kernel
theorem dX1_noteCourt_1 : decode cX1_noteCourt 1 = .ok (.getfield 33, 3) := by decide +kernel
theorem dX1_noteCourt_4 : decode cX1_noteCourt 4 = .ok (.dup, 1) := by decide +kernel
theorem dX1_noteCourt_5 : decode cX1_noteCourt 5 = .ok (.getfield 165, 3) := by decide +kernel
theorem dX1_noteCourt_8 : decode cX1_noteCourt 8 = .ok (.iconst 1, 1) := by decide +kernel
theorem dX1_noteCourt_9 : decode cX1_noteCourt 9 = .ok (.iadd, 1) := by decide +kernel
theorem dX1_noteCourt_10 : decode cX1_noteCourt 10 = .ok (.putfield 165, 3) := by decide +kernel
theorem dX1_noteCourt_13 : decode cX1_noteCourt 13 = .ok (.aload_n 0, 1) := by decide +kernel
theorem dX1_noteCourt_14 : decode cX1_noteCourt 14 = .ok (.getfield 47, 3) := by decide +kernel
theorem dX1_noteCourt_17 : decode cX1_noteCourt 17 = .ok (.bipush 64, 2) := by decide +kernel
theorem dX1_noteCourt_19 : decode cX1_noteCourt 19 = .ok (.if_icmp .ge 37, 3) := by decide +kernel
theorem dX1_noteCourt_22 : decode cX1_noteCourt 22 = .ok (.aload_n 0, 1) := by decide +kernel
theorem dX1_noteCourt_23 : decode cX1_noteCourt 23 = .ok (.getfield 18, 3) := by decide +kernel
theorem dX1_noteCourt_26 : decode cX1_noteCourt 26 = .ok (.aload_n 0, 1) := by decide +kernel
theorem dX1_noteCourt_27 : decode cX1_noteCourt 27 = .ok (.getfield 47, 3) := by decide +kernel
theorem dX1_noteCourt_30 : decode cX1_noteCourt 30 = .ok (.iload_n 1, 1) := by decide +kernel
theorem dX1_noteCourt_31 : decode cX1_noteCourt 31 = .ok (.invokestatic 104, 3) := by decide +kernel
theorem dX1_noteCourt_34 : decode cX1_noteCourt 34 = .ok (.aload_n 0, 1) := by decide +kernel
theorem dX1_noteCourt_35 : decode cX1_noteCourt 35 = .ok (.getfield 21, 3) := by decide +kernel
theorem dX1_noteCourt_38 : decode cX1_noteCourt 38 = .ok (.aload_n 0, 1) := by decide +kernel
theorem dX1_noteCourt_39 : decode cX1_noteCourt 39 = .ok (.getfield 47, 3) := by decide +kernel
theorem dX1_noteCourt_42 : decode cX1_noteCourt 42 = .ok (.iload_n 2, 1) := by decide +kernel
theorem dX1_noteCourt_43 : decode cX1_noteCourt 43 = .ok (.invokestatic 104, 3) := by decide +kernel
theorem dX1_noteCourt_46 : decode cX1_noteCourt 46 = .ok (.aload_n 0, 1) := by decide +kernel
theorem dX1_noteCourt_47 : decode cX1_noteCourt 47 = .ok (.dup, 1) := by decide +kernel
theorem dX1_noteCourt_48 : decode cX1_noteCourt 48 = .ok (.getfield 47, 3) := by decide +kernel
theorem dX1_noteCourt_51 : decode cX1_noteCourt 51 = .ok (.iconst 1, 1) := by decide +kernel
theorem dX1_noteCourt_52 : decode cX1_noteCourt 52 = .ok (.iadd, 1) := by decide +kernel
theorem dX1_noteCourt_53 : decode cX1_noteCourt 53 = .ok (.putfield 47, 3) := by decide +kernel
theorem dX1_noteCourt_56 : decode cX1_noteCourt 56 = .ok (.return_, 1) := by decide +kernel
theorem dX1_split_0 : decode cX1_split 0 = .ok (.aload_n 0, 1) := by decide +kernel
theorem dX1_split_1 : decode cX1_split 1 = .ok (.iload_n 1, 1) := by decide +kernel
theorem dX1_split_2 : decode cX1_split 2 = .ok (.invokevirtual 166, 3) := by decide +kernel
theorem dX1_split_5 : decode cX1_split 5 = .ok (.istore_n 2, 1) := by decide +kernel
theorem dX1_split_6 : decode cX1_split 6 = .ok (.iload_n 2, 1) := by decide +kernel
theorem dX1_split_7 : decode cX1_split 7 = .ok (.invokestatic 169, 3) := by decide +kernel
theorem dX1_split_10 : decode cX1_split 10 = .ok (.istore_n 3, 1) := by decide +kernel
theorem dX1_split_11 : decode cX1_split 11 = .ok (.aload_n 0, 1) := by decide +kernel
theorem dX1_split_12 : decode cX1_split 12 = .ok (.iload_n 1, 1) := by decide +kernel
theorem dX1_split_13 : decode cX1_split 13 = .ok (.iload_n 2, 1) := by decide +kernel
theorem dX1_split_14 : decode cX1_split 14 = .ok (.invokestatic 172, 3) := by decide +kernel
theorem dX1_split_17 : decode cX1_split 17 = .ok (.invokevirtual 175, 3) := by decide +kernel
theorem dX1_split_20 : decode cX1_split 20 = .ok (.aload_n 0, 1) := by decide +kernel
theorem dX1_split_21 : decode cX1_split 21 = .ok (.getfield 33, 3) := by decide +kernel
theorem dX1_split_24 : decode cX1_split 24 = .ok (.aload_n 0, 1) := by decide +kernel
theorem dX1_split_25 : decode cX1_split 25 = .ok (.getfield 33, 3) := by decide +kernel
theorem dX1_split_28 : decode cX1_split 28 = .ok (.iload_n 1, 1) := by decide +kernel
theorem dX1_split_29 : decode cX1_split 29 = .ok (.invokevirtual 98, 3) := by decide +kernel
theorem dX1_split_32 : decode cX1_split 32 = .ok (.invokevirtual 178, 3) := by decide +kernel
theorem dX1_split_35 : decode cX1_split 35 = .ok (.istore 4, 2) := by decide +kernel
theorem dX1_split_37 : decode cX1_split 37 = .ok (.aload_n 0, 1) := by decide +kernel
theorem dX1_split_38 : decode cX1_split 38 = .ok (.getfield 33, 3) := by decide +kernel
theorem dX1_split_41 : decode cX1_split 41 = .ok (.iload_n 1, 1) := by decide +kernel
theorem dX1_split_42 : decode cX1_split 42 = .ok (.invokevirtual 181, 3) := by decide +kernel
theorem dX1_split_45 : decode cX1_split 45 = .ok (.iconst 0, 1) := by decide +kernel
theorem dX1_split_46 : decode cX1_split 46 = .ok (.istore 5, 2) := by decide +kernel
theorem dX1_split_48 : decode cX1_split 48 = .ok (.iload 5, 2) := by decide +kernel
theorem dX1_split_50 : decode cX1_split 50 = .ok (.iconst 5, 1) := by decide +kernel
theorem dX1_split_51 : decode cX1_split 51 = .ok (.if_icmp .ge 50, 3) := by decide +kernel
theorem dX1_split_54 : decode cX1_split 54 = .ok (.iload 5, 2) := by decide +kernel
theorem dX1_split_56 : decode cX1_split 56 = .ok (.iload_n 3, 1) := by decide +kernel
theorem dX1_split_57 : decode cX1_split 57 = .ok (.if_icmp .ge 7, 3) := by decide +kernel
theorem dX1_split_60 : decode cX1_split 60 = .ok (.iload_n 1, 1) := by decide +kernel
theorem dX1_split_61 : decode cX1_split 61 = .ok (.goto 5, 3) := by decide +kernel
theorem dX1_split_64 : decode cX1_split 64 = .ok (.iload 4, 2) := by decide +kernel
theorem dX1_split_66 : decode cX1_split 66 = .ok (.istore 6, 2) := by decide +kernel
theorem dX1_split_68 : decode cX1_split 68 = .ok (.aload_n 0, 1) := by decide +kernel
theorem dX1_split_69 : decode cX1_split 69 = .ok (.getfield 33, 3) := by decide +kernel
theorem dX1_split_72 : decode cX1_split 72 = .ok (.iload 6, 2) := by decide +kernel
theorem dX1_split_74 : decode cX1_split 74 = .ok (.aload_n 0, 1) := by decide +kernel
theorem dX1_split_75 : decode cX1_split 75 = .ok (.getfield 33, 3) := by decide +kernel
theorem dX1_split_78 : decode cX1_split 78 = .ok (.iload 6, 2) := by decide +kernel
theorem dX1_split_80 : decode cX1_split 80 = .ok (.invokevirtual 95, 3) := by decide +kernel
theorem dX1_split_83 : decode cX1_split 83 = .ok (.aload_n 0, 1) := by decide +kernel
theorem dX1_split_84 : decode cX1_split 84 = .ok (.getfield 27, 3) := by decide +kernel
theorem dX1_split_87 : decode cX1_split 87 = .ok (.iload 5, 2) := by decide +kernel
theorem dX1_split_89 : decode cX1_split 89 = .ok (.invokestatic 41, 3) := by decide +kernel
theorem dX1_split_92 : decode cX1_split 92 = .ok (.invokevirtual 126, 3) := by decide +kernel
theorem dX1_split_95 : decode cX1_split 95 = .ok (.iinc 5 1, 3) := by decide +kernel
theorem dX1_split_98 : decode cX1_split 98 = .ok (.goto (-50), 3) := by decide +kernel
theorem dX1_split_101 : decode cX1_split 101 = .ok (.iload_n 1, 1) := by decide +kernel
theorem dX1_split_102 : decode cX1_split 102 = .ok (.aload_n 0, 1) := by decide +kernel
theorem dX1_split_103 : decode cX1_split 103 = .ok (.getfield 33, 3) := by decide +kernel
theorem dX1_split_106 : decode cX1_split 106 = .ok (.getfield 89, 3) := by decide +kernel
theorem dX1_split_109 : decode cX1_split 109 = .ok (.if_icmp .ne 10, 3) := by decide +kernel
theorem dX1_split_112 : decode cX1_split 112 = .ok (.aload_n 0, 1) := by decide +kernel
theorem dX1_split_113 : decode cX1_split 113 = .ok (.getfield 33, 3) := by decide +kernel
theorem dX1_split_116 : decode cX1_split 116 = .ok (.invokevirtual 184, 3) := by decide +kernel
theorem dX1_split_119 : decode cX1_split 119 = .ok (.aload_n 0, 1) := by decide +kernel
theorem dX1_split_120 : decode cX1_split 120 = .ok (.getfield 33, 3) := by decide +kernel
theorem dX1_split_123 : decode cX1_split 123 = .ok (.iload_n 1, 1) := by decide +kernel
theorem dX1_split_124 : decode cX1_split 124 = .ok (.invokevirtual 92, 3) := by decide +kernel
theorem dX1_split_127 : decode cX1_split 127 = .ok (.istore 5, 2) := by decide +kernel
theorem dX1_split_129 : decode cX1_split 129 = .ok (.aload_n 0, 1) := by decide +kernel
theorem dX1_split_130 : decode cX1_split 130 = .ok (.getfield 33, 3) := by decide +kernel
theorem dX1_split_133 : decode cX1_split 133 = .ok (.iload 5, 2) := by decide +kernel
theorem dX1_split_135 : decode cX1_split 135 = .ok (.aload_n 0, 1) := by decide +kernel
theorem dX1_split_136 : decode cX1_split 136 = .ok (.getfield 33, 3) := by decide +kernel
theorem dX1_split_139 : decode cX1_split 139 = .ok (.iload 5, 2) := by decide +kernel
theorem dX1_split_141 : decode cX1_split 141 = .ok (.iload_n 1, 1) := by decide +kernel
theorem dX1_split_142 : decode cX1_split 142 = .ok (.invokevirtual 64, 3) := by decide +kernel
theorem dX1_split_145 : decode cX1_split 145 = .ok (.iconst 1, 1) := by decide +kernel
theorem dX1_split_146 : decode cX1_split 146 = .ok (.iadd, 1) := by decide +kernel
theorem dX1_split_147 : decode cX1_split 147 = .ok (.iload 4, 2) := by decide +kernel
theorem dX1_split_149 : decode cX1_split 149 = .ok (.invokevirtual 126, 3) := by decide +kernel
theorem dX1_split_152 : decode cX1_split 152 = .ok (.aload_n 0, 1) := by decide +kernel
theorem dX1_split_153 : decode cX1_split 153 = .ok (.getfield 33, 3) := by decide +kernel
theorem dX1_split_156 : decode cX1_split 156 = .ok (.iload_n 1, 1) := by decide +kernel
theorem dX1_split_157 : decode cX1_split 157 = .ok (.invokevirtual 71, 3) := by decide +kernel
theorem dX1_split_160 : decode cX1_split 160 = .ok (.aload_n 0, 1) := by decide +kernel
theorem dX1_split_161 : decode cX1_split 161 = .ok (.getfield 33, 3) := by decide +kernel
theorem dX1_split_164 : decode cX1_split 164 = .ok (.iload 4, 2) := by decide +kernel
theorem dX1_split_166 : decode cX1_split 166 = .ok (.invokevirtual 71, 3) := by decide +kernel
theorem dX1_split_169 : decode cX1_split 169 = .ok (.aload_n 0, 1) := by decide +kernel
theorem dX1_split_170 : decode cX1_split 170 = .ok (.getfield 33, 3) := by decide +kernel
theorem dX1_split_173 : decode cX1_split 173 = .ok (.dup, 1) := by decide +kernel
theorem dX1_split_174 : decode cX1_split 174 = .ok (.getfield 187, 3) := by decide +kernel
theorem dX1_split_177 : decode cX1_split 177 = .ok (.iconst 1, 1) := by decide +kernel
theorem dX1_split_178 : decode cX1_split 178 = .ok (.iadd, 1) := by decide +kernel
theorem dX1_split_179 : decode cX1_split 179 = .ok (.putfield 187, 3) := by decide +kernel
theorem dX1_split_182 : decode cX1_split 182 = .ok (.iload 5, 2) := by decide +kernel
theorem dX1_split_184 : decode cX1_split 184 = .ok (.ireturn, 1) := by decide +kernel
theorem dX1_axisOf_0 : decode cX1_axisOf 0 = .ok (.iload_n 0, 1) := by decide +kernel
theorem dX1_axisOf_1 : decode cX1_axisOf 1 = .ok (.iconst 1, 1) := by decide +kernel
theorem dX1_axisOf_2 : decode cX1_axisOf 2 = .ok (.ishr, 1) := by decide +kernel
theorem dX1_axisOf_3 : decode cX1_axisOf 3 = .ok (.ireturn, 1) := by decide +kernel
theorem dX1_cutOf_0 : decode cX1_cutOf 0 = .ok (.iconst 2, 1) := by decide +kernel
theorem dX1_cutOf_1 : decode cX1_cutOf 1 = .ok (.iload_n 0, 1) := by decide +kernel
theorem dX1_cutOf_2 : decode cX1_cutOf 2 = .ok (.iconst 1, 1) := by decide +kernel
theorem dX1_cutOf_3 : decode cX1_cutOf 3 = .ok (.iand, 1) := by decide +kernel
theorem dX1_cutOf_4 : decode cX1_cutOf 4 = .ok (.iadd, 1) := by decide +kernel
theorem dX1_cutOf_5 : decode cX1_cutOf 5 = .ok (.ireturn, 1) := by decide +kernel
theorem dX1_bestWay_0 : decode cX1_bestWay 0 = .ok (.iconst (-1), 1) := by decide +kernel
theorem dX1_bestWay_1 : decode cX1_bestWay 1 = .ok (.istore_n 2, 1) := by decide +kernel
theorem dX1_bestWay_2 : decode cX1_bestWay 2 = .ok (.iconst 0, 1) := by decide +kernel
theorem dX1_bestWay_3 : decode cX1_bestWay 3 = .ok (.istore_n 3, 1) := by decide +kernel
theorem dX1_bestWay_4 : decode cX1_bestWay 4 = .ok (.iconst 0, 1) := by decide +kernel
theorem dX1_bestWay_5 : decode cX1_bestWay 5 = .ok (.istore 4, 2) := by decide +kernel
theorem dX1_bestWay_7 : decode cX1_bestWay 7 = .ok (.iconst 0, 1) := by decide +kernel
theorem dX1_bestWay_8 : decode cX1_bestWay 8 = .ok (.istore 5, 2) := by decide +kernel
theorem dX1_bestWay_10 : decode cX1_bestWay 10 = .ok (.iload 5, 2) := by decide +kernel
theorem dX1_bestWay_12 : decode cX1_bestWay 12 = .ok (.iconst 4, 1) := by decide +kernel
theorem dX1_bestWay_13 : decode cX1_bestWay 13 = .ok (.if_icmp .ge 99, 3) := by decide +kernel
theorem dX1_bestWay_16 : decode cX1_bestWay 16 = .ok (.aload_n 0, 1) := by decide +kernel
theorem dX1_bestWay_17 : decode cX1_bestWay 17 = .ok (.iload_n 1, 1) := by decide +kernel
theorem dX1_bestWay_18 : decode cX1_bestWay 18 = .ok (.iload 5, 2) := by decide +kernel
theorem dX1_bestWay_20 : decode cX1_bestWay 20 = .ok (.invokestatic 172, 3) := by decide +kernel
theorem dX1_bestWay_23 : decode cX1_bestWay 23 = .ok (.invokevirtual 175, 3) := by decide +kernel
theorem dX1_bestWay_26 : decode cX1_bestWay 26 = .ok (.aload_n 0, 1) := by decide +kernel
theorem dX1_bestWay_27 : decode cX1_bestWay 27 = .ok (.iconst 0, 1) := by decide +kernel
theorem dX1_bestWay_28 : decode cX1_bestWay 28 = .ok (.iload 5, 2) := by decide +kernel
theorem dX1_bestWay_30 : decode cX1_bestWay 30 = .ok (.invokestatic 169, 3) := by decide +kernel
theorem dX1_bestWay_33 : decode cX1_bestWay 33 = .ok (.invokevirtual 190, 3) := by decide +kernel
theorem dX1_bestWay_36 : decode cX1_bestWay 36 = .ok (.istore 6, 2) := by decide +kernel
theorem dX1_bestWay_38 : decode cX1_bestWay 38 = .ok (.aload_n 0, 1) := by decide +kernel
theorem dX1_bestWay_39 : decode cX1_bestWay 39 = .ok (.iload 5, 2) := by decide +kernel
theorem dX1_bestWay_41 : decode cX1_bestWay 41 = .ok (.invokestatic 169, 3) := by decide +kernel
theorem dX1_bestWay_44 : decode cX1_bestWay 44 = .ok (.iconst 5, 1) := by decide +kernel
theorem dX1_bestWay_45 : decode cX1_bestWay 45 = .ok (.invokevirtual 190, 3) := by decide +kernel
theorem dX1_bestWay_48 : decode cX1_bestWay 48 = .ok (.istore 7, 2) := by decide +kernel
theorem dX1_bestWay_50 : decode cX1_bestWay 50 = .ok (.iload 6, 2) := by decide +kernel
theorem dX1_bestWay_52 : decode cX1_bestWay 52 = .ok (.iload 7, 2) := by decide +kernel
theorem dX1_bestWay_54 : decode cX1_bestWay 54 = .ok (.invokestatic 193, 3) := by decide +kernel
theorem dX1_bestWay_57 : decode cX1_bestWay 57 = .ok (.istore 8, 2) := by decide +kernel
theorem dX1_bestWay_59 : decode cX1_bestWay 59 = .ok (.iload 6, 2) := by decide +kernel
theorem dX1_bestWay_61 : decode cX1_bestWay 61 = .ok (.invokestatic 196, 3) := by decide +kernel
theorem dX1_bestWay_64 : decode cX1_bestWay 64 = .ok (.iload 7, 2) := by decide +kernel
theorem dX1_bestWay_66 : decode cX1_bestWay 66 = .ok (.invokestatic 196, 3) := by decide +kernel
theorem dX1_bestWay_69 : decode cX1_bestWay 69 = .ok (.iadd, 1) := by decide +kernel
theorem dX1_bestWay_70 : decode cX1_bestWay 70 = .ok (.istore 9, 2) := by decide +kernel
theorem dX1_bestWay_72 : decode cX1_bestWay 72 = .ok (.iload_n 2, 1) := by decide +kernel
theorem dX1_bestWay_73 : decode cX1_bestWay 73 = .ok (.iconst (-1), 1) := by decide +kernel
theorem dX1_bestWay_74 : decode cX1_bestWay 74 = .ok (.if_icmp .eq 22, 3) := by decide +kernel
theorem dX1_bestWay_77 : decode cX1_bestWay 77 = .ok (.iload 8, 2) := by decide +kernel
theorem dX1_bestWay_79 : decode cX1_bestWay 79 = .ok (.iload_n 3, 1) := by decide +kernel
theorem dX1_bestWay_80 : decode cX1_bestWay 80 = .ok (.if_icmp .lt 16, 3) := by decide +kernel
theorem dX1_bestWay_83 : decode cX1_bestWay 83 = .ok (.iload 8, 2) := by decide +kernel
theorem dX1_bestWay_85 : decode cX1_bestWay 85 = .ok (.iload_n 3, 1) := by decide +kernel
theorem dX1_bestWay_86 : decode cX1_bestWay 86 = .ok (.if_icmp .ne 20, 3) := by decide +kernel
theorem dX1_bestWay_89 : decode cX1_bestWay 89 = .ok (.iload 9, 2) := by decide +kernel
theorem dX1_bestWay_91 : decode cX1_bestWay 91 = .ok (.iload 4, 2) := by decide +kernel
theorem dX1_bestWay_93 : decode cX1_bestWay 93 = .ok (.if_icmp .ge 13, 3) := by decide +kernel
theorem dX1_bestWay_96 : decode cX1_bestWay 96 = .ok (.iload 5, 2) := by decide +kernel
theorem dX1_bestWay_98 : decode cX1_bestWay 98 = .ok (.istore_n 2, 1) := by decide +kernel
theorem dX1_bestWay_99 : decode cX1_bestWay 99 = .ok (.iload 8, 2) := by decide +kernel
theorem dX1_bestWay_101 : decode cX1_bestWay 101 = .ok (.istore_n 3, 1) := by decide +kernel
theorem dX1_bestWay_102 : decode cX1_bestWay 102 = .ok (.iload 9, 2) := by decide +kernel
theorem dX1_bestWay_104 : decode cX1_bestWay 104 = .ok (.istore 4, 2) := by decide +kernel
theorem dX1_bestWay_106 : decode cX1_bestWay 106 = .ok (.iinc 5 1, 3) := by decide +kernel
theorem dX1_bestWay_109 : decode cX1_bestWay 109 = .ok (.goto (-99), 3) := by decide +kernel
theorem dX1_bestWay_112 : decode cX1_bestWay 112 = .ok (.iload_n 2, 1) := by decide +kernel
theorem dX1_bestWay_113 : decode cX1_bestWay 113 = .ok (.ireturn, 1) := by decide +kernel
theorem dX1_hullOfPart_0 : decode cX1_hullOfPart 0 = .ok (.iconst (-1), 1) := by decide +kernel
theorem dX1_hullOfPart_1 : decode cX1_hullOfPart 1 = .ok (.istore_n 3, 1) := by decide +kernel
theorem dX1_hullOfPart_2 : decode cX1_hullOfPart 2 = .ok (.iload_n 1, 1) := by decide +kernel
theorem dX1_hullOfPart_3 : decode cX1_hullOfPart 3 = .ok (.istore 4, 2) := by decide +kernel
theorem dX1_hullOfPart_5 : decode cX1_hullOfPart 5 = .ok (.iload 4, 2) := by decide +kernel
theorem dX1_hullOfPart_7 : decode cX1_hullOfPart 7 = .ok (.iload_n 2, 1) := by decide +kernel
theorem dX1_hullOfPart_8 : decode cX1_hullOfPart 8 = .ok (.if_icmp .ge 23, 3) := by decide +kernel
theorem dX1_hullOfPart_11 : decode cX1_hullOfPart 11 = .ok (.iload_n 3, 1) := by decide +kernel
theorem dX1_hullOfPart_12 : decode cX1_hullOfPart 12 = .ok (.aload_n 0, 1) := by decide +kernel
theorem dX1_hullOfPart_13 : decode cX1_hullOfPart 13 = .ok (.getfield 30, 3) := by decide +kernel
theorem dX1_hullOfPart_16 : decode cX1_hullOfPart 16 = .ok (.iload 4, 2) := by decide +kernel
theorem dX1_hullOfPart_18 : decode cX1_hullOfPart 18 = .ok (.invokestatic 41, 3) := by decide +kernel
theorem dX1_hullOfPart_21 : decode cX1_hullOfPart 21 = .ok (.invokestatic 199, 3) := by decide +kernel
theorem dX1_hullOfPart_24 : decode cX1_hullOfPart 24 = .ok (.istore_n 3, 1) := by decide +kernel
theorem dX1_hullOfPart_25 : decode cX1_hullOfPart 25 = .ok (.iinc 4 1, 3) := by decide +kernel
theorem dX1_hullOfPart_28 : decode cX1_hullOfPart 28 = .ok (.goto (-23), 3) := by decide +kernel
theorem dX1_hullOfPart_31 : decode cX1_hullOfPart 31 = .ok (.iload_n 3, 1) := by decide +kernel
theorem dX1_hullOfPart_32 : decode cX1_hullOfPart 32 = .ok (.ireturn, 1) := by decide +kernel
theorem dX1_arrange_0 : decode cX1_arrange 0 = .ok (.aload_n 0, 1) := by decide +kernel
theorem dX1_arrange_1 : decode cX1_arrange 1 = .ok (.getfield 33, 3) := by decide +kernel
theorem dX1_arrange_4 : decode cX1_arrange 4 = .ok (.iload_n 1, 1) := by decide +kernel
theorem dX1_arrange_5 : decode cX1_arrange 5 = .ok (.invokevirtual 98, 3) := by decide +kernel
theorem dX1_arrange_8 : decode cX1_arrange 8 = .ok (.istore_n 3, 1) := by decide +kernel
theorem dX1_arrange_9 : decode cX1_arrange 9 = .ok (.iconst 0, 1) := by decide +kernel
theorem dX1_arrange_10 : decode cX1_arrange 10 = .ok (.istore 4, 2) := by decide +kernel
theorem dX1_arrange_12 : decode cX1_arrange 12 = .ok (.iload 4, 2) := by decide +kernel
theorem dX1_arrange_14 : decode cX1_arrange 14 = .ok (.iconst 5, 1) := by decide +kernel
theorem dX1_arrange_15 : decode cX1_arrange 15 = .ok (.if_icmp .ge 134, 3) := by decide +kernel
theorem dX1_arrange_18 : decode cX1_arrange 18 = .ok (.aload_n 0, 1) := by decide +kernel
theorem dX1_arrange_19 : decode cX1_arrange 19 = .ok (.getfield 33, 3) := by decide +kernel
theorem dX1_arrange_22 : decode cX1_arrange 22 = .ok (.iload_n 1, 1) := by decide +kernel
theorem dX1_arrange_23 : decode cX1_arrange 23 = .ok (.iload 4, 2) := by decide +kernel
theorem dX1_arrange_25 : decode cX1_arrange 25 = .ok (.invokevirtual 101, 3) := by decide +kernel
theorem dX1_arrange_28 : decode cX1_arrange 28 = .ok (.istore 5, 2) := by decide +kernel
theorem dX1_arrange_30 : decode cX1_arrange 30 = .ok (.aload_n 0, 1) := by decide +kernel
theorem dX1_arrange_31 : decode cX1_arrange 31 = .ok (.getfield 33, 3) := by decide +kernel
theorem dX1_arrange_34 : decode cX1_arrange 34 = .ok (.iload 5, 2) := by decide +kernel
theorem dX1_arrange_36 : decode cX1_arrange 36 = .ok (.iload_n 3, 1) := by decide +kernel
theorem dX1_arrange_37 : decode cX1_arrange 37 = .ok (.invokevirtual 120, 3) := by decide +kernel
theorem dX1_arrange_40 : decode cX1_arrange 40 = .ok (.istore 6, 2) := by decide +kernel
theorem dX1_arrange_42 : decode cX1_arrange 42 = .ok (.iload 4, 2) := by decide +kernel
theorem dX1_arrange_44 : decode cX1_arrange 44 = .ok (.istore 7, 2) := by decide +kernel
theorem dX1_arrange_46 : decode cX1_arrange 46 = .ok (.iload 7, 2) := by decide +kernel
theorem dX1_arrange_48 : decode cX1_arrange 48 = .ok (.ifCond .le 73, 3) := by decide +kernel
theorem dX1_arrange_51 : decode cX1_arrange 51 = .ok (.aload_n 0, 1) := by decide +kernel
theorem dX1_arrange_52 : decode cX1_arrange 52 = .ok (.getfield 30, 3) := by decide +kernel
theorem dX1_arrange_55 : decode cX1_arrange 55 = .ok (.iload 7, 2) := by decide +kernel
theorem dX1_arrange_57 : decode cX1_arrange 57 = .ok (.iconst 1, 1) := by decide +kernel
theorem dX1_arrange_58 : decode cX1_arrange 58 = .ok (.isub, 1) := by decide +kernel
theorem dX1_arrange_59 : decode cX1_arrange 59 = .ok (.invokestatic 41, 3) := by decide +kernel
theorem dX1_arrange_62 : decode cX1_arrange 62 = .ok (.iload_n 2, 1) := by decide +kernel
theorem dX1_arrange_63 : decode cX1_arrange 63 = .ok (.invokestatic 202, 3) := by decide +kernel
theorem dX1_arrange_66 : decode cX1_arrange 66 = .ok (.iload 6, 2) := by decide +kernel
theorem dX1_arrange_68 : decode cX1_arrange 68 = .ok (.iload_n 2, 1) := by decide +kernel
theorem dX1_arrange_69 : decode cX1_arrange 69 = .ok (.invokestatic 202, 3) := by decide +kernel
theorem dX1_arrange_72 : decode cX1_arrange 72 = .ok (.if_icmp .le 49, 3) := by decide +kernel
theorem dX1_arrange_75 : decode cX1_arrange 75 = .ok (.aload_n 0, 1) := by decide +kernel
theorem dX1_arrange_76 : decode cX1_arrange 76 = .ok (.getfield 27, 3) := by decide +kernel
theorem dX1_arrange_79 : decode cX1_arrange 79 = .ok (.iload 7, 2) := by decide +kernel
theorem dX1_arrange_81 : decode cX1_arrange 81 = .ok (.aload_n 0, 1) := by decide +kernel
theorem dX1_arrange_82 : decode cX1_arrange 82 = .ok (.getfield 27, 3) := by decide +kernel
theorem dX1_arrange_85 : decode cX1_arrange 85 = .ok (.iload 7, 2) := by decide +kernel
theorem dX1_arrange_87 : decode cX1_arrange 87 = .ok (.iconst 1, 1) := by decide +kernel
theorem dX1_arrange_88 : decode cX1_arrange 88 = .ok (.isub, 1) := by decide +kernel
theorem dX1_arrange_89 : decode cX1_arrange 89 = .ok (.invokestatic 41, 3) := by decide +kernel
theorem dX1_arrange_92 : decode cX1_arrange 92 = .ok (.invokestatic 104, 3) := by decide +kernel
theorem dX1_arrange_95 : decode cX1_arrange 95 = .ok (.aload_n 0, 1) := by decide +kernel
theorem dX1_arrange_96 : decode cX1_arrange 96 = .ok (.getfield 30, 3) := by decide +kernel
theorem dX1_arrange_99 : decode cX1_arrange 99 = .ok (.iload 7, 2) := by decide +kernel
theorem dX1_arrange_101 : decode cX1_arrange 101 = .ok (.aload_n 0, 1) := by decide +kernel
theorem dX1_arrange_102 : decode cX1_arrange 102 = .ok (.getfield 30, 3) := by decide +kernel
theorem dX1_arrange_105 : decode cX1_arrange 105 = .ok (.iload 7, 2) := by decide +kernel
theorem dX1_arrange_107 : decode cX1_arrange 107 = .ok (.iconst 1, 1) := by decide +kernel
theorem dX1_arrange_108 : decode cX1_arrange 108 = .ok (.isub, 1) := by decide +kernel
theorem dX1_arrange_109 : decode cX1_arrange 109 = .ok (.invokestatic 41, 3) := by decide +kernel
theorem dX1_arrange_112 : decode cX1_arrange 112 = .ok (.invokestatic 104, 3) := by decide +kernel
theorem dX1_arrange_115 : decode cX1_arrange 115 = .ok (.iinc 7 (-1), 3) := by decide +kernel
theorem dX1_arrange_118 : decode cX1_arrange 118 = .ok (.goto (-72), 3) := by decide +kernel
theorem dX1_arrange_121 : decode cX1_arrange 121 = .ok (.aload_n 0, 1) := by decide +kernel
theorem dX1_arrange_122 : decode cX1_arrange 122 = .ok (.getfield 27, 3) := by decide +kernel
theorem dX1_arrange_125 : decode cX1_arrange 125 = .ok (.iload 7, 2) := by decide +kernel
theorem dX1_arrange_127 : decode cX1_arrange 127 = .ok (.iload 5, 2) := by decide +kernel
theorem dX1_arrange_129 : decode cX1_arrange 129 = .ok (.invokestatic 104, 3) := by decide +kernel
theorem dX1_arrange_132 : decode cX1_arrange 132 = .ok (.aload_n 0, 1) := by decide +kernel
theorem dX1_arrange_133 : decode cX1_arrange 133 = .ok (.getfield 30, 3) := by decide +kernel
theorem dX1_arrange_136 : decode cX1_arrange 136 = .ok (.iload 7, 2) := by decide +kernel
theorem dX1_arrange_138 : decode cX1_arrange 138 = .ok (.iload 6, 2) := by decide +kernel
theorem dX1_arrange_140 : decode cX1_arrange 140 = .ok (.invokestatic 104, 3) := by decide +kernel
theorem dX1_arrange_143 : decode cX1_arrange 143 = .ok (.iinc 4 1, 3) := by decide +kernel
theorem dX1_arrange_146 : decode cX1_arrange 146 = .ok (.goto (-134), 3) := by decide +kernel
theorem dX1_arrange_149 : decode cX1_arrange 149 = .ok (.return_, 1) := by decide +kernel
theorem dX2_init_0 : decode cX2_init 0 = .ok (.aload_n 0, 1) := by decide +kernel
theorem dX2_init_1 : decode cX2_init 1 = .ok (.invokespecial 3, 3) := by decide +kernel
theorem dX2_init_4 : decode cX2_init 4 = .ok (.aload_n 0, 1) := by decide +kernel
theorem dX2_init_5 : decode cX2_init 5 = .ok (.iconst 4, 1) := by decide +kernel
theorem dX2_init_6 : decode cX2_init 6 = .ok (.anewarray 9, 3) := by decide +kernel
theorem dX2_init_9 : decode cX2_init 9 = .ok (.putfield 11, 3) := by decide +kernel
theorem dX2_init_12 : decode cX2_init 12 = .ok (.iconst 0, 1) := by decide +kernel
theorem dX2_init_13 : decode cX2_init 13 = .ok (.istore_n 1, 1) := by decide +kernel
theorem dX2_init_14 : decode cX2_init 14 = .ok (.iload_n 1, 1) := by decide +kernel
theorem dX2_init_15 : decode cX2_init 15 = .ok (.aload_n 0, 1) := by decide +kernel
theorem dX2_init_16 : decode cX2_init 16 = .ok (.getfield 11, 3) := by decide +kernel
theorem dX2_init_19 : decode cX2_init 19 = .ok (.arraylength, 1) := by decide +kernel
theorem dX2_init_20 : decode cX2_init 20 = .ok (.if_icmp .ge 22, 3) := by decide +kernel
theorem dX2_init_23 : decode cX2_init 23 = .ok (.aload_n 0, 1) := by decide +kernel
theorem dX2_init_24 : decode cX2_init 24 = .ok (.getfield 11, 3) := by decide +kernel
theorem dX2_init_27 : decode cX2_init 27 = .ok (.iload_n 1, 1) := by decide +kernel
theorem dX2_init_28 : decode cX2_init 28 = .ok (.new 9, 3) := by decide +kernel
theorem dX2_init_31 : decode cX2_init 31 = .ok (.dup, 1) := by decide +kernel
theorem dX2_init_32 : decode cX2_init 32 = .ok (.invokespecial 17, 3) := by decide +kernel
theorem dX2_init_35 : decode cX2_init 35 = .ok (.aastore, 1) := by decide +kernel
theorem dX2_init_36 : decode cX2_init 36 = .ok (.iinc 1 1, 3) := by decide +kernel
theorem dX2_init_39 : decode cX2_init 39 = .ok (.goto (-25), 3) := by decide +kernel
theorem dX2_init_42 : decode cX2_init 42 = .ok (.return_, 1) := by decide +kernel
theorem dX2_record_0 : decode cX2_record 0 = .ok (.aload_n 0, 1) := by decide +kernel
theorem dX2_record_1 : decode cX2_record 1 = .ok (.getfield 18, 3) := by decide +kernel
theorem dX2_record_4 : decode cX2_record 4 = .ok (.iconst 4, 1) := by decide +kernel
theorem dX2_record_5 : decode cX2_record 5 = .ok (.if_icmp .ne 25, 3) := by decide +kernel
theorem dX2_record_8 : decode cX2_record 8 = .ok (.aload_n 0, 1) := by decide +kernel
theorem dX2_record_9 : decode cX2_record 9 = .ok (.aload_n 0, 1) := by decide +kernel
theorem dX2_record_10 : decode cX2_record 10 = .ok (.getfield 22, 3) := by decide +kernel
theorem dX2_record_13 : decode cX2_record 13 = .ok (.iconst 1, 1) := by decide +kernel
theorem dX2_record_14 : decode cX2_record 14 = .ok (.iadd, 1) := by decide +kernel
theorem dX2_record_15 : decode cX2_record 15 = .ok (.iconst 4, 1) := by decide +kernel
theorem dX2_record_16 : decode cX2_record 16 = .ok (.irem, 1) := by decide +kernel
theorem dX2_record_17 : decode cX2_record 17 = .ok (.putfield 22, 3) := by decide +kernel
theorem dX2_record_20 : decode cX2_record 20 = .ok (.aload_n 0, 1) := by decide +kernel
theorem dX2_record_21 : decode cX2_record 21 = .ok (.dup, 1) := by decide +kernel
theorem dX2_record_22 : decode cX2_record 22 = .ok (.getfield 18, 3) := by decide +kernel
theorem dX2_record_25 : decode cX2_record 25 = .ok (.iconst 1, 1) := by decide +kernel
theorem dX2_record_26 : decode cX2_record 26 = .ok (.isub, 1) := by decide +kernel
theorem dX2_record_27 : decode cX2_record 27 = .ok (.putfield 18, 3) := by decide +kernel
theorem dX2_record_30 : decode cX2_record 30 = .ok (.aload_n 0, 1) := by decide +kernel
theorem dX2_record_31 : decode cX2_record 31 = .ok (.aload_n 0, 1) := by decide +kernel
theorem dX2_record_32 : decode cX2_record 32 = .ok (.getfield 18, 3) := by decide +kernel
theorem dX2_record_35 : decode cX2_record 35 = .ok (.invokevirtual 25, 3) := by decide +kernel
theorem dX2_record_38 : decode cX2_record 38 = .ok (.astore_n 2, 1) := by decide +kernel
theorem dX2_record_39 : decode cX2_record 39 = .ok (.aload_n 2, 1) := by decide +kernel
theorem dX2_record_40 : decode cX2_record 40 = .ok (.ifnull 18, 3) := by decide +kernel
theorem dX2_record_43 : decode cX2_record 43 = .ok (.aload_n 2, 1) := by decide +kernel
theorem dX2_record_44 : decode cX2_record 44 = .ok (.aload_n 1, 1) := by decide +kernel
theorem dX2_record_45 : decode cX2_record 45 = .ok (.invokevirtual 29, 3) := by decide +kernel
theorem dX2_record_48 : decode cX2_record 48 = .ok (.aload_n 0, 1) := by decide +kernel
theorem dX2_record_49 : decode cX2_record 49 = .ok (.dup, 1) := by decide +kernel
theorem dX2_record_50 : decode cX2_record 50 = .ok (.getfield 18, 3) := by decide +kernel
theorem dX2_record_53 : decode cX2_record 53 = .ok (.iconst 1, 1) := by decide +kernel
theorem dX2_record_54 : decode cX2_record 54 = .ok (.iadd, 1) := by decide +kernel
theorem dX2_record_55 : decode cX2_record 55 = .ok (.putfield 18, 3) := by decide +kernel
theorem dX2_record_58 : decode cX2_record 58 = .ok (.return_, 1) := by decide +kernel
theorem dX2_restore_0 : decode cX2_restore 0 = .ok (.aload_n 0, 1) := by decide +kernel
theorem dX2_restore_1 : decode cX2_restore 1 = .ok (.aload_n 0, 1) := by decide +kernel
theorem dX2_restore_2 : decode cX2_restore 2 = .ok (.getfield 18, 3) := by decide +kernel
theorem dX2_restore_5 : decode cX2_restore 5 = .ok (.iconst 1, 1) := by decide +kernel
theorem dX2_restore_6 : decode cX2_restore 6 = .ok (.isub, 1) := by decide +kernel
theorem dX2_restore_7 : decode cX2_restore 7 = .ok (.invokevirtual 25, 3) := by decide +kernel
theorem dX2_restore_10 : decode cX2_restore 10 = .ok (.astore_n 2, 1) := by decide +kernel
theorem dX2_restore_11 : decode cX2_restore 11 = .ok (.aload_n 2, 1) := by decide +kernel
theorem dX2_restore_12 : decode cX2_restore 12 = .ok (.ifnull 18, 3) := by decide +kernel
theorem dX2_restore_15 : decode cX2_restore 15 = .ok (.aload_n 1, 1) := by decide +kernel
theorem dX2_restore_16 : decode cX2_restore 16 = .ok (.aload_n 2, 1) := by decide +kernel
theorem dX2_restore_17 : decode cX2_restore 17 = .ok (.invokevirtual 29, 3) := by decide +kernel
theorem dX2_restore_20 : decode cX2_restore 20 = .ok (.aload_n 0, 1) := by decide +kernel
theorem dX2_restore_21 : decode cX2_restore 21 = .ok (.dup, 1) := by decide +kernel
theorem dX2_restore_22 : decode cX2_restore 22 = .ok (.getfield 18, 3) := by decide +kernel
theorem dX2_restore_25 : decode cX2_restore 25 = .ok (.iconst 1, 1) := by decide +kernel
theorem dX2_restore_26 : decode cX2_restore 26 = .ok (.isub, 1) := by decide +kernel
theorem dX2_restore_27 : decode cX2_restore 27 = .ok (.putfield 18, 3) := by decide +kernel
theorem dX2_restore_30 : decode cX2_restore 30 = .ok (.return_, 1) := by decide +kernel
theorem dX2_stateAt_0 : decode cX2_stateAt 0 = .ok (.aload_n 0, 1) := by decide +kernel
theorem dX2_stateAt_1 : decode cX2_stateAt 1 = .ok (.getfield 22, 3) := by decide +kernel
theorem dX2_stateAt_4 : decode cX2_stateAt 4 = .ok (.iload_n 1, 1) := by decide +kernel
theorem dX2_stateAt_5 : decode cX2_stateAt 5 = .ok (.iadd, 1) := by decide +kernel
theorem dX2_stateAt_6 : decode cX2_stateAt 6 = .ok (.iconst 4, 1) := by decide +kernel
theorem dX2_stateAt_7 : decode cX2_stateAt 7 = .ok (.irem, 1) := by decide +kernel
theorem dX2_stateAt_8 : decode cX2_stateAt 8 = .ok (.istore_n 2, 1) := by decide +kernel
theorem dX2_stateAt_9 : decode cX2_stateAt 9 = .ok (.iload_n 1, 1) := by decide +kernel
theorem dX2_stateAt_10 : decode cX2_stateAt 10 = .ok (.ifCond .lt 25, 3) := by decide +kernel
theorem dX2_stateAt_13 : decode cX2_stateAt 13 = .ok (.iload_n 2, 1) := by decide +kernel
theorem dX2_stateAt_14 : decode cX2_stateAt 14 = .ok (.ifCond .lt 21, 3) := by decide +kernel
theorem dX2_stateAt_17 : decode cX2_stateAt 17 = .ok (.iload_n 2, 1) := by decide +kernel
theorem dX2_stateAt_18 : decode cX2_stateAt 18 = .ok (.aload_n 0, 1) := by decide +kernel
theorem dX2_stateAt_19 : decode cX2_stateAt 19 = .ok (.getfield 11, 3) := by decide +kernel
theorem dX2_stateAt_22 : decode cX2_stateAt 22 = .ok (.arraylength, 1) := by decide +kernel
theorem dX2_stateAt_23 : decode cX2_stateAt 23 = .ok (.if_icmp .ge 12, 3) := by decide +kernel
theorem dX2_stateAt_26 : decode cX2_stateAt 26 = .ok (.aload_n 0, 1) := by decide +kernel
theorem dX2_stateAt_27 : decode cX2_stateAt 27 = .ok (.getfield 11, 3) := by decide +kernel
theorem dX2_stateAt_30 : decode cX2_stateAt 30 = .ok (.iload_n 2, 1) := by decide +kernel
theorem dX2_stateAt_31 : decode cX2_stateAt 31 = .ok (.aaload, 1) := by decide +kernel
theorem dX2_stateAt_32 : decode cX2_stateAt 32 = .ok (.goto 4, 3) := by decide +kernel
theorem dX2_stateAt_35 : decode cX2_stateAt 35 = .ok (.aconst_null, 1) := by decide +kernel
theorem dX2_stateAt_36 : decode cX2_stateAt 36 = .ok (.areturn, 1) := by decide +kernel
theorem dX3_init_0 : decode cX3_init 0 = .ok (.aload_n 0, 1) := by decide +kernel
theorem dX3_init_1 : decode cX3_init 1 = .ok (.invokespecial 3, 3) := by decide +kernel
theorem dX3_init_4 : decode cX3_init 4 = .ok (.aload_n 0, 1) := by decide +kernel
theorem dX3_init_5 : decode cX3_init 5 = .ok (.bipush 60, 2) := by decide +kernel
theorem dX3_init_7 : decode cX3_init 7 = .ok (.newarray .int, 2) := by decide +kernel
theorem dX3_init_9 : decode cX3_init 9 = .ok (.putfield 9, 3) := by decide +kernel
theorem dX3_init_12 : decode cX3_init 12 = .ok (.aload_n 0, 1) := by decide +kernel
theorem dX3_init_13 : decode cX3_init 13 = .ok (.iconst 5, 1) := by decide +kernel
theorem dX3_init_14 : decode cX3_init 14 = .ok (.newarray .int, 2) := by decide +kernel
theorem dX3_init_16 : decode cX3_init 16 = .ok (.putfield 15, 3) := by decide +kernel
theorem dX3_init_19 : decode cX3_init 19 = .ok (.return_, 1) := by decide +kernel
theorem dX3_append_0 : decode cX3_append 0 = .ok (.aload_n 0, 1) := by decide +kernel
theorem dX3_append_1 : decode cX3_append 1 = .ok (.getfield 18, 3) := by decide +kernel
theorem dX3_append_4 : decode cX3_append 4 = .ok (.bipush 60, 2) := by decide +kernel
theorem dX3_append_6 : decode cX3_append 6 = .ok (.if_icmp .ge 25, 3) := by decide +kernel
theorem dX3_append_9 : decode cX3_append 9 = .ok (.aload_n 0, 1) := by decide +kernel
theorem dX3_append_10 : decode cX3_append 10 = .ok (.getfield 9, 3) := by decide +kernel
theorem dX3_append_13 : decode cX3_append 13 = .ok (.aload_n 0, 1) := by decide +kernel
theorem dX3_append_14 : decode cX3_append 14 = .ok (.getfield 18, 3) := by decide +kernel
theorem dX3_append_17 : decode cX3_append 17 = .ok (.iload_n 1, 1) := by decide +kernel
theorem dX3_append_18 : decode cX3_append 18 = .ok (.invokestatic 22, 3) := by decide +kernel
theorem dX3_append_21 : decode cX3_append 21 = .ok (.aload_n 0, 1) := by decide +kernel
theorem dX3_append_22 : decode cX3_append 22 = .ok (.dup, 1) := by decide +kernel
theorem dX3_append_23 : decode cX3_append 23 = .ok (.getfield 18, 3) := by decide +kernel
theorem dX3_append_26 : decode cX3_append 26 = .ok (.iconst 1, 1) := by decide +kernel
theorem dX3_append_27 : decode cX3_append 27 = .ok (.iadd, 1) := by decide +kernel
theorem dX3_append_28 : decode cX3_append 28 = .ok (.putfield 18, 3) := by decide +kernel
theorem dX3_append_31 : decode cX3_append 31 = .ok (.return_, 1) := by decide +kernel
theorem dX3_number_0 : decode cX3_number 0 = .ok (.aload_n 0, 1) := by decide +kernel
theorem dX3_number_1 : decode cX3_number 1 = .ok (.getfield 15, 3) := by decide +kernel
theorem dX3_number_4 : decode cX3_number 4 = .ok (.iload_n 1, 1) := by decide +kernel
theorem dX3_number_5 : decode cX3_number 5 = .ok (.invokestatic 28, 3) := by decide +kernel
theorem dX3_number_8 : decode cX3_number 8 = .ok (.ireturn, 1) := by decide +kernel
theorem dX3_examine_0 : decode cX3_examine 0 = .ok (.iload_n 1, 1) := by decide +kernel
theorem dX3_examine_1 : decode cX3_examine 1 = .ok (.istore_n 2, 1) := by decide +kernel
theorem dX3_examine_2 : decode cX3_examine 2 = .ok (.aload_n 0, 1) := by decide +kernel
theorem dX3_examine_3 : decode cX3_examine 3 = .ok (.iconst 0, 1) := by decide +kernel
theorem dX3_examine_4 : decode cX3_examine 4 = .ok (.putfield 32, 3) := by decide +kernel
theorem dX3_examine_7 : decode cX3_examine 7 = .ok (.aload_n 0, 1) := by decide +kernel
theorem dX3_examine_8 : decode cX3_examine 8 = .ok (.iconst 0, 1) := by decide +kernel
theorem dX3_examine_9 : decode cX3_examine 9 = .ok (.putfield 35, 3) := by decide +kernel
theorem dX3_examine_12 : decode cX3_examine 12 = .ok (.aload_n 0, 1) := by decide +kernel
theorem dX3_examine_13 : decode cX3_examine 13 = .ok (.iconst 0, 1) := by decide +kernel
theorem dX3_examine_14 : decode cX3_examine 14 = .ok (.putfield 38, 3) := by decide +kernel
theorem dX3_examine_17 : decode cX3_examine 17 = .ok (.iconst 0, 1) := by decide +kernel
theorem dX3_examine_18 : decode cX3_examine 18 = .ok (.istore_n 3, 1) := by decide +kernel
theorem dX3_examine_19 : decode cX3_examine 19 = .ok (.iload_n 3, 1) := by decide +kernel
theorem dX3_examine_20 : decode cX3_examine 20 = .ok (.bipush 60, 2) := by decide +kernel
theorem dX3_examine_22 : decode cX3_examine 22 = .ok (.if_icmp .ge 69, 3) := by decide +kernel
theorem dX3_examine_25 : decode cX3_examine 25 = .ok (.aload_n 0, 1) := by decide +kernel
theorem dX3_examine_26 : decode cX3_examine 26 = .ok (.getfield 35, 3) := by decide +kernel
theorem dX3_examine_29 : decode cX3_examine 29 = .ok (.aload_n 0, 1) := by decide +kernel
theorem dX3_examine_30 : decode cX3_examine 30 = .ok (.getfield 18, 3) := by decide +kernel
theorem dX3_examine_33 : decode cX3_examine 33 = .ok (.if_icmp .ge 58, 3) := by decide +kernel
theorem dX3_examine_36 : decode cX3_examine 36 = .ok (.aload_n 0, 1) := by decide +kernel
theorem dX3_examine_37 : decode cX3_examine 37 = .ok (.aload_n 0, 1) := by decide +kernel
theorem dX3_examine_38 : decode cX3_examine 38 = .ok (.aload_n 0, 1) := by decide +kernel
theorem dX3_examine_39 : decode cX3_examine 39 = .ok (.getfield 35, 3) := by decide +kernel
theorem dX3_examine_42 : decode cX3_examine 42 = .ok (.iload_n 2, 1) := by decide +kernel
theorem dX3_examine_43 : decode cX3_examine 43 = .ok (.invokevirtual 41, 3) := by decide +kernel
theorem dX3_examine_46 : decode cX3_examine 46 = .ok (.putfield 38, 3) := by decide +kernel
theorem dX3_examine_49 : decode cX3_examine 49 = .ok (.aload_n 0, 1) := by decide +kernel
theorem dX3_examine_50 : decode cX3_examine 50 = .ok (.getfield 38, 3) := by decide +kernel
theorem dX3_examine_53 : decode cX3_examine 53 = .ok (.ifCond .eq 4, 3) := by decide +kernel
theorem dX3_examine_56 : decode cX3_examine 56 = .ok (.return_, 1) := by decide +kernel
theorem dX3_examine_57 : decode cX3_examine 57 = .ok (.iload_n 2, 1) := by decide +kernel
theorem dX3_examine_58 : decode cX3_examine 58 = .ok (.iconst 1, 1) := by decide +kernel
theorem dX3_examine_59 : decode cX3_examine 59 = .ok (.aload_n 0, 1) := by decide +kernel
theorem dX3_examine_60 : decode cX3_examine 60 = .ok (.iconst 0, 1) := by decide +kernel
theorem dX3_examine_61 : decode cX3_examine 61 = .ok (.invokevirtual 45, 3) := by decide +kernel
theorem dX3_examine_64 : decode cX3_examine 64 = .ok (.ishl, 1) := by decide +kernel
theorem dX3_examine_65 : decode cX3_examine 65 = .ok (.ixor, 1) := by decide +kernel
theorem dX3_examine_66 : decode cX3_examine 66 = .ok (.istore_n 2, 1) := by decide +kernel
theorem dX3_examine_67 : decode cX3_examine 67 = .ok (.aload_n 0, 1) := by decide +kernel
theorem dX3_examine_68 : decode cX3_examine 68 = .ok (.dup, 1) := by decide +kernel
theorem dX3_examine_69 : decode cX3_examine 69 = .ok (.getfield 32, 3) := by decide +kernel
theorem dX3_examine_72 : decode cX3_examine 72 = .ok (.iconst 1, 1) := by decide +kernel
theorem dX3_examine_73 : decode cX3_examine 73 = .ok (.iadd, 1) := by decide +kernel
theorem dX3_examine_74 : decode cX3_examine 74 = .ok (.putfield 32, 3) := by decide +kernel
theorem dX3_examine_77 : decode cX3_examine 77 = .ok (.aload_n 0, 1) := by decide +kernel
theorem dX3_examine_78 : decode cX3_examine 78 = .ok (.aload_n 0, 1) := by decide +kernel
theorem dX3_examine_79 : decode cX3_examine 79 = .ok (.getfield 49, 3) := by decide +kernel
theorem dX3_examine_82 : decode cX3_examine 82 = .ok (.putfield 35, 3) := by decide +kernel
theorem dX3_examine_85 : decode cX3_examine 85 = .ok (.iinc 3 1, 3) := by decide +kernel
theorem dX3_examine_88 : decode cX3_examine 88 = .ok (.goto (-69), 3) := by decide +kernel
theorem dX3_examine_91 : decode cX3_examine 91 = .ok (.return_, 1) := by decide +kernel
theorem dX3_reasonAgainst_0 : decode cX3_reasonAgainst 0 = .ok (.aload_n 0, 1) := by decide +kernel
theorem dX3_reasonAgainst_1 : decode cX3_reasonAgainst 1 = .ok (.iload_n 1, 1) := by decide +kernel
theorem dX3_reasonAgainst_2 : decode cX3_reasonAgainst 2 = .ok (.invokevirtual 51, 3) := by decide +kernel
theorem dX3_reasonAgainst_5 : decode cX3_reasonAgainst 5 = .ok (.ifCond .ne 15, 3) := by decide +kernel
theorem dX3_reasonAgainst_8 : decode cX3_reasonAgainst 8 = .ok (.aload_n 0, 1) := by decide +kernel
theorem dX3_reasonAgainst_9 : decode cX3_reasonAgainst 9 = .ok (.aload_n 0, 1) := by decide +kernel
theorem dX3_reasonAgainst_10 : decode cX3_reasonAgainst 10 = .ok (.getfield 49, 3) := by decide +kernel
theorem dX3_reasonAgainst_13 : decode cX3_reasonAgainst 13 = .ok (.iload_n 1, 1) := by decide +kernel
theorem dX3_reasonAgainst_14 : decode cX3_reasonAgainst 14 = .ok (.isub, 1) := by decide +kernel
theorem dX3_reasonAgainst_15 : decode cX3_reasonAgainst 15 = .ok (.putfield 55, 3) := by decide +kernel
theorem dX3_reasonAgainst_18 : decode cX3_reasonAgainst 18 = .ok (.iconst 1, 1) := by decide +kernel
theorem dX3_reasonAgainst_19 : decode cX3_reasonAgainst 19 = .ok (.ireturn, 1) := by decide +kernel
theorem dX3_reasonAgainst_20 : decode cX3_reasonAgainst 20 = .ok (.aload_n 0, 1) := by decide +kernel
theorem dX3_reasonAgainst_21 : decode cX3_reasonAgainst 21 = .ok (.aload_n 0, 1) := by decide +kernel
theorem dX3_reasonAgainst_22 : decode cX3_reasonAgainst 22 = .ok (.invokevirtual 58, 3) := by decide +kernel
theorem dX3_reasonAgainst_25 : decode cX3_reasonAgainst 25 = .ok (.putfield 55, 3) := by decide +kernel
theorem dX3_reasonAgainst_28 : decode cX3_reasonAgainst 28 = .ok (.aload_n 0, 1) := by decide +kernel
theorem dX3_reasonAgainst_29 : decode cX3_reasonAgainst 29 = .ok (.getfield 55, 3) := by decide +kernel
theorem dX3_reasonAgainst_32 : decode cX3_reasonAgainst 32 = .ok (.iconst (-1), 1) := by decide +kernel
theorem dX3_reasonAgainst_33 : decode cX3_reasonAgainst 33 = .ok (.if_icmp .eq 5, 3) := by decide +kernel
theorem dX3_reasonAgainst_36 : decode cX3_reasonAgainst 36 = .ok (.iconst 2, 1) := by decide +kernel
theorem dX3_reasonAgainst_37 : decode cX3_reasonAgainst 37 = .ok (.ireturn, 1) := by decide +kernel
theorem dX3_reasonAgainst_38 : decode cX3_reasonAgainst 38 = .ok (.iload_n 2, 1) := by decide +kernel
theorem dX3_reasonAgainst_39 : decode cX3_reasonAgainst 39 = .ok (.aload_n 0, 1) := by decide +kernel
theorem dX3_reasonAgainst_40 : decode cX3_reasonAgainst 40 = .ok (.iconst 0, 1) := by decide +kernel
theorem dX3_reasonAgainst_41 : decode cX3_reasonAgainst 41 = .ok (.invokevirtual 45, 3) := by decide +kernel
theorem dX3_reasonAgainst_44 : decode cX3_reasonAgainst 44 = .ok (.ishr, 1) := by decide +kernel
theorem dX3_reasonAgainst_45 : decode cX3_reasonAgainst 45 = .ok (.iconst 1, 1) := by decide +kernel
theorem dX3_reasonAgainst_46 : decode cX3_reasonAgainst 46 = .ok (.iand, 1) := by decide +kernel
theorem dX3_reasonAgainst_47 : decode cX3_reasonAgainst 47 = .ok (.iconst 1, 1) := by decide +kernel
theorem dX3_reasonAgainst_48 : decode cX3_reasonAgainst 48 = .ok (.if_icmp .ne 7, 3) := by decide +kernel
theorem dX3_reasonAgainst_51 : decode cX3_reasonAgainst 51 = .ok (.iconst 1, 1) := by decide +kernel
theorem dX3_reasonAgainst_52 : decode cX3_reasonAgainst 52 = .ok (.goto 4, 3) := by decide +kernel
theorem dX3_reasonAgainst_55 : decode cX3_reasonAgainst 55 = .ok (.iconst 0, 1) := by decide +kernel
theorem dX3_reasonAgainst_56 : decode cX3_reasonAgainst 56 = .ok (.istore_n 3, 1) := by decide +kernel
theorem dX3_reasonAgainst_57 : decode cX3_reasonAgainst 57 = .ok (.iload_n 3, 1) := by decide +kernel
theorem dX3_reasonAgainst_58 : decode cX3_reasonAgainst 58 = .ok (.aload_n 0, 1) := by decide +kernel
theorem dX3_reasonAgainst_59 : decode cX3_reasonAgainst 59 = .ok (.getfield 62, 3) := by decide +kernel
theorem dX3_reasonAgainst_62 : decode cX3_reasonAgainst 62 = .ok (.if_icmp .ne 7, 3) := by decide +kernel
theorem dX3_reasonAgainst_65 : decode cX3_reasonAgainst 65 = .ok (.iconst 3, 1) := by decide +kernel
theorem dX3_reasonAgainst_66 : decode cX3_reasonAgainst 66 = .ok (.goto 4, 3) := by decide +kernel
theorem dX3_reasonAgainst_69 : decode cX3_reasonAgainst 69 = .ok (.iconst 0, 1) := by decide +kernel
theorem dX3_reasonAgainst_70 : decode cX3_reasonAgainst 70 = .ok (.ireturn, 1) := by decide +kernel
theorem dX3_wrongNumber_0 : decode cX3_wrongNumber 0 = .ok (.aload_n 0, 1) := by decide +kernel
theorem dX3_wrongNumber_1 : decode cX3_wrongNumber 1 = .ok (.iconst 0, 1) := by decide +kernel
theorem dX3_wrongNumber_2 : decode cX3_wrongNumber 2 = .ok (.invokevirtual 45, 3) := by decide +kernel
theorem dX3_wrongNumber_5 : decode cX3_wrongNumber 5 = .ok (.bipush 31, 2) := by decide +kernel
theorem dX3_wrongNumber_7 : decode cX3_wrongNumber 7 = .ok (.if_icmp .lt 5, 3) := by decide +kernel
theorem dX3_wrongNumber_10 : decode cX3_wrongNumber 10 = .ok (.iconst 0, 1) := by decide +kernel
theorem dX3_wrongNumber_11 : decode cX3_wrongNumber 11 = .ok (.ireturn, 1) := by decide +kernel
theorem dX3_wrongNumber_12 : decode cX3_wrongNumber 12 = .ok (.aload_n 0, 1) := by decide +kernel
theorem dX3_wrongNumber_13 : decode cX3_wrongNumber 13 = .ok (.getfield 62, 3) := by decide +kernel
theorem dX3_wrongNumber_16 : decode cX3_wrongNumber 16 = .ok (.ifCond .eq 18, 3) := by decide +kernel
theorem dX3_wrongNumber_19 : decode cX3_wrongNumber 19 = .ok (.aload_n 0, 1) := by decide +kernel
theorem dX3_wrongNumber_20 : decode cX3_wrongNumber 20 = .ok (.iconst 1, 1) := by decide +kernel
theorem dX3_wrongNumber_21 : decode cX3_wrongNumber 21 = .ok (.invokevirtual 45, 3) := by decide +kernel
theorem dX3_wrongNumber_24 : decode cX3_wrongNumber 24 = .ok (.aload_n 0, 1) := by decide +kernel
theorem dX3_wrongNumber_25 : decode cX3_wrongNumber 25 = .ok (.iconst 3, 1) := by decide +kernel
theorem dX3_wrongNumber_26 : decode cX3_wrongNumber 26 = .ok (.invokevirtual 45, 3) := by decide +kernel
theorem dX3_wrongNumber_29 : decode cX3_wrongNumber 29 = .ok (.if_icmp .le 5, 3) := by decide +kernel
theorem dX3_wrongNumber_32 : decode cX3_wrongNumber 32 = .ok (.iconst 1, 1) := by decide +kernel
theorem dX3_wrongNumber_33 : decode cX3_wrongNumber 33 = .ok (.ireturn, 1) := by decide +kernel
theorem dX3_wrongNumber_34 : decode cX3_wrongNumber 34 = .ok (.aload_n 0, 1) := by decide +kernel
theorem dX3_wrongNumber_35 : decode cX3_wrongNumber 35 = .ok (.getfield 62, 3) := by decide +kernel
theorem dX3_wrongNumber_38 : decode cX3_wrongNumber 38 = .ok (.ifCond .eq 20, 3) := by decide +kernel
theorem dX3_wrongNumber_41 : decode cX3_wrongNumber 41 = .ok (.aload_n 0, 1) := by decide +kernel
theorem dX3_wrongNumber_42 : decode cX3_wrongNumber 42 = .ok (.iconst 2, 1) := by decide +kernel
theorem dX3_wrongNumber_43 : decode cX3_wrongNumber 43 = .ok (.invokevirtual 45, 3) := by decide +kernel
theorem dX3_wrongNumber_46 : decode cX3_wrongNumber 46 = .ok (.aload_n 0, 1) := by decide +kernel
theorem dX3_wrongNumber_47 : decode cX3_wrongNumber 47 = .ok (.iconst 4, 1) := by decide +kernel
theorem dX3_wrongNumber_48 : decode cX3_wrongNumber 48 = .ok (.invokevirtual 45, 3) := by decide +kernel
theorem dX3_wrongNumber_51 : decode cX3_wrongNumber 51 = .ok (.if_icmp .le 7, 3) := by decide +kernel
theorem dX3_wrongNumber_54 : decode cX3_wrongNumber 54 = .ok (.iconst 2, 1) := by decide +kernel
theorem dX3_wrongNumber_55 : decode cX3_wrongNumber 55 = .ok (.goto 4, 3) := by decide +kernel
theorem dX3_wrongNumber_58 : decode cX3_wrongNumber 58 = .ok (.iconst (-1), 1) := by decide +kernel
theorem dX3_wrongNumber_59 : decode cX3_wrongNumber 59 = .ok (.ireturn, 1) := by decide +kernel
theorem dX3_read_0 : decode cX3_read 0 = .ok (.aload_n 0, 1) := by decide +kernel
theorem dX3_read_1 : decode cX3_read 1 = .ok (.iload_n 1, 1) := by decide +kernel
theorem dX3_read_2 : decode cX3_read 2 = .ok (.putfield 49, 3) := by decide +kernel
theorem dX3_read_5 : decode cX3_read 5 = .ok (.aload_n 0, 1) := by decide +kernel
theorem dX3_read_6 : decode cX3_read 6 = .ok (.aload_n 0, 1) := by decide +kernel
theorem dX3_read_7 : decode cX3_read 7 = .ok (.bipush 43, 2) := by decide +kernel
theorem dX3_read_9 : decode cX3_read 9 = .ok (.invokevirtual 66, 3) := by decide +kernel
theorem dX3_read_12 : decode cX3_read 12 = .ok (.putfield 62, 3) := by decide +kernel
theorem dX3_read_15 : decode cX3_read 15 = .ok (.aload_n 0, 1) := by decide +kernel
theorem dX3_read_16 : decode cX3_read 16 = .ok (.getfield 62, 3) := by decide +kernel
theorem dX3_read_19 : decode cX3_read 19 = .ok (.ifCond .ne 14, 3) := by decide +kernel
theorem dX3_read_22 : decode cX3_read 22 = .ok (.aload_n 0, 1) := by decide +kernel
theorem dX3_read_23 : decode cX3_read 23 = .ok (.bipush 45, 2) := by decide +kernel
theorem dX3_read_25 : decode cX3_read 25 = .ok (.invokevirtual 66, 3) := by decide +kernel
theorem dX3_read_28 : decode cX3_read 28 = .ok (.ifCond .ne 5, 3) := by decide +kernel
theorem dX3_read_31 : decode cX3_read 31 = .ok (.iconst 0, 1) := by decide +kernel
theorem dX3_read_32 : decode cX3_read 32 = .ok (.ireturn, 1) := by decide +kernel
theorem dX3_read_33 : decode cX3_read 33 = .ok (.aload_n 0, 1) := by decide +kernel
theorem dX3_read_34 : decode cX3_read 34 = .ok (.dup, 1) := by decide +kernel
theorem dX3_read_35 : decode cX3_read 35 = .ok (.getfield 49, 3) := by decide +kernel
theorem dX3_read_38 : decode cX3_read 38 = .ok (.iconst 1, 1) := by decide +kernel
theorem dX3_read_39 : decode cX3_read 39 = .ok (.iadd, 1) := by decide +kernel
theorem dX3_read_40 : decode cX3_read 40 = .ok (.putfield 49, 3) := by decide +kernel
theorem dX3_read_43 : decode cX3_read 43 = .ok (.aload_n 0, 1) := by decide +kernel
theorem dX3_read_44 : decode cX3_read 44 = .ok (.getfield 62, 3) := by decide +kernel
theorem dX3_read_47 : decode cX3_read 47 = .ok (.ifCond .eq 7, 3) := by decide +kernel
theorem dX3_read_50 : decode cX3_read 50 = .ok (.iconst 5, 1) := by decide +kernel
theorem dX3_read_51 : decode cX3_read 51 = .ok (.goto 4, 3) := by decide +kernel
theorem dX3_read_54 : decode cX3_read 54 = .ok (.iconst 1, 1) := by decide +kernel
theorem dX3_read_55 : decode cX3_read 55 = .ok (.istore_n 2, 1) := by decide +kernel
theorem dX3_read_56 : decode cX3_read 56 = .ok (.iconst 0, 1) := by decide +kernel
theorem dX3_read_57 : decode cX3_read 57 = .ok (.istore_n 3, 1) := by decide +kernel
theorem dX3_read_58 : decode cX3_read 58 = .ok (.iload_n 3, 1) := by decide +kernel
theorem dX3_read_59 : decode cX3_read 59 = .ok (.iload_n 2, 1) := by decide +kernel
theorem dX3_read_60 : decode cX3_read 60 = .ok (.if_icmp .ge 50, 3) := by decide +kernel
theorem dX3_read_63 : decode cX3_read 63 = .ok (.aload_n 0, 1) := by decide +kernel
theorem dX3_read_64 : decode cX3_read 64 = .ok (.iload_n 3, 1) := by decide +kernel
theorem dX3_read_65 : decode cX3_read 65 = .ok (.invokevirtual 69, 3) := by decide +kernel
theorem dX3_read_68 : decode cX3_read 68 = .ok (.ifCond .eq 24, 3) := by decide +kernel
theorem dX3_read_71 : decode cX3_read 71 = .ok (.aload_n 0, 1) := by decide +kernel
theorem dX3_read_72 : decode cX3_read 72 = .ok (.iload_n 3, 1) := by decide +kernel
theorem dX3_read_73 : decode cX3_read 73 = .ok (.iload_n 2, 1) := by decide +kernel
theorem dX3_read_74 : decode cX3_read 74 = .ok (.iconst 1, 1) := by decide +kernel
theorem dX3_read_75 : decode cX3_read 75 = .ok (.isub, 1) := by decide +kernel
theorem dX3_read_76 : decode cX3_read 76 = .ok (.if_icmp .ne 8, 3) := by decide +kernel
theorem dX3_read_79 : decode cX3_read 79 = .ok (.bipush 59, 2) := by decide +kernel
theorem dX3_read_81 : decode cX3_read 81 = .ok (.goto 5, 3) := by decide +kernel
theorem dX3_read_84 : decode cX3_read 84 = .ok (.bipush 44, 2) := by decide +kernel
theorem dX3_read_86 : decode cX3_read 86 = .ok (.invokevirtual 66, 3) := by decide +kernel
theorem dX3_read_89 : decode cX3_read 89 = .ok (.ifCond .ne 5, 3) := by decide +kernel
theorem dX3_read_92 : decode cX3_read 92 = .ok (.iconst 0, 1) := by decide +kernel
theorem dX3_read_93 : decode cX3_read 93 = .ok (.ireturn, 1) := by decide +kernel
theorem dX3_read_94 : decode cX3_read 94 = .ok (.aload_n 0, 1) := by decide +kernel
theorem dX3_read_95 : decode cX3_read 95 = .ok (.dup, 1) := by decide +kernel
theorem dX3_read_96 : decode cX3_read 96 = .ok (.getfield 49, 3) := by decide +kernel
theorem dX3_read_99 : decode cX3_read 99 = .ok (.iconst 1, 1) := by decide +kernel
theorem dX3_read_100 : decode cX3_read 100 = .ok (.iadd, 1) := by decide +kernel
theorem dX3_read_101 : decode cX3_read 101 = .ok (.putfield 49, 3) := by decide +kernel
theorem dX3_read_104 : decode cX3_read 104 = .ok (.iinc 3 1, 3) := by decide +kernel
theorem dX3_read_107 : decode cX3_read 107 = .ok (.goto (-49), 3) := by decide +kernel
theorem dX3_read_110 : decode cX3_read 110 = .ok (.iconst 1, 1) := by decide +kernel
theorem dX3_read_111 : decode cX3_read 111 = .ok (.ireturn, 1) := by decide +kernel
theorem dX3_readNumber_0 : decode cX3_readNumber 0 = .ok (.aload_n 0, 1) := by decide +kernel
theorem dX3_readNumber_1 : decode cX3_readNumber 1 = .ok (.invokevirtual 72, 3) := by decide +kernel
theorem dX3_readNumber_4 : decode cX3_readNumber 4 = .ok (.ifCond .ne 5, 3) := by decide +kernel
theorem dX3_readNumber_7 : decode cX3_readNumber 7 = .ok (.iconst 0, 1) := by decide +kernel
theorem dX3_readNumber_8 : decode cX3_readNumber 8 = .ok (.ireturn, 1) := by decide +kernel
theorem dX3_readNumber_9 : decode cX3_readNumber 9 = .ok (.aload_n 0, 1) := by decide +kernel
theorem dX3_readNumber_10 : decode cX3_readNumber 10 = .ok (.getfield 9, 3) := by decide +kernel
theorem dX3_readNumber_13 : decode cX3_readNumber 13 = .ok (.aload_n 0, 1) := by decide +kernel
theorem dX3_readNumber_14 : decode cX3_readNumber 14 = .ok (.getfield 49, 3) := by decide +kernel
theorem dX3_readNumber_17 : decode cX3_readNumber 17 = .ok (.invokestatic 28, 3) := by decide +kernel
theorem dX3_readNumber_20 : decode cX3_readNumber 20 = .ok (.bipush 48, 2) := by decide +kernel
theorem dX3_readNumber_22 : decode cX3_readNumber 22 = .ok (.isub, 1) := by decide +kernel
theorem dX3_readNumber_23 : decode cX3_readNumber 23 = .ok (.istore_n 2, 1) := by decide +kernel
theorem dX3_readNumber_24 : decode cX3_readNumber 24 = .ok (.aload_n 0, 1) := by decide +kernel
theorem dX3_readNumber_25 : decode cX3_readNumber 25 = .ok (.dup, 1) := by decide +kernel
theorem dX3_readNumber_26 : decode cX3_readNumber 26 = .ok (.getfield 49, 3) := by decide +kernel
theorem dX3_readNumber_29 : decode cX3_readNumber 29 = .ok (.iconst 1, 1) := by decide +kernel
theorem dX3_readNumber_30 : decode cX3_readNumber 30 = .ok (.iadd, 1) := by decide +kernel
theorem dX3_readNumber_31 : decode cX3_readNumber 31 = .ok (.putfield 49, 3) := by decide +kernel
theorem dX3_readNumber_34 : decode cX3_readNumber 34 = .ok (.aload_n 0, 1) := by decide +kernel
theorem dX3_readNumber_35 : decode cX3_readNumber 35 = .ok (.invokevirtual 72, 3) := by decide +kernel
theorem dX3_readNumber_38 : decode cX3_readNumber 38 = .ok (.ifCond .eq 33, 3) := by decide +kernel
theorem dX3_readNumber_41 : decode cX3_readNumber 41 = .ok (.iload_n 2, 1) := by decide +kernel
theorem dX3_readNumber_42 : decode cX3_readNumber 42 = .ok (.bipush 10, 2) := by decide +kernel
theorem dX3_readNumber_44 : decode cX3_readNumber 44 = .ok (.imul, 1) := by decide +kernel
theorem dX3_readNumber_45 : decode cX3_readNumber 45 = .ok (.aload_n 0, 1) := by decide +kernel
theorem dX3_readNumber_46 : decode cX3_readNumber 46 = .ok (.getfield 9, 3) := by decide +kernel
theorem dX3_readNumber_49 : decode cX3_readNumber 49 = .ok (.aload_n 0, 1) := by decide +kernel
theorem dX3_readNumber_50 : decode cX3_readNumber 50 = .ok (.getfield 49, 3) := by decide +kernel
theorem dX3_readNumber_53 : decode cX3_readNumber 53 = .ok (.invokestatic 28, 3) := by decide +kernel
theorem dX3_readNumber_56 : decode cX3_readNumber 56 = .ok (.iadd, 1) := by decide +kernel
theorem dX3_readNumber_57 : decode cX3_readNumber 57 = .ok (.bipush 48, 2) := by decide +kernel
theorem dX3_readNumber_59 : decode cX3_readNumber 59 = .ok (.isub, 1) := by decide +kernel
theorem dX3_readNumber_60 : decode cX3_readNumber 60 = .ok (.istore_n 2, 1) := by decide +kernel
theorem dX3_readNumber_61 : decode cX3_readNumber 61 = .ok (.aload_n 0, 1) := by decide +kernel
theorem dX3_readNumber_62 : decode cX3_readNumber 62 = .ok (.dup, 1) := by decide +kernel
theorem dX3_readNumber_63 : decode cX3_readNumber 63 = .ok (.getfield 49, 3) := by decide +kernel
theorem dX3_readNumber_66 : decode cX3_readNumber 66 = .ok (.iconst 1, 1) := by decide +kernel
theorem dX3_readNumber_67 : decode cX3_readNumber 67 = .ok (.iadd, 1) := by decide +kernel
theorem dX3_readNumber_68 : decode cX3_readNumber 68 = .ok (.putfield 49, 3) := by decide +kernel
theorem dX3_readNumber_71 : decode cX3_readNumber 71 = .ok (.aload_n 0, 1) := by decide +kernel
theorem dX3_readNumber_72 : decode cX3_readNumber 72 = .ok (.getfield 15, 3) := by decide +kernel
theorem dX3_readNumber_75 : decode cX3_readNumber 75 = .ok (.iload_n 1, 1) := by decide +kernel
theorem dX3_readNumber_76 : decode cX3_readNumber 76 = .ok (.iload_n 2, 1) := by decide +kernel
theorem dX3_readNumber_77 : decode cX3_readNumber 77 = .ok (.invokestatic 22, 3) := by decide +kernel
theorem dX3_readNumber_80 : decode cX3_readNumber 80 = .ok (.iconst 1, 1) := by decide +kernel
theorem dX3_readNumber_81 : decode cX3_readNumber 81 = .ok (.ireturn, 1) := by decide +kernel
theorem dX3_signIs_0 : decode cX3_signIs 0 = .ok (.aload_n 0, 1) := by decide +kernel
theorem dX3_signIs_1 : decode cX3_signIs 1 = .ok (.getfield 49, 3) := by decide +kernel
theorem dX3_signIs_4 : decode cX3_signIs 4 = .ok (.aload_n 0, 1) := by decide +kernel
theorem dX3_signIs_5 : decode cX3_signIs 5 = .ok (.getfield 18, 3) := by decide +kernel
theorem dX3_signIs_8 : decode cX3_signIs 8 = .ok (.if_icmp .ge 22, 3) := by decide +kernel
theorem dX3_signIs_11 : decode cX3_signIs 11 = .ok (.aload_n 0, 1) := by decide +kernel
theorem dX3_signIs_12 : decode cX3_signIs 12 = .ok (.getfield 9, 3) := by decide +kernel
theorem dX3_signIs_15 : decode cX3_signIs 15 = .ok (.aload_n 0, 1) := by decide +kernel
theorem dX3_signIs_16 : decode cX3_signIs 16 = .ok (.getfield 49, 3) := by decide +kernel
theorem dX3_signIs_19 : decode cX3_signIs 19 = .ok (.invokestatic 28, 3) := by decide +kernel
theorem dX3_signIs_22 : decode cX3_signIs 22 = .ok (.iload_n 1, 1) := by decide +kernel
theorem dX3_signIs_23 : decode cX3_signIs 23 = .ok (.if_icmp .ne 7, 3) := by decide +kernel
theorem dX3_signIs_26 : decode cX3_signIs 26 = .ok (.iconst 1, 1) := by decide +kernel
theorem dX3_signIs_27 : decode cX3_signIs 27 = .ok (.goto 4, 3) := by decide +kernel
theorem dX3_signIs_30 : decode cX3_signIs 30 = .ok (.iconst 0, 1) := by decide +kernel
theorem dX3_signIs_31 : decode cX3_signIs 31 = .ok (.ireturn, 1) := by decide +kernel
theorem dX3_signIsDigit_0 : decode cX3_signIsDigit 0 = .ok (.aload_n 0, 1) := by decide +kernel
theorem dX3_signIsDigit_1 : decode cX3_signIsDigit 1 = .ok (.getfield 49, 3) := by decide +kernel
theorem dX3_signIsDigit_4 : decode cX3_signIsDigit 4 = .ok (.aload_n 0, 1) := by decide +kernel
theorem dX3_signIsDigit_5 : decode cX3_signIsDigit 5 = .ok (.getfield 18, 3) := by decide +kernel
theorem dX3_signIsDigit_8 : decode cX3_signIsDigit 8 = .ok (.if_icmp .ge 39, 3) := by decide +kernel
theorem dX3_signIsDigit_11 : decode cX3_signIsDigit 11 = .ok (.aload_n 0, 1) := by decide +kernel
theorem dX3_signIsDigit_12 : decode cX3_signIsDigit 12 = .ok (.getfield 9, 3) := by decide +kernel
theorem dX3_signIsDigit_15 : decode cX3_signIsDigit 15 = .ok (.aload_n 0, 1) := by decide +kernel
theorem dX3_signIsDigit_16 : decode cX3_signIsDigit 16 = .ok (.getfield 49, 3) := by decide +kernel
theorem dX3_signIsDigit_19 : decode cX3_signIsDigit 19 = .ok (.invokestatic 28, 3) := by decide +kernel
theorem dX3_signIsDigit_22 : decode cX3_signIsDigit 22 = .ok (.bipush 48, 2) := by decide +kernel
theorem dX3_signIsDigit_24 : decode cX3_signIsDigit 24 = .ok (.if_icmp .lt 23, 3) := by decide +kernel
theorem dX3_signIsDigit_27 : decode cX3_signIsDigit 27 = .ok (.aload_n 0, 1) := by decide +kernel
theorem dX3_signIsDigit_28 : decode cX3_signIsDigit 28 = .ok (.getfield 9, 3) := by decide +kernel
theorem dX3_signIsDigit_31 : decode cX3_signIsDigit 31 = .ok (.aload_n 0, 1) := by decide +kernel
theorem dX3_signIsDigit_32 : decode cX3_signIsDigit 32 = .ok (.getfield 49, 3) := by decide +kernel
theorem dX3_signIsDigit_35 : decode cX3_signIsDigit 35 = .ok (.invokestatic 28, 3) := by decide +kernel
theorem dX3_signIsDigit_38 : decode cX3_signIsDigit 38 = .ok (.bipush 57, 2) := by decide +kernel
theorem dX3_signIsDigit_40 : decode cX3_signIsDigit 40 = .ok (.if_icmp .gt 7, 3) := by decide +kernel
theorem dX3_signIsDigit_43 : decode cX3_signIsDigit 43 = .ok (.iconst 1, 1) := by decide +kernel
theorem dX3_signIsDigit_44 : decode cX3_signIsDigit 44 = .ok (.goto 4, 3) := by decide +kernel
theorem dX3_signIsDigit_47 : decode cX3_signIsDigit 47 = .ok (.iconst 0, 1) := by decide +kernel
theorem dX3_signIsDigit_48 : decode cX3_signIsDigit 48 = .ok (.ireturn, 1) := by decide +kernel
theorem dX4_at_0 : decode cX4_at 0 = .ok (.iload_n 1, 1) := by decide +kernel
theorem dX4_at_1 : decode cX4_at 1 = .ok (.ifCond .lt 15, 3) := by decide +kernel
theorem dX4_at_4 : decode cX4_at 4 = .ok (.iload_n 1, 1) := by decide +kernel
theorem dX4_at_5 : decode cX4_at 5 = .ok (.aload_n 0, 1) := by decide +kernel
theorem dX4_at_6 : decode cX4_at 6 = .ok (.arraylength, 1) := by decide +kernel
theorem dX4_at_7 : decode cX4_at 7 = .ok (.if_icmp .ge 9, 3) := by decide +kernel
theorem dX4_at_10 : decode cX4_at 10 = .ok (.aload_n 0, 1) := by decide +kernel
theorem dX4_at_11 : decode cX4_at 11 = .ok (.iload_n 1, 1) := by decide +kernel
theorem dX4_at_12 : decode cX4_at 12 = .ok (.iaload, 1) := by decide +kernel
theorem dX4_at_13 : decode cX4_at 13 = .ok (.goto 4, 3) := by decide +kernel
theorem dX4_at_16 : decode cX4_at 16 = .ok (.iconst (-1), 1) := by decide +kernel
theorem dX4_at_17 : decode cX4_at 17 = .ok (.ireturn, 1) := by decide +kernel
theorem dX4_set_0 : decode cX4_set 0 = .ok (.iload_n 1, 1) := by decide +kernel
theorem dX4_set_1 : decode cX4_set 1 = .ok (.ifCond .lt 13, 3) := by decide +kernel
theorem dX4_set_4 : decode cX4_set 4 = .ok (.iload_n 1, 1) := by decide +kernel
theorem dX4_set_5 : decode cX4_set 5 = .ok (.aload_n 0, 1) := by decide +kernel
theorem dX4_set_6 : decode cX4_set 6 = .ok (.arraylength, 1) := by decide +kernel
theorem dX4_set_7 : decode cX4_set 7 = .ok (.if_icmp .ge 7, 3) := by decide +kernel
theorem dX4_set_10 : decode cX4_set 10 = .ok (.aload_n 0, 1) := by decide +kernel
theorem dX4_set_11 : decode cX4_set 11 = .ok (.iload_n 1, 1) := by decide +kernel
theorem dX4_set_12 : decode cX4_set 12 = .ok (.iload_n 2, 1) := by decide +kernel
theorem dX4_set_13 : decode cX4_set 13 = .ok (.iastore, 1) := by decide +kernel
theorem dX4_set_14 : decode cX4_set 14 = .ok (.return_, 1) := by decide +kernel
theorem dX5_init_0 : decode cX5_init 0 = .ok (.aload_n 0, 1) := by decide +kernel
theorem dX5_init_1 : decode cX5_init 1 = .ok (.invokespecial 3, 3) := by decide +kernel
theorem dX5_init_4 : decode cX5_init 4 = .ok (.aload_n 0, 1) := by decide +kernel
theorem dX5_init_5 : decode cX5_init 5 = .ok (.bipush 32, 2) := by decide +kernel
theorem dX5_init_7 : decode cX5_init 7 = .ok (.newarray .int, 2) := by decide +kernel
theorem dX5_init_9 : decode cX5_init 9 = .ok (.putfield 9, 3) := by decide +kernel
theorem dX5_init_12 : decode cX5_init 12 = .ok (.aload_n 0, 1) := by decide +kernel
theorem dX5_init_13 : decode cX5_init 13 = .ok (.aload_n 1, 1) := by decide +kernel
theorem dX5_init_14 : decode cX5_init 14 = .ok (.putfield 15, 3) := by decide +kernel
theorem dX5_init_17 : decode cX5_init 17 = .ok (.return_, 1) := by decide +kernel
theorem dX5_lookFrom_0 : decode cX5_lookFrom 0 = .ok (.aload_n 0, 1) := by decide +kernel
theorem dX5_lookFrom_1 : decode cX5_lookFrom 1 = .ok (.iconst 0, 1) := by decide +kernel
theorem dX5_lookFrom_2 : decode cX5_lookFrom 2 = .ok (.putfield 19, 3) := by decide +kernel
theorem dX5_lookFrom_5 : decode cX5_lookFrom 5 = .ok (.aload_n 0, 1) := by decide +kernel
theorem dX5_lookFrom_6 : decode cX5_lookFrom 6 = .ok (.iload_n 1, 1) := by decide +kernel
theorem dX5_lookFrom_7 : decode cX5_lookFrom 7 = .ok (.invokevirtual 23, 3) := by decide +kernel
theorem dX5_lookFrom_10 : decode cX5_lookFrom 10 = .ok (.iconst 0, 1) := by decide +kernel
theorem dX5_lookFrom_11 : decode cX5_lookFrom 11 = .ok (.istore_n 2, 1) := by decide +kernel
theorem dX5_lookFrom_12 : decode cX5_lookFrom 12 = .ok (.iload_n 2, 1) := by decide +kernel
theorem dX5_lookFrom_13 : decode cX5_lookFrom 13 = .ok (.bipush 32, 2) := by decide +kernel
theorem dX5_lookFrom_15 : decode cX5_lookFrom 15 = .ok (.if_icmp .ge 81, 3) := by decide +kernel
theorem dX5_lookFrom_18 : decode cX5_lookFrom 18 = .ok (.iload_n 2, 1) := by decide +kernel
theorem dX5_lookFrom_19 : decode cX5_lookFrom 19 = .ok (.aload_n 0, 1) := by decide +kernel
theorem dX5_lookFrom_20 : decode cX5_lookFrom 20 = .ok (.getfield 19, 3) := by decide +kernel
theorem dX5_lookFrom_23 : decode cX5_lookFrom 23 = .ok (.if_icmp .ge 73, 3) := by decide +kernel
theorem dX5_lookFrom_26 : decode cX5_lookFrom 26 = .ok (.aload_n 0, 1) := by decide +kernel
theorem dX5_lookFrom_27 : decode cX5_lookFrom 27 = .ok (.getfield 9, 3) := by decide +kernel
theorem dX5_lookFrom_30 : decode cX5_lookFrom 30 = .ok (.iload_n 2, 1) := by decide +kernel
theorem dX5_lookFrom_31 : decode cX5_lookFrom 31 = .ok (.invokestatic 27, 3) := by decide +kernel
theorem dX5_lookFrom_34 : decode cX5_lookFrom 34 = .ok (.istore_n 3, 1) := by decide +kernel
theorem dX5_lookFrom_35 : decode cX5_lookFrom 35 = .ok (.aload_n 0, 1) := by decide +kernel
theorem dX5_lookFrom_36 : decode cX5_lookFrom 36 = .ok (.getfield 15, 3) := by decide +kernel
theorem dX5_lookFrom_39 : decode cX5_lookFrom 39 = .ok (.iload_n 3, 1) := by decide +kernel
theorem dX5_lookFrom_40 : decode cX5_lookFrom 40 = .ok (.invokevirtual 33, 3) := by decide +kernel
theorem dX5_lookFrom_43 : decode cX5_lookFrom 43 = .ok (.ifCond .le 14, 3) := by decide +kernel
theorem dX5_lookFrom_46 : decode cX5_lookFrom 46 = .ok (.aload_n 0, 1) := by decide +kernel
theorem dX5_lookFrom_47 : decode cX5_lookFrom 47 = .ok (.getfield 15, 3) := by decide +kernel
theorem dX5_lookFrom_50 : decode cX5_lookFrom 50 = .ok (.iload_n 3, 1) := by decide +kernel
theorem dX5_lookFrom_51 : decode cX5_lookFrom 51 = .ok (.invokevirtual 39, 3) := by decide +kernel
theorem dX5_lookFrom_54 : decode cX5_lookFrom 54 = .ok (.goto 4, 3) := by decide +kernel
theorem dX5_lookFrom_57 : decode cX5_lookFrom 57 = .ok (.iconst 0, 1) := by decide +kernel
theorem dX5_lookFrom_58 : decode cX5_lookFrom 58 = .ok (.istore 4, 2) := by decide +kernel
theorem dX5_lookFrom_60 : decode cX5_lookFrom 60 = .ok (.iconst 0, 1) := by decide +kernel
theorem dX5_lookFrom_61 : decode cX5_lookFrom 61 = .ok (.istore 5, 2) := by decide +kernel
theorem dX5_lookFrom_63 : decode cX5_lookFrom 63 = .ok (.iload 5, 2) := by decide +kernel
theorem dX5_lookFrom_65 : decode cX5_lookFrom 65 = .ok (.iload 4, 2) := by decide +kernel
theorem dX5_lookFrom_67 : decode cX5_lookFrom 67 = .ok (.if_icmp .ge 23, 3) := by decide +kernel
theorem dX5_lookFrom_70 : decode cX5_lookFrom 70 = .ok (.aload_n 0, 1) := by decide +kernel
theorem dX5_lookFrom_71 : decode cX5_lookFrom 71 = .ok (.aload_n 0, 1) := by decide +kernel
theorem dX5_lookFrom_72 : decode cX5_lookFrom 72 = .ok (.getfield 15, 3) := by decide +kernel
theorem dX5_lookFrom_75 : decode cX5_lookFrom 75 = .ok (.iload_n 3, 1) := by decide +kernel
theorem dX5_lookFrom_76 : decode cX5_lookFrom 76 = .ok (.iload 5, 2) := by decide +kernel
theorem dX5_lookFrom_78 : decode cX5_lookFrom 78 = .ok (.invokevirtual 42, 3) := by decide +kernel
theorem dX5_lookFrom_81 : decode cX5_lookFrom 81 = .ok (.invokevirtual 23, 3) := by decide +kernel
theorem dX5_lookFrom_84 : decode cX5_lookFrom 84 = .ok (.iinc 5 1, 3) := by decide +kernel
theorem dX5_lookFrom_87 : decode cX5_lookFrom 87 = .ok (.goto (-24), 3) := by decide +kernel
theorem dX5_lookFrom_90 : decode cX5_lookFrom 90 = .ok (.iinc 2 1, 3) := by decide +kernel
theorem dX5_lookFrom_93 : decode cX5_lookFrom 93 = .ok (.goto (-81), 3) := by decide +kernel
theorem dX5_lookFrom_96 : decode cX5_lookFrom 96 = .ok (.return_, 1) := by decide +kernel
theorem dX5_note_0 : decode cX5_note 0 = .ok (.aload_n 0, 1) := by decide +kernel
theorem dX5_note_1 : decode cX5_note 1 = .ok (.getfield 19, 3) := by decide +kernel
theorem dX5_note_4 : decode cX5_note 4 = .ok (.bipush 32, 2) := by decide +kernel
theorem dX5_note_6 : decode cX5_note 6 = .ok (.if_icmp .ge 25, 3) := by decide +kernel
theorem dX5_note_9 : decode cX5_note 9 = .ok (.aload_n 0, 1) := by decide +kernel
theorem dX5_note_10 : decode cX5_note 10 = .ok (.getfield 9, 3) := by decide +kernel
theorem dX5_note_13 : decode cX5_note 13 = .ok (.aload_n 0, 1) := by decide +kernel
theorem dX5_note_14 : decode cX5_note 14 = .ok (.getfield 19, 3) := by decide +kernel
theorem dX5_note_17 : decode cX5_note 17 = .ok (.iload_n 1, 1) := by decide +kernel
theorem dX5_note_18 : decode cX5_note 18 = .ok (.invokestatic 46, 3) := by decide +kernel
theorem dX5_note_21 : decode cX5_note 21 = .ok (.aload_n 0, 1) := by decide +kernel
theorem dX5_note_22 : decode cX5_note 22 = .ok (.dup, 1) := by decide +kernel
theorem dX5_note_23 : decode cX5_note 23 = .ok (.getfield 19, 3) := by decide +kernel
theorem dX5_note_26 : decode cX5_note 26 = .ok (.iconst 1, 1) := by decide +kernel
theorem dX5_note_27 : decode cX5_note 27 = .ok (.iadd, 1) := by decide +kernel
theorem dX5_note_28 : decode cX5_note 28 = .ok (.putfield 19, 3) := by decide +kernel
theorem dX5_note_31 : decode cX5_note 31 = .ok (.return_, 1) := by decide +kernel
theorem dX5_nodeSeen_0 : decode cX5_nodeSeen 0 = .ok (.aload_n 0, 1) := by decide +kernel
theorem dX5_nodeSeen_1 : decode cX5_nodeSeen 1 = .ok (.getfield 9, 3) := by decide +kernel
theorem dX5_nodeSeen_4 : decode cX5_nodeSeen 4 = .ok (.iload_n 1, 1) := by decide +kernel
theorem dX5_nodeSeen_5 : decode cX5_nodeSeen 5 = .ok (.invokestatic 27, 3) := by decide +kernel
theorem dX5_nodeSeen_8 : decode cX5_nodeSeen 8 = .ok (.ireturn, 1) := by decide +kernel
theorem dX5_hullSeen_0 : decode cX5_hullSeen 0 = .ok (.aload_n 0, 1) := by decide +kernel
theorem dX5_hullSeen_1 : decode cX5_hullSeen 1 = .ok (.getfield 15, 3) := by decide +kernel
theorem dX5_hullSeen_4 : decode cX5_hullSeen 4 = .ok (.getfield 50, 3) := by decide +kernel
theorem dX5_hullSeen_7 : decode cX5_hullSeen 7 = .ok (.aload_n 0, 1) := by decide +kernel
theorem dX5_hullSeen_8 : decode cX5_hullSeen 8 = .ok (.iload_n 1, 1) := by decide +kernel
theorem dX5_hullSeen_9 : decode cX5_hullSeen 9 = .ok (.invokevirtual 53, 3) := by decide +kernel
theorem dX5_hullSeen_12 : decode cX5_hullSeen 12 = .ok (.invokestatic 27, 3) := by decide +kernel
theorem dX5_hullSeen_15 : decode cX5_hullSeen 15 = .ok (.ireturn, 1) := by decide +kernel
theorem dX5_levelSeen_0 : decode cX5_levelSeen 0 = .ok (.aload_n 0, 1) := by decide +kernel
theorem dX5_levelSeen_1 : decode cX5_levelSeen 1 = .ok (.getfield 15, 3) := by decide +kernel
theorem dX5_levelSeen_4 : decode cX5_levelSeen 4 = .ok (.aload_n 0, 1) := by decide +kernel
theorem dX5_levelSeen_5 : decode cX5_levelSeen 5 = .ok (.iload_n 1, 1) := by decide +kernel
theorem dX5_levelSeen_6 : decode cX5_levelSeen 6 = .ok (.invokevirtual 53, 3) := by decide +kernel
theorem dX5_levelSeen_9 : decode cX5_levelSeen 9 = .ok (.invokevirtual 33, 3) := by decide +kernel
theorem dX5_levelSeen_12 : decode cX5_levelSeen 12 = .ok (.ireturn, 1) := by decide +kernel
theorem dX5_nodes_0 : decode cX5_nodes 0 = .ok (.aload_n 0, 1) := by decide +kernel
theorem dX5_nodes_1 : decode cX5_nodes 1 = .ok (.aload_n 0, 1) := by decide +kernel
theorem dX5_nodes_2 : decode cX5_nodes 2 = .ok (.getfield 15, 3) := by decide +kernel
theorem dX5_nodes_5 : decode cX5_nodes 5 = .ok (.getfield 56, 3) := by decide +kernel
theorem dX5_nodes_8 : decode cX5_nodes 8 = .ok (.invokevirtual 59, 3) := by decide +kernel
theorem dX5_nodes_11 : decode cX5_nodes 11 = .ok (.aload_n 0, 1) := by decide +kernel
theorem dX5_nodes_12 : decode cX5_nodes 12 = .ok (.getfield 19, 3) := by decide +kernel
theorem dX5_nodes_15 : decode cX5_nodes 15 = .ok (.ireturn, 1) := by decide +kernel
theorem dX5_leaves_0 : decode cX5_leaves 0 = .ok (.aload_n 0, 1) := by decide +kernel
theorem dX5_leaves_1 : decode cX5_leaves 1 = .ok (.aload_n 0, 1) := by decide +kernel
theorem dX5_leaves_2 : decode cX5_leaves 2 = .ok (.getfield 15, 3) := by decide +kernel
theorem dX5_leaves_5 : decode cX5_leaves 5 = .ok (.getfield 56, 3) := by decide +kernel
theorem dX5_leaves_8 : decode cX5_leaves 8 = .ok (.invokevirtual 59, 3) := by decide +kernel
theorem dX5_leaves_11 : decode cX5_leaves 11 = .ok (.iconst 0, 1) := by decide +kernel
theorem dX5_leaves_12 : decode cX5_leaves 12 = .ok (.istore_n 1, 1) := by decide +kernel
theorem dX5_leaves_13 : decode cX5_leaves 13 = .ok (.iconst 0, 1) := by decide +kernel
theorem dX5_leaves_14 : decode cX5_leaves 14 = .ok (.istore_n 2, 1) := by decide +kernel
theorem dX5_leaves_15 : decode cX5_leaves 15 = .ok (.iload_n 2, 1) := by decide +kernel
theorem dX5_leaves_16 : decode cX5_leaves 16 = .ok (.aload_n 0, 1) := by decide +kernel
theorem dX5_leaves_17 : decode cX5_leaves 17 = .ok (.getfield 19, 3) := by decide +kernel
theorem dX5_leaves_20 : decode cX5_leaves 20 = .ok (.if_icmp .ge 20, 3) := by decide +kernel
theorem dX5_leaves_23 : decode cX5_leaves 23 = .ok (.aload_n 0, 1) := by decide +kernel
theorem dX5_leaves_24 : decode cX5_leaves 24 = .ok (.iload_n 2, 1) := by decide +kernel
theorem dX5_leaves_25 : decode cX5_leaves 25 = .ok (.invokevirtual 62, 3) := by decide +kernel
theorem dX5_leaves_28 : decode cX5_leaves 28 = .ok (.ifCond .ne 6, 3) := by decide +kernel
theorem dX5_leaves_31 : decode cX5_leaves 31 = .ok (.iinc 1 1, 3) := by decide +kernel
theorem dX5_leaves_34 : decode cX5_leaves 34 = .ok (.iinc 2 1, 3) := by decide +kernel
theorem dX5_leaves_37 : decode cX5_leaves 37 = .ok (.goto (-22), 3) := by decide +kernel
theorem dX5_leaves_40 : decode cX5_leaves 40 = .ok (.iload_n 1, 1) := by decide +kernel
theorem dX5_leaves_41 : decode cX5_leaves 41 = .ok (.ireturn, 1) := by decide +kernel
theorem dX5_nodeAt_0 : decode cX5_nodeAt 0 = .ok (.aload_n 0, 1) := by decide +kernel
theorem dX5_nodeAt_1 : decode cX5_nodeAt 1 = .ok (.aload_n 0, 1) := by decide +kernel
theorem dX5_nodeAt_2 : decode cX5_nodeAt 2 = .ok (.getfield 15, 3) := by decide +kernel
theorem dX5_nodeAt_5 : decode cX5_nodeAt 5 = .ok (.getfield 56, 3) := by decide +kernel
theorem dX5_nodeAt_8 : decode cX5_nodeAt 8 = .ok (.invokevirtual 59, 3) := by decide +kernel
theorem dX5_nodeAt_11 : decode cX5_nodeAt 11 = .ok (.iconst 0, 1) := by decide +kernel
theorem dX5_nodeAt_12 : decode cX5_nodeAt 12 = .ok (.istore_n 3, 1) := by decide +kernel
theorem dX5_nodeAt_13 : decode cX5_nodeAt 13 = .ok (.iconst 0, 1) := by decide +kernel
theorem dX5_nodeAt_14 : decode cX5_nodeAt 14 = .ok (.istore 4, 2) := by decide +kernel
theorem dX5_nodeAt_16 : decode cX5_nodeAt 16 = .ok (.iload 4, 2) := by decide +kernel
theorem dX5_nodeAt_18 : decode cX5_nodeAt 18 = .ok (.aload_n 0, 1) := by decide +kernel
theorem dX5_nodeAt_19 : decode cX5_nodeAt 19 = .ok (.getfield 19, 3) := by decide +kernel
theorem dX5_nodeAt_22 : decode cX5_nodeAt 22 = .ok (.if_icmp .ge 34, 3) := by decide +kernel
theorem dX5_nodeAt_25 : decode cX5_nodeAt 25 = .ok (.aload_n 0, 1) := by decide +kernel
theorem dX5_nodeAt_26 : decode cX5_nodeAt 26 = .ok (.iload 4, 2) := by decide +kernel
theorem dX5_nodeAt_28 : decode cX5_nodeAt 28 = .ok (.invokevirtual 62, 3) := by decide +kernel
theorem dX5_nodeAt_31 : decode cX5_nodeAt 31 = .ok (.iload_n 1, 1) := by decide +kernel
theorem dX5_nodeAt_32 : decode cX5_nodeAt 32 = .ok (.if_icmp .ne 18, 3) := by decide +kernel
theorem dX5_nodeAt_35 : decode cX5_nodeAt 35 = .ok (.iload_n 3, 1) := by decide +kernel
theorem dX5_nodeAt_36 : decode cX5_nodeAt 36 = .ok (.iload_n 2, 1) := by decide +kernel
theorem dX5_nodeAt_37 : decode cX5_nodeAt 37 = .ok (.if_icmp .ne 10, 3) := by decide +kernel
theorem dX5_nodeAt_40 : decode cX5_nodeAt 40 = .ok (.aload_n 0, 1) := by decide +kernel
theorem dX5_nodeAt_41 : decode cX5_nodeAt 41 = .ok (.iload 4, 2) := by decide +kernel
theorem dX5_nodeAt_43 : decode cX5_nodeAt 43 = .ok (.invokevirtual 53, 3) := by decide +kernel
theorem dX5_nodeAt_46 : decode cX5_nodeAt 46 = .ok (.ireturn, 1) := by decide +kernel
theorem dX5_nodeAt_47 : decode cX5_nodeAt 47 = .ok (.iinc 3 1, 3) := by decide +kernel
theorem dX5_nodeAt_50 : decode cX5_nodeAt 50 = .ok (.iinc 4 1, 3) := by decide +kernel
theorem dX5_nodeAt_53 : decode cX5_nodeAt 53 = .ok (.goto (-37), 3) := by decide +kernel
theorem dX5_nodeAt_56 : decode cX5_nodeAt 56 = .ok (.iconst (-1), 1) := by decide +kernel
theorem dX5_nodeAt_57 : decode cX5_nodeAt 57 = .ok (.ireturn, 1) := by decide +kernel
theorem dX5_placeOf_0 : decode cX5_placeOf 0 = .ok (.aload_n 0, 1) := by decide +kernel
theorem dX5_placeOf_1 : decode cX5_placeOf 1 = .ok (.aload_n 0, 1) := by decide +kernel
theorem dX5_placeOf_2 : decode cX5_placeOf 2 = .ok (.getfield 15, 3) := by decide +kernel
theorem dX5_placeOf_5 : decode cX5_placeOf 5 = .ok (.getfield 56, 3) := by decide +kernel
theorem dX5_placeOf_8 : decode cX5_placeOf 8 = .ok (.invokevirtual 59, 3) := by decide +kernel
theorem dX5_placeOf_11 : decode cX5_placeOf 11 = .ok (.aload_n 0, 1) := by decide +kernel
theorem dX5_placeOf_12 : decode cX5_placeOf 12 = .ok (.getfield 15, 3) := by decide +kernel
theorem dX5_placeOf_15 : decode cX5_placeOf 15 = .ok (.iload_n 1, 1) := by decide +kernel
theorem dX5_placeOf_16 : decode cX5_placeOf 16 = .ok (.invokevirtual 33, 3) := by decide +kernel
theorem dX5_placeOf_19 : decode cX5_placeOf 19 = .ok (.istore_n 2, 1) := by decide +kernel
theorem dX5_placeOf_20 : decode cX5_placeOf 20 = .ok (.iconst 0, 1) := by decide +kernel
theorem dX5_placeOf_21 : decode cX5_placeOf 21 = .ok (.istore_n 3, 1) := by decide +kernel
theorem dX5_placeOf_22 : decode cX5_placeOf 22 = .ok (.iconst 0, 1) := by decide +kernel
theorem dX5_placeOf_23 : decode cX5_placeOf 23 = .ok (.istore 4, 2) := by decide +kernel
theorem dX5_placeOf_25 : decode cX5_placeOf 25 = .ok (.iload 4, 2) := by decide +kernel
theorem dX5_placeOf_27 : decode cX5_placeOf 27 = .ok (.aload_n 0, 1) := by decide +kernel
theorem dX5_placeOf_28 : decode cX5_placeOf 28 = .ok (.getfield 19, 3) := by decide +kernel
theorem dX5_placeOf_31 : decode cX5_placeOf 31 = .ok (.if_icmp .ge 32, 3) := by decide +kernel
theorem dX5_placeOf_34 : decode cX5_placeOf 34 = .ok (.aload_n 0, 1) := by decide +kernel
theorem dX5_placeOf_35 : decode cX5_placeOf 35 = .ok (.iload 4, 2) := by decide +kernel
theorem dX5_placeOf_37 : decode cX5_placeOf 37 = .ok (.invokevirtual 53, 3) := by decide +kernel
theorem dX5_placeOf_40 : decode cX5_placeOf 40 = .ok (.iload_n 1, 1) := by decide +kernel
theorem dX5_placeOf_41 : decode cX5_placeOf 41 = .ok (.if_icmp .eq 22, 3) := by decide +kernel
theorem dX5_placeOf_44 : decode cX5_placeOf 44 = .ok (.aload_n 0, 1) := by decide +kernel
theorem dX5_placeOf_45 : decode cX5_placeOf 45 = .ok (.iload 4, 2) := by decide +kernel
theorem dX5_placeOf_47 : decode cX5_placeOf 47 = .ok (.invokevirtual 62, 3) := by decide +kernel
theorem dX5_placeOf_50 : decode cX5_placeOf 50 = .ok (.iload_n 2, 1) := by decide +kernel
theorem dX5_placeOf_51 : decode cX5_placeOf 51 = .ok (.if_icmp .ne 6, 3) := by decide +kernel
theorem dX5_placeOf_54 : decode cX5_placeOf 54 = .ok (.iinc 3 1, 3) := by decide +kernel
theorem dX5_placeOf_57 : decode cX5_placeOf 57 = .ok (.iinc 4 1, 3) := by decide +kernel
theorem dX5_placeOf_60 : decode cX5_placeOf 60 = .ok (.goto (-35), 3) := by decide +kernel
theorem dX5_placeOf_63 : decode cX5_placeOf 63 = .ok (.iload_n 3, 1) := by decide +kernel
theorem dX5_placeOf_64 : decode cX5_placeOf 64 = .ok (.ireturn, 1) := by decide +kernel
theorem dX5_overlapsOf_0 : decode cX5_overlapsOf 0 = .ok (.aload_n 0, 1) := by decide +kernel
theorem dX5_overlapsOf_1 : decode cX5_overlapsOf 1 = .ok (.aload_n 0, 1) := by decide +kernel
theorem dX5_overlapsOf_2 : decode cX5_overlapsOf 2 = .ok (.getfield 15, 3) := by decide +kernel
theorem dX5_overlapsOf_5 : decode cX5_overlapsOf 5 = .ok (.getfield 56, 3) := by decide +kernel
theorem dX5_overlapsOf_8 : decode cX5_overlapsOf 8 = .ok (.invokevirtual 59, 3) := by decide +kernel
theorem dX5_overlapsOf_11 : decode cX5_overlapsOf 11 = .ok (.iconst 0, 1) := by decide +kernel
theorem dX5_overlapsOf_12 : decode cX5_overlapsOf 12 = .ok (.istore_n 2, 1) := by decide +kernel
theorem dX5_overlapsOf_13 : decode cX5_overlapsOf 13 = .ok (.iconst 0, 1) := by decide +kernel
theorem dX5_overlapsOf_14 : decode cX5_overlapsOf 14 = .ok (.istore_n 3, 1) := by decide +kernel
theorem dX5_overlapsOf_15 : decode cX5_overlapsOf 15 = .ok (.iload_n 3, 1) := by decide +kernel
theorem dX5_overlapsOf_16 : decode cX5_overlapsOf 16 = .ok (.aload_n 0, 1) := by decide +kernel
theorem dX5_overlapsOf_17 : decode cX5_overlapsOf 17 = .ok (.getfield 19, 3) := by decide +kernel
theorem dX5_overlapsOf_20 : decode cX5_overlapsOf 20 = .ok (.if_icmp .ge 65, 3) := by decide +kernel
theorem dX5_overlapsOf_23 : decode cX5_overlapsOf 23 = .ok (.iload_n 3, 1) := by decide +kernel
theorem dX5_overlapsOf_24 : decode cX5_overlapsOf 24 = .ok (.iconst 1, 1) := by decide +kernel
theorem dX5_overlapsOf_25 : decode cX5_overlapsOf 25 = .ok (.iadd, 1) := by decide +kernel
theorem dX5_overlapsOf_26 : decode cX5_overlapsOf 26 = .ok (.istore 4, 2) := by decide +kernel
theorem dX5_overlapsOf_28 : decode cX5_overlapsOf 28 = .ok (.iload 4, 2) := by decide +kernel
theorem dX5_overlapsOf_30 : decode cX5_overlapsOf 30 = .ok (.aload_n 0, 1) := by decide +kernel
theorem dX5_overlapsOf_31 : decode cX5_overlapsOf 31 = .ok (.getfield 19, 3) := by decide +kernel
theorem dX5_overlapsOf_34 : decode cX5_overlapsOf 34 = .ok (.if_icmp .ge 45, 3) := by decide +kernel
theorem dX5_overlapsOf_37 : decode cX5_overlapsOf 37 = .ok (.aload_n 0, 1) := by decide +kernel
theorem dX5_overlapsOf_38 : decode cX5_overlapsOf 38 = .ok (.iload_n 3, 1) := by decide +kernel
theorem dX5_overlapsOf_39 : decode cX5_overlapsOf 39 = .ok (.invokevirtual 62, 3) := by decide +kernel
theorem dX5_overlapsOf_42 : decode cX5_overlapsOf 42 = .ok (.iload_n 1, 1) := by decide +kernel
theorem dX5_overlapsOf_43 : decode cX5_overlapsOf 43 = .ok (.if_icmp .ne 36, 3) := by decide +kernel
theorem dX5_overlapsOf_46 : decode cX5_overlapsOf 46 = .ok (.aload_n 0, 1) := by decide +kernel
theorem dX5_overlapsOf_47 : decode cX5_overlapsOf 47 = .ok (.iload 4, 2) := by decide +kernel
theorem dX5_overlapsOf_49 : decode cX5_overlapsOf 49 = .ok (.invokevirtual 62, 3) := by decide +kernel
theorem dX5_overlapsOf_52 : decode cX5_overlapsOf 52 = .ok (.iload_n 1, 1) := by decide +kernel
theorem dX5_overlapsOf_53 : decode cX5_overlapsOf 53 = .ok (.if_icmp .ne 20, 3) := by decide +kernel
theorem dX5_overlapsOf_56 : decode cX5_overlapsOf 56 = .ok (.iload_n 2, 1) := by decide +kernel
theorem dX5_overlapsOf_57 : decode cX5_overlapsOf 57 = .ok (.aload_n 0, 1) := by decide +kernel
theorem dX5_overlapsOf_58 : decode cX5_overlapsOf 58 = .ok (.iload_n 3, 1) := by decide +kernel
theorem dX5_overlapsOf_59 : decode cX5_overlapsOf 59 = .ok (.invokevirtual 65, 3) := by decide +kernel
theorem dX5_overlapsOf_62 : decode cX5_overlapsOf 62 = .ok (.aload_n 0, 1) := by decide +kernel
theorem dX5_overlapsOf_63 : decode cX5_overlapsOf 63 = .ok (.iload 4, 2) := by decide +kernel
theorem dX5_overlapsOf_65 : decode cX5_overlapsOf 65 = .ok (.invokevirtual 65, 3) := by decide +kernel
theorem dX5_overlapsOf_68 : decode cX5_overlapsOf 68 = .ok (.invokestatic 68, 3) := by decide +kernel
theorem dX5_overlapsOf_71 : decode cX5_overlapsOf 71 = .ok (.iadd, 1) := by decide +kernel
theorem dX5_overlapsOf_72 : decode cX5_overlapsOf 72 = .ok (.istore_n 2, 1) := by decide +kernel
theorem dX5_overlapsOf_73 : decode cX5_overlapsOf 73 = .ok (.iinc 4 1, 3) := by decide +kernel
theorem dX5_overlapsOf_76 : decode cX5_overlapsOf 76 = .ok (.goto (-48), 3) := by decide +kernel
theorem dX5_overlapsOf_79 : decode cX5_overlapsOf 79 = .ok (.iinc 3 1, 3) := by decide +kernel
theorem dX5_overlapsOf_82 : decode cX5_overlapsOf 82 = .ok (.goto (-67), 3) := by decide +kernel
theorem dX5_overlapsOf_85 : decode cX5_overlapsOf 85 = .ok (.iload_n 2, 1) := by decide +kernel
theorem dX5_overlapsOf_86 : decode cX5_overlapsOf 86 = .ok (.ireturn, 1) := by decide +kernel
theorem dX5_areaOfLeaves_0 : decode cX5_areaOfLeaves 0 = .ok (.aload_n 0, 1) := by decide +kernel
theorem dX5_areaOfLeaves_1 : decode cX5_areaOfLeaves 1 = .ok (.aload_n 0, 1) := by decide +kernel
theorem dX5_areaOfLeaves_2 : decode cX5_areaOfLeaves 2 = .ok (.getfield 15, 3) := by decide +kernel
theorem dX5_areaOfLeaves_5 : decode cX5_areaOfLeaves 5 = .ok (.getfield 56, 3) := by decide +kernel
theorem dX5_areaOfLeaves_8 : decode cX5_areaOfLeaves 8 = .ok (.invokevirtual 59, 3) := by decide +kernel
theorem dX5_areaOfLeaves_11 : decode cX5_areaOfLeaves 11 = .ok (.iconst 0, 1) := by decide +kernel
theorem dX5_areaOfLeaves_12 : decode cX5_areaOfLeaves 12 = .ok (.istore_n 1, 1) := by decide +kernel
theorem dX5_areaOfLeaves_13 : decode cX5_areaOfLeaves 13 = .ok (.iconst 0, 1) := by decide +kernel
theorem dX5_areaOfLeaves_14 : decode cX5_areaOfLeaves 14 = .ok (.istore_n 2, 1) := by decide +kernel
theorem dX5_areaOfLeaves_15 : decode cX5_areaOfLeaves 15 = .ok (.iload_n 2, 1) := by decide +kernel
theorem dX5_areaOfLeaves_16 : decode cX5_areaOfLeaves 16 = .ok (.aload_n 0, 1) := by decide +kernel
theorem dX5_areaOfLeaves_17 : decode cX5_areaOfLeaves 17 = .ok (.getfield 19, 3) := by decide +kernel
theorem dX5_areaOfLeaves_20 : decode cX5_areaOfLeaves 20 = .ok (.if_icmp .ge 28, 3) := by decide +kernel
theorem dX5_areaOfLeaves_23 : decode cX5_areaOfLeaves 23 = .ok (.aload_n 0, 1) := by decide +kernel
theorem dX5_areaOfLeaves_24 : decode cX5_areaOfLeaves 24 = .ok (.iload_n 2, 1) := by decide +kernel
theorem dX5_areaOfLeaves_25 : decode cX5_areaOfLeaves 25 = .ok (.invokevirtual 62, 3) := by decide +kernel
theorem dX5_areaOfLeaves_28 : decode cX5_areaOfLeaves 28 = .ok (.ifCond .ne 14, 3) := by decide +kernel
theorem dX5_areaOfLeaves_31 : decode cX5_areaOfLeaves 31 = .ok (.iload_n 1, 1) := by decide +kernel
theorem dX5_areaOfLeaves_32 : decode cX5_areaOfLeaves 32 = .ok (.aload_n 0, 1) := by decide +kernel
theorem dX5_areaOfLeaves_33 : decode cX5_areaOfLeaves 33 = .ok (.iload_n 2, 1) := by decide +kernel
theorem dX5_areaOfLeaves_34 : decode cX5_areaOfLeaves 34 = .ok (.invokevirtual 65, 3) := by decide +kernel
theorem dX5_areaOfLeaves_37 : decode cX5_areaOfLeaves 37 = .ok (.invokestatic 73, 3) := by decide +kernel
theorem dX5_areaOfLeaves_40 : decode cX5_areaOfLeaves 40 = .ok (.iadd, 1) := by decide +kernel
theorem dX5_areaOfLeaves_41 : decode cX5_areaOfLeaves 41 = .ok (.istore_n 1, 1) := by decide +kernel
theorem dX5_areaOfLeaves_42 : decode cX5_areaOfLeaves 42 = .ok (.iinc 2 1, 3) := by decide +kernel
theorem dX5_areaOfLeaves_45 : decode cX5_areaOfLeaves 45 = .ok (.goto (-30), 3) := by decide +kernel
theorem dX5_areaOfLeaves_48 : decode cX5_areaOfLeaves 48 = .ok (.iload_n 1, 1) := by decide +kernel
theorem dX5_areaOfLeaves_49 : decode cX5_areaOfLeaves 49 = .ok (.ireturn, 1) := by decide +kernel
theorem dX5_nodesTouching_0 : decode cX5_nodesTouching 0 = .ok (.aload_n 0, 1) := by decide +kernel
theorem dX5_nodesTouching_1 : decode cX5_nodesTouching 1 = .ok (.aload_n 0, 1) := by decide +kernel
theorem dX5_nodesTouching_2 : decode cX5_nodesTouching 2 = .ok (.getfield 15, 3) := by decide +kernel
theorem dX5_nodesTouching_5 : decode cX5_nodesTouching 5 = .ok (.getfield 56, 3) := by decide +kernel
theorem dX5_nodesTouching_8 : decode cX5_nodesTouching 8 = .ok (.invokevirtual 59, 3) := by decide +kernel
theorem dX5_nodesTouching_11 : decode cX5_nodesTouching 11 = .ok (.iconst 0, 1) := by decide +kernel
theorem dX5_nodesTouching_12 : decode cX5_nodesTouching 12 = .ok (.istore_n 2, 1) := by decide +kernel
theorem dX5_nodesTouching_13 : decode cX5_nodesTouching 13 = .ok (.iconst 0, 1) := by decide +kernel
theorem dX5_nodesTouching_14 : decode cX5_nodesTouching 14 = .ok (.istore_n 3, 1) := by decide +kernel
theorem dX5_nodesTouching_15 : decode cX5_nodesTouching 15 = .ok (.iload_n 3, 1) := by decide +kernel
theorem dX5_nodesTouching_16 : decode cX5_nodesTouching 16 = .ok (.aload_n 0, 1) := by decide +kernel
theorem dX5_nodesTouching_17 : decode cX5_nodesTouching 17 = .ok (.getfield 19, 3) := by decide +kernel
theorem dX5_nodesTouching_20 : decode cX5_nodesTouching 20 = .ok (.if_icmp .ge 24, 3) := by decide +kernel
theorem dX5_nodesTouching_23 : decode cX5_nodesTouching 23 = .ok (.aload_n 0, 1) := by decide +kernel
theorem dX5_nodesTouching_24 : decode cX5_nodesTouching 24 = .ok (.iload_n 3, 1) := by decide +kernel
theorem dX5_nodesTouching_25 : decode cX5_nodesTouching 25 = .ok (.invokevirtual 65, 3) := by decide +kernel
theorem dX5_nodesTouching_28 : decode cX5_nodesTouching 28 = .ok (.iload_n 1, 1) := by decide +kernel
theorem dX5_nodesTouching_29 : decode cX5_nodesTouching 29 = .ok (.invokestatic 76, 3) := by decide +kernel
theorem dX5_nodesTouching_32 : decode cX5_nodesTouching 32 = .ok (.ifCond .eq 6, 3) := by decide +kernel
theorem dX5_nodesTouching_35 : decode cX5_nodesTouching 35 = .ok (.iinc 2 1, 3) := by decide +kernel
theorem dX5_nodesTouching_38 : decode cX5_nodesTouching 38 = .ok (.iinc 3 1, 3) := by decide +kernel
theorem dX5_nodesTouching_41 : decode cX5_nodesTouching 41 = .ok (.goto (-26), 3) := by decide +kernel
theorem dX5_nodesTouching_44 : decode cX5_nodesTouching 44 = .ok (.iload_n 2, 1) := by decide +kernel
theorem dX5_nodesTouching_45 : decode cX5_nodesTouching 45 = .ok (.ireturn, 1) := by decide +kernel
theorem dX5_nodesWithin_0 : decode cX5_nodesWithin 0 = .ok (.aload_n 0, 1) := by decide +kernel
theorem dX5_nodesWithin_1 : decode cX5_nodesWithin 1 = .ok (.aload_n 0, 1) := by decide +kernel
theorem dX5_nodesWithin_2 : decode cX5_nodesWithin 2 = .ok (.getfield 15, 3) := by decide +kernel
theorem dX5_nodesWithin_5 : decode cX5_nodesWithin 5 = .ok (.getfield 56, 3) := by decide +kernel
theorem dX5_nodesWithin_8 : decode cX5_nodesWithin 8 = .ok (.invokevirtual 59, 3) := by decide +kernel
theorem dX5_nodesWithin_11 : decode cX5_nodesWithin 11 = .ok (.iconst 0, 1) := by decide +kernel
theorem dX5_nodesWithin_12 : decode cX5_nodesWithin 12 = .ok (.istore 4, 2) := by decide +kernel
theorem dX5_nodesWithin_14 : decode cX5_nodesWithin 14 = .ok (.iconst 0, 1) := by decide +kernel
theorem dX5_nodesWithin_15 : decode cX5_nodesWithin 15 = .ok (.istore 5, 2) := by decide +kernel
theorem dX5_nodesWithin_17 : decode cX5_nodesWithin 17 = .ok (.iload 5, 2) := by decide +kernel
theorem dX5_nodesWithin_19 : decode cX5_nodesWithin 19 = .ok (.aload_n 0, 1) := by decide +kernel
theorem dX5_nodesWithin_20 : decode cX5_nodesWithin 20 = .ok (.getfield 19, 3) := by decide +kernel
theorem dX5_nodesWithin_23 : decode cX5_nodesWithin 23 = .ok (.if_icmp .ge 37, 3) := by decide +kernel
theorem dX5_nodesWithin_26 : decode cX5_nodesWithin 26 = .ok (.aload_n 0, 1) := by decide +kernel
theorem dX5_nodesWithin_27 : decode cX5_nodesWithin 27 = .ok (.iload 5, 2) := by decide +kernel
theorem dX5_nodesWithin_29 : decode cX5_nodesWithin 29 = .ok (.invokevirtual 65, 3) := by decide +kernel
theorem dX5_nodesWithin_32 : decode cX5_nodesWithin 32 = .ok (.iconst (-1), 1) := by decide +kernel
theorem dX5_nodesWithin_33 : decode cX5_nodesWithin 33 = .ok (.if_icmp .eq 21, 3) := by decide +kernel
theorem dX5_nodesWithin_36 : decode cX5_nodesWithin 36 = .ok (.aload_n 0, 1) := by decide +kernel
theorem dX5_nodesWithin_37 : decode cX5_nodesWithin 37 = .ok (.iload 5, 2) := by decide +kernel
theorem dX5_nodesWithin_39 : decode cX5_nodesWithin 39 = .ok (.invokevirtual 65, 3) := by decide +kernel
theorem dX5_nodesWithin_42 : decode cX5_nodesWithin 42 = .ok (.iload_n 1, 1) := by decide +kernel
theorem dX5_nodesWithin_43 : decode cX5_nodesWithin 43 = .ok (.iload_n 2, 1) := by decide +kernel
theorem dX5_nodesWithin_44 : decode cX5_nodesWithin 44 = .ok (.invokestatic 80, 3) := by decide +kernel
theorem dX5_nodesWithin_47 : decode cX5_nodesWithin 47 = .ok (.iload_n 3, 1) := by decide +kernel
theorem dX5_nodesWithin_48 : decode cX5_nodesWithin 48 = .ok (.if_icmp .gt 6, 3) := by decide +kernel
theorem dX5_nodesWithin_51 : decode cX5_nodesWithin 51 = .ok (.iinc 4 1, 3) := by decide +kernel
theorem dX5_nodesWithin_54 : decode cX5_nodesWithin 54 = .ok (.iinc 5 1, 3) := by decide +kernel
theorem dX5_nodesWithin_57 : decode cX5_nodesWithin 57 = .ok (.goto (-40), 3) := by decide +kernel
theorem dX5_nodesWithin_60 : decode cX5_nodesWithin 60 = .ok (.iload 4, 2) := by decide +kernel
theorem dX5_nodesWithin_62 : decode cX5_nodesWithin 62 = .ok (.ireturn, 1) := by decide +kernel
theorem dX5_boxesBelow_0 : decode cX5_boxesBelow 0 = .ok (.aload_n 0, 1) := by decide +kernel
theorem dX5_boxesBelow_1 : decode cX5_boxesBelow 1 = .ok (.iload_n 1, 1) := by decide +kernel
theorem dX5_boxesBelow_2 : decode cX5_boxesBelow 2 = .ok (.invokevirtual 59, 3) := by decide +kernel
theorem dX5_boxesBelow_5 : decode cX5_boxesBelow 5 = .ok (.iconst 0, 1) := by decide +kernel
theorem dX5_boxesBelow_6 : decode cX5_boxesBelow 6 = .ok (.istore_n 2, 1) := by decide +kernel
theorem dX5_boxesBelow_7 : decode cX5_boxesBelow 7 = .ok (.iconst 0, 1) := by decide +kernel
theorem dX5_boxesBelow_8 : decode cX5_boxesBelow 8 = .ok (.istore_n 3, 1) := by decide +kernel
theorem dX5_boxesBelow_9 : decode cX5_boxesBelow 9 = .ok (.iload_n 3, 1) := by decide +kernel
theorem dX5_boxesBelow_10 : decode cX5_boxesBelow 10 = .ok (.aload_n 0, 1) := by decide +kernel
theorem dX5_boxesBelow_11 : decode cX5_boxesBelow 11 = .ok (.getfield 19, 3) := by decide +kernel
theorem dX5_boxesBelow_14 : decode cX5_boxesBelow 14 = .ok (.if_icmp .ge 32, 3) := by decide +kernel
theorem dX5_boxesBelow_17 : decode cX5_boxesBelow 17 = .ok (.aload_n 0, 1) := by decide +kernel
theorem dX5_boxesBelow_18 : decode cX5_boxesBelow 18 = .ok (.iload_n 3, 1) := by decide +kernel
theorem dX5_boxesBelow_19 : decode cX5_boxesBelow 19 = .ok (.invokevirtual 62, 3) := by decide +kernel
theorem dX5_boxesBelow_22 : decode cX5_boxesBelow 22 = .ok (.ifCond .ne 18, 3) := by decide +kernel
theorem dX5_boxesBelow_25 : decode cX5_boxesBelow 25 = .ok (.iload_n 2, 1) := by decide +kernel
theorem dX5_boxesBelow_26 : decode cX5_boxesBelow 26 = .ok (.aload_n 0, 1) := by decide +kernel
theorem dX5_boxesBelow_27 : decode cX5_boxesBelow 27 = .ok (.getfield 15, 3) := by decide +kernel
theorem dX5_boxesBelow_30 : decode cX5_boxesBelow 30 = .ok (.aload_n 0, 1) := by decide +kernel
theorem dX5_boxesBelow_31 : decode cX5_boxesBelow 31 = .ok (.iload_n 3, 1) := by decide +kernel
theorem dX5_boxesBelow_32 : decode cX5_boxesBelow 32 = .ok (.invokevirtual 53, 3) := by decide +kernel
theorem dX5_boxesBelow_35 : decode cX5_boxesBelow 35 = .ok (.invokevirtual 39, 3) := by decide +kernel
theorem dX5_boxesBelow_38 : decode cX5_boxesBelow 38 = .ok (.iadd, 1) := by decide +kernel
theorem dX5_boxesBelow_39 : decode cX5_boxesBelow 39 = .ok (.istore_n 2, 1) := by decide +kernel
theorem dX5_boxesBelow_40 : decode cX5_boxesBelow 40 = .ok (.iinc 3 1, 3) := by decide +kernel
theorem dX5_boxesBelow_43 : decode cX5_boxesBelow 43 = .ok (.goto (-34), 3) := by decide +kernel
theorem dX5_boxesBelow_46 : decode cX5_boxesBelow 46 = .ok (.iload_n 2, 1) := by decide +kernel
theorem dX5_boxesBelow_47 : decode cX5_boxesBelow 47 = .ok (.ireturn, 1) := by decide +kernel
theorem dX6_init_0 : decode cX6_init 0 = .ok (.aload_n 0, 1) := by decide +kernel
theorem dX6_init_1 : decode cX6_init 1 = .ok (.invokespecial 3, 3) := by decide +kernel
theorem dX6_init_4 : decode cX6_init 4 = .ok (.aload_n 0, 1) := by decide +kernel
theorem dX6_init_5 : decode cX6_init 5 = .ok (.bipush 31, 2) := by decide +kernel
theorem dX6_init_7 : decode cX6_init 7 = .ok (.newarray .int, 2) := by decide +kernel
theorem dX6_init_9 : decode cX6_init 9 = .ok (.putfield 9, 3) := by decide +kernel
theorem dX6_init_12 : decode cX6_init 12 = .ok (.aload_n 0, 1) := by decide +kernel
theorem dX6_init_13 : decode cX6_init 13 = .ok (.bipush 31, 2) := by decide +kernel
theorem dX6_init_15 : decode cX6_init 15 = .ok (.newarray .int, 2) := by decide +kernel
theorem dX6_init_17 : decode cX6_init 17 = .ok (.putfield 15, 3) := by decide +kernel
theorem dX6_init_20 : decode cX6_init 20 = .ok (.aload_n 0, 1) := by decide +kernel
theorem dX6_init_21 : decode cX6_init 21 = .ok (.bipush 32, 2) := by decide +kernel
theorem dX6_init_23 : decode cX6_init 23 = .ok (.newarray .int, 2) := by decide +kernel
theorem dX6_init_25 : decode cX6_init 25 = .ok (.putfield 18, 3) := by decide +kernel
theorem dX6_init_28 : decode cX6_init 28 = .ok (.aload_n 0, 1) := by decide +kernel
theorem dX6_init_29 : decode cX6_init 29 = .ok (.bipush 32, 2) := by decide +kernel
theorem dX6_init_31 : decode cX6_init 31 = .ok (.newarray .int, 2) := by decide +kernel
theorem dX6_init_33 : decode cX6_init 33 = .ok (.putfield 21, 3) := by decide +kernel
theorem dX6_init_36 : decode cX6_init 36 = .ok (.aload_n 0, 1) := by decide +kernel
theorem dX6_init_37 : decode cX6_init 37 = .ok (.bipush 32, 2) := by decide +kernel
theorem dX6_init_39 : decode cX6_init 39 = .ok (.newarray .int, 2) := by decide +kernel
theorem dX6_init_41 : decode cX6_init 41 = .ok (.putfield 24, 3) := by decide +kernel
theorem dX6_init_44 : decode cX6_init 44 = .ok (.aload_n 0, 1) := by decide +kernel
theorem dX6_init_45 : decode cX6_init 45 = .ok (.bipush 32, 2) := by decide +kernel
theorem dX6_init_47 : decode cX6_init 47 = .ok (.newarray .int, 2) := by decide +kernel
theorem dX6_init_49 : decode cX6_init 49 = .ok (.putfield 27, 3) := by decide +kernel
theorem dX6_init_52 : decode cX6_init 52 = .ok (.aload_n 0, 1) := by decide +kernel
theorem dX6_init_53 : decode cX6_init 53 = .ok (.sipush 160, 3) := by decide +kernel
theorem dX6_init_56 : decode cX6_init 56 = .ok (.newarray .int, 2) := by decide +kernel
theorem dX6_init_58 : decode cX6_init 58 = .ok (.putfield 30, 3) := by decide +kernel
theorem dX6_init_61 : decode cX6_init 61 = .ok (.aload_n 0, 1) := by decide +kernel
theorem dX6_init_62 : decode cX6_init 62 = .ok (.getfield 9, 3) := by decide +kernel
theorem dX6_init_65 : decode cX6_init 65 = .ok (.iconst (-1), 1) := by decide +kernel
theorem dX6_init_66 : decode cX6_init 66 = .ok (.invokestatic 33, 3) := by decide +kernel
theorem dX6_init_69 : decode cX6_init 69 = .ok (.aload_n 0, 1) := by decide +kernel
theorem dX6_init_70 : decode cX6_init 70 = .ok (.getfield 15, 3) := by decide +kernel
theorem dX6_init_73 : decode cX6_init 73 = .ok (.iconst (-1), 1) := by decide +kernel
theorem dX6_init_74 : decode cX6_init 74 = .ok (.invokestatic 33, 3) := by decide +kernel
theorem dX6_init_77 : decode cX6_init 77 = .ok (.aload_n 0, 1) := by decide +kernel
theorem dX6_init_78 : decode cX6_init 78 = .ok (.getfield 18, 3) := by decide +kernel
theorem dX6_init_81 : decode cX6_init 81 = .ok (.iconst (-1), 1) := by decide +kernel
theorem dX6_init_82 : decode cX6_init 82 = .ok (.invokestatic 33, 3) := by decide +kernel
theorem dX6_init_85 : decode cX6_init 85 = .ok (.aload_n 0, 1) := by decide +kernel
theorem dX6_init_86 : decode cX6_init 86 = .ok (.getfield 24, 3) := by decide +kernel
theorem dX6_init_89 : decode cX6_init 89 = .ok (.iconst (-1), 1) := by decide +kernel
theorem dX6_init_90 : decode cX6_init 90 = .ok (.invokestatic 33, 3) := by decide +kernel
theorem dX6_init_93 : decode cX6_init 93 = .ok (.aload_n 0, 1) := by decide +kernel
theorem dX6_init_94 : decode cX6_init 94 = .ok (.getfield 27, 3) := by decide +kernel
theorem dX6_init_97 : decode cX6_init 97 = .ok (.iconst (-1), 1) := by decide +kernel
theorem dX6_init_98 : decode cX6_init 98 = .ok (.invokestatic 33, 3) := by decide +kernel
theorem dX6_init_101 : decode cX6_init 101 = .ok (.aload_n 0, 1) := by decide +kernel
theorem dX6_init_102 : decode cX6_init 102 = .ok (.getfield 30, 3) := by decide +kernel
theorem dX6_init_105 : decode cX6_init 105 = .ok (.iconst (-1), 1) := by decide +kernel
theorem dX6_init_106 : decode cX6_init 106 = .ok (.invokestatic 33, 3) := by decide +kernel
theorem dX6_init_109 : decode cX6_init 109 = .ok (.aload_n 0, 1) := by decide +kernel
theorem dX6_init_110 : decode cX6_init 110 = .ok (.aload_n 0, 1) := by decide +kernel
theorem dX6_init_111 : decode cX6_init 111 = .ok (.iconst 0, 1) := by decide +kernel
theorem dX6_init_112 : decode cX6_init 112 = .ok (.invokevirtual 39, 3) := by decide +kernel
theorem dX6_init_115 : decode cX6_init 115 = .ok (.putfield 43, 3) := by decide +kernel
theorem dX6_init_118 : decode cX6_init 118 = .ok (.return_, 1) := by decide +kernel
theorem dX6_copy_0 : decode cX6_copy 0 = .ok (.aload_n 1, 1) := by decide +kernel
theorem dX6_copy_1 : decode cX6_copy 1 = .ok (.getfield 9, 3) := by decide +kernel
theorem dX6_copy_4 : decode cX6_copy 4 = .ok (.iconst 0, 1) := by decide +kernel
theorem dX6_copy_5 : decode cX6_copy 5 = .ok (.aload_n 0, 1) := by decide +kernel
theorem dX6_copy_6 : decode cX6_copy 6 = .ok (.getfield 9, 3) := by decide +kernel
theorem dX6_copy_9 : decode cX6_copy 9 = .ok (.iconst 0, 1) := by decide +kernel
theorem dX6_copy_10 : decode cX6_copy 10 = .ok (.bipush 31, 2) := by decide +kernel
theorem dX6_copy_12 : decode cX6_copy 12 = .ok (.invokestatic 47, 3) := by decide +kernel
theorem dX6_copy_15 : decode cX6_copy 15 = .ok (.aload_n 1, 1) := by decide +kernel
theorem dX6_copy_16 : decode cX6_copy 16 = .ok (.getfield 15, 3) := by decide +kernel
theorem dX6_copy_19 : decode cX6_copy 19 = .ok (.iconst 0, 1) := by decide +kernel
theorem dX6_copy_20 : decode cX6_copy 20 = .ok (.aload_n 0, 1) := by decide +kernel
theorem dX6_copy_21 : decode cX6_copy 21 = .ok (.getfield 15, 3) := by decide +kernel
theorem dX6_copy_24 : decode cX6_copy 24 = .ok (.iconst 0, 1) := by decide +kernel
theorem dX6_copy_25 : decode cX6_copy 25 = .ok (.bipush 31, 2) := by decide +kernel
theorem dX6_copy_27 : decode cX6_copy 27 = .ok (.invokestatic 47, 3) := by decide +kernel
theorem dX6_copy_30 : decode cX6_copy 30 = .ok (.aload_n 1, 1) := by decide +kernel
theorem dX6_copy_31 : decode cX6_copy 31 = .ok (.getfield 18, 3) := by decide +kernel
theorem dX6_copy_34 : decode cX6_copy 34 = .ok (.iconst 0, 1) := by decide +kernel
theorem dX6_copy_35 : decode cX6_copy 35 = .ok (.aload_n 0, 1) := by decide +kernel
theorem dX6_copy_36 : decode cX6_copy 36 = .ok (.getfield 18, 3) := by decide +kernel
theorem dX6_copy_39 : decode cX6_copy 39 = .ok (.iconst 0, 1) := by decide +kernel
theorem dX6_copy_40 : decode cX6_copy 40 = .ok (.bipush 32, 2) := by decide +kernel
theorem dX6_copy_42 : decode cX6_copy 42 = .ok (.invokestatic 47, 3) := by decide +kernel
theorem dX6_copy_45 : decode cX6_copy 45 = .ok (.aload_n 1, 1) := by decide +kernel
theorem dX6_copy_46 : decode cX6_copy 46 = .ok (.getfield 21, 3) := by decide +kernel
theorem dX6_copy_49 : decode cX6_copy 49 = .ok (.iconst 0, 1) := by decide +kernel
theorem dX6_copy_50 : decode cX6_copy 50 = .ok (.aload_n 0, 1) := by decide +kernel
theorem dX6_copy_51 : decode cX6_copy 51 = .ok (.getfield 21, 3) := by decide +kernel
theorem dX6_copy_54 : decode cX6_copy 54 = .ok (.iconst 0, 1) := by decide +kernel
theorem dX6_copy_55 : decode cX6_copy 55 = .ok (.bipush 32, 2) := by decide +kernel
theorem dX6_copy_57 : decode cX6_copy 57 = .ok (.invokestatic 47, 3) := by decide +kernel
theorem dX6_copy_60 : decode cX6_copy 60 = .ok (.aload_n 1, 1) := by decide +kernel
theorem dX6_copy_61 : decode cX6_copy 61 = .ok (.getfield 24, 3) := by decide +kernel
theorem dX6_copy_64 : decode cX6_copy 64 = .ok (.iconst 0, 1) := by decide +kernel
theorem dX6_copy_65 : decode cX6_copy 65 = .ok (.aload_n 0, 1) := by decide +kernel
theorem dX6_copy_66 : decode cX6_copy 66 = .ok (.getfield 24, 3) := by decide +kernel
theorem dX6_copy_69 : decode cX6_copy 69 = .ok (.iconst 0, 1) := by decide +kernel
theorem dX6_copy_70 : decode cX6_copy 70 = .ok (.bipush 32, 2) := by decide +kernel
theorem dX6_copy_72 : decode cX6_copy 72 = .ok (.invokestatic 47, 3) := by decide +kernel
theorem dX6_copy_75 : decode cX6_copy 75 = .ok (.aload_n 1, 1) := by decide +kernel
theorem dX6_copy_76 : decode cX6_copy 76 = .ok (.getfield 27, 3) := by decide +kernel
theorem dX6_copy_79 : decode cX6_copy 79 = .ok (.iconst 0, 1) := by decide +kernel
theorem dX6_copy_80 : decode cX6_copy 80 = .ok (.aload_n 0, 1) := by decide +kernel
theorem dX6_copy_81 : decode cX6_copy 81 = .ok (.getfield 27, 3) := by decide +kernel
theorem dX6_copy_84 : decode cX6_copy 84 = .ok (.iconst 0, 1) := by decide +kernel
theorem dX6_copy_85 : decode cX6_copy 85 = .ok (.bipush 32, 2) := by decide +kernel
theorem dX6_copy_87 : decode cX6_copy 87 = .ok (.invokestatic 47, 3) := by decide +kernel
theorem dX6_copy_90 : decode cX6_copy 90 = .ok (.aload_n 1, 1) := by decide +kernel
theorem dX6_copy_91 : decode cX6_copy 91 = .ok (.getfield 30, 3) := by decide +kernel
theorem dX6_copy_94 : decode cX6_copy 94 = .ok (.iconst 0, 1) := by decide +kernel
theorem dX6_copy_95 : decode cX6_copy 95 = .ok (.aload_n 0, 1) := by decide +kernel
theorem dX6_copy_96 : decode cX6_copy 96 = .ok (.getfield 30, 3) := by decide +kernel
theorem dX6_copy_99 : decode cX6_copy 99 = .ok (.iconst 0, 1) := by decide +kernel
theorem dX6_copy_100 : decode cX6_copy 100 = .ok (.sipush 160, 3) := by decide +kernel
theorem dX6_copy_103 : decode cX6_copy 103 = .ok (.invokestatic 47, 3) := by decide +kernel
theorem dX6_copy_106 : decode cX6_copy 106 = .ok (.aload_n 0, 1) := by decide +kernel
theorem dX6_copy_107 : decode cX6_copy 107 = .ok (.aload_n 1, 1) := by decide +kernel
theorem dX6_copy_108 : decode cX6_copy 108 = .ok (.getfield 43, 3) := by decide +kernel
theorem dX6_copy_111 : decode cX6_copy 111 = .ok (.putfield 43, 3) := by decide +kernel
theorem dX6_copy_114 : decode cX6_copy 114 = .ok (.aload_n 0, 1) := by decide +kernel
theorem dX6_copy_115 : decode cX6_copy 115 = .ok (.aload_n 1, 1) := by decide +kernel
theorem dX6_copy_116 : decode cX6_copy 116 = .ok (.getfield 53, 3) := by decide +kernel
theorem dX6_copy_119 : decode cX6_copy 119 = .ok (.putfield 53, 3) := by decide +kernel
theorem dX6_copy_122 : decode cX6_copy 122 = .ok (.aload_n 0, 1) := by decide +kernel
theorem dX6_copy_123 : decode cX6_copy 123 = .ok (.aload_n 1, 1) := by decide +kernel
theorem dX6_copy_124 : decode cX6_copy 124 = .ok (.getfield 56, 3) := by decide +kernel
theorem dX6_copy_127 : decode cX6_copy 127 = .ok (.putfield 56, 3) := by decide +kernel
theorem dX6_copy_130 : decode cX6_copy 130 = .ok (.aload_n 0, 1) := by decide +kernel
theorem dX6_copy_131 : decode cX6_copy 131 = .ok (.aload_n 1, 1) := by decide +kernel
theorem dX6_copy_132 : decode cX6_copy 132 = .ok (.getfield 59, 3) := by decide +kernel
theorem dX6_copy_135 : decode cX6_copy 135 = .ok (.putfield 59, 3) := by decide +kernel
theorem dX6_copy_138 : decode cX6_copy 138 = .ok (.return_, 1) := by decide +kernel
theorem dX6_has_0 : decode cX6_has 0 = .ok (.aload_n 0, 1) := by decide +kernel
theorem dX6_has_1 : decode cX6_has 1 = .ok (.getfield 9, 3) := by decide +kernel
theorem dX6_has_4 : decode cX6_has 4 = .ok (.iload_n 1, 1) := by decide +kernel
theorem dX6_has_5 : decode cX6_has 5 = .ok (.invokestatic 62, 3) := by decide +kernel
theorem dX6_has_8 : decode cX6_has 8 = .ok (.iconst (-1), 1) := by decide +kernel
theorem dX6_has_9 : decode cX6_has 9 = .ok (.if_icmp .eq 7, 3) := by decide +kernel
theorem dX6_has_12 : decode cX6_has 12 = .ok (.iconst 1, 1) := by decide +kernel
theorem dX6_has_13 : decode cX6_has 13 = .ok (.goto 4, 3) := by decide +kernel
theorem dX6_has_16 : decode cX6_has 16 = .ok (.iconst 0, 1) := by decide +kernel
theorem dX6_has_17 : decode cX6_has 17 = .ok (.ireturn, 1) := by decide +kernel
theorem dX6_homeOf_0 : decode cX6_homeOf 0 = .ok (.aload_n 0, 1) := by decide +kernel
theorem dX6_homeOf_1 : decode cX6_homeOf 1 = .ok (.getfield 15, 3) := by decide +kernel
theorem dX6_homeOf_4 : decode cX6_homeOf 4 = .ok (.iload_n 1, 1) := by decide +kernel
theorem dX6_homeOf_5 : decode cX6_homeOf 5 = .ok (.invokestatic 62, 3) := by decide +kernel
theorem dX6_homeOf_8 : decode cX6_homeOf 8 = .ok (.ireturn, 1) := by decide +kernel
theorem dX6_levelOf_0 : decode cX6_levelOf 0 = .ok (.aload_n 0, 1) := by decide +kernel
theorem dX6_levelOf_1 : decode cX6_levelOf 1 = .ok (.getfield 18, 3) := by decide +kernel
theorem dX6_levelOf_4 : decode cX6_levelOf 4 = .ok (.iload_n 1, 1) := by decide +kernel
theorem dX6_levelOf_5 : decode cX6_levelOf 5 = .ok (.invokestatic 62, 3) := by decide +kernel
theorem dX6_levelOf_8 : decode cX6_levelOf 8 = .ok (.ireturn, 1) := by decide +kernel
theorem dX6_sizeOf_0 : decode cX6_sizeOf 0 = .ok (.aload_n 0, 1) := by decide +kernel
theorem dX6_sizeOf_1 : decode cX6_sizeOf 1 = .ok (.getfield 21, 3) := by decide +kernel
theorem dX6_sizeOf_4 : decode cX6_sizeOf 4 = .ok (.iload_n 1, 1) := by decide +kernel
theorem dX6_sizeOf_5 : decode cX6_sizeOf 5 = .ok (.invokestatic 62, 3) := by decide +kernel
theorem dX6_sizeOf_8 : decode cX6_sizeOf 8 = .ok (.ireturn, 1) := by decide +kernel
theorem dX6_aboveOf_0 : decode cX6_aboveOf 0 = .ok (.aload_n 0, 1) := by decide +kernel
theorem dX6_aboveOf_1 : decode cX6_aboveOf 1 = .ok (.getfield 27, 3) := by decide +kernel
theorem dX6_aboveOf_4 : decode cX6_aboveOf 4 = .ok (.iload_n 1, 1) := by decide +kernel
theorem dX6_aboveOf_5 : decode cX6_aboveOf 5 = .ok (.invokestatic 62, 3) := by decide +kernel
theorem dX6_aboveOf_8 : decode cX6_aboveOf 8 = .ok (.ireturn, 1) := by decide +kernel
theorem dX6_height_0 : decode cX6_height 0 = .ok (.aload_n 0, 1) := by decide +kernel
theorem dX6_height_1 : decode cX6_height 1 = .ok (.aload_n 0, 1) := by decide +kernel
theorem dX6_height_2 : decode cX6_height 2 = .ok (.getfield 43, 3) := by decide +kernel
theorem dX6_height_5 : decode cX6_height 5 = .ok (.invokevirtual 68, 3) := by decide +kernel
theorem dX6_height_8 : decode cX6_height 8 = .ok (.iconst 1, 1) := by decide +kernel
theorem dX6_height_9 : decode cX6_height 9 = .ok (.iadd, 1) := by decide +kernel
theorem dX6_height_10 : decode cX6_height 10 = .ok (.ireturn, 1) := by decide +kernel
theorem dX6_thingAt_0 : decode cX6_thingAt 0 = .ok (.iload_n 2, 1) := by decide +kernel
theorem dX6_thingAt_1 : decode cX6_thingAt 1 = .ok (.ifCond .lt 23, 3) := by decide +kernel
theorem dX6_thingAt_4 : decode cX6_thingAt 4 = .ok (.iload_n 2, 1) := by decide +kernel
theorem dX6_thingAt_5 : decode cX6_thingAt 5 = .ok (.iconst 5, 1) := by decide +kernel
theorem dX6_thingAt_6 : decode cX6_thingAt 6 = .ok (.if_icmp .ge 18, 3) := by decide +kernel
theorem dX6_thingAt_9 : decode cX6_thingAt 9 = .ok (.aload_n 0, 1) := by decide +kernel
theorem dX6_thingAt_10 : decode cX6_thingAt 10 = .ok (.getfield 30, 3) := by decide +kernel
theorem dX6_thingAt_13 : decode cX6_thingAt 13 = .ok (.iload_n 1, 1) := by decide +kernel
theorem dX6_thingAt_14 : decode cX6_thingAt 14 = .ok (.iconst 5, 1) := by decide +kernel
theorem dX6_thingAt_15 : decode cX6_thingAt 15 = .ok (.imul, 1) := by decide +kernel
theorem dX6_thingAt_16 : decode cX6_thingAt 16 = .ok (.iload_n 2, 1) := by decide +kernel
theorem dX6_thingAt_17 : decode cX6_thingAt 17 = .ok (.iadd, 1) := by decide +kernel
theorem dX6_thingAt_18 : decode cX6_thingAt 18 = .ok (.invokestatic 62, 3) := by decide +kernel
theorem dX6_thingAt_21 : decode cX6_thingAt 21 = .ok (.goto 4, 3) := by decide +kernel
theorem dX6_thingAt_24 : decode cX6_thingAt 24 = .ok (.iconst (-1), 1) := by decide +kernel
theorem dX6_thingAt_25 : decode cX6_thingAt 25 = .ok (.ireturn, 1) := by decide +kernel
theorem dX6_hull_0 : decode cX6_hull 0 = .ok (.iload_n 2, 1) := by decide +kernel
theorem dX6_hull_1 : decode cX6_hull 1 = .ok (.ifCond .ne 10, 3) := by decide +kernel
theorem dX6_hull_4 : decode cX6_hull 4 = .ok (.aload_n 0, 1) := by decide +kernel
theorem dX6_hull_5 : decode cX6_hull 5 = .ok (.getfield 9, 3) := by decide +kernel
theorem dX6_hull_8 : decode cX6_hull 8 = .ok (.goto 7, 3) := by decide +kernel
theorem dX6_hull_11 : decode cX6_hull 11 = .ok (.aload_n 0, 1) := by decide +kernel
theorem dX6_hull_12 : decode cX6_hull 12 = .ok (.getfield 24, 3) := by decide +kernel
theorem dX6_hull_15 : decode cX6_hull 15 = .ok (.iload_n 1, 1) := by decide +kernel
theorem dX6_hull_16 : decode cX6_hull 16 = .ok (.invokestatic 62, 3) := by decide +kernel
theorem dX6_hull_19 : decode cX6_hull 19 = .ok (.ireturn, 1) := by decide +kernel
theorem dX6_placeIn_0 : decode cX6_placeIn 0 = .ok (.iconst 0, 1) := by decide +kernel
theorem dX6_placeIn_1 : decode cX6_placeIn 1 = .ok (.istore_n 3, 1) := by decide +kernel
theorem dX6_placeIn_2 : decode cX6_placeIn 2 = .ok (.iload_n 3, 1) := by decide +kernel
theorem dX6_placeIn_3 : decode cX6_placeIn 3 = .ok (.aload_n 0, 1) := by decide +kernel
theorem dX6_placeIn_4 : decode cX6_placeIn 4 = .ok (.iload_n 1, 1) := by decide +kernel
theorem dX6_placeIn_5 : decode cX6_placeIn 5 = .ok (.invokevirtual 71, 3) := by decide +kernel
theorem dX6_placeIn_8 : decode cX6_placeIn 8 = .ok (.if_icmp .ge 21, 3) := by decide +kernel
theorem dX6_placeIn_11 : decode cX6_placeIn 11 = .ok (.aload_n 0, 1) := by decide +kernel
theorem dX6_placeIn_12 : decode cX6_placeIn 12 = .ok (.iload_n 1, 1) := by decide +kernel
theorem dX6_placeIn_13 : decode cX6_placeIn 13 = .ok (.iload_n 3, 1) := by decide +kernel
theorem dX6_placeIn_14 : decode cX6_placeIn 14 = .ok (.invokevirtual 74, 3) := by decide +kernel
theorem dX6_placeIn_17 : decode cX6_placeIn 17 = .ok (.iload_n 2, 1) := by decide +kernel
theorem dX6_placeIn_18 : decode cX6_placeIn 18 = .ok (.if_icmp .ne 5, 3) := by decide +kernel
theorem dX6_placeIn_21 : decode cX6_placeIn 21 = .ok (.iload_n 3, 1) := by decide +kernel
theorem dX6_placeIn_22 : decode cX6_placeIn 22 = .ok (.ireturn, 1) := by decide +kernel
theorem dX6_placeIn_23 : decode cX6_placeIn 23 = .ok (.iinc 3 1, 3) := by decide +kernel
theorem dX6_placeIn_26 : decode cX6_placeIn 26 = .ok (.goto (-24), 3) := by decide +kernel
theorem dX6_placeIn_29 : decode cX6_placeIn 29 = .ok (.iconst (-1), 1) := by decide +kernel
theorem dX6_placeIn_30 : decode cX6_placeIn 30 = .ok (.ireturn, 1) := by decide +kernel
theorem dX6_boxSet_0 : decode cX6_boxSet 0 = .ok (.iconst 0, 1) := by decide +kernel
theorem dX6_boxSet_1 : decode cX6_boxSet 1 = .ok (.istore_n 1, 1) := by decide +kernel
theorem dX6_boxSet_2 : decode cX6_boxSet 2 = .ok (.iconst 0, 1) := by decide +kernel
theorem dX6_boxSet_3 : decode cX6_boxSet 3 = .ok (.istore_n 2, 1) := by decide +kernel
theorem dX6_boxSet_4 : decode cX6_boxSet 4 = .ok (.iload_n 2, 1) := by decide +kernel
theorem dX6_boxSet_5 : decode cX6_boxSet 5 = .ok (.bipush 31, 2) := by decide +kernel
theorem dX6_boxSet_7 : decode cX6_boxSet 7 = .ok (.if_icmp .ge 23, 3) := by decide +kernel
theorem dX6_boxSet_10 : decode cX6_boxSet 10 = .ok (.aload_n 0, 1) := by decide +kernel
theorem dX6_boxSet_11 : decode cX6_boxSet 11 = .ok (.iload_n 2, 1) := by decide +kernel
theorem dX6_boxSet_12 : decode cX6_boxSet 12 = .ok (.invokevirtual 78, 3) := by decide +kernel
theorem dX6_boxSet_15 : decode cX6_boxSet 15 = .ok (.ifCond .eq 9, 3) := by decide +kernel
theorem dX6_boxSet_18 : decode cX6_boxSet 18 = .ok (.iload_n 1, 1) := by decide +kernel
theorem dX6_boxSet_19 : decode cX6_boxSet 19 = .ok (.iconst 1, 1) := by decide +kernel
theorem dX6_boxSet_20 : decode cX6_boxSet 20 = .ok (.iload_n 2, 1) := by decide +kernel
theorem dX6_boxSet_21 : decode cX6_boxSet 21 = .ok (.ishl, 1) := by decide +kernel
theorem dX6_boxSet_22 : decode cX6_boxSet 22 = .ok (.ior, 1) := by decide +kernel
theorem dX6_boxSet_23 : decode cX6_boxSet 23 = .ok (.istore_n 1, 1) := by decide +kernel
theorem dX6_boxSet_24 : decode cX6_boxSet 24 = .ok (.iinc 2 1, 3) := by decide +kernel
theorem dX6_boxSet_27 : decode cX6_boxSet 27 = .ok (.goto (-23), 3) := by decide +kernel
theorem dX6_boxSet_30 : decode cX6_boxSet 30 = .ok (.iload_n 1, 1) := by decide +kernel
theorem dX6_boxSet_31 : decode cX6_boxSet 31 = .ok (.ireturn, 1) := by decide +kernel
theorem dX6_boxesOfLeaf_0 : decode cX6_boxesOfLeaf 0 = .ok (.iconst 0, 1) := by decide +kernel
theorem dX6_boxesOfLeaf_1 : decode cX6_boxesOfLeaf 1 = .ok (.istore_n 2, 1) := by decide +kernel
theorem dX6_boxesOfLeaf_2 : decode cX6_boxesOfLeaf 2 = .ok (.iconst 0, 1) := by decide +kernel
theorem dX6_boxesOfLeaf_3 : decode cX6_boxesOfLeaf 3 = .ok (.istore_n 3, 1) := by decide +kernel
theorem dX6_boxesOfLeaf_4 : decode cX6_boxesOfLeaf 4 = .ok (.iload_n 3, 1) := by decide +kernel
theorem dX6_boxesOfLeaf_5 : decode cX6_boxesOfLeaf 5 = .ok (.aload_n 0, 1) := by decide +kernel
theorem dX6_boxesOfLeaf_6 : decode cX6_boxesOfLeaf 6 = .ok (.iload_n 1, 1) := by decide +kernel
theorem dX6_boxesOfLeaf_7 : decode cX6_boxesOfLeaf 7 = .ok (.invokevirtual 71, 3) := by decide +kernel
theorem dX6_boxesOfLeaf_10 : decode cX6_boxesOfLeaf 10 = .ok (.if_icmp .ge 20, 3) := by decide +kernel
theorem dX6_boxesOfLeaf_13 : decode cX6_boxesOfLeaf 13 = .ok (.iload_n 2, 1) := by decide +kernel
theorem dX6_boxesOfLeaf_14 : decode cX6_boxesOfLeaf 14 = .ok (.iconst 1, 1) := by decide +kernel
theorem dX6_boxesOfLeaf_15 : decode cX6_boxesOfLeaf 15 = .ok (.aload_n 0, 1) := by decide +kernel
theorem dX6_boxesOfLeaf_16 : decode cX6_boxesOfLeaf 16 = .ok (.iload_n 1, 1) := by decide +kernel
theorem dX6_boxesOfLeaf_17 : decode cX6_boxesOfLeaf 17 = .ok (.iload_n 3, 1) := by decide +kernel
theorem dX6_boxesOfLeaf_18 : decode cX6_boxesOfLeaf 18 = .ok (.invokevirtual 74, 3) := by decide +kernel
theorem dX6_boxesOfLeaf_21 : decode cX6_boxesOfLeaf 21 = .ok (.ishl, 1) := by decide +kernel
theorem dX6_boxesOfLeaf_22 : decode cX6_boxesOfLeaf 22 = .ok (.ior, 1) := by decide +kernel
theorem dX6_boxesOfLeaf_23 : decode cX6_boxesOfLeaf 23 = .ok (.istore_n 2, 1) := by decide +kernel
theorem dX6_boxesOfLeaf_24 : decode cX6_boxesOfLeaf 24 = .ok (.iinc 3 1, 3) := by decide +kernel
theorem dX6_boxesOfLeaf_27 : decode cX6_boxesOfLeaf 27 = .ok (.goto (-23), 3) := by decide +kernel
theorem dX6_boxesOfLeaf_30 : decode cX6_boxesOfLeaf 30 = .ok (.iload_n 2, 1) := by decide +kernel
theorem dX6_boxesOfLeaf_31 : decode cX6_boxesOfLeaf 31 = .ok (.ireturn, 1) := by decide +kernel
theorem dX6_boxesTouching_0 : decode cX6_boxesTouching 0 = .ok (.iconst 0, 1) := by decide +kernel
theorem dX6_boxesTouching_1 : decode cX6_boxesTouching 1 = .ok (.istore_n 2, 1) := by decide +kernel
theorem dX6_boxesTouching_2 : decode cX6_boxesTouching 2 = .ok (.iconst 0, 1) := by decide +kernel
theorem dX6_boxesTouching_3 : decode cX6_boxesTouching 3 = .ok (.istore_n 3, 1) := by decide +kernel
theorem dX6_boxesTouching_4 : decode cX6_boxesTouching 4 = .ok (.iload_n 3, 1) := by decide +kernel
theorem dX6_boxesTouching_5 : decode cX6_boxesTouching 5 = .ok (.bipush 31, 2) := by decide +kernel
theorem dX6_boxesTouching_7 : decode cX6_boxesTouching 7 = .ok (.if_icmp .ge 28, 3) := by decide +kernel
theorem dX6_boxesTouching_10 : decode cX6_boxesTouching 10 = .ok (.aload_n 0, 1) := by decide +kernel
theorem dX6_boxesTouching_11 : decode cX6_boxesTouching 11 = .ok (.iload_n 3, 1) := by decide +kernel
theorem dX6_boxesTouching_12 : decode cX6_boxesTouching 12 = .ok (.iconst 0, 1) := by decide +kernel
theorem dX6_boxesTouching_13 : decode cX6_boxesTouching 13 = .ok (.invokevirtual 82, 3) := by decide +kernel
theorem dX6_boxesTouching_16 : decode cX6_boxesTouching 16 = .ok (.iload_n 1, 1) := by decide +kernel
theorem dX6_boxesTouching_17 : decode cX6_boxesTouching 17 = .ok (.invokestatic 85, 3) := by decide +kernel
theorem dX6_boxesTouching_20 : decode cX6_boxesTouching 20 = .ok (.ifCond .eq 9, 3) := by decide +kernel
theorem dX6_boxesTouching_23 : decode cX6_boxesTouching 23 = .ok (.iload_n 2, 1) := by decide +kernel
theorem dX6_boxesTouching_24 : decode cX6_boxesTouching 24 = .ok (.iconst 1, 1) := by decide +kernel
theorem dX6_boxesTouching_25 : decode cX6_boxesTouching 25 = .ok (.iload_n 3, 1) := by decide +kernel
theorem dX6_boxesTouching_26 : decode cX6_boxesTouching 26 = .ok (.ishl, 1) := by decide +kernel
theorem dX6_boxesTouching_27 : decode cX6_boxesTouching 27 = .ok (.ior, 1) := by decide +kernel
theorem dX6_boxesTouching_28 : decode cX6_boxesTouching 28 = .ok (.istore_n 2, 1) := by decide +kernel
theorem dX6_boxesTouching_29 : decode cX6_boxesTouching 29 = .ok (.iinc 3 1, 3) := by decide +kernel
theorem dX6_boxesTouching_32 : decode cX6_boxesTouching 32 = .ok (.goto (-28), 3) := by decide +kernel
theorem dX6_boxesTouching_35 : decode cX6_boxesTouching 35 = .ok (.iload_n 2, 1) := by decide +kernel
theorem dX6_boxesTouching_36 : decode cX6_boxesTouching 36 = .ok (.ireturn, 1) := by decide +kernel
theorem dX6_freeNumber_0 : decode cX6_freeNumber 0 = .ok (.iconst 0, 1) := by decide +kernel
theorem dX6_freeNumber_1 : decode cX6_freeNumber 1 = .ok (.istore_n 1, 1) := by decide +kernel
theorem dX6_freeNumber_2 : decode cX6_freeNumber 2 = .ok (.iload_n 1, 1) := by decide +kernel
theorem dX6_freeNumber_3 : decode cX6_freeNumber 3 = .ok (.bipush 31, 2) := by decide +kernel
theorem dX6_freeNumber_5 : decode cX6_freeNumber 5 = .ok (.if_icmp .ge 19, 3) := by decide +kernel
theorem dX6_freeNumber_8 : decode cX6_freeNumber 8 = .ok (.aload_n 0, 1) := by decide +kernel
theorem dX6_freeNumber_9 : decode cX6_freeNumber 9 = .ok (.iload_n 1, 1) := by decide +kernel
theorem dX6_freeNumber_10 : decode cX6_freeNumber 10 = .ok (.invokevirtual 78, 3) := by decide +kernel
theorem dX6_freeNumber_13 : decode cX6_freeNumber 13 = .ok (.ifCond .ne 5, 3) := by decide +kernel
theorem dX6_freeNumber_16 : decode cX6_freeNumber 16 = .ok (.iload_n 1, 1) := by decide +kernel
theorem dX6_freeNumber_17 : decode cX6_freeNumber 17 = .ok (.ireturn, 1) := by decide +kernel
theorem dX6_freeNumber_18 : decode cX6_freeNumber 18 = .ok (.iinc 1 1, 3) := by decide +kernel
theorem dX6_freeNumber_21 : decode cX6_freeNumber 21 = .ok (.goto (-19), 3) := by decide +kernel
theorem dX6_freeNumber_24 : decode cX6_freeNumber 24 = .ok (.iconst (-1), 1) := by decide +kernel
theorem dX6_freeNumber_25 : decode cX6_freeNumber 25 = .ok (.ireturn, 1) := by decide +kernel
theorem dX6_nodeFor_0 : decode cX6_nodeFor 0 = .ok (.aload_n 0, 1) := by decide +kernel
theorem dX6_nodeFor_1 : decode cX6_nodeFor 1 = .ok (.getfield 43, 3) := by decide +kernel
theorem dX6_nodeFor_4 : decode cX6_nodeFor 4 = .ok (.istore_n 3, 1) := by decide +kernel
theorem dX6_nodeFor_5 : decode cX6_nodeFor 5 = .ok (.iconst 0, 1) := by decide +kernel
theorem dX6_nodeFor_6 : decode cX6_nodeFor 6 = .ok (.istore 4, 2) := by decide +kernel
theorem dX6_nodeFor_8 : decode cX6_nodeFor 8 = .ok (.iload 4, 2) := by decide +kernel
theorem dX6_nodeFor_10 : decode cX6_nodeFor 10 = .ok (.bipush 8, 2) := by decide +kernel
theorem dX6_nodeFor_12 : decode cX6_nodeFor 12 = .ok (.if_icmp .ge 25, 3) := by decide +kernel
theorem dX6_nodeFor_15 : decode cX6_nodeFor 15 = .ok (.aload_n 0, 1) := by decide +kernel
theorem dX6_nodeFor_16 : decode cX6_nodeFor 16 = .ok (.iload_n 3, 1) := by decide +kernel
theorem dX6_nodeFor_17 : decode cX6_nodeFor 17 = .ok (.invokevirtual 68, 3) := by decide +kernel
theorem dX6_nodeFor_20 : decode cX6_nodeFor 20 = .ok (.iload_n 2, 1) := by decide +kernel
theorem dX6_nodeFor_21 : decode cX6_nodeFor 21 = .ok (.if_icmp .le 16, 3) := by decide +kernel
theorem dX6_nodeFor_24 : decode cX6_nodeFor 24 = .ok (.aload_n 0, 1) := by decide +kernel
theorem dX6_nodeFor_25 : decode cX6_nodeFor 25 = .ok (.iload_n 3, 1) := by decide +kernel
theorem dX6_nodeFor_26 : decode cX6_nodeFor 26 = .ok (.iload_n 1, 1) := by decide +kernel
theorem dX6_nodeFor_27 : decode cX6_nodeFor 27 = .ok (.invokevirtual 91, 3) := by decide +kernel
theorem dX6_nodeFor_30 : decode cX6_nodeFor 30 = .ok (.istore_n 3, 1) := by decide +kernel
theorem dX6_nodeFor_31 : decode cX6_nodeFor 31 = .ok (.iinc 4 1, 3) := by decide +kernel
theorem dX6_nodeFor_34 : decode cX6_nodeFor 34 = .ok (.goto (-26), 3) := by decide +kernel
theorem dX6_nodeFor_37 : decode cX6_nodeFor 37 = .ok (.iload_n 3, 1) := by decide +kernel
theorem dX6_nodeFor_38 : decode cX6_nodeFor 38 = .ok (.ireturn, 1) := by decide +kernel
theorem dX6_leastGreater_0 : decode cX6_leastGreater 0 = .ok (.iconst (-1), 1) := by decide +kernel
theorem dX6_leastGreater_1 : decode cX6_leastGreater 1 = .ok (.istore_n 3, 1) := by decide +kernel
theorem dX6_leastGreater_2 : decode cX6_leastGreater 2 = .ok (.iconst 0, 1) := by decide +kernel
theorem dX6_leastGreater_3 : decode cX6_leastGreater 3 = .ok (.istore 4, 2) := by decide +kernel
theorem dX6_leastGreater_5 : decode cX6_leastGreater 5 = .ok (.iconst 0, 1) := by decide +kernel
theorem dX6_leastGreater_6 : decode cX6_leastGreater 6 = .ok (.istore 5, 2) := by decide +kernel
theorem dX6_leastGreater_8 : decode cX6_leastGreater 8 = .ok (.iconst 0, 1) := by decide +kernel
theorem dX6_leastGreater_9 : decode cX6_leastGreater 9 = .ok (.istore 6, 2) := by decide +kernel
theorem dX6_leastGreater_11 : decode cX6_leastGreater 11 = .ok (.iload 6, 2) := by decide +kernel
theorem dX6_leastGreater_13 : decode cX6_leastGreater 13 = .ok (.aload_n 0, 1) := by decide +kernel
theorem dX6_leastGreater_14 : decode cX6_leastGreater 14 = .ok (.iload_n 1, 1) := by decide +kernel
theorem dX6_leastGreater_15 : decode cX6_leastGreater 15 = .ok (.invokevirtual 71, 3) := by decide +kernel
theorem dX6_leastGreater_18 : decode cX6_leastGreater 18 = .ok (.if_icmp .ge 87, 3) := by decide +kernel
theorem dX6_leastGreater_21 : decode cX6_leastGreater 21 = .ok (.aload_n 0, 1) := by decide +kernel
theorem dX6_leastGreater_22 : decode cX6_leastGreater 22 = .ok (.iload_n 1, 1) := by decide +kernel
theorem dX6_leastGreater_23 : decode cX6_leastGreater 23 = .ok (.iload 6, 2) := by decide +kernel
theorem dX6_leastGreater_25 : decode cX6_leastGreater 25 = .ok (.invokevirtual 74, 3) := by decide +kernel
theorem dX6_leastGreater_28 : decode cX6_leastGreater 28 = .ok (.istore 7, 2) := by decide +kernel
theorem dX6_leastGreater_30 : decode cX6_leastGreater 30 = .ok (.aload_n 0, 1) := by decide +kernel
theorem dX6_leastGreater_31 : decode cX6_leastGreater 31 = .ok (.getfield 24, 3) := by decide +kernel
theorem dX6_leastGreater_34 : decode cX6_leastGreater 34 = .ok (.iload 7, 2) := by decide +kernel
theorem dX6_leastGreater_36 : decode cX6_leastGreater 36 = .ok (.invokestatic 62, 3) := by decide +kernel
theorem dX6_leastGreater_39 : decode cX6_leastGreater 39 = .ok (.istore 8, 2) := by decide +kernel
theorem dX6_leastGreater_41 : decode cX6_leastGreater 41 = .ok (.iload 8, 2) := by decide +kernel
theorem dX6_leastGreater_43 : decode cX6_leastGreater 43 = .ok (.invokestatic 94, 3) := by decide +kernel
theorem dX6_leastGreater_46 : decode cX6_leastGreater 46 = .ok (.istore 9, 2) := by decide +kernel
theorem dX6_leastGreater_48 : decode cX6_leastGreater 48 = .ok (.iload 8, 2) := by decide +kernel
theorem dX6_leastGreater_50 : decode cX6_leastGreater 50 = .ok (.iload_n 2, 1) := by decide +kernel
theorem dX6_leastGreater_51 : decode cX6_leastGreater 51 = .ok (.invokestatic 97, 3) := by decide +kernel
theorem dX6_leastGreater_54 : decode cX6_leastGreater 54 = .ok (.invokestatic 94, 3) := by decide +kernel
theorem dX6_leastGreater_57 : decode cX6_leastGreater 57 = .ok (.iload 9, 2) := by decide +kernel
theorem dX6_leastGreater_59 : decode cX6_leastGreater 59 = .ok (.isub, 1) := by decide +kernel
theorem dX6_leastGreater_60 : decode cX6_leastGreater 60 = .ok (.istore 10, 2) := by decide +kernel
theorem dX6_leastGreater_62 : decode cX6_leastGreater 62 = .ok (.iload_n 3, 1) := by decide +kernel
theorem dX6_leastGreater_63 : decode cX6_leastGreater 63 = .ok (.iconst (-1), 1) := by decide +kernel
theorem dX6_leastGreater_64 : decode cX6_leastGreater 64 = .ok (.if_icmp .eq 24, 3) := by decide +kernel
theorem dX6_leastGreater_67 : decode cX6_leastGreater 67 = .ok (.iload 10, 2) := by decide +kernel
theorem dX6_leastGreater_69 : decode cX6_leastGreater 69 = .ok (.iload 4, 2) := by decide +kernel
theorem dX6_leastGreater_71 : decode cX6_leastGreater 71 = .ok (.if_icmp .lt 17, 3) := by decide +kernel
theorem dX6_leastGreater_74 : decode cX6_leastGreater 74 = .ok (.iload 10, 2) := by decide +kernel
theorem dX6_leastGreater_76 : decode cX6_leastGreater 76 = .ok (.iload 4, 2) := by decide +kernel
theorem dX6_leastGreater_78 : decode cX6_leastGreater 78 = .ok (.if_icmp .ne 21, 3) := by decide +kernel
theorem dX6_leastGreater_81 : decode cX6_leastGreater 81 = .ok (.iload 9, 2) := by decide +kernel
theorem dX6_leastGreater_83 : decode cX6_leastGreater 83 = .ok (.iload 5, 2) := by decide +kernel
theorem dX6_leastGreater_85 : decode cX6_leastGreater 85 = .ok (.if_icmp .ge 14, 3) := by decide +kernel
theorem dX6_leastGreater_88 : decode cX6_leastGreater 88 = .ok (.iload 7, 2) := by decide +kernel
theorem dX6_leastGreater_90 : decode cX6_leastGreater 90 = .ok (.istore_n 3, 1) := by decide +kernel
theorem dX6_leastGreater_91 : decode cX6_leastGreater 91 = .ok (.iload 10, 2) := by decide +kernel
theorem dX6_leastGreater_93 : decode cX6_leastGreater 93 = .ok (.istore 4, 2) := by decide +kernel
theorem dX6_leastGreater_95 : decode cX6_leastGreater 95 = .ok (.iload 9, 2) := by decide +kernel
theorem dX6_leastGreater_97 : decode cX6_leastGreater 97 = .ok (.istore 5, 2) := by decide +kernel
theorem dX6_leastGreater_99 : decode cX6_leastGreater 99 = .ok (.iinc 6 1, 3) := by decide +kernel
theorem dX6_leastGreater_102 : decode cX6_leastGreater 102 = .ok (.goto (-91), 3) := by decide +kernel
theorem dX6_leastGreater_105 : decode cX6_leastGreater 105 = .ok (.iload_n 3, 1) := by decide +kernel
theorem dX6_leastGreater_106 : decode cX6_leastGreater 106 = .ok (.ireturn, 1) := by decide +kernel
theorem dX6_setBox_0 : decode cX6_setBox 0 = .ok (.aload_n 0, 1) := by decide +kernel
theorem dX6_setBox_1 : decode cX6_setBox 1 = .ok (.getfield 9, 3) := by decide +kernel
theorem dX6_setBox_4 : decode cX6_setBox 4 = .ok (.iload_n 1, 1) := by decide +kernel
theorem dX6_setBox_5 : decode cX6_setBox 5 = .ok (.iload_n 2, 1) := by decide +kernel
theorem dX6_setBox_6 : decode cX6_setBox 6 = .ok (.invokestatic 100, 3) := by decide +kernel
theorem dX6_setBox_9 : decode cX6_setBox 9 = .ok (.return_, 1) := by decide +kernel
theorem dX6_add_0 : decode cX6_add 0 = .ok (.aload_n 0, 1) := by decide +kernel
theorem dX6_add_1 : decode cX6_add 1 = .ok (.iload_n 1, 1) := by decide +kernel
theorem dX6_add_2 : decode cX6_add 2 = .ok (.invokevirtual 71, 3) := by decide +kernel
theorem dX6_add_5 : decode cX6_add 5 = .ok (.istore 4, 2) := by decide +kernel
theorem dX6_add_7 : decode cX6_add 7 = .ok (.iload 4, 2) := by decide +kernel
theorem dX6_add_9 : decode cX6_add 9 = .ok (.ifCond .lt 19, 3) := by decide +kernel
theorem dX6_add_12 : decode cX6_add 12 = .ok (.iload 4, 2) := by decide +kernel
theorem dX6_add_14 : decode cX6_add 14 = .ok (.iconst 5, 1) := by decide +kernel
theorem dX6_add_15 : decode cX6_add 15 = .ok (.if_icmp .ge 13, 3) := by decide +kernel
theorem dX6_add_18 : decode cX6_add 18 = .ok (.iload_n 2, 1) := by decide +kernel
theorem dX6_add_19 : decode cX6_add 19 = .ok (.ifCond .lt 9, 3) := by decide +kernel
theorem dX6_add_22 : decode cX6_add 22 = .ok (.iload_n 2, 1) := by decide +kernel
theorem dX6_add_23 : decode cX6_add 23 = .ok (.iload 4, 2) := by decide +kernel
theorem dX6_add_25 : decode cX6_add 25 = .ok (.if_icmp .le 4, 3) := by decide +kernel
theorem dX6_add_28 : decode cX6_add 28 = .ok (.return_, 1) := by decide +kernel
theorem dX6_add_29 : decode cX6_add 29 = .ok (.iload_n 1, 1) := by decide +kernel
theorem dX6_add_30 : decode cX6_add 30 = .ok (.iconst 5, 1) := by decide +kernel
theorem dX6_add_31 : decode cX6_add 31 = .ok (.imul, 1) := by decide +kernel
theorem dX6_add_32 : decode cX6_add 32 = .ok (.istore 5, 2) := by decide +kernel
theorem dX6_add_34 : decode cX6_add 34 = .ok (.iload 4, 2) := by decide +kernel
theorem dX6_add_36 : decode cX6_add 36 = .ok (.istore 6, 2) := by decide +kernel
theorem dX6_add_38 : decode cX6_add 38 = .ok (.iload 6, 2) := by decide +kernel
theorem dX6_add_40 : decode cX6_add 40 = .ok (.iload_n 2, 1) := by decide +kernel
theorem dX6_add_41 : decode cX6_add 41 = .ok (.if_icmp .le 35, 3) := by decide +kernel
theorem dX6_add_44 : decode cX6_add 44 = .ok (.aload_n 0, 1) := by decide +kernel
theorem dX6_add_45 : decode cX6_add 45 = .ok (.getfield 30, 3) := by decide +kernel
theorem dX6_add_48 : decode cX6_add 48 = .ok (.iload 5, 2) := by decide +kernel
theorem dX6_add_50 : decode cX6_add 50 = .ok (.iload 6, 2) := by decide +kernel
theorem dX6_add_52 : decode cX6_add 52 = .ok (.iadd, 1) := by decide +kernel
theorem dX6_add_53 : decode cX6_add 53 = .ok (.aload_n 0, 1) := by decide +kernel
theorem dX6_add_54 : decode cX6_add 54 = .ok (.getfield 30, 3) := by decide +kernel
theorem dX6_add_57 : decode cX6_add 57 = .ok (.iload 5, 2) := by decide +kernel
theorem dX6_add_59 : decode cX6_add 59 = .ok (.iload 6, 2) := by decide +kernel
theorem dX6_add_61 : decode cX6_add 61 = .ok (.iadd, 1) := by decide +kernel
theorem dX6_add_62 : decode cX6_add 62 = .ok (.iconst 1, 1) := by decide +kernel
theorem dX6_add_63 : decode cX6_add 63 = .ok (.isub, 1) := by decide +kernel
theorem dX6_add_64 : decode cX6_add 64 = .ok (.invokestatic 62, 3) := by decide +kernel
theorem dX6_add_67 : decode cX6_add 67 = .ok (.invokestatic 100, 3) := by decide +kernel
theorem dX6_add_70 : decode cX6_add 70 = .ok (.iinc 6 (-1), 3) := by decide +kernel
theorem dX6_add_73 : decode cX6_add 73 = .ok (.goto (-35), 3) := by decide +kernel
theorem dX6_add_76 : decode cX6_add 76 = .ok (.aload_n 0, 1) := by decide +kernel
theorem dX6_add_77 : decode cX6_add 77 = .ok (.getfield 30, 3) := by decide +kernel
theorem dX6_add_80 : decode cX6_add 80 = .ok (.iload 5, 2) := by decide +kernel
theorem dX6_add_82 : decode cX6_add 82 = .ok (.iload_n 2, 1) := by decide +kernel
theorem dX6_add_83 : decode cX6_add 83 = .ok (.iadd, 1) := by decide +kernel
theorem dX6_add_84 : decode cX6_add 84 = .ok (.iload_n 3, 1) := by decide +kernel
theorem dX6_add_85 : decode cX6_add 85 = .ok (.invokestatic 100, 3) := by decide +kernel
theorem dX6_add_88 : decode cX6_add 88 = .ok (.aload_n 0, 1) := by decide +kernel
theorem dX6_add_89 : decode cX6_add 89 = .ok (.getfield 21, 3) := by decide +kernel
theorem dX6_add_92 : decode cX6_add 92 = .ok (.iload_n 1, 1) := by decide +kernel
theorem dX6_add_93 : decode cX6_add 93 = .ok (.iload 4, 2) := by decide +kernel
theorem dX6_add_95 : decode cX6_add 95 = .ok (.iconst 1, 1) := by decide +kernel
theorem dX6_add_96 : decode cX6_add 96 = .ok (.iadd, 1) := by decide +kernel
theorem dX6_add_97 : decode cX6_add 97 = .ok (.invokestatic 100, 3) := by decide +kernel
theorem dX6_add_100 : decode cX6_add 100 = .ok (.aload_n 0, 1) := by decide +kernel
theorem dX6_add_101 : decode cX6_add 101 = .ok (.iload_n 1, 1) := by decide +kernel
theorem dX6_add_102 : decode cX6_add 102 = .ok (.invokevirtual 68, 3) := by decide +kernel
theorem dX6_add_105 : decode cX6_add 105 = .ok (.ifCond .ne 10, 3) := by decide +kernel
theorem dX6_add_108 : decode cX6_add 108 = .ok (.aload_n 0, 1) := by decide +kernel
theorem dX6_add_109 : decode cX6_add 109 = .ok (.getfield 15, 3) := by decide +kernel
theorem dX6_add_112 : decode cX6_add 112 = .ok (.goto 7, 3) := by decide +kernel
theorem dX6_add_115 : decode cX6_add 115 = .ok (.aload_n 0, 1) := by decide +kernel
theorem dX6_add_116 : decode cX6_add 116 = .ok (.getfield 27, 3) := by decide +kernel
theorem dX6_add_119 : decode cX6_add 119 = .ok (.iload_n 3, 1) := by decide +kernel
theorem dX6_add_120 : decode cX6_add 120 = .ok (.iload_n 1, 1) := by decide +kernel
theorem dX6_add_121 : decode cX6_add 121 = .ok (.invokestatic 100, 3) := by decide +kernel
theorem dX6_add_124 : decode cX6_add 124 = .ok (.return_, 1) := by decide +kernel
theorem dX6_remove_0 : decode cX6_remove 0 = .ok (.aload_n 0, 1) := by decide +kernel
theorem dX6_remove_1 : decode cX6_remove 1 = .ok (.iload_n 1, 1) := by decide +kernel
theorem dX6_remove_2 : decode cX6_remove 2 = .ok (.invokevirtual 71, 3) := by decide +kernel
theorem dX6_remove_5 : decode cX6_remove 5 = .ok (.istore_n 3, 1) := by decide +kernel
theorem dX6_remove_6 : decode cX6_remove 6 = .ok (.iload_n 2, 1) := by decide +kernel
theorem dX6_remove_7 : decode cX6_remove 7 = .ok (.ifCond .lt 8, 3) := by decide +kernel
theorem dX6_remove_10 : decode cX6_remove 10 = .ok (.iload_n 2, 1) := by decide +kernel
theorem dX6_remove_11 : decode cX6_remove 11 = .ok (.iload_n 3, 1) := by decide +kernel
theorem dX6_remove_12 : decode cX6_remove 12 = .ok (.if_icmp .lt 4, 3) := by decide +kernel
theorem dX6_remove_15 : decode cX6_remove 15 = .ok (.return_, 1) := by decide +kernel
theorem dX6_remove_16 : decode cX6_remove 16 = .ok (.iload_n 1, 1) := by decide +kernel
theorem dX6_remove_17 : decode cX6_remove 17 = .ok (.iconst 5, 1) := by decide +kernel
theorem dX6_remove_18 : decode cX6_remove 18 = .ok (.imul, 1) := by decide +kernel
theorem dX6_remove_19 : decode cX6_remove 19 = .ok (.istore 4, 2) := by decide +kernel
theorem dX6_remove_21 : decode cX6_remove 21 = .ok (.aload_n 0, 1) := by decide +kernel
theorem dX6_remove_22 : decode cX6_remove 22 = .ok (.iload_n 1, 1) := by decide +kernel
theorem dX6_remove_23 : decode cX6_remove 23 = .ok (.invokevirtual 68, 3) := by decide +kernel
theorem dX6_remove_26 : decode cX6_remove 26 = .ok (.ifCond .ne 10, 3) := by decide +kernel
theorem dX6_remove_29 : decode cX6_remove 29 = .ok (.aload_n 0, 1) := by decide +kernel
theorem dX6_remove_30 : decode cX6_remove 30 = .ok (.getfield 15, 3) := by decide +kernel
theorem dX6_remove_33 : decode cX6_remove 33 = .ok (.goto 7, 3) := by decide +kernel
theorem dX6_remove_36 : decode cX6_remove 36 = .ok (.aload_n 0, 1) := by decide +kernel
theorem dX6_remove_37 : decode cX6_remove 37 = .ok (.getfield 27, 3) := by decide +kernel
theorem dX6_remove_40 : decode cX6_remove 40 = .ok (.aload_n 0, 1) := by decide +kernel
theorem dX6_remove_41 : decode cX6_remove 41 = .ok (.iload_n 1, 1) := by decide +kernel
theorem dX6_remove_42 : decode cX6_remove 42 = .ok (.iload_n 2, 1) := by decide +kernel
theorem dX6_remove_43 : decode cX6_remove 43 = .ok (.invokevirtual 74, 3) := by decide +kernel
theorem dX6_remove_46 : decode cX6_remove 46 = .ok (.iconst (-1), 1) := by decide +kernel
theorem dX6_remove_47 : decode cX6_remove 47 = .ok (.invokestatic 100, 3) := by decide +kernel
theorem dX6_remove_50 : decode cX6_remove 50 = .ok (.iload_n 2, 1) := by decide +kernel
theorem dX6_remove_51 : decode cX6_remove 51 = .ok (.istore 5, 2) := by decide +kernel
theorem dX6_remove_53 : decode cX6_remove 53 = .ok (.iload 5, 2) := by decide +kernel
theorem dX6_remove_55 : decode cX6_remove 55 = .ok (.iload_n 3, 1) := by decide +kernel
theorem dX6_remove_56 : decode cX6_remove 56 = .ok (.iconst 1, 1) := by decide +kernel
theorem dX6_remove_57 : decode cX6_remove 57 = .ok (.isub, 1) := by decide +kernel
theorem dX6_remove_58 : decode cX6_remove 58 = .ok (.if_icmp .ge 35, 3) := by decide +kernel
theorem dX6_remove_61 : decode cX6_remove 61 = .ok (.aload_n 0, 1) := by decide +kernel
theorem dX6_remove_62 : decode cX6_remove 62 = .ok (.getfield 30, 3) := by decide +kernel
theorem dX6_remove_65 : decode cX6_remove 65 = .ok (.iload 4, 2) := by decide +kernel
theorem dX6_remove_67 : decode cX6_remove 67 = .ok (.iload 5, 2) := by decide +kernel
theorem dX6_remove_69 : decode cX6_remove 69 = .ok (.iadd, 1) := by decide +kernel
theorem dX6_remove_70 : decode cX6_remove 70 = .ok (.aload_n 0, 1) := by decide +kernel
theorem dX6_remove_71 : decode cX6_remove 71 = .ok (.getfield 30, 3) := by decide +kernel
theorem dX6_remove_74 : decode cX6_remove 74 = .ok (.iload 4, 2) := by decide +kernel
theorem dX6_remove_76 : decode cX6_remove 76 = .ok (.iload 5, 2) := by decide +kernel
theorem dX6_remove_78 : decode cX6_remove 78 = .ok (.iadd, 1) := by decide +kernel
theorem dX6_remove_79 : decode cX6_remove 79 = .ok (.iconst 1, 1) := by decide +kernel
theorem dX6_remove_80 : decode cX6_remove 80 = .ok (.iadd, 1) := by decide +kernel
theorem dX6_remove_81 : decode cX6_remove 81 = .ok (.invokestatic 62, 3) := by decide +kernel
theorem dX6_remove_84 : decode cX6_remove 84 = .ok (.invokestatic 100, 3) := by decide +kernel
theorem dX6_remove_87 : decode cX6_remove 87 = .ok (.iinc 5 1, 3) := by decide +kernel
theorem dX6_remove_90 : decode cX6_remove 90 = .ok (.goto (-37), 3) := by decide +kernel
theorem dX6_remove_93 : decode cX6_remove 93 = .ok (.aload_n 0, 1) := by decide +kernel
theorem dX6_remove_94 : decode cX6_remove 94 = .ok (.getfield 30, 3) := by decide +kernel
theorem dX6_remove_97 : decode cX6_remove 97 = .ok (.iload 4, 2) := by decide +kernel
theorem dX6_remove_99 : decode cX6_remove 99 = .ok (.iload_n 3, 1) := by decide +kernel
theorem dX6_remove_100 : decode cX6_remove 100 = .ok (.iadd, 1) := by decide +kernel
theorem dX6_remove_101 : decode cX6_remove 101 = .ok (.iconst 1, 1) := by decide +kernel
theorem dX6_remove_102 : decode cX6_remove 102 = .ok (.isub, 1) := by decide +kernel
theorem dX6_remove_103 : decode cX6_remove 103 = .ok (.iconst (-1), 1) := by decide +kernel
theorem dX6_remove_104 : decode cX6_remove 104 = .ok (.invokestatic 100, 3) := by decide +kernel
theorem dX6_remove_107 : decode cX6_remove 107 = .ok (.aload_n 0, 1) := by decide +kernel
theorem dX6_remove_108 : decode cX6_remove 108 = .ok (.getfield 21, 3) := by decide +kernel
theorem dX6_remove_111 : decode cX6_remove 111 = .ok (.iload_n 1, 1) := by decide +kernel
theorem dX6_remove_112 : decode cX6_remove 112 = .ok (.iload_n 3, 1) := by decide +kernel
theorem dX6_remove_113 : decode cX6_remove 113 = .ok (.iconst 1, 1) := by decide +kernel
theorem dX6_remove_114 : decode cX6_remove 114 = .ok (.isub, 1) := by decide +kernel
theorem dX6_remove_115 : decode cX6_remove 115 = .ok (.invokestatic 100, 3) := by decide +kernel
theorem dX6_remove_118 : decode cX6_remove 118 = .ok (.return_, 1) := by decide +kernel
theorem dX6_refresh_0 : decode cX6_refresh 0 = .ok (.iload_n 1, 1) := by decide +kernel
theorem dX6_refresh_1 : decode cX6_refresh 1 = .ok (.istore_n 2, 1) := by decide +kernel
theorem dX6_refresh_2 : decode cX6_refresh 2 = .ok (.iconst 0, 1) := by decide +kernel
theorem dX6_refresh_3 : decode cX6_refresh 3 = .ok (.istore_n 3, 1) := by decide +kernel
theorem dX6_refresh_4 : decode cX6_refresh 4 = .ok (.iload_n 3, 1) := by decide +kernel
theorem dX6_refresh_5 : decode cX6_refresh 5 = .ok (.bipush 8, 2) := by decide +kernel
theorem dX6_refresh_7 : decode cX6_refresh 7 = .ok (.if_icmp .ge 79, 3) := by decide +kernel
theorem dX6_refresh_10 : decode cX6_refresh 10 = .ok (.iload_n 2, 1) := by decide +kernel
theorem dX6_refresh_11 : decode cX6_refresh 11 = .ok (.iconst (-1), 1) := by decide +kernel
theorem dX6_refresh_12 : decode cX6_refresh 12 = .ok (.if_icmp .eq 74, 3) := by decide +kernel
theorem dX6_refresh_15 : decode cX6_refresh 15 = .ok (.aload_n 0, 1) := by decide +kernel
theorem dX6_refresh_16 : decode cX6_refresh 16 = .ok (.iload_n 2, 1) := by decide +kernel
theorem dX6_refresh_17 : decode cX6_refresh 17 = .ok (.invokevirtual 68, 3) := by decide +kernel
theorem dX6_refresh_20 : decode cX6_refresh 20 = .ok (.istore 4, 2) := by decide +kernel
theorem dX6_refresh_22 : decode cX6_refresh 22 = .ok (.iconst (-1), 1) := by decide +kernel
theorem dX6_refresh_23 : decode cX6_refresh 23 = .ok (.istore 5, 2) := by decide +kernel
theorem dX6_refresh_25 : decode cX6_refresh 25 = .ok (.iconst 0, 1) := by decide +kernel
theorem dX6_refresh_26 : decode cX6_refresh 26 = .ok (.istore 6, 2) := by decide +kernel
theorem dX6_refresh_28 : decode cX6_refresh 28 = .ok (.iload 6, 2) := by decide +kernel
theorem dX6_refresh_30 : decode cX6_refresh 30 = .ok (.aload_n 0, 1) := by decide +kernel
theorem dX6_refresh_31 : decode cX6_refresh 31 = .ok (.iload_n 2, 1) := by decide +kernel
theorem dX6_refresh_32 : decode cX6_refresh 32 = .ok (.invokevirtual 71, 3) := by decide +kernel
theorem dX6_refresh_35 : decode cX6_refresh 35 = .ok (.if_icmp .ge 29, 3) := by decide +kernel
theorem dX6_refresh_38 : decode cX6_refresh 38 = .ok (.iload 5, 2) := by decide +kernel
theorem dX6_refresh_40 : decode cX6_refresh 40 = .ok (.aload_n 0, 1) := by decide +kernel
theorem dX6_refresh_41 : decode cX6_refresh 41 = .ok (.aload_n 0, 1) := by decide +kernel
theorem dX6_refresh_42 : decode cX6_refresh 42 = .ok (.iload_n 2, 1) := by decide +kernel
theorem dX6_refresh_43 : decode cX6_refresh 43 = .ok (.iload 6, 2) := by decide +kernel
theorem dX6_refresh_45 : decode cX6_refresh 45 = .ok (.invokevirtual 74, 3) := by decide +kernel
theorem dX6_refresh_48 : decode cX6_refresh 48 = .ok (.iload 4, 2) := by decide +kernel
theorem dX6_refresh_50 : decode cX6_refresh 50 = .ok (.invokevirtual 82, 3) := by decide +kernel
theorem dX6_refresh_53 : decode cX6_refresh 53 = .ok (.invokestatic 97, 3) := by decide +kernel
theorem dX6_refresh_56 : decode cX6_refresh 56 = .ok (.istore 5, 2) := by decide +kernel
theorem dX6_refresh_58 : decode cX6_refresh 58 = .ok (.iinc 6 1, 3) := by decide +kernel
theorem dX6_refresh_61 : decode cX6_refresh 61 = .ok (.goto (-33), 3) := by decide +kernel
theorem dX6_refresh_64 : decode cX6_refresh 64 = .ok (.aload_n 0, 1) := by decide +kernel
theorem dX6_refresh_65 : decode cX6_refresh 65 = .ok (.getfield 24, 3) := by decide +kernel
theorem dX6_refresh_68 : decode cX6_refresh 68 = .ok (.iload_n 2, 1) := by decide +kernel
theorem dX6_refresh_69 : decode cX6_refresh 69 = .ok (.iload 5, 2) := by decide +kernel
theorem dX6_refresh_71 : decode cX6_refresh 71 = .ok (.invokestatic 100, 3) := by decide +kernel
theorem dX6_refresh_74 : decode cX6_refresh 74 = .ok (.aload_n 0, 1) := by decide +kernel
theorem dX6_refresh_75 : decode cX6_refresh 75 = .ok (.iload_n 2, 1) := by decide +kernel
theorem dX6_refresh_76 : decode cX6_refresh 76 = .ok (.invokevirtual 104, 3) := by decide +kernel
theorem dX6_refresh_79 : decode cX6_refresh 79 = .ok (.istore_n 2, 1) := by decide +kernel
theorem dX6_refresh_80 : decode cX6_refresh 80 = .ok (.iinc 3 1, 3) := by decide +kernel
theorem dX6_refresh_83 : decode cX6_refresh 83 = .ok (.goto (-79), 3) := by decide +kernel
theorem dX6_refresh_86 : decode cX6_refresh 86 = .ok (.return_, 1) := by decide +kernel
theorem dX6_newNode_0 : decode cX6_newNode 0 = .ok (.iconst 0, 1) := by decide +kernel
theorem dX6_newNode_1 : decode cX6_newNode 1 = .ok (.istore_n 2, 1) := by decide +kernel
theorem dX6_newNode_2 : decode cX6_newNode 2 = .ok (.iload_n 2, 1) := by decide +kernel
theorem dX6_newNode_3 : decode cX6_newNode 3 = .ok (.bipush 32, 2) := by decide +kernel
theorem dX6_newNode_5 : decode cX6_newNode 5 = .ok (.if_icmp .ge 29, 3) := by decide +kernel
theorem dX6_newNode_8 : decode cX6_newNode 8 = .ok (.aload_n 0, 1) := by decide +kernel
theorem dX6_newNode_9 : decode cX6_newNode 9 = .ok (.iload_n 2, 1) := by decide +kernel
theorem dX6_newNode_10 : decode cX6_newNode 10 = .ok (.invokevirtual 68, 3) := by decide +kernel
theorem dX6_newNode_13 : decode cX6_newNode 13 = .ok (.iconst (-1), 1) := by decide +kernel
theorem dX6_newNode_14 : decode cX6_newNode 14 = .ok (.if_icmp .ne 14, 3) := by decide +kernel
theorem dX6_newNode_17 : decode cX6_newNode 17 = .ok (.aload_n 0, 1) := by decide +kernel
theorem dX6_newNode_18 : decode cX6_newNode 18 = .ok (.getfield 18, 3) := by decide +kernel
theorem dX6_newNode_21 : decode cX6_newNode 21 = .ok (.iload_n 2, 1) := by decide +kernel
theorem dX6_newNode_22 : decode cX6_newNode 22 = .ok (.iload_n 1, 1) := by decide +kernel
theorem dX6_newNode_23 : decode cX6_newNode 23 = .ok (.invokestatic 100, 3) := by decide +kernel
theorem dX6_newNode_26 : decode cX6_newNode 26 = .ok (.iload_n 2, 1) := by decide +kernel
theorem dX6_newNode_27 : decode cX6_newNode 27 = .ok (.ireturn, 1) := by decide +kernel
theorem dX6_newNode_28 : decode cX6_newNode 28 = .ok (.iinc 2 1, 3) := by decide +kernel
theorem dX6_newNode_31 : decode cX6_newNode 31 = .ok (.goto (-29), 3) := by decide +kernel
theorem dX6_newNode_34 : decode cX6_newNode 34 = .ok (.iconst (-1), 1) := by decide +kernel
theorem dX6_newNode_35 : decode cX6_newNode 35 = .ok (.ireturn, 1) := by decide +kernel
theorem dX6_clearRow_0 : decode cX6_clearRow 0 = .ok (.aload_n 0, 1) := by decide +kernel
theorem dX6_clearRow_1 : decode cX6_clearRow 1 = .ok (.iload_n 1, 1) := by decide +kernel
theorem dX6_clearRow_2 : decode cX6_clearRow 2 = .ok (.invokevirtual 71, 3) := by decide +kernel
theorem dX6_clearRow_5 : decode cX6_clearRow 5 = .ok (.iconst 1, 1) := by decide +kernel
theorem dX6_clearRow_6 : decode cX6_clearRow 6 = .ok (.isub, 1) := by decide +kernel
theorem dX6_clearRow_7 : decode cX6_clearRow 7 = .ok (.istore_n 2, 1) := by decide +kernel
theorem dX6_clearRow_8 : decode cX6_clearRow 8 = .ok (.iload_n 2, 1) := by decide +kernel
theorem dX6_clearRow_9 : decode cX6_clearRow 9 = .ok (.ifCond .lt 15, 3) := by decide +kernel
theorem dX6_clearRow_12 : decode cX6_clearRow 12 = .ok (.aload_n 0, 1) := by decide +kernel
theorem dX6_clearRow_13 : decode cX6_clearRow 13 = .ok (.iload_n 1, 1) := by decide +kernel
theorem dX6_clearRow_14 : decode cX6_clearRow 14 = .ok (.iload_n 2, 1) := by decide +kernel
theorem dX6_clearRow_15 : decode cX6_clearRow 15 = .ok (.invokevirtual 107, 3) := by decide +kernel
theorem dX6_clearRow_18 : decode cX6_clearRow 18 = .ok (.iinc 2 (-1), 3) := by decide +kernel
theorem dX6_clearRow_21 : decode cX6_clearRow 21 = .ok (.goto (-13), 3) := by decide +kernel
theorem dX6_clearRow_24 : decode cX6_clearRow 24 = .ok (.return_, 1) := by decide +kernel
theorem dX6_drop_0 : decode cX6_drop 0 = .ok (.aload_n 0, 1) := by decide +kernel
theorem dX6_drop_1 : decode cX6_drop 1 = .ok (.iload_n 1, 1) := by decide +kernel
theorem dX6_drop_2 : decode cX6_drop 2 = .ok (.invokevirtual 111, 3) := by decide +kernel
theorem dX6_drop_5 : decode cX6_drop 5 = .ok (.aload_n 0, 1) := by decide +kernel
theorem dX6_drop_6 : decode cX6_drop 6 = .ok (.getfield 18, 3) := by decide +kernel
theorem dX6_drop_9 : decode cX6_drop 9 = .ok (.iload_n 1, 1) := by decide +kernel
theorem dX6_drop_10 : decode cX6_drop 10 = .ok (.iconst (-1), 1) := by decide +kernel
theorem dX6_drop_11 : decode cX6_drop 11 = .ok (.invokestatic 100, 3) := by decide +kernel
theorem dX6_drop_14 : decode cX6_drop 14 = .ok (.aload_n 0, 1) := by decide +kernel
theorem dX6_drop_15 : decode cX6_drop 15 = .ok (.getfield 24, 3) := by decide +kernel
theorem dX6_drop_18 : decode cX6_drop 18 = .ok (.iload_n 1, 1) := by decide +kernel
theorem dX6_drop_19 : decode cX6_drop 19 = .ok (.iconst (-1), 1) := by decide +kernel
theorem dX6_drop_20 : decode cX6_drop 20 = .ok (.invokestatic 100, 3) := by decide +kernel
theorem dX6_drop_23 : decode cX6_drop 23 = .ok (.aload_n 0, 1) := by decide +kernel
theorem dX6_drop_24 : decode cX6_drop 24 = .ok (.getfield 27, 3) := by decide +kernel
theorem dX6_drop_27 : decode cX6_drop 27 = .ok (.iload_n 1, 1) := by decide +kernel
theorem dX6_drop_28 : decode cX6_drop 28 = .ok (.iconst (-1), 1) := by decide +kernel
theorem dX6_drop_29 : decode cX6_drop 29 = .ok (.invokestatic 100, 3) := by decide +kernel
theorem dX6_drop_32 : decode cX6_drop 32 = .ok (.return_, 1) := by decide +kernel
theorem dX6_raiseRoot_0 : decode cX6_raiseRoot 0 = .ok (.aload_n 0, 1) := by decide +kernel
theorem dX6_raiseRoot_1 : decode cX6_raiseRoot 1 = .ok (.getfield 43, 3) := by decide +kernel
theorem dX6_raiseRoot_4 : decode cX6_raiseRoot 4 = .ok (.istore_n 1, 1) := by decide +kernel
theorem dX6_raiseRoot_5 : decode cX6_raiseRoot 5 = .ok (.aload_n 0, 1) := by decide +kernel
theorem dX6_raiseRoot_6 : decode cX6_raiseRoot 6 = .ok (.aload_n 0, 1) := by decide +kernel
theorem dX6_raiseRoot_7 : decode cX6_raiseRoot 7 = .ok (.aload_n 0, 1) := by decide +kernel
theorem dX6_raiseRoot_8 : decode cX6_raiseRoot 8 = .ok (.iload_n 1, 1) := by decide +kernel
theorem dX6_raiseRoot_9 : decode cX6_raiseRoot 9 = .ok (.invokevirtual 68, 3) := by decide +kernel
theorem dX6_raiseRoot_12 : decode cX6_raiseRoot 12 = .ok (.iconst 1, 1) := by decide +kernel
theorem dX6_raiseRoot_13 : decode cX6_raiseRoot 13 = .ok (.iadd, 1) := by decide +kernel
theorem dX6_raiseRoot_14 : decode cX6_raiseRoot 14 = .ok (.invokevirtual 39, 3) := by decide +kernel
theorem dX6_raiseRoot_17 : decode cX6_raiseRoot 17 = .ok (.putfield 43, 3) := by decide +kernel
theorem dX6_raiseRoot_20 : decode cX6_raiseRoot 20 = .ok (.aload_n 0, 1) := by decide +kernel
theorem dX6_raiseRoot_21 : decode cX6_raiseRoot 21 = .ok (.aload_n 0, 1) := by decide +kernel
theorem dX6_raiseRoot_22 : decode cX6_raiseRoot 22 = .ok (.getfield 43, 3) := by decide +kernel
theorem dX6_raiseRoot_25 : decode cX6_raiseRoot 25 = .ok (.iconst 0, 1) := by decide +kernel
theorem dX6_raiseRoot_26 : decode cX6_raiseRoot 26 = .ok (.iload_n 1, 1) := by decide +kernel
theorem dX6_raiseRoot_27 : decode cX6_raiseRoot 27 = .ok (.invokevirtual 115, 3) := by decide +kernel
theorem dX6_raiseRoot_30 : decode cX6_raiseRoot 30 = .ok (.return_, 1) := by decide +kernel
theorem dX6_lowerRoot_0 : decode cX6_lowerRoot 0 = .ok (.iconst 0, 1) := by decide +kernel
theorem dX6_lowerRoot_1 : decode cX6_lowerRoot 1 = .ok (.istore_n 1, 1) := by decide +kernel
theorem dX6_lowerRoot_2 : decode cX6_lowerRoot 2 = .ok (.iload_n 1, 1) := by decide +kernel
theorem dX6_lowerRoot_3 : decode cX6_lowerRoot 3 = .ok (.bipush 8, 2) := by decide +kernel
theorem dX6_lowerRoot_5 : decode cX6_lowerRoot 5 = .ok (.if_icmp .ge 52, 3) := by decide +kernel
theorem dX6_lowerRoot_8 : decode cX6_lowerRoot 8 = .ok (.aload_n 0, 1) := by decide +kernel
theorem dX6_lowerRoot_9 : decode cX6_lowerRoot 9 = .ok (.aload_n 0, 1) := by decide +kernel
theorem dX6_lowerRoot_10 : decode cX6_lowerRoot 10 = .ok (.getfield 43, 3) := by decide +kernel
theorem dX6_lowerRoot_13 : decode cX6_lowerRoot 13 = .ok (.invokevirtual 68, 3) := by decide +kernel
theorem dX6_lowerRoot_16 : decode cX6_lowerRoot 16 = .ok (.ifCond .le 41, 3) := by decide +kernel
theorem dX6_lowerRoot_19 : decode cX6_lowerRoot 19 = .ok (.aload_n 0, 1) := by decide +kernel
theorem dX6_lowerRoot_20 : decode cX6_lowerRoot 20 = .ok (.aload_n 0, 1) := by decide +kernel
theorem dX6_lowerRoot_21 : decode cX6_lowerRoot 21 = .ok (.getfield 43, 3) := by decide +kernel
theorem dX6_lowerRoot_24 : decode cX6_lowerRoot 24 = .ok (.invokevirtual 71, 3) := by decide +kernel
theorem dX6_lowerRoot_27 : decode cX6_lowerRoot 27 = .ok (.iconst 1, 1) := by decide +kernel
theorem dX6_lowerRoot_28 : decode cX6_lowerRoot 28 = .ok (.if_icmp .ne 29, 3) := by decide +kernel
theorem dX6_lowerRoot_31 : decode cX6_lowerRoot 31 = .ok (.aload_n 0, 1) := by decide +kernel
theorem dX6_lowerRoot_32 : decode cX6_lowerRoot 32 = .ok (.getfield 43, 3) := by decide +kernel
theorem dX6_lowerRoot_35 : decode cX6_lowerRoot 35 = .ok (.istore_n 2, 1) := by decide +kernel
theorem dX6_lowerRoot_36 : decode cX6_lowerRoot 36 = .ok (.aload_n 0, 1) := by decide +kernel
theorem dX6_lowerRoot_37 : decode cX6_lowerRoot 37 = .ok (.aload_n 0, 1) := by decide +kernel
theorem dX6_lowerRoot_38 : decode cX6_lowerRoot 38 = .ok (.iload_n 2, 1) := by decide +kernel
theorem dX6_lowerRoot_39 : decode cX6_lowerRoot 39 = .ok (.iconst 0, 1) := by decide +kernel
theorem dX6_lowerRoot_40 : decode cX6_lowerRoot 40 = .ok (.invokevirtual 74, 3) := by decide +kernel
theorem dX6_lowerRoot_43 : decode cX6_lowerRoot 43 = .ok (.putfield 43, 3) := by decide +kernel
theorem dX6_lowerRoot_46 : decode cX6_lowerRoot 46 = .ok (.aload_n 0, 1) := by decide +kernel
theorem dX6_lowerRoot_47 : decode cX6_lowerRoot 47 = .ok (.iload_n 2, 1) := by decide +kernel
theorem dX6_lowerRoot_48 : decode cX6_lowerRoot 48 = .ok (.invokevirtual 119, 3) := by decide +kernel
theorem dX6_lowerRoot_51 : decode cX6_lowerRoot 51 = .ok (.iinc 1 1, 3) := by decide +kernel
theorem dX6_lowerRoot_54 : decode cX6_lowerRoot 54 = .ok (.goto (-52), 3) := by decide +kernel
theorem dX6_lowerRoot_57 : decode cX6_lowerRoot 57 = .ok (.return_, 1) := by decide +kernel
end
section
theorem dX7_init_0 : decode cX7_init 0 = .ok (.aload_n 0, 1) := by decide +kernel
theorem dX7_init_1 : decode cX7_init 1 = .ok (.invokespecial 3, 3) := by decide +kernel
theorem dX7_init_4 : decode cX7_init 4 = .ok (.aload_n 0, 1) := by decide +kernel
theorem dX7_init_5 : decode cX7_init 5 = .ok (.new 9, 3) := by decide +kernel
theorem dX7_init_8 : decode cX7_init 8 = .ok (.dup, 1) := by decide +kernel
theorem dX7_init_9 : decode cX7_init 9 = .ok (.invokespecial 11, 3) := by decide +kernel
theorem dX7_init_12 : decode cX7_init 12 = .ok (.putfield 12, 3) := by decide +kernel
theorem dX7_init_15 : decode cX7_init 15 = .ok (.aload_n 0, 1) := by decide +kernel
theorem dX7_init_16 : decode cX7_init 16 = .ok (.new 16, 3) := by decide +kernel
theorem dX7_init_19 : decode cX7_init 19 = .ok (.dup, 1) := by decide +kernel
theorem dX7_init_20 : decode cX7_init 20 = .ok (.aload_n 0, 1) := by decide +kernel
theorem dX7_init_21 : decode cX7_init 21 = .ok (.getfield 12, 3) := by decide +kernel
theorem dX7_init_24 : decode cX7_init 24 = .ok (.invokespecial 18, 3) := by decide +kernel
theorem dX7_init_27 : decode cX7_init 27 = .ok (.putfield 21, 3) := by decide +kernel
theorem dX7_init_30 : decode cX7_init 30 = .ok (.aload_n 0, 1) := by decide +kernel
theorem dX7_init_31 : decode cX7_init 31 = .ok (.new 25, 3) := by decide +kernel
theorem dX7_init_34 : decode cX7_init 34 = .ok (.dup, 1) := by decide +kernel
theorem dX7_init_35 : decode cX7_init 35 = .ok (.aload_n 0, 1) := by decide +kernel
theorem dX7_init_36 : decode cX7_init 36 = .ok (.getfield 12, 3) := by decide +kernel
theorem dX7_init_39 : decode cX7_init 39 = .ok (.aload_n 0, 1) := by decide +kernel
theorem dX7_init_40 : decode cX7_init 40 = .ok (.getfield 21, 3) := by decide +kernel
theorem dX7_init_43 : decode cX7_init 43 = .ok (.invokespecial 27, 3) := by decide +kernel
theorem dX7_init_46 : decode cX7_init 46 = .ok (.putfield 30, 3) := by decide +kernel
theorem dX7_init_49 : decode cX7_init 49 = .ok (.aload_n 0, 1) := by decide +kernel
theorem dX7_init_50 : decode cX7_init 50 = .ok (.new 9, 3) := by decide +kernel
theorem dX7_init_53 : decode cX7_init 53 = .ok (.dup, 1) := by decide +kernel
theorem dX7_init_54 : decode cX7_init 54 = .ok (.invokespecial 11, 3) := by decide +kernel
theorem dX7_init_57 : decode cX7_init 57 = .ok (.putfield 34, 3) := by decide +kernel
theorem dX7_init_60 : decode cX7_init 60 = .ok (.aload_n 0, 1) := by decide +kernel
theorem dX7_init_61 : decode cX7_init 61 = .ok (.new 16, 3) := by decide +kernel
theorem dX7_init_64 : decode cX7_init 64 = .ok (.dup, 1) := by decide +kernel
theorem dX7_init_65 : decode cX7_init 65 = .ok (.aload_n 0, 1) := by decide +kernel
theorem dX7_init_66 : decode cX7_init 66 = .ok (.getfield 34, 3) := by decide +kernel
theorem dX7_init_69 : decode cX7_init 69 = .ok (.invokespecial 18, 3) := by decide +kernel
theorem dX7_init_72 : decode cX7_init 72 = .ok (.putfield 37, 3) := by decide +kernel
theorem dX7_init_75 : decode cX7_init 75 = .ok (.aload_n 0, 1) := by decide +kernel
theorem dX7_init_76 : decode cX7_init 76 = .ok (.new 25, 3) := by decide +kernel
theorem dX7_init_79 : decode cX7_init 79 = .ok (.dup, 1) := by decide +kernel
theorem dX7_init_80 : decode cX7_init 80 = .ok (.aload_n 0, 1) := by decide +kernel
theorem dX7_init_81 : decode cX7_init 81 = .ok (.getfield 34, 3) := by decide +kernel
theorem dX7_init_84 : decode cX7_init 84 = .ok (.aload_n 0, 1) := by decide +kernel
theorem dX7_init_85 : decode cX7_init 85 = .ok (.getfield 37, 3) := by decide +kernel
theorem dX7_init_88 : decode cX7_init 88 = .ok (.invokespecial 27, 3) := by decide +kernel
theorem dX7_init_91 : decode cX7_init 91 = .ok (.putfield 40, 3) := by decide +kernel
theorem dX7_init_94 : decode cX7_init 94 = .ok (.aload_n 0, 1) := by decide +kernel
theorem dX7_init_95 : decode cX7_init 95 = .ok (.new 43, 3) := by decide +kernel
theorem dX7_init_98 : decode cX7_init 98 = .ok (.dup, 1) := by decide +kernel
theorem dX7_init_99 : decode cX7_init 99 = .ok (.invokespecial 45, 3) := by decide +kernel
theorem dX7_init_102 : decode cX7_init 102 = .ok (.putfield 46, 3) := by decide +kernel
theorem dX7_init_105 : decode cX7_init 105 = .ok (.aload_n 0, 1) := by decide +kernel
theorem dX7_init_106 : decode cX7_init 106 = .ok (.new 50, 3) := by decide +kernel
theorem dX7_init_109 : decode cX7_init 109 = .ok (.dup, 1) := by decide +kernel
theorem dX7_init_110 : decode cX7_init 110 = .ok (.invokespecial 52, 3) := by decide +kernel
theorem dX7_init_113 : decode cX7_init 113 = .ok (.putfield 53, 3) := by decide +kernel
theorem dX7_init_116 : decode cX7_init 116 = .ok (.aload_n 0, 1) := by decide +kernel
theorem dX7_init_117 : decode cX7_init 117 = .ok (.bipush 31, 2) := by decide +kernel
theorem dX7_init_119 : decode cX7_init 119 = .ok (.newarray .int, 2) := by decide +kernel
theorem dX7_init_121 : decode cX7_init 121 = .ok (.putfield 57, 3) := by decide +kernel
theorem dX7_init_124 : decode cX7_init 124 = .ok (.return_, 1) := by decide +kernel
theorem dX7_put_0 : decode cX7_put 0 = .ok (.iload_n 1, 1) := by decide +kernel
theorem dX7_put_1 : decode cX7_put 1 = .ok (.invokestatic 61, 3) := by decide +kernel
theorem dX7_put_4 : decode cX7_put 4 = .ok (.ifCond .eq 15, 3) := by decide +kernel
theorem dX7_put_7 : decode cX7_put 7 = .ok (.iload_n 2, 1) := by decide +kernel
theorem dX7_put_8 : decode cX7_put 8 = .ok (.iload_n 3, 1) := by decide +kernel
theorem dX7_put_9 : decode cX7_put 9 = .ok (.iload 4, 2) := by decide +kernel
theorem dX7_put_11 : decode cX7_put 11 = .ok (.iload 5, 2) := by decide +kernel
theorem dX7_put_13 : decode cX7_put 13 = .ok (.invokestatic 65, 3) := by decide +kernel
theorem dX7_put_16 : decode cX7_put 16 = .ok (.ifCond .ne 6, 3) := by decide +kernel
theorem dX7_put_19 : decode cX7_put 19 = .ok (.ldc 69, 2) := by decide +kernel
theorem dX7_put_21 : decode cX7_put 21 = .ok (.ireturn, 1) := by decide +kernel
theorem dX7_put_22 : decode cX7_put 22 = .ok (.aload_n 0, 1) := by decide +kernel
theorem dX7_put_23 : decode cX7_put 23 = .ok (.getfield 12, 3) := by decide +kernel
theorem dX7_put_26 : decode cX7_put 26 = .ok (.iload_n 1, 1) := by decide +kernel
theorem dX7_put_27 : decode cX7_put 27 = .ok (.invokevirtual 70, 3) := by decide +kernel
theorem dX7_put_30 : decode cX7_put 30 = .ok (.ifCond .eq 6, 3) := by decide +kernel
theorem dX7_put_33 : decode cX7_put 33 = .ok (.ldc 73, 2) := by decide +kernel
theorem dX7_put_35 : decode cX7_put 35 = .ok (.ireturn, 1) := by decide +kernel
theorem dX7_put_36 : decode cX7_put 36 = .ok (.aload_n 0, 1) := by decide +kernel
theorem dX7_put_37 : decode cX7_put 37 = .ok (.getfield 46, 3) := by decide +kernel
theorem dX7_put_40 : decode cX7_put 40 = .ok (.aload_n 0, 1) := by decide +kernel
theorem dX7_put_41 : decode cX7_put 41 = .ok (.getfield 12, 3) := by decide +kernel
theorem dX7_put_44 : decode cX7_put 44 = .ok (.invokevirtual 74, 3) := by decide +kernel
theorem dX7_put_47 : decode cX7_put 47 = .ok (.aload_n 0, 1) := by decide +kernel
theorem dX7_put_48 : decode cX7_put 48 = .ok (.getfield 30, 3) := by decide +kernel
theorem dX7_put_51 : decode cX7_put 51 = .ok (.iload_n 1, 1) := by decide +kernel
theorem dX7_put_52 : decode cX7_put 52 = .ok (.iload_n 2, 1) := by decide +kernel
theorem dX7_put_53 : decode cX7_put 53 = .ok (.iload_n 3, 1) := by decide +kernel
theorem dX7_put_54 : decode cX7_put 54 = .ok (.iload 4, 2) := by decide +kernel
theorem dX7_put_56 : decode cX7_put 56 = .ok (.iload 5, 2) := by decide +kernel
theorem dX7_put_58 : decode cX7_put 58 = .ok (.invokestatic 77, 3) := by decide +kernel
theorem dX7_put_61 : decode cX7_put 61 = .ok (.invokevirtual 83, 3) := by decide +kernel
theorem dX7_put_64 : decode cX7_put 64 = .ok (.aload_n 0, 1) := by decide +kernel
theorem dX7_put_65 : decode cX7_put 65 = .ok (.getfield 12, 3) := by decide +kernel
theorem dX7_put_68 : decode cX7_put 68 = .ok (.invokevirtual 87, 3) := by decide +kernel
theorem dX7_put_71 : decode cX7_put 71 = .ok (.ireturn, 1) := by decide +kernel
theorem dX7_take_0 : decode cX7_take 0 = .ok (.iload_n 1, 1) := by decide +kernel
theorem dX7_take_1 : decode cX7_take 1 = .ok (.invokestatic 61, 3) := by decide +kernel
theorem dX7_take_4 : decode cX7_take 4 = .ok (.ifCond .ne 6, 3) := by decide +kernel
theorem dX7_take_7 : decode cX7_take 7 = .ok (.ldc 69, 2) := by decide +kernel
theorem dX7_take_9 : decode cX7_take 9 = .ok (.ireturn, 1) := by decide +kernel
theorem dX7_take_10 : decode cX7_take 10 = .ok (.aload_n 0, 1) := by decide +kernel
theorem dX7_take_11 : decode cX7_take 11 = .ok (.getfield 12, 3) := by decide +kernel
theorem dX7_take_14 : decode cX7_take 14 = .ok (.iload_n 1, 1) := by decide +kernel
theorem dX7_take_15 : decode cX7_take 15 = .ok (.invokevirtual 70, 3) := by decide +kernel
theorem dX7_take_18 : decode cX7_take 18 = .ok (.ifCond .ne 6, 3) := by decide +kernel
theorem dX7_take_21 : decode cX7_take 21 = .ok (.ldc 73, 2) := by decide +kernel
theorem dX7_take_23 : decode cX7_take 23 = .ok (.ireturn, 1) := by decide +kernel
theorem dX7_take_24 : decode cX7_take 24 = .ok (.aload_n 0, 1) := by decide +kernel
theorem dX7_take_25 : decode cX7_take 25 = .ok (.getfield 46, 3) := by decide +kernel
theorem dX7_take_28 : decode cX7_take 28 = .ok (.aload_n 0, 1) := by decide +kernel
theorem dX7_take_29 : decode cX7_take 29 = .ok (.getfield 12, 3) := by decide +kernel
theorem dX7_take_32 : decode cX7_take 32 = .ok (.invokevirtual 74, 3) := by decide +kernel
theorem dX7_take_35 : decode cX7_take 35 = .ok (.aload_n 0, 1) := by decide +kernel
theorem dX7_take_36 : decode cX7_take 36 = .ok (.getfield 30, 3) := by decide +kernel
theorem dX7_take_39 : decode cX7_take 39 = .ok (.iload_n 1, 1) := by decide +kernel
theorem dX7_take_40 : decode cX7_take 40 = .ok (.invokevirtual 91, 3) := by decide +kernel
theorem dX7_take_43 : decode cX7_take 43 = .ok (.aload_n 0, 1) := by decide +kernel
theorem dX7_take_44 : decode cX7_take 44 = .ok (.getfield 12, 3) := by decide +kernel
theorem dX7_take_47 : decode cX7_take 47 = .ok (.invokevirtual 87, 3) := by decide +kernel
theorem dX7_take_50 : decode cX7_take 50 = .ok (.ireturn, 1) := by decide +kernel
theorem dX7_boxOf_0 : decode cX7_boxOf 0 = .ok (.iload_n 1, 1) := by decide +kernel
theorem dX7_boxOf_1 : decode cX7_boxOf 1 = .ok (.invokestatic 61, 3) := by decide +kernel
theorem dX7_boxOf_4 : decode cX7_boxOf 4 = .ok (.ifCond .eq 11, 3) := by decide +kernel
theorem dX7_boxOf_7 : decode cX7_boxOf 7 = .ok (.iload_n 2, 1) := by decide +kernel
theorem dX7_boxOf_8 : decode cX7_boxOf 8 = .ok (.iconst 5, 1) := by decide +kernel
theorem dX7_boxOf_9 : decode cX7_boxOf 9 = .ok (.invokestatic 95, 3) := by decide +kernel
theorem dX7_boxOf_12 : decode cX7_boxOf 12 = .ok (.ifCond .ne 6, 3) := by decide +kernel
theorem dX7_boxOf_15 : decode cX7_boxOf 15 = .ok (.ldc 69, 2) := by decide +kernel
theorem dX7_boxOf_17 : decode cX7_boxOf 17 = .ok (.ireturn, 1) := by decide +kernel
theorem dX7_boxOf_18 : decode cX7_boxOf 18 = .ok (.aload_n 0, 1) := by decide +kernel
theorem dX7_boxOf_19 : decode cX7_boxOf 19 = .ok (.getfield 12, 3) := by decide +kernel
theorem dX7_boxOf_22 : decode cX7_boxOf 22 = .ok (.iload_n 1, 1) := by decide +kernel
theorem dX7_boxOf_23 : decode cX7_boxOf 23 = .ok (.invokevirtual 70, 3) := by decide +kernel
theorem dX7_boxOf_26 : decode cX7_boxOf 26 = .ok (.ifCond .ne 6, 3) := by decide +kernel
theorem dX7_boxOf_29 : decode cX7_boxOf 29 = .ok (.ldc 99, 2) := by decide +kernel
theorem dX7_boxOf_31 : decode cX7_boxOf 31 = .ok (.ireturn, 1) := by decide +kernel
theorem dX7_boxOf_32 : decode cX7_boxOf 32 = .ok (.aload_n 0, 1) := by decide +kernel
theorem dX7_boxOf_33 : decode cX7_boxOf 33 = .ok (.getfield 12, 3) := by decide +kernel
theorem dX7_boxOf_36 : decode cX7_boxOf 36 = .ok (.iload_n 1, 1) := by decide +kernel
theorem dX7_boxOf_37 : decode cX7_boxOf 37 = .ok (.invokevirtual 100, 3) := by decide +kernel
theorem dX7_boxOf_40 : decode cX7_boxOf 40 = .ok (.istore_n 3, 1) := by decide +kernel
theorem dX7_boxOf_41 : decode cX7_boxOf 41 = .ok (.iload_n 2, 1) := by decide +kernel
theorem dX7_boxOf_42 : decode cX7_boxOf 42 = .ok (.iconst 4, 1) := by decide +kernel
theorem dX7_boxOf_43 : decode cX7_boxOf 43 = .ok (.if_icmp .ne 12, 3) := by decide +kernel
theorem dX7_boxOf_46 : decode cX7_boxOf 46 = .ok (.aload_n 0, 1) := by decide +kernel
theorem dX7_boxOf_47 : decode cX7_boxOf 47 = .ok (.getfield 21, 3) := by decide +kernel
theorem dX7_boxOf_50 : decode cX7_boxOf 50 = .ok (.iload_n 3, 1) := by decide +kernel
theorem dX7_boxOf_51 : decode cX7_boxOf 51 = .ok (.invokevirtual 104, 3) := by decide +kernel
theorem dX7_boxOf_54 : decode cX7_boxOf 54 = .ok (.ireturn, 1) := by decide +kernel
theorem dX7_boxOf_55 : decode cX7_boxOf 55 = .ok (.iload_n 2, 1) := by decide +kernel
theorem dX7_boxOf_56 : decode cX7_boxOf 56 = .ok (.iconst 5, 1) := by decide +kernel
theorem dX7_boxOf_57 : decode cX7_boxOf 57 = .ok (.if_icmp .ne 15, 3) := by decide +kernel
theorem dX7_boxOf_60 : decode cX7_boxOf 60 = .ok (.aload_n 0, 1) := by decide +kernel
theorem dX7_boxOf_61 : decode cX7_boxOf 61 = .ok (.getfield 12, 3) := by decide +kernel
theorem dX7_boxOf_64 : decode cX7_boxOf 64 = .ok (.iload_n 3, 1) := by decide +kernel
theorem dX7_boxOf_65 : decode cX7_boxOf 65 = .ok (.iload_n 1, 1) := by decide +kernel
theorem dX7_boxOf_66 : decode cX7_boxOf 66 = .ok (.invokevirtual 107, 3) := by decide +kernel
theorem dX7_boxOf_69 : decode cX7_boxOf 69 = .ok (.goto 16, 3) := by decide +kernel
theorem dX7_boxOf_72 : decode cX7_boxOf 72 = .ok (.aload_n 0, 1) := by decide +kernel
theorem dX7_boxOf_73 : decode cX7_boxOf 73 = .ok (.getfield 12, 3) := by decide +kernel
theorem dX7_boxOf_76 : decode cX7_boxOf 76 = .ok (.iload_n 1, 1) := by decide +kernel
theorem dX7_boxOf_77 : decode cX7_boxOf 77 = .ok (.iconst 0, 1) := by decide +kernel
theorem dX7_boxOf_78 : decode cX7_boxOf 78 = .ok (.invokevirtual 111, 3) := by decide +kernel
theorem dX7_boxOf_81 : decode cX7_boxOf 81 = .ok (.iload_n 2, 1) := by decide +kernel
theorem dX7_boxOf_82 : decode cX7_boxOf 82 = .ok (.invokestatic 114, 3) := by decide +kernel
theorem dX7_boxOf_85 : decode cX7_boxOf 85 = .ok (.ireturn, 1) := by decide +kernel
theorem dX7_nodeOf_0 : decode cX7_nodeOf 0 = .ok (.iload_n 1, 1) := by decide +kernel
theorem dX7_nodeOf_1 : decode cX7_nodeOf 1 = .ok (.ifCond .lt 15, 3) := by decide +kernel
theorem dX7_nodeOf_4 : decode cX7_nodeOf 4 = .ok (.iload_n 2, 1) := by decide +kernel
theorem dX7_nodeOf_5 : decode cX7_nodeOf 5 = .ok (.ifCond .lt 11, 3) := by decide +kernel
theorem dX7_nodeOf_8 : decode cX7_nodeOf 8 = .ok (.iload_n 3, 1) := by decide +kernel
theorem dX7_nodeOf_9 : decode cX7_nodeOf 9 = .ok (.iconst 5, 1) := by decide +kernel
theorem dX7_nodeOf_10 : decode cX7_nodeOf 10 = .ok (.invokestatic 95, 3) := by decide +kernel
theorem dX7_nodeOf_13 : decode cX7_nodeOf 13 = .ok (.ifCond .ne 6, 3) := by decide +kernel
theorem dX7_nodeOf_16 : decode cX7_nodeOf 16 = .ok (.ldc 69, 2) := by decide +kernel
theorem dX7_nodeOf_18 : decode cX7_nodeOf 18 = .ok (.ireturn, 1) := by decide +kernel
theorem dX7_nodeOf_19 : decode cX7_nodeOf 19 = .ok (.aload_n 0, 1) := by decide +kernel
theorem dX7_nodeOf_20 : decode cX7_nodeOf 20 = .ok (.getfield 21, 3) := by decide +kernel
theorem dX7_nodeOf_23 : decode cX7_nodeOf 23 = .ok (.iload_n 1, 1) := by decide +kernel
theorem dX7_nodeOf_24 : decode cX7_nodeOf 24 = .ok (.iload_n 2, 1) := by decide +kernel
theorem dX7_nodeOf_25 : decode cX7_nodeOf 25 = .ok (.invokevirtual 117, 3) := by decide +kernel
theorem dX7_nodeOf_28 : decode cX7_nodeOf 28 = .ok (.istore 4, 2) := by decide +kernel
theorem dX7_nodeOf_30 : decode cX7_nodeOf 30 = .ok (.iload 4, 2) := by decide +kernel
theorem dX7_nodeOf_32 : decode cX7_nodeOf 32 = .ok (.iconst (-1), 1) := by decide +kernel
theorem dX7_nodeOf_33 : decode cX7_nodeOf 33 = .ok (.if_icmp .ne 6, 3) := by decide +kernel
theorem dX7_nodeOf_36 : decode cX7_nodeOf 36 = .ok (.ldc 99, 2) := by decide +kernel
theorem dX7_nodeOf_38 : decode cX7_nodeOf 38 = .ok (.ireturn, 1) := by decide +kernel
theorem dX7_nodeOf_39 : decode cX7_nodeOf 39 = .ok (.aload_n 0, 1) := by decide +kernel
theorem dX7_nodeOf_40 : decode cX7_nodeOf 40 = .ok (.getfield 12, 3) := by decide +kernel
theorem dX7_nodeOf_43 : decode cX7_nodeOf 43 = .ok (.iload 4, 2) := by decide +kernel
theorem dX7_nodeOf_45 : decode cX7_nodeOf 45 = .ok (.invokevirtual 120, 3) := by decide +kernel
theorem dX7_nodeOf_48 : decode cX7_nodeOf 48 = .ok (.istore 5, 2) := by decide +kernel
theorem dX7_nodeOf_50 : decode cX7_nodeOf 50 = .ok (.iload_n 3, 1) := by decide +kernel
theorem dX7_nodeOf_51 : decode cX7_nodeOf 51 = .ok (.iconst 4, 1) := by decide +kernel
theorem dX7_nodeOf_52 : decode cX7_nodeOf 52 = .ok (.if_icmp .ne 6, 3) := by decide +kernel
theorem dX7_nodeOf_55 : decode cX7_nodeOf 55 = .ok (.iload 5, 2) := by decide +kernel
theorem dX7_nodeOf_57 : decode cX7_nodeOf 57 = .ok (.ireturn, 1) := by decide +kernel
theorem dX7_nodeOf_58 : decode cX7_nodeOf 58 = .ok (.iload_n 3, 1) := by decide +kernel
theorem dX7_nodeOf_59 : decode cX7_nodeOf 59 = .ok (.iconst 5, 1) := by decide +kernel
theorem dX7_nodeOf_60 : decode cX7_nodeOf 60 = .ok (.if_icmp .ne 37, 3) := by decide +kernel
theorem dX7_nodeOf_63 : decode cX7_nodeOf 63 = .ok (.iload_n 1, 1) := by decide +kernel
theorem dX7_nodeOf_64 : decode cX7_nodeOf 64 = .ok (.ifCond .ne 15, 3) := by decide +kernel
theorem dX7_nodeOf_67 : decode cX7_nodeOf 67 = .ok (.aload_n 0, 1) := by decide +kernel
theorem dX7_nodeOf_68 : decode cX7_nodeOf 68 = .ok (.getfield 12, 3) := by decide +kernel
theorem dX7_nodeOf_71 : decode cX7_nodeOf 71 = .ok (.iload 4, 2) := by decide +kernel
theorem dX7_nodeOf_73 : decode cX7_nodeOf 73 = .ok (.invokevirtual 123, 3) := by decide +kernel
theorem dX7_nodeOf_76 : decode cX7_nodeOf 76 = .ok (.goto 20, 3) := by decide +kernel
theorem dX7_nodeOf_79 : decode cX7_nodeOf 79 = .ok (.aload_n 0, 1) := by decide +kernel
theorem dX7_nodeOf_80 : decode cX7_nodeOf 80 = .ok (.getfield 21, 3) := by decide +kernel
theorem dX7_nodeOf_83 : decode cX7_nodeOf 83 = .ok (.aload_n 0, 1) := by decide +kernel
theorem dX7_nodeOf_84 : decode cX7_nodeOf 84 = .ok (.getfield 12, 3) := by decide +kernel
theorem dX7_nodeOf_87 : decode cX7_nodeOf 87 = .ok (.iload 4, 2) := by decide +kernel
theorem dX7_nodeOf_89 : decode cX7_nodeOf 89 = .ok (.iconst 0, 1) := by decide +kernel
theorem dX7_nodeOf_90 : decode cX7_nodeOf 90 = .ok (.invokevirtual 126, 3) := by decide +kernel
theorem dX7_nodeOf_93 : decode cX7_nodeOf 93 = .ok (.invokevirtual 104, 3) := by decide +kernel
theorem dX7_nodeOf_96 : decode cX7_nodeOf 96 = .ok (.ireturn, 1) := by decide +kernel
theorem dX7_nodeOf_97 : decode cX7_nodeOf 97 = .ok (.iload 5, 2) := by decide +kernel
theorem dX7_nodeOf_99 : decode cX7_nodeOf 99 = .ok (.ifCond .ne 8, 3) := by decide +kernel
theorem dX7_nodeOf_102 : decode cX7_nodeOf 102 = .ok (.ldc 99, 2) := by decide +kernel
theorem dX7_nodeOf_104 : decode cX7_nodeOf 104 = .ok (.goto 19, 3) := by decide +kernel
theorem dX7_nodeOf_107 : decode cX7_nodeOf 107 = .ok (.aload_n 0, 1) := by decide +kernel
theorem dX7_nodeOf_108 : decode cX7_nodeOf 108 = .ok (.getfield 12, 3) := by decide +kernel
theorem dX7_nodeOf_111 : decode cX7_nodeOf 111 = .ok (.iload 4, 2) := by decide +kernel
theorem dX7_nodeOf_113 : decode cX7_nodeOf 113 = .ok (.iload_n 1, 1) := by decide +kernel
theorem dX7_nodeOf_114 : decode cX7_nodeOf 114 = .ok (.iconst 1, 1) := by decide +kernel
theorem dX7_nodeOf_115 : decode cX7_nodeOf 115 = .ok (.iadd, 1) := by decide +kernel
theorem dX7_nodeOf_116 : decode cX7_nodeOf 116 = .ok (.invokevirtual 111, 3) := by decide +kernel
theorem dX7_nodeOf_119 : decode cX7_nodeOf 119 = .ok (.iload_n 3, 1) := by decide +kernel
theorem dX7_nodeOf_120 : decode cX7_nodeOf 120 = .ok (.invokestatic 114, 3) := by decide +kernel
theorem dX7_nodeOf_123 : decode cX7_nodeOf 123 = .ok (.ireturn, 1) := by decide +kernel
theorem dX7_overlaps_0 : decode cX7_overlaps 0 = .ok (.iload_n 1, 1) := by decide +kernel
theorem dX7_overlaps_1 : decode cX7_overlaps 1 = .ok (.ifCond .ge 6, 3) := by decide +kernel
theorem dX7_overlaps_4 : decode cX7_overlaps 4 = .ok (.ldc 69, 2) := by decide +kernel
theorem dX7_overlaps_6 : decode cX7_overlaps 6 = .ok (.ireturn, 1) := by decide +kernel
theorem dX7_overlaps_7 : decode cX7_overlaps 7 = .ok (.iload_n 1, 1) := by decide +kernel
theorem dX7_overlaps_8 : decode cX7_overlaps 8 = .ok (.aload_n 0, 1) := by decide +kernel
theorem dX7_overlaps_9 : decode cX7_overlaps 9 = .ok (.getfield 12, 3) := by decide +kernel
theorem dX7_overlaps_12 : decode cX7_overlaps 12 = .ok (.invokevirtual 87, 3) := by decide +kernel
theorem dX7_overlaps_15 : decode cX7_overlaps 15 = .ok (.if_icmp .ge 14, 3) := by decide +kernel
theorem dX7_overlaps_18 : decode cX7_overlaps 18 = .ok (.aload_n 0, 1) := by decide +kernel
theorem dX7_overlaps_19 : decode cX7_overlaps 19 = .ok (.getfield 21, 3) := by decide +kernel
theorem dX7_overlaps_22 : decode cX7_overlaps 22 = .ok (.iload_n 1, 1) := by decide +kernel
theorem dX7_overlaps_23 : decode cX7_overlaps 23 = .ok (.invokevirtual 129, 3) := by decide +kernel
theorem dX7_overlaps_26 : decode cX7_overlaps 26 = .ok (.goto 5, 3) := by decide +kernel
theorem dX7_overlaps_29 : decode cX7_overlaps 29 = .ok (.ldc 99, 2) := by decide +kernel
theorem dX7_overlaps_31 : decode cX7_overlaps 31 = .ok (.ireturn, 1) := by decide +kernel
theorem dX7_overlap_0 : decode cX7_overlap 0 = .ok (.iload_n 1, 1) := by decide +kernel
theorem dX7_overlap_1 : decode cX7_overlap 1 = .ok (.invokestatic 61, 3) := by decide +kernel
theorem dX7_overlap_4 : decode cX7_overlap 4 = .ok (.ifCond .eq 10, 3) := by decide +kernel
theorem dX7_overlap_7 : decode cX7_overlap 7 = .ok (.iload_n 2, 1) := by decide +kernel
theorem dX7_overlap_8 : decode cX7_overlap 8 = .ok (.invokestatic 61, 3) := by decide +kernel
theorem dX7_overlap_11 : decode cX7_overlap 11 = .ok (.ifCond .ne 6, 3) := by decide +kernel
theorem dX7_overlap_14 : decode cX7_overlap 14 = .ok (.ldc 69, 2) := by decide +kernel
theorem dX7_overlap_16 : decode cX7_overlap 16 = .ok (.ireturn, 1) := by decide +kernel
theorem dX7_overlap_17 : decode cX7_overlap 17 = .ok (.aload_n 0, 1) := by decide +kernel
theorem dX7_overlap_18 : decode cX7_overlap 18 = .ok (.getfield 12, 3) := by decide +kernel
theorem dX7_overlap_21 : decode cX7_overlap 21 = .ok (.iload_n 1, 1) := by decide +kernel
theorem dX7_overlap_22 : decode cX7_overlap 22 = .ok (.invokevirtual 70, 3) := by decide +kernel
theorem dX7_overlap_25 : decode cX7_overlap 25 = .ok (.ifCond .eq 14, 3) := by decide +kernel
theorem dX7_overlap_28 : decode cX7_overlap 28 = .ok (.aload_n 0, 1) := by decide +kernel
theorem dX7_overlap_29 : decode cX7_overlap 29 = .ok (.getfield 12, 3) := by decide +kernel
theorem dX7_overlap_32 : decode cX7_overlap 32 = .ok (.iload_n 2, 1) := by decide +kernel
theorem dX7_overlap_33 : decode cX7_overlap 33 = .ok (.invokevirtual 70, 3) := by decide +kernel
theorem dX7_overlap_36 : decode cX7_overlap 36 = .ok (.ifCond .ne 6, 3) := by decide +kernel
theorem dX7_overlap_39 : decode cX7_overlap 39 = .ok (.ldc 99, 2) := by decide +kernel
theorem dX7_overlap_41 : decode cX7_overlap 41 = .ok (.ireturn, 1) := by decide +kernel
theorem dX7_overlap_42 : decode cX7_overlap 42 = .ok (.aload_n 0, 1) := by decide +kernel
theorem dX7_overlap_43 : decode cX7_overlap 43 = .ok (.getfield 12, 3) := by decide +kernel
theorem dX7_overlap_46 : decode cX7_overlap 46 = .ok (.iload_n 1, 1) := by decide +kernel
theorem dX7_overlap_47 : decode cX7_overlap 47 = .ok (.iconst 0, 1) := by decide +kernel
theorem dX7_overlap_48 : decode cX7_overlap 48 = .ok (.invokevirtual 111, 3) := by decide +kernel
theorem dX7_overlap_51 : decode cX7_overlap 51 = .ok (.aload_n 0, 1) := by decide +kernel
theorem dX7_overlap_52 : decode cX7_overlap 52 = .ok (.getfield 12, 3) := by decide +kernel
theorem dX7_overlap_55 : decode cX7_overlap 55 = .ok (.iload_n 2, 1) := by decide +kernel
theorem dX7_overlap_56 : decode cX7_overlap 56 = .ok (.iconst 0, 1) := by decide +kernel
theorem dX7_overlap_57 : decode cX7_overlap 57 = .ok (.invokevirtual 111, 3) := by decide +kernel
theorem dX7_overlap_60 : decode cX7_overlap 60 = .ok (.invokestatic 132, 3) := by decide +kernel
theorem dX7_overlap_63 : decode cX7_overlap 63 = .ok (.ireturn, 1) := by decide +kernel
theorem dX7_court_0 : decode cX7_court 0 = .ok (.iload_n 1, 1) := by decide +kernel
theorem dX7_court_1 : decode cX7_court 1 = .ok (.ifCond .lt 11, 3) := by decide +kernel
theorem dX7_court_4 : decode cX7_court 4 = .ok (.iload_n 2, 1) := by decide +kernel
theorem dX7_court_5 : decode cX7_court 5 = .ok (.iconst 1, 1) := by decide +kernel
theorem dX7_court_6 : decode cX7_court 6 = .ok (.invokestatic 95, 3) := by decide +kernel
theorem dX7_court_9 : decode cX7_court 9 = .ok (.ifCond .ne 6, 3) := by decide +kernel
theorem dX7_court_12 : decode cX7_court 12 = .ok (.ldc 69, 2) := by decide +kernel
theorem dX7_court_14 : decode cX7_court 14 = .ok (.ireturn, 1) := by decide +kernel
theorem dX7_court_15 : decode cX7_court 15 = .ok (.iload_n 1, 1) := by decide +kernel
theorem dX7_court_16 : decode cX7_court 16 = .ok (.aload_n 0, 1) := by decide +kernel
theorem dX7_court_17 : decode cX7_court 17 = .ok (.getfield 30, 3) := by decide +kernel
theorem dX7_court_20 : decode cX7_court 20 = .ok (.getfield 135, 3) := by decide +kernel
theorem dX7_court_23 : decode cX7_court 23 = .ok (.if_icmp .lt 6, 3) := by decide +kernel
theorem dX7_court_26 : decode cX7_court 26 = .ok (.ldc 99, 2) := by decide +kernel
theorem dX7_court_28 : decode cX7_court 28 = .ok (.ireturn, 1) := by decide +kernel
theorem dX7_court_29 : decode cX7_court 29 = .ok (.iload_n 2, 1) := by decide +kernel
theorem dX7_court_30 : decode cX7_court 30 = .ok (.ifCond .ne 14, 3) := by decide +kernel
theorem dX7_court_33 : decode cX7_court 33 = .ok (.aload_n 0, 1) := by decide +kernel
theorem dX7_court_34 : decode cX7_court 34 = .ok (.getfield 30, 3) := by decide +kernel
theorem dX7_court_37 : decode cX7_court 37 = .ok (.iload_n 1, 1) := by decide +kernel
theorem dX7_court_38 : decode cX7_court 38 = .ok (.invokevirtual 139, 3) := by decide +kernel
theorem dX7_court_41 : decode cX7_court 41 = .ok (.goto 11, 3) := by decide +kernel
theorem dX7_court_44 : decode cX7_court 44 = .ok (.aload_n 0, 1) := by decide +kernel
theorem dX7_court_45 : decode cX7_court 45 = .ok (.getfield 30, 3) := by decide +kernel
theorem dX7_court_48 : decode cX7_court 48 = .ok (.iload_n 1, 1) := by decide +kernel
theorem dX7_court_49 : decode cX7_court 49 = .ok (.invokevirtual 142, 3) := by decide +kernel
theorem dX7_court_52 : decode cX7_court 52 = .ok (.ireturn, 1) := by decide +kernel
theorem dX7_window_0 : decode cX7_window 0 = .ok (.iload_n 1, 1) := by decide +kernel
theorem dX7_window_1 : decode cX7_window 1 = .ok (.iload_n 2, 1) := by decide +kernel
theorem dX7_window_2 : decode cX7_window 2 = .ok (.iload_n 3, 1) := by decide +kernel
theorem dX7_window_3 : decode cX7_window 3 = .ok (.iload 4, 2) := by decide +kernel
theorem dX7_window_5 : decode cX7_window 5 = .ok (.invokestatic 65, 3) := by decide +kernel
theorem dX7_window_8 : decode cX7_window 8 = .ok (.ifCond .eq 12, 3) := by decide +kernel
theorem dX7_window_11 : decode cX7_window 11 = .ok (.iload 5, 2) := by decide +kernel
theorem dX7_window_13 : decode cX7_window 13 = .ok (.iconst 1, 1) := by decide +kernel
theorem dX7_window_14 : decode cX7_window 14 = .ok (.invokestatic 95, 3) := by decide +kernel
theorem dX7_window_17 : decode cX7_window 17 = .ok (.ifCond .ne 6, 3) := by decide +kernel
theorem dX7_window_20 : decode cX7_window 20 = .ok (.ldc 69, 2) := by decide +kernel
theorem dX7_window_22 : decode cX7_window 22 = .ok (.ireturn, 1) := by decide +kernel
theorem dX7_window_23 : decode cX7_window 23 = .ok (.iload_n 1, 1) := by decide +kernel
theorem dX7_window_24 : decode cX7_window 24 = .ok (.iload_n 2, 1) := by decide +kernel
theorem dX7_window_25 : decode cX7_window 25 = .ok (.iload_n 3, 1) := by decide +kernel
theorem dX7_window_26 : decode cX7_window 26 = .ok (.iload 4, 2) := by decide +kernel
theorem dX7_window_28 : decode cX7_window 28 = .ok (.invokestatic 77, 3) := by decide +kernel
theorem dX7_window_31 : decode cX7_window 31 = .ok (.istore 6, 2) := by decide +kernel
theorem dX7_window_33 : decode cX7_window 33 = .ok (.iload 5, 2) := by decide +kernel
theorem dX7_window_35 : decode cX7_window 35 = .ok (.ifCond .ne 15, 3) := by decide +kernel
theorem dX7_window_38 : decode cX7_window 38 = .ok (.aload_n 0, 1) := by decide +kernel
theorem dX7_window_39 : decode cX7_window 39 = .ok (.getfield 12, 3) := by decide +kernel
theorem dX7_window_42 : decode cX7_window 42 = .ok (.iload 6, 2) := by decide +kernel
theorem dX7_window_44 : decode cX7_window 44 = .ok (.invokevirtual 145, 3) := by decide +kernel
theorem dX7_window_47 : decode cX7_window 47 = .ok (.goto 12, 3) := by decide +kernel
theorem dX7_window_50 : decode cX7_window 50 = .ok (.aload_n 0, 1) := by decide +kernel
theorem dX7_window_51 : decode cX7_window 51 = .ok (.getfield 21, 3) := by decide +kernel
theorem dX7_window_54 : decode cX7_window 54 = .ok (.iload 6, 2) := by decide +kernel
theorem dX7_window_56 : decode cX7_window 56 = .ok (.invokevirtual 148, 3) := by decide +kernel
theorem dX7_window_59 : decode cX7_window 59 = .ok (.ireturn, 1) := by decide +kernel
theorem dX7_nearest_0 : decode cX7_nearest 0 = .ok (.iload_n 1, 1) := by decide +kernel
theorem dX7_nearest_1 : decode cX7_nearest 1 = .ok (.invokestatic 151, 3) := by decide +kernel
theorem dX7_nearest_4 : decode cX7_nearest 4 = .ok (.ifCond .eq 23, 3) := by decide +kernel
theorem dX7_nearest_7 : decode cX7_nearest 7 = .ok (.iload_n 2, 1) := by decide +kernel
theorem dX7_nearest_8 : decode cX7_nearest 8 = .ok (.invokestatic 151, 3) := by decide +kernel
theorem dX7_nearest_11 : decode cX7_nearest 11 = .ok (.ifCond .eq 16, 3) := by decide +kernel
theorem dX7_nearest_14 : decode cX7_nearest 14 = .ok (.iload_n 3, 1) := by decide +kernel
theorem dX7_nearest_15 : decode cX7_nearest 15 = .ok (.ifCond .lt 12, 3) := by decide +kernel
theorem dX7_nearest_18 : decode cX7_nearest 18 = .ok (.iload 4, 2) := by decide +kernel
theorem dX7_nearest_20 : decode cX7_nearest 20 = .ok (.iconst 2, 1) := by decide +kernel
theorem dX7_nearest_21 : decode cX7_nearest 21 = .ok (.invokestatic 95, 3) := by decide +kernel
theorem dX7_nearest_24 : decode cX7_nearest 24 = .ok (.ifCond .ne 6, 3) := by decide +kernel
theorem dX7_nearest_27 : decode cX7_nearest 27 = .ok (.ldc 69, 2) := by decide +kernel
theorem dX7_nearest_29 : decode cX7_nearest 29 = .ok (.ireturn, 1) := by decide +kernel
theorem dX7_nearest_30 : decode cX7_nearest 30 = .ok (.aload_n 0, 1) := by decide +kernel
theorem dX7_nearest_31 : decode cX7_nearest 31 = .ok (.iload_n 1, 1) := by decide +kernel
theorem dX7_nearest_32 : decode cX7_nearest 32 = .ok (.iload_n 2, 1) := by decide +kernel
theorem dX7_nearest_33 : decode cX7_nearest 33 = .ok (.iload_n 3, 1) := by decide +kernel
theorem dX7_nearest_34 : decode cX7_nearest 34 = .ok (.invokevirtual 154, 3) := by decide +kernel
theorem dX7_nearest_37 : decode cX7_nearest 37 = .ok (.istore 5, 2) := by decide +kernel
theorem dX7_nearest_39 : decode cX7_nearest 39 = .ok (.iload 5, 2) := by decide +kernel
theorem dX7_nearest_41 : decode cX7_nearest 41 = .ok (.iconst (-1), 1) := by decide +kernel
theorem dX7_nearest_42 : decode cX7_nearest 42 = .ok (.if_icmp .ne 6, 3) := by decide +kernel
theorem dX7_nearest_45 : decode cX7_nearest 45 = .ok (.ldc 99, 2) := by decide +kernel
theorem dX7_nearest_47 : decode cX7_nearest 47 = .ok (.ireturn, 1) := by decide +kernel
theorem dX7_nearest_48 : decode cX7_nearest 48 = .ok (.iload 4, 2) := by decide +kernel
theorem dX7_nearest_50 : decode cX7_nearest 50 = .ok (.ifCond .ne 6, 3) := by decide +kernel
theorem dX7_nearest_53 : decode cX7_nearest 53 = .ok (.iload 5, 2) := by decide +kernel
theorem dX7_nearest_55 : decode cX7_nearest 55 = .ok (.ireturn, 1) := by decide +kernel
theorem dX7_nearest_56 : decode cX7_nearest 56 = .ok (.aload_n 0, 1) := by decide +kernel
theorem dX7_nearest_57 : decode cX7_nearest 57 = .ok (.getfield 12, 3) := by decide +kernel
theorem dX7_nearest_60 : decode cX7_nearest 60 = .ok (.iload 5, 2) := by decide +kernel
theorem dX7_nearest_62 : decode cX7_nearest 62 = .ok (.iconst 0, 1) := by decide +kernel
theorem dX7_nearest_63 : decode cX7_nearest 63 = .ok (.invokevirtual 111, 3) := by decide +kernel
theorem dX7_nearest_66 : decode cX7_nearest 66 = .ok (.iload_n 1, 1) := by decide +kernel
theorem dX7_nearest_67 : decode cX7_nearest 67 = .ok (.iload_n 2, 1) := by decide +kernel
theorem dX7_nearest_68 : decode cX7_nearest 68 = .ok (.invokestatic 158, 3) := by decide +kernel
theorem dX7_nearest_71 : decode cX7_nearest 71 = .ok (.istore 6, 2) := by decide +kernel
theorem dX7_nearest_73 : decode cX7_nearest 73 = .ok (.iload 4, 2) := by decide +kernel
theorem dX7_nearest_75 : decode cX7_nearest 75 = .ok (.iconst 1, 1) := by decide +kernel
theorem dX7_nearest_76 : decode cX7_nearest 76 = .ok (.if_icmp .ne 8, 3) := by decide +kernel
theorem dX7_nearest_79 : decode cX7_nearest 79 = .ok (.iload 6, 2) := by decide +kernel
theorem dX7_nearest_81 : decode cX7_nearest 81 = .ok (.goto 14, 3) := by decide +kernel
theorem dX7_nearest_84 : decode cX7_nearest 84 = .ok (.aload_n 0, 1) := by decide +kernel
theorem dX7_nearest_85 : decode cX7_nearest 85 = .ok (.getfield 21, 3) := by decide +kernel
theorem dX7_nearest_88 : decode cX7_nearest 88 = .ok (.iload_n 1, 1) := by decide +kernel
theorem dX7_nearest_89 : decode cX7_nearest 89 = .ok (.iload_n 2, 1) := by decide +kernel
theorem dX7_nearest_90 : decode cX7_nearest 90 = .ok (.iload 6, 2) := by decide +kernel
theorem dX7_nearest_92 : decode cX7_nearest 92 = .ok (.invokevirtual 161, 3) := by decide +kernel
theorem dX7_nearest_95 : decode cX7_nearest 95 = .ok (.ireturn, 1) := by decide +kernel
theorem dX7_would_0 : decode cX7_would 0 = .ok (.iload_n 1, 1) := by decide +kernel
theorem dX7_would_1 : decode cX7_would 1 = .ok (.iload_n 2, 1) := by decide +kernel
theorem dX7_would_2 : decode cX7_would 2 = .ok (.iload_n 3, 1) := by decide +kernel
theorem dX7_would_3 : decode cX7_would 3 = .ok (.iload 4, 2) := by decide +kernel
theorem dX7_would_5 : decode cX7_would 5 = .ok (.invokestatic 65, 3) := by decide +kernel
theorem dX7_would_8 : decode cX7_would 8 = .ok (.ifCond .eq 12, 3) := by decide +kernel
theorem dX7_would_11 : decode cX7_would 11 = .ok (.iload 5, 2) := by decide +kernel
theorem dX7_would_13 : decode cX7_would 13 = .ok (.iconst 4, 1) := by decide +kernel
theorem dX7_would_14 : decode cX7_would 14 = .ok (.invokestatic 95, 3) := by decide +kernel
theorem dX7_would_17 : decode cX7_would 17 = .ok (.ifCond .ne 6, 3) := by decide +kernel
theorem dX7_would_20 : decode cX7_would 20 = .ok (.ldc 69, 2) := by decide +kernel
theorem dX7_would_22 : decode cX7_would 22 = .ok (.ireturn, 1) := by decide +kernel
theorem dX7_would_23 : decode cX7_would 23 = .ok (.aload_n 0, 1) := by decide +kernel
theorem dX7_would_24 : decode cX7_would 24 = .ok (.getfield 12, 3) := by decide +kernel
theorem dX7_would_27 : decode cX7_would 27 = .ok (.invokevirtual 164, 3) := by decide +kernel
theorem dX7_would_30 : decode cX7_would 30 = .ok (.istore 6, 2) := by decide +kernel
theorem dX7_would_32 : decode cX7_would 32 = .ok (.iload 6, 2) := by decide +kernel
theorem dX7_would_34 : decode cX7_would 34 = .ok (.iconst (-1), 1) := by decide +kernel
theorem dX7_would_35 : decode cX7_would 35 = .ok (.if_icmp .ne 6, 3) := by decide +kernel
theorem dX7_would_38 : decode cX7_would 38 = .ok (.ldc 73, 2) := by decide +kernel
theorem dX7_would_40 : decode cX7_would 40 = .ok (.ireturn, 1) := by decide +kernel
theorem dX7_would_41 : decode cX7_would 41 = .ok (.iload_n 1, 1) := by decide +kernel
theorem dX7_would_42 : decode cX7_would 42 = .ok (.iload_n 2, 1) := by decide +kernel
theorem dX7_would_43 : decode cX7_would 43 = .ok (.iload_n 3, 1) := by decide +kernel
theorem dX7_would_44 : decode cX7_would 44 = .ok (.iload 4, 2) := by decide +kernel
theorem dX7_would_46 : decode cX7_would 46 = .ok (.invokestatic 77, 3) := by decide +kernel
theorem dX7_would_49 : decode cX7_would 49 = .ok (.istore 7, 2) := by decide +kernel
theorem dX7_would_51 : decode cX7_would 51 = .ok (.aload_n 0, 1) := by decide +kernel
theorem dX7_would_52 : decode cX7_would 52 = .ok (.getfield 12, 3) := by decide +kernel
theorem dX7_would_55 : decode cX7_would 55 = .ok (.iload 7, 2) := by decide +kernel
theorem dX7_would_57 : decode cX7_would 57 = .ok (.iconst 0, 1) := by decide +kernel
theorem dX7_would_58 : decode cX7_would 58 = .ok (.invokevirtual 167, 3) := by decide +kernel
theorem dX7_would_61 : decode cX7_would 61 = .ok (.istore 8, 2) := by decide +kernel
theorem dX7_would_63 : decode cX7_would 63 = .ok (.iload 5, 2) := by decide +kernel
theorem dX7_would_65 : decode cX7_would 65 = .ok (.ifCond .ne 13, 3) := by decide +kernel
theorem dX7_would_68 : decode cX7_would 68 = .ok (.aload_n 0, 1) := by decide +kernel
theorem dX7_would_69 : decode cX7_would 69 = .ok (.getfield 21, 3) := by decide +kernel
theorem dX7_would_72 : decode cX7_would 72 = .ok (.iload 8, 2) := by decide +kernel
theorem dX7_would_74 : decode cX7_would 74 = .ok (.invokevirtual 104, 3) := by decide +kernel
theorem dX7_would_77 : decode cX7_would 77 = .ok (.ireturn, 1) := by decide +kernel
theorem dX7_would_78 : decode cX7_would 78 = .ok (.iload 5, 2) := by decide +kernel
theorem dX7_would_80 : decode cX7_would 80 = .ok (.iconst 1, 1) := by decide +kernel
theorem dX7_would_81 : decode cX7_would 81 = .ok (.if_icmp .ne 22, 3) := by decide +kernel
theorem dX7_would_84 : decode cX7_would 84 = .ok (.aload_n 0, 1) := by decide +kernel
theorem dX7_would_85 : decode cX7_would 85 = .ok (.getfield 12, 3) := by decide +kernel
theorem dX7_would_88 : decode cX7_would 88 = .ok (.iload 8, 2) := by decide +kernel
theorem dX7_would_90 : decode cX7_would 90 = .ok (.invokevirtual 120, 3) := by decide +kernel
theorem dX7_would_93 : decode cX7_would 93 = .ok (.iconst 4, 1) := by decide +kernel
theorem dX7_would_94 : decode cX7_would 94 = .ok (.if_icmp .ge 7, 3) := by decide +kernel
theorem dX7_would_97 : decode cX7_would 97 = .ok (.iconst 0, 1) := by decide +kernel
theorem dX7_would_98 : decode cX7_would 98 = .ok (.goto 4, 3) := by decide +kernel
theorem dX7_would_101 : decode cX7_would 101 = .ok (.iconst 1, 1) := by decide +kernel
theorem dX7_would_102 : decode cX7_would 102 = .ok (.ireturn, 1) := by decide +kernel
theorem dX7_would_103 : decode cX7_would 103 = .ok (.aload_n 0, 1) := by decide +kernel
theorem dX7_would_104 : decode cX7_would 104 = .ok (.getfield 34, 3) := by decide +kernel
theorem dX7_would_107 : decode cX7_would 107 = .ok (.aload_n 0, 1) := by decide +kernel
theorem dX7_would_108 : decode cX7_would 108 = .ok (.getfield 12, 3) := by decide +kernel
theorem dX7_would_111 : decode cX7_would 111 = .ok (.invokevirtual 170, 3) := by decide +kernel
theorem dX7_would_114 : decode cX7_would 114 = .ok (.aload_n 0, 1) := by decide +kernel
theorem dX7_would_115 : decode cX7_would 115 = .ok (.getfield 40, 3) := by decide +kernel
theorem dX7_would_118 : decode cX7_would 118 = .ok (.iload 6, 2) := by decide +kernel
theorem dX7_would_120 : decode cX7_would 120 = .ok (.iload 7, 2) := by decide +kernel
theorem dX7_would_122 : decode cX7_would 122 = .ok (.invokevirtual 83, 3) := by decide +kernel
theorem dX7_would_125 : decode cX7_would 125 = .ok (.iload 5, 2) := by decide +kernel
theorem dX7_would_127 : decode cX7_would 127 = .ok (.iconst 2, 1) := by decide +kernel
theorem dX7_would_128 : decode cX7_would 128 = .ok (.if_icmp .ne 11, 3) := by decide +kernel
theorem dX7_would_131 : decode cX7_would 131 = .ok (.aload_n 0, 1) := by decide +kernel
theorem dX7_would_132 : decode cX7_would 132 = .ok (.getfield 40, 3) := by decide +kernel
theorem dX7_would_135 : decode cX7_would 135 = .ok (.getfield 135, 3) := by decide +kernel
theorem dX7_would_138 : decode cX7_would 138 = .ok (.ireturn, 1) := by decide +kernel
theorem dX7_would_139 : decode cX7_would 139 = .ok (.iload 5, 2) := by decide +kernel
theorem dX7_would_141 : decode cX7_would 141 = .ok (.iconst 3, 1) := by decide +kernel
theorem dX7_would_142 : decode cX7_would 142 = .ok (.if_icmp .ne 13, 3) := by decide +kernel
theorem dX7_would_145 : decode cX7_would 145 = .ok (.aload_n 0, 1) := by decide +kernel
theorem dX7_would_146 : decode cX7_would 146 = .ok (.getfield 34, 3) := by decide +kernel
theorem dX7_would_149 : decode cX7_would 149 = .ok (.invokevirtual 87, 3) := by decide +kernel
theorem dX7_would_152 : decode cX7_would 152 = .ok (.goto 11, 3) := by decide +kernel
theorem dX7_would_155 : decode cX7_would 155 = .ok (.aload_n 0, 1) := by decide +kernel
theorem dX7_would_156 : decode cX7_would 156 = .ok (.getfield 37, 3) := by decide +kernel
theorem dX7_would_159 : decode cX7_would 159 = .ok (.iconst 0, 1) := by decide +kernel
theorem dX7_would_160 : decode cX7_would 160 = .ok (.invokevirtual 129, 3) := by decide +kernel
theorem dX7_would_163 : decode cX7_would 163 = .ok (.ireturn, 1) := by decide +kernel
theorem dX7_wouldTake_0 : decode cX7_wouldTake 0 = .ok (.iload_n 1, 1) := by decide +kernel
theorem dX7_wouldTake_1 : decode cX7_wouldTake 1 = .ok (.invokestatic 61, 3) := by decide +kernel
theorem dX7_wouldTake_4 : decode cX7_wouldTake 4 = .ok (.ifCond .eq 11, 3) := by decide +kernel
theorem dX7_wouldTake_7 : decode cX7_wouldTake 7 = .ok (.iload_n 2, 1) := by decide +kernel
theorem dX7_wouldTake_8 : decode cX7_wouldTake 8 = .ok (.iconst 3, 1) := by decide +kernel
theorem dX7_wouldTake_9 : decode cX7_wouldTake 9 = .ok (.invokestatic 95, 3) := by decide +kernel
theorem dX7_wouldTake_12 : decode cX7_wouldTake 12 = .ok (.ifCond .ne 6, 3) := by decide +kernel
theorem dX7_wouldTake_15 : decode cX7_wouldTake 15 = .ok (.ldc 69, 2) := by decide +kernel
theorem dX7_wouldTake_17 : decode cX7_wouldTake 17 = .ok (.ireturn, 1) := by decide +kernel
theorem dX7_wouldTake_18 : decode cX7_wouldTake 18 = .ok (.aload_n 0, 1) := by decide +kernel
theorem dX7_wouldTake_19 : decode cX7_wouldTake 19 = .ok (.getfield 12, 3) := by decide +kernel
theorem dX7_wouldTake_22 : decode cX7_wouldTake 22 = .ok (.iload_n 1, 1) := by decide +kernel
theorem dX7_wouldTake_23 : decode cX7_wouldTake 23 = .ok (.invokevirtual 70, 3) := by decide +kernel
theorem dX7_wouldTake_26 : decode cX7_wouldTake 26 = .ok (.ifCond .ne 6, 3) := by decide +kernel
theorem dX7_wouldTake_29 : decode cX7_wouldTake 29 = .ok (.ldc 99, 2) := by decide +kernel
theorem dX7_wouldTake_31 : decode cX7_wouldTake 31 = .ok (.ireturn, 1) := by decide +kernel
theorem dX7_wouldTake_32 : decode cX7_wouldTake 32 = .ok (.aload_n 0, 1) := by decide +kernel
theorem dX7_wouldTake_33 : decode cX7_wouldTake 33 = .ok (.getfield 34, 3) := by decide +kernel
theorem dX7_wouldTake_36 : decode cX7_wouldTake 36 = .ok (.aload_n 0, 1) := by decide +kernel
theorem dX7_wouldTake_37 : decode cX7_wouldTake 37 = .ok (.getfield 12, 3) := by decide +kernel
theorem dX7_wouldTake_40 : decode cX7_wouldTake 40 = .ok (.invokevirtual 170, 3) := by decide +kernel
theorem dX7_wouldTake_43 : decode cX7_wouldTake 43 = .ok (.aload_n 0, 1) := by decide +kernel
theorem dX7_wouldTake_44 : decode cX7_wouldTake 44 = .ok (.getfield 40, 3) := by decide +kernel
theorem dX7_wouldTake_47 : decode cX7_wouldTake 47 = .ok (.iload_n 1, 1) := by decide +kernel
theorem dX7_wouldTake_48 : decode cX7_wouldTake 48 = .ok (.invokevirtual 91, 3) := by decide +kernel
theorem dX7_wouldTake_51 : decode cX7_wouldTake 51 = .ok (.iload_n 2, 1) := by decide +kernel
theorem dX7_wouldTake_52 : decode cX7_wouldTake 52 = .ok (.ifCond .ne 19, 3) := by decide +kernel
theorem dX7_wouldTake_55 : decode cX7_wouldTake 55 = .ok (.aload_n 0, 1) := by decide +kernel
theorem dX7_wouldTake_56 : decode cX7_wouldTake 56 = .ok (.getfield 34, 3) := by decide +kernel
theorem dX7_wouldTake_59 : decode cX7_wouldTake 59 = .ok (.getfield 173, 3) := by decide +kernel
theorem dX7_wouldTake_62 : decode cX7_wouldTake 62 = .ok (.aload_n 0, 1) := by decide +kernel
theorem dX7_wouldTake_63 : decode cX7_wouldTake 63 = .ok (.getfield 12, 3) := by decide +kernel
theorem dX7_wouldTake_66 : decode cX7_wouldTake 66 = .ok (.getfield 173, 3) := by decide +kernel
theorem dX7_wouldTake_69 : decode cX7_wouldTake 69 = .ok (.isub, 1) := by decide +kernel
theorem dX7_wouldTake_70 : decode cX7_wouldTake 70 = .ok (.ireturn, 1) := by decide +kernel
theorem dX7_wouldTake_71 : decode cX7_wouldTake 71 = .ok (.iload_n 2, 1) := by decide +kernel
theorem dX7_wouldTake_72 : decode cX7_wouldTake 72 = .ok (.iconst 1, 1) := by decide +kernel
theorem dX7_wouldTake_73 : decode cX7_wouldTake 73 = .ok (.if_icmp .ne 11, 3) := by decide +kernel
theorem dX7_wouldTake_76 : decode cX7_wouldTake 76 = .ok (.aload_n 0, 1) := by decide +kernel
theorem dX7_wouldTake_77 : decode cX7_wouldTake 77 = .ok (.getfield 40, 3) := by decide +kernel
theorem dX7_wouldTake_80 : decode cX7_wouldTake 80 = .ok (.getfield 135, 3) := by decide +kernel
theorem dX7_wouldTake_83 : decode cX7_wouldTake 83 = .ok (.ireturn, 1) := by decide +kernel
theorem dX7_wouldTake_84 : decode cX7_wouldTake 84 = .ok (.iload_n 2, 1) := by decide +kernel
theorem dX7_wouldTake_85 : decode cX7_wouldTake 85 = .ok (.iconst 2, 1) := by decide +kernel
theorem dX7_wouldTake_86 : decode cX7_wouldTake 86 = .ok (.if_icmp .ne 13, 3) := by decide +kernel
theorem dX7_wouldTake_89 : decode cX7_wouldTake 89 = .ok (.aload_n 0, 1) := by decide +kernel
theorem dX7_wouldTake_90 : decode cX7_wouldTake 90 = .ok (.getfield 34, 3) := by decide +kernel
theorem dX7_wouldTake_93 : decode cX7_wouldTake 93 = .ok (.invokevirtual 87, 3) := by decide +kernel
theorem dX7_wouldTake_96 : decode cX7_wouldTake 96 = .ok (.goto 11, 3) := by decide +kernel
theorem dX7_wouldTake_99 : decode cX7_wouldTake 99 = .ok (.aload_n 0, 1) := by decide +kernel
theorem dX7_wouldTake_100 : decode cX7_wouldTake 100 = .ok (.getfield 37, 3) := by decide +kernel
theorem dX7_wouldTake_103 : decode cX7_wouldTake 103 = .ok (.iconst 0, 1) := by decide +kernel
theorem dX7_wouldTake_104 : decode cX7_wouldTake 104 = .ok (.invokevirtual 129, 3) := by decide +kernel
theorem dX7_wouldTake_107 : decode cX7_wouldTake 107 = .ok (.ireturn, 1) := by decide +kernel
theorem dX7_count_0 : decode cX7_count 0 = .ok (.iload_n 1, 1) := by decide +kernel
theorem dX7_count_1 : decode cX7_count 1 = .ok (.tableswitch 150 0 10 #[59, 70, 78, 86, 94, 102, 110, 118, 126, 134, 142], 59) := by decide +kernel
theorem dX7_count_60 : decode cX7_count 60 = .ok (.aload_n 0, 1) := by decide +kernel
theorem dX7_count_61 : decode cX7_count 61 = .ok (.getfield 12, 3) := by decide +kernel
theorem dX7_count_64 : decode cX7_count 64 = .ok (.invokevirtual 176, 3) := by decide +kernel
theorem dX7_count_67 : decode cX7_count 67 = .ok (.invokestatic 179, 3) := by decide +kernel
theorem dX7_count_70 : decode cX7_count 70 = .ok (.ireturn, 1) := by decide +kernel
theorem dX7_count_71 : decode cX7_count 71 = .ok (.aload_n 0, 1) := by decide +kernel
theorem dX7_count_72 : decode cX7_count 72 = .ok (.getfield 12, 3) := by decide +kernel
theorem dX7_count_75 : decode cX7_count 75 = .ok (.invokevirtual 87, 3) := by decide +kernel
theorem dX7_count_78 : decode cX7_count 78 = .ok (.ireturn, 1) := by decide +kernel
theorem dX7_count_79 : decode cX7_count 79 = .ok (.aload_n 0, 1) := by decide +kernel
theorem dX7_count_80 : decode cX7_count 80 = .ok (.getfield 21, 3) := by decide +kernel
theorem dX7_count_83 : decode cX7_count 83 = .ok (.invokevirtual 184, 3) := by decide +kernel
theorem dX7_count_86 : decode cX7_count 86 = .ok (.ireturn, 1) := by decide +kernel
theorem dX7_count_87 : decode cX7_count 87 = .ok (.aload_n 0, 1) := by decide +kernel
theorem dX7_count_88 : decode cX7_count 88 = .ok (.getfield 21, 3) := by decide +kernel
theorem dX7_count_91 : decode cX7_count 91 = .ok (.invokevirtual 187, 3) := by decide +kernel
theorem dX7_count_94 : decode cX7_count 94 = .ok (.ireturn, 1) := by decide +kernel
theorem dX7_count_95 : decode cX7_count 95 = .ok (.aload_n 0, 1) := by decide +kernel
theorem dX7_count_96 : decode cX7_count 96 = .ok (.getfield 30, 3) := by decide +kernel
theorem dX7_count_99 : decode cX7_count 99 = .ok (.getfield 135, 3) := by decide +kernel
theorem dX7_count_102 : decode cX7_count 102 = .ok (.ireturn, 1) := by decide +kernel
theorem dX7_count_103 : decode cX7_count 103 = .ok (.aload_n 0, 1) := by decide +kernel
theorem dX7_count_104 : decode cX7_count 104 = .ok (.getfield 12, 3) := by decide +kernel
theorem dX7_count_107 : decode cX7_count 107 = .ok (.getfield 190, 3) := by decide +kernel
theorem dX7_count_110 : decode cX7_count 110 = .ok (.ireturn, 1) := by decide +kernel
theorem dX7_count_111 : decode cX7_count 111 = .ok (.aload_n 0, 1) := by decide +kernel
theorem dX7_count_112 : decode cX7_count 112 = .ok (.getfield 12, 3) := by decide +kernel
theorem dX7_count_115 : decode cX7_count 115 = .ok (.getfield 191, 3) := by decide +kernel
theorem dX7_count_118 : decode cX7_count 118 = .ok (.ireturn, 1) := by decide +kernel
theorem dX7_count_119 : decode cX7_count 119 = .ok (.aload_n 0, 1) := by decide +kernel
theorem dX7_count_120 : decode cX7_count 120 = .ok (.getfield 12, 3) := by decide +kernel
theorem dX7_count_123 : decode cX7_count 123 = .ok (.getfield 173, 3) := by decide +kernel
theorem dX7_count_126 : decode cX7_count 126 = .ok (.ireturn, 1) := by decide +kernel
theorem dX7_count_127 : decode cX7_count 127 = .ok (.aload_n 0, 1) := by decide +kernel
theorem dX7_count_128 : decode cX7_count 128 = .ok (.getfield 46, 3) := by decide +kernel
theorem dX7_count_131 : decode cX7_count 131 = .ok (.getfield 194, 3) := by decide +kernel
theorem dX7_count_134 : decode cX7_count 134 = .ok (.ireturn, 1) := by decide +kernel
theorem dX7_count_135 : decode cX7_count 135 = .ok (.aload_n 0, 1) := by decide +kernel
theorem dX7_count_136 : decode cX7_count 136 = .ok (.getfield 53, 3) := by decide +kernel
theorem dX7_count_139 : decode cX7_count 139 = .ok (.getfield 197, 3) := by decide +kernel
theorem dX7_count_142 : decode cX7_count 142 = .ok (.ireturn, 1) := by decide +kernel
theorem dX7_count_143 : decode cX7_count 143 = .ok (.aload_n 0, 1) := by decide +kernel
theorem dX7_count_144 : decode cX7_count 144 = .ok (.getfield 21, 3) := by decide +kernel
theorem dX7_count_147 : decode cX7_count 147 = .ok (.invokevirtual 200, 3) := by decide +kernel
theorem dX7_count_150 : decode cX7_count 150 = .ok (.ireturn, 1) := by decide +kernel
theorem dX7_count_151 : decode cX7_count 151 = .ok (.ldc 69, 2) := by decide +kernel
theorem dX7_count_153 : decode cX7_count 153 = .ok (.ireturn, 1) := by decide +kernel
theorem dX7_undo_0 : decode cX7_undo 0 = .ok (.aload_n 0, 1) := by decide +kernel
theorem dX7_undo_1 : decode cX7_undo 1 = .ok (.getfield 46, 3) := by decide +kernel
theorem dX7_undo_4 : decode cX7_undo 4 = .ok (.getfield 194, 3) := by decide +kernel
theorem dX7_undo_7 : decode cX7_undo 7 = .ok (.ifCond .ne 6, 3) := by decide +kernel
theorem dX7_undo_10 : decode cX7_undo 10 = .ok (.ldc 73, 2) := by decide +kernel
theorem dX7_undo_12 : decode cX7_undo 12 = .ok (.ireturn, 1) := by decide +kernel
theorem dX7_undo_13 : decode cX7_undo 13 = .ok (.aload_n 0, 1) := by decide +kernel
theorem dX7_undo_14 : decode cX7_undo 14 = .ok (.getfield 46, 3) := by decide +kernel
theorem dX7_undo_17 : decode cX7_undo 17 = .ok (.aload_n 0, 1) := by decide +kernel
theorem dX7_undo_18 : decode cX7_undo 18 = .ok (.getfield 12, 3) := by decide +kernel
theorem dX7_undo_21 : decode cX7_undo 21 = .ok (.invokevirtual 203, 3) := by decide +kernel
theorem dX7_undo_24 : decode cX7_undo 24 = .ok (.aload_n 0, 1) := by decide +kernel
theorem dX7_undo_25 : decode cX7_undo 25 = .ok (.getfield 46, 3) := by decide +kernel
theorem dX7_undo_28 : decode cX7_undo 28 = .ok (.getfield 194, 3) := by decide +kernel
theorem dX7_undo_31 : decode cX7_undo 31 = .ok (.ireturn, 1) := by decide +kernel
theorem dX7_type_0 : decode cX7_type 0 = .ok (.iload_n 1, 1) := by decide +kernel
theorem dX7_type_1 : decode cX7_type 1 = .ok (.bipush 32, 2) := by decide +kernel
theorem dX7_type_3 : decode cX7_type 3 = .ok (.if_icmp .lt 9, 3) := by decide +kernel
theorem dX7_type_6 : decode cX7_type 6 = .ok (.iload_n 1, 1) := by decide +kernel
theorem dX7_type_7 : decode cX7_type 7 = .ok (.bipush 126, 2) := by decide +kernel
theorem dX7_type_9 : decode cX7_type 9 = .ok (.if_icmp .le 6, 3) := by decide +kernel
theorem dX7_type_12 : decode cX7_type 12 = .ok (.ldc 69, 2) := by decide +kernel
theorem dX7_type_14 : decode cX7_type 14 = .ok (.ireturn, 1) := by decide +kernel
theorem dX7_type_15 : decode cX7_type 15 = .ok (.aload_n 0, 1) := by decide +kernel
theorem dX7_type_16 : decode cX7_type 16 = .ok (.getfield 53, 3) := by decide +kernel
theorem dX7_type_19 : decode cX7_type 19 = .ok (.getfield 197, 3) := by decide +kernel
theorem dX7_type_22 : decode cX7_type 22 = .ok (.bipush 60, 2) := by decide +kernel
theorem dX7_type_24 : decode cX7_type 24 = .ok (.if_icmp .lt 6, 3) := by decide +kernel
theorem dX7_type_27 : decode cX7_type 27 = .ok (.ldc 206, 2) := by decide +kernel
theorem dX7_type_29 : decode cX7_type 29 = .ok (.ireturn, 1) := by decide +kernel
theorem dX7_type_30 : decode cX7_type 30 = .ok (.aload_n 0, 1) := by decide +kernel
theorem dX7_type_31 : decode cX7_type 31 = .ok (.getfield 53, 3) := by decide +kernel
theorem dX7_type_34 : decode cX7_type 34 = .ok (.iload_n 1, 1) := by decide +kernel
theorem dX7_type_35 : decode cX7_type 35 = .ok (.invokevirtual 207, 3) := by decide +kernel
theorem dX7_type_38 : decode cX7_type 38 = .ok (.aload_n 0, 1) := by decide +kernel
theorem dX7_type_39 : decode cX7_type 39 = .ok (.getfield 53, 3) := by decide +kernel
theorem dX7_type_42 : decode cX7_type 42 = .ok (.getfield 197, 3) := by decide +kernel
theorem dX7_type_45 : decode cX7_type 45 = .ok (.ireturn, 1) := by decide +kernel
theorem dX7_clearText_0 : decode cX7_clearText 0 = .ok (.aload_n 0, 1) := by decide +kernel
theorem dX7_clearText_1 : decode cX7_clearText 1 = .ok (.getfield 53, 3) := by decide +kernel
theorem dX7_clearText_4 : decode cX7_clearText 4 = .ok (.getfield 197, 3) := by decide +kernel
theorem dX7_clearText_7 : decode cX7_clearText 7 = .ok (.istore_n 1, 1) := by decide +kernel
theorem dX7_clearText_8 : decode cX7_clearText 8 = .ok (.aload_n 0, 1) := by decide +kernel
theorem dX7_clearText_9 : decode cX7_clearText 9 = .ok (.getfield 53, 3) := by decide +kernel
theorem dX7_clearText_12 : decode cX7_clearText 12 = .ok (.iconst 0, 1) := by decide +kernel
theorem dX7_clearText_13 : decode cX7_clearText 13 = .ok (.putfield 197, 3) := by decide +kernel
theorem dX7_clearText_16 : decode cX7_clearText 16 = .ok (.iload_n 1, 1) := by decide +kernel
theorem dX7_clearText_17 : decode cX7_clearText 17 = .ok (.ireturn, 1) := by decide +kernel
theorem dX7_fault_0 : decode cX7_fault 0 = .ok (.iload_n 1, 1) := by decide +kernel
theorem dX7_fault_1 : decode cX7_fault 1 = .ok (.iconst 2, 1) := by decide +kernel
theorem dX7_fault_2 : decode cX7_fault 2 = .ok (.invokestatic 95, 3) := by decide +kernel
theorem dX7_fault_5 : decode cX7_fault 5 = .ok (.ifCond .ne 6, 3) := by decide +kernel
theorem dX7_fault_8 : decode cX7_fault 8 = .ok (.ldc 69, 2) := by decide +kernel
theorem dX7_fault_10 : decode cX7_fault 10 = .ok (.ireturn, 1) := by decide +kernel
theorem dX7_fault_11 : decode cX7_fault 11 = .ok (.aload_n 0, 1) := by decide +kernel
theorem dX7_fault_12 : decode cX7_fault 12 = .ok (.getfield 53, 3) := by decide +kernel
theorem dX7_fault_15 : decode cX7_fault 15 = .ok (.aload_n 0, 1) := by decide +kernel
theorem dX7_fault_16 : decode cX7_fault 16 = .ok (.getfield 12, 3) := by decide +kernel
theorem dX7_fault_19 : decode cX7_fault 19 = .ok (.invokevirtual 176, 3) := by decide +kernel
theorem dX7_fault_22 : decode cX7_fault 22 = .ok (.invokevirtual 210, 3) := by decide +kernel
theorem dX7_fault_25 : decode cX7_fault 25 = .ok (.aload_n 0, 1) := by decide +kernel
theorem dX7_fault_26 : decode cX7_fault 26 = .ok (.getfield 53, 3) := by decide +kernel
theorem dX7_fault_29 : decode cX7_fault 29 = .ok (.getfield 213, 3) := by decide +kernel
theorem dX7_fault_32 : decode cX7_fault 32 = .ok (.ifCond .ne 6, 3) := by decide +kernel
theorem dX7_fault_35 : decode cX7_fault 35 = .ok (.ldc 99, 2) := by decide +kernel
theorem dX7_fault_37 : decode cX7_fault 37 = .ok (.ireturn, 1) := by decide +kernel
theorem dX7_fault_38 : decode cX7_fault 38 = .ok (.iload_n 1, 1) := by decide +kernel
theorem dX7_fault_39 : decode cX7_fault 39 = .ok (.ifCond .ne 11, 3) := by decide +kernel
theorem dX7_fault_42 : decode cX7_fault 42 = .ok (.aload_n 0, 1) := by decide +kernel
theorem dX7_fault_43 : decode cX7_fault 43 = .ok (.getfield 53, 3) := by decide +kernel
theorem dX7_fault_46 : decode cX7_fault 46 = .ok (.getfield 216, 3) := by decide +kernel
theorem dX7_fault_49 : decode cX7_fault 49 = .ok (.ireturn, 1) := by decide +kernel
theorem dX7_fault_50 : decode cX7_fault 50 = .ok (.iload_n 1, 1) := by decide +kernel
theorem dX7_fault_51 : decode cX7_fault 51 = .ok (.iconst 1, 1) := by decide +kernel
theorem dX7_fault_52 : decode cX7_fault 52 = .ok (.if_icmp .ne 11, 3) := by decide +kernel
theorem dX7_fault_55 : decode cX7_fault 55 = .ok (.aload_n 0, 1) := by decide +kernel
theorem dX7_fault_56 : decode cX7_fault 56 = .ok (.getfield 53, 3) := by decide +kernel
theorem dX7_fault_59 : decode cX7_fault 59 = .ok (.getfield 213, 3) := by decide +kernel
theorem dX7_fault_62 : decode cX7_fault 62 = .ok (.ireturn, 1) := by decide +kernel
theorem dX7_fault_63 : decode cX7_fault 63 = .ok (.aload_n 0, 1) := by decide +kernel
theorem dX7_fault_64 : decode cX7_fault 64 = .ok (.getfield 53, 3) := by decide +kernel
theorem dX7_fault_67 : decode cX7_fault 67 = .ok (.getfield 219, 3) := by decide +kernel
theorem dX7_fault_70 : decode cX7_fault 70 = .ok (.iconst (-1), 1) := by decide +kernel
theorem dX7_fault_71 : decode cX7_fault 71 = .ok (.if_icmp .ne 8, 3) := by decide +kernel
theorem dX7_fault_74 : decode cX7_fault 74 = .ok (.ldc 99, 2) := by decide +kernel
theorem dX7_fault_76 : decode cX7_fault 76 = .ok (.goto 10, 3) := by decide +kernel
theorem dX7_fault_79 : decode cX7_fault 79 = .ok (.aload_n 0, 1) := by decide +kernel
theorem dX7_fault_80 : decode cX7_fault 80 = .ok (.getfield 53, 3) := by decide +kernel
theorem dX7_fault_83 : decode cX7_fault 83 = .ok (.getfield 219, 3) := by decide +kernel
theorem dX7_fault_86 : decode cX7_fault 86 = .ok (.ireturn, 1) := by decide +kernel
theorem dX7_play_0 : decode cX7_play 0 = .ok (.aload_n 0, 1) := by decide +kernel
theorem dX7_play_1 : decode cX7_play 1 = .ok (.getfield 53, 3) := by decide +kernel
theorem dX7_play_4 : decode cX7_play 4 = .ok (.aload_n 0, 1) := by decide +kernel
theorem dX7_play_5 : decode cX7_play 5 = .ok (.getfield 12, 3) := by decide +kernel
theorem dX7_play_8 : decode cX7_play 8 = .ok (.invokevirtual 176, 3) := by decide +kernel
theorem dX7_play_11 : decode cX7_play 11 = .ok (.invokevirtual 210, 3) := by decide +kernel
theorem dX7_play_14 : decode cX7_play 14 = .ok (.aload_n 0, 1) := by decide +kernel
theorem dX7_play_15 : decode cX7_play 15 = .ok (.getfield 53, 3) := by decide +kernel
theorem dX7_play_18 : decode cX7_play 18 = .ok (.getfield 213, 3) := by decide +kernel
theorem dX7_play_21 : decode cX7_play 21 = .ok (.ifCond .eq 6, 3) := by decide +kernel
theorem dX7_play_24 : decode cX7_play 24 = .ok (.ldc 73, 2) := by decide +kernel
theorem dX7_play_26 : decode cX7_play 26 = .ok (.ireturn, 1) := by decide +kernel
theorem dX7_play_27 : decode cX7_play 27 = .ok (.aload_n 0, 1) := by decide +kernel
theorem dX7_play_28 : decode cX7_play 28 = .ok (.getfield 46, 3) := by decide +kernel
theorem dX7_play_31 : decode cX7_play 31 = .ok (.aload_n 0, 1) := by decide +kernel
theorem dX7_play_32 : decode cX7_play 32 = .ok (.getfield 12, 3) := by decide +kernel
theorem dX7_play_35 : decode cX7_play 35 = .ok (.invokevirtual 74, 3) := by decide +kernel
theorem dX7_play_38 : decode cX7_play 38 = .ok (.iconst 0, 1) := by decide +kernel
theorem dX7_play_39 : decode cX7_play 39 = .ok (.istore_n 1, 1) := by decide +kernel
theorem dX7_play_40 : decode cX7_play 40 = .ok (.iconst 0, 1) := by decide +kernel
theorem dX7_play_41 : decode cX7_play 41 = .ok (.istore_n 2, 1) := by decide +kernel
theorem dX7_play_42 : decode cX7_play 42 = .ok (.iload_n 2, 1) := by decide +kernel
theorem dX7_play_43 : decode cX7_play 43 = .ok (.aload_n 0, 1) := by decide +kernel
theorem dX7_play_44 : decode cX7_play 44 = .ok (.getfield 53, 3) := by decide +kernel
theorem dX7_play_47 : decode cX7_play 47 = .ok (.getfield 222, 3) := by decide +kernel
theorem dX7_play_50 : decode cX7_play 50 = .ok (.if_icmp .ge 104, 3) := by decide +kernel
theorem dX7_play_53 : decode cX7_play 53 = .ok (.aload_n 0, 1) := by decide +kernel
theorem dX7_play_54 : decode cX7_play 54 = .ok (.getfield 53, 3) := by decide +kernel
theorem dX7_play_57 : decode cX7_play 57 = .ok (.iload_n 1, 1) := by decide +kernel
theorem dX7_play_58 : decode cX7_play 58 = .ok (.invokevirtual 225, 3) := by decide +kernel
theorem dX7_play_61 : decode cX7_play 61 = .ok (.pop, 1) := by decide +kernel
theorem dX7_play_62 : decode cX7_play 62 = .ok (.aload_n 0, 1) := by decide +kernel
theorem dX7_play_63 : decode cX7_play 63 = .ok (.getfield 53, 3) := by decide +kernel
theorem dX7_play_66 : decode cX7_play 66 = .ok (.getfield 228, 3) := by decide +kernel
theorem dX7_play_69 : decode cX7_play 69 = .ok (.istore_n 1, 1) := by decide +kernel
theorem dX7_play_70 : decode cX7_play 70 = .ok (.aload_n 0, 1) := by decide +kernel
theorem dX7_play_71 : decode cX7_play 71 = .ok (.getfield 53, 3) := by decide +kernel
theorem dX7_play_74 : decode cX7_play 74 = .ok (.getfield 231, 3) := by decide +kernel
theorem dX7_play_77 : decode cX7_play 77 = .ok (.ifCond .eq 56, 3) := by decide +kernel
theorem dX7_play_80 : decode cX7_play 80 = .ok (.aload_n 0, 1) := by decide +kernel
theorem dX7_play_81 : decode cX7_play 81 = .ok (.getfield 30, 3) := by decide +kernel
theorem dX7_play_84 : decode cX7_play 84 = .ok (.aload_n 0, 1) := by decide +kernel
theorem dX7_play_85 : decode cX7_play 85 = .ok (.getfield 53, 3) := by decide +kernel
theorem dX7_play_88 : decode cX7_play 88 = .ok (.iconst 0, 1) := by decide +kernel
theorem dX7_play_89 : decode cX7_play 89 = .ok (.invokevirtual 235, 3) := by decide +kernel
theorem dX7_play_92 : decode cX7_play 92 = .ok (.aload_n 0, 1) := by decide +kernel
theorem dX7_play_93 : decode cX7_play 93 = .ok (.getfield 53, 3) := by decide +kernel
theorem dX7_play_96 : decode cX7_play 96 = .ok (.iconst 1, 1) := by decide +kernel
theorem dX7_play_97 : decode cX7_play 97 = .ok (.invokevirtual 235, 3) := by decide +kernel
theorem dX7_play_100 : decode cX7_play 100 = .ok (.aload_n 0, 1) := by decide +kernel
theorem dX7_play_101 : decode cX7_play 101 = .ok (.getfield 53, 3) := by decide +kernel
theorem dX7_play_104 : decode cX7_play 104 = .ok (.iconst 2, 1) := by decide +kernel
theorem dX7_play_105 : decode cX7_play 105 = .ok (.invokevirtual 235, 3) := by decide +kernel
theorem dX7_play_108 : decode cX7_play 108 = .ok (.aload_n 0, 1) := by decide +kernel
theorem dX7_play_109 : decode cX7_play 109 = .ok (.getfield 53, 3) := by decide +kernel
theorem dX7_play_112 : decode cX7_play 112 = .ok (.iconst 3, 1) := by decide +kernel
theorem dX7_play_113 : decode cX7_play 113 = .ok (.invokevirtual 235, 3) := by decide +kernel
theorem dX7_play_116 : decode cX7_play 116 = .ok (.aload_n 0, 1) := by decide +kernel
theorem dX7_play_117 : decode cX7_play 117 = .ok (.getfield 53, 3) := by decide +kernel
theorem dX7_play_120 : decode cX7_play 120 = .ok (.iconst 4, 1) := by decide +kernel
theorem dX7_play_121 : decode cX7_play 121 = .ok (.invokevirtual 235, 3) := by decide +kernel
theorem dX7_play_124 : decode cX7_play 124 = .ok (.invokestatic 77, 3) := by decide +kernel
theorem dX7_play_127 : decode cX7_play 127 = .ok (.invokevirtual 83, 3) := by decide +kernel
theorem dX7_play_130 : decode cX7_play 130 = .ok (.goto 18, 3) := by decide +kernel
theorem dX7_play_133 : decode cX7_play 133 = .ok (.aload_n 0, 1) := by decide +kernel
theorem dX7_play_134 : decode cX7_play 134 = .ok (.getfield 30, 3) := by decide +kernel
theorem dX7_play_137 : decode cX7_play 137 = .ok (.aload_n 0, 1) := by decide +kernel
theorem dX7_play_138 : decode cX7_play 138 = .ok (.getfield 53, 3) := by decide +kernel
theorem dX7_play_141 : decode cX7_play 141 = .ok (.iconst 0, 1) := by decide +kernel
theorem dX7_play_142 : decode cX7_play 142 = .ok (.invokevirtual 235, 3) := by decide +kernel
theorem dX7_play_145 : decode cX7_play 145 = .ok (.invokevirtual 91, 3) := by decide +kernel
theorem dX7_play_148 : decode cX7_play 148 = .ok (.iinc 2 1, 3) := by decide +kernel
theorem dX7_play_151 : decode cX7_play 151 = .ok (.goto (-109), 3) := by decide +kernel
theorem dX7_play_154 : decode cX7_play 154 = .ok (.aload_n 0, 1) := by decide +kernel
theorem dX7_play_155 : decode cX7_play 155 = .ok (.getfield 53, 3) := by decide +kernel
theorem dX7_play_158 : decode cX7_play 158 = .ok (.getfield 222, 3) := by decide +kernel
theorem dX7_play_161 : decode cX7_play 161 = .ok (.ireturn, 1) := by decide +kernel
theorem dX7_isUpTo_0 : decode cX7_isUpTo 0 = .ok (.iload_n 0, 1) := by decide +kernel
theorem dX7_isUpTo_1 : decode cX7_isUpTo 1 = .ok (.ifCond .lt 12, 3) := by decide +kernel
theorem dX7_isUpTo_4 : decode cX7_isUpTo 4 = .ok (.iload_n 0, 1) := by decide +kernel
theorem dX7_isUpTo_5 : decode cX7_isUpTo 5 = .ok (.iload_n 1, 1) := by decide +kernel
theorem dX7_isUpTo_6 : decode cX7_isUpTo 6 = .ok (.if_icmp .gt 7, 3) := by decide +kernel
theorem dX7_isUpTo_9 : decode cX7_isUpTo 9 = .ok (.iconst 1, 1) := by decide +kernel
theorem dX7_isUpTo_10 : decode cX7_isUpTo 10 = .ok (.goto 4, 3) := by decide +kernel
theorem dX7_isUpTo_13 : decode cX7_isUpTo 13 = .ok (.iconst 0, 1) := by decide +kernel
theorem dX7_isUpTo_14 : decode cX7_isUpTo 14 = .ok (.ireturn, 1) := by decide +kernel
theorem dX7_isBox_0 : decode cX7_isBox 0 = .ok (.iload_n 0, 1) := by decide +kernel
theorem dX7_isBox_1 : decode cX7_isBox 1 = .ok (.bipush 30, 2) := by decide +kernel
theorem dX7_isBox_3 : decode cX7_isBox 3 = .ok (.invokestatic 95, 3) := by decide +kernel
theorem dX7_isBox_6 : decode cX7_isBox 6 = .ok (.ireturn, 1) := by decide +kernel
theorem dX7_isPoint_0 : decode cX7_isPoint 0 = .ok (.iload_n 0, 1) := by decide +kernel
theorem dX7_isPoint_1 : decode cX7_isPoint 1 = .ok (.bipush 99, 2) := by decide +kernel
theorem dX7_isPoint_3 : decode cX7_isPoint 3 = .ok (.invokestatic 95, 3) := by decide +kernel
theorem dX7_isPoint_6 : decode cX7_isPoint 6 = .ok (.ireturn, 1) := by decide +kernel
theorem dX7_isWindow_0 : decode cX7_isWindow 0 = .ok (.iload_n 0, 1) := by decide +kernel
theorem dX7_isWindow_1 : decode cX7_isWindow 1 = .ok (.invokestatic 151, 3) := by decide +kernel
theorem dX7_isWindow_4 : decode cX7_isWindow 4 = .ok (.ifCond .eq 38, 3) := by decide +kernel
theorem dX7_isWindow_7 : decode cX7_isWindow 7 = .ok (.iload_n 1, 1) := by decide +kernel
theorem dX7_isWindow_8 : decode cX7_isWindow 8 = .ok (.invokestatic 151, 3) := by decide +kernel
theorem dX7_isWindow_11 : decode cX7_isWindow 11 = .ok (.ifCond .eq 31, 3) := by decide +kernel
theorem dX7_isWindow_14 : decode cX7_isWindow 14 = .ok (.iload_n 2, 1) := by decide +kernel
theorem dX7_isWindow_15 : decode cX7_isWindow 15 = .ok (.invokestatic 151, 3) := by decide +kernel
theorem dX7_isWindow_18 : decode cX7_isWindow 18 = .ok (.ifCond .eq 24, 3) := by decide +kernel
theorem dX7_isWindow_21 : decode cX7_isWindow 21 = .ok (.iload_n 3, 1) := by decide +kernel
theorem dX7_isWindow_22 : decode cX7_isWindow 22 = .ok (.invokestatic 151, 3) := by decide +kernel
theorem dX7_isWindow_25 : decode cX7_isWindow 25 = .ok (.ifCond .eq 17, 3) := by decide +kernel
theorem dX7_isWindow_28 : decode cX7_isWindow 28 = .ok (.iload_n 0, 1) := by decide +kernel
theorem dX7_isWindow_29 : decode cX7_isWindow 29 = .ok (.iload_n 2, 1) := by decide +kernel
theorem dX7_isWindow_30 : decode cX7_isWindow 30 = .ok (.if_icmp .gt 12, 3) := by decide +kernel
theorem dX7_isWindow_33 : decode cX7_isWindow 33 = .ok (.iload_n 1, 1) := by decide +kernel
theorem dX7_isWindow_34 : decode cX7_isWindow 34 = .ok (.iload_n 3, 1) := by decide +kernel
theorem dX7_isWindow_35 : decode cX7_isWindow 35 = .ok (.if_icmp .gt 7, 3) := by decide +kernel
theorem dX7_isWindow_38 : decode cX7_isWindow 38 = .ok (.iconst 1, 1) := by decide +kernel
theorem dX7_isWindow_39 : decode cX7_isWindow 39 = .ok (.goto 4, 3) := by decide +kernel
theorem dX7_isWindow_42 : decode cX7_isWindow 42 = .ok (.iconst 0, 1) := by decide +kernel
theorem dX7_isWindow_43 : decode cX7_isWindow 43 = .ok (.ireturn, 1) := by decide +kernel
theorem dX7_boxOfRank_0 : decode cX7_boxOfRank 0 = .ok (.iconst 0, 1) := by decide +kernel
theorem dX7_boxOfRank_1 : decode cX7_boxOfRank 1 = .ok (.istore 4, 2) := by decide +kernel
theorem dX7_boxOfRank_3 : decode cX7_boxOfRank 3 = .ok (.iload 4, 2) := by decide +kernel
theorem dX7_boxOfRank_5 : decode cX7_boxOfRank 5 = .ok (.bipush 31, 2) := by decide +kernel
theorem dX7_boxOfRank_7 : decode cX7_boxOfRank 7 = .ok (.if_icmp .ge 59, 3) := by decide +kernel
theorem dX7_boxOfRank_10 : decode cX7_boxOfRank 10 = .ok (.aload_n 0, 1) := by decide +kernel
theorem dX7_boxOfRank_11 : decode cX7_boxOfRank 11 = .ok (.getfield 12, 3) := by decide +kernel
theorem dX7_boxOfRank_14 : decode cX7_boxOfRank 14 = .ok (.iload 4, 2) := by decide +kernel
theorem dX7_boxOfRank_16 : decode cX7_boxOfRank 16 = .ok (.invokevirtual 70, 3) := by decide +kernel
theorem dX7_boxOfRank_19 : decode cX7_boxOfRank 19 = .ok (.ifCond .eq 27, 3) := by decide +kernel
theorem dX7_boxOfRank_22 : decode cX7_boxOfRank 22 = .ok (.aload_n 0, 1) := by decide +kernel
theorem dX7_boxOfRank_23 : decode cX7_boxOfRank 23 = .ok (.getfield 12, 3) := by decide +kernel
theorem dX7_boxOfRank_26 : decode cX7_boxOfRank 26 = .ok (.iload 4, 2) := by decide +kernel
theorem dX7_boxOfRank_28 : decode cX7_boxOfRank 28 = .ok (.iconst 0, 1) := by decide +kernel
theorem dX7_boxOfRank_29 : decode cX7_boxOfRank 29 = .ok (.invokevirtual 111, 3) := by decide +kernel
theorem dX7_boxOfRank_32 : decode cX7_boxOfRank 32 = .ok (.iload_n 1, 1) := by decide +kernel
theorem dX7_boxOfRank_33 : decode cX7_boxOfRank 33 = .ok (.iload_n 2, 1) := by decide +kernel
theorem dX7_boxOfRank_34 : decode cX7_boxOfRank 34 = .ok (.invokestatic 158, 3) := by decide +kernel
theorem dX7_boxOfRank_37 : decode cX7_boxOfRank 37 = .ok (.bipush 31, 2) := by decide +kernel
theorem dX7_boxOfRank_39 : decode cX7_boxOfRank 39 = .ok (.imul, 1) := by decide +kernel
theorem dX7_boxOfRank_40 : decode cX7_boxOfRank 40 = .ok (.iload 4, 2) := by decide +kernel
theorem dX7_boxOfRank_42 : decode cX7_boxOfRank 42 = .ok (.iadd, 1) := by decide +kernel
theorem dX7_boxOfRank_43 : decode cX7_boxOfRank 43 = .ok (.goto 4, 3) := by decide +kernel
theorem dX7_boxOfRank_46 : decode cX7_boxOfRank 46 = .ok (.iconst (-1), 1) := by decide +kernel
theorem dX7_boxOfRank_47 : decode cX7_boxOfRank 47 = .ok (.istore 5, 2) := by decide +kernel
theorem dX7_boxOfRank_49 : decode cX7_boxOfRank 49 = .ok (.aload_n 0, 1) := by decide +kernel
theorem dX7_boxOfRank_50 : decode cX7_boxOfRank 50 = .ok (.getfield 57, 3) := by decide +kernel
theorem dX7_boxOfRank_53 : decode cX7_boxOfRank 53 = .ok (.iload 4, 2) := by decide +kernel
theorem dX7_boxOfRank_55 : decode cX7_boxOfRank 55 = .ok (.iload 5, 2) := by decide +kernel
theorem dX7_boxOfRank_57 : decode cX7_boxOfRank 57 = .ok (.invokestatic 238, 3) := by decide +kernel
theorem dX7_boxOfRank_60 : decode cX7_boxOfRank 60 = .ok (.iinc 4 1, 3) := by decide +kernel
theorem dX7_boxOfRank_63 : decode cX7_boxOfRank 63 = .ok (.goto (-60), 3) := by decide +kernel
theorem dX7_boxOfRank_66 : decode cX7_boxOfRank 66 = .ok (.iconst 0, 1) := by decide +kernel
theorem dX7_boxOfRank_67 : decode cX7_boxOfRank 67 = .ok (.istore 4, 2) := by decide +kernel
theorem dX7_boxOfRank_69 : decode cX7_boxOfRank 69 = .ok (.iload 4, 2) := by decide +kernel
theorem dX7_boxOfRank_71 : decode cX7_boxOfRank 71 = .ok (.bipush 31, 2) := by decide +kernel
theorem dX7_boxOfRank_73 : decode cX7_boxOfRank 73 = .ok (.if_icmp .ge 39, 3) := by decide +kernel
theorem dX7_boxOfRank_76 : decode cX7_boxOfRank 76 = .ok (.aload_n 0, 1) := by decide +kernel
theorem dX7_boxOfRank_77 : decode cX7_boxOfRank 77 = .ok (.getfield 57, 3) := by decide +kernel
theorem dX7_boxOfRank_80 : decode cX7_boxOfRank 80 = .ok (.iload 4, 2) := by decide +kernel
theorem dX7_boxOfRank_82 : decode cX7_boxOfRank 82 = .ok (.invokestatic 244, 3) := by decide +kernel
theorem dX7_boxOfRank_85 : decode cX7_boxOfRank 85 = .ok (.istore 5, 2) := by decide +kernel
theorem dX7_boxOfRank_87 : decode cX7_boxOfRank 87 = .ok (.iload 5, 2) := by decide +kernel
theorem dX7_boxOfRank_89 : decode cX7_boxOfRank 89 = .ok (.iconst (-1), 1) := by decide +kernel
theorem dX7_boxOfRank_90 : decode cX7_boxOfRank 90 = .ok (.if_icmp .eq 16, 3) := by decide +kernel
theorem dX7_boxOfRank_93 : decode cX7_boxOfRank 93 = .ok (.aload_n 0, 1) := by decide +kernel
theorem dX7_boxOfRank_94 : decode cX7_boxOfRank 94 = .ok (.iload 5, 2) := by decide +kernel
theorem dX7_boxOfRank_96 : decode cX7_boxOfRank 96 = .ok (.invokevirtual 247, 3) := by decide +kernel
theorem dX7_boxOfRank_99 : decode cX7_boxOfRank 99 = .ok (.iload_n 3, 1) := by decide +kernel
theorem dX7_boxOfRank_100 : decode cX7_boxOfRank 100 = .ok (.if_icmp .ne 6, 3) := by decide +kernel
theorem dX7_boxOfRank_103 : decode cX7_boxOfRank 103 = .ok (.iload 4, 2) := by decide +kernel
theorem dX7_boxOfRank_105 : decode cX7_boxOfRank 105 = .ok (.ireturn, 1) := by decide +kernel
theorem dX7_boxOfRank_106 : decode cX7_boxOfRank 106 = .ok (.iinc 4 1, 3) := by decide +kernel
theorem dX7_boxOfRank_109 : decode cX7_boxOfRank 109 = .ok (.goto (-40), 3) := by decide +kernel
theorem dX7_boxOfRank_112 : decode cX7_boxOfRank 112 = .ok (.iconst (-1), 1) := by decide +kernel
theorem dX7_boxOfRank_113 : decode cX7_boxOfRank 113 = .ok (.ireturn, 1) := by decide +kernel
theorem dX7_ranksAhead_0 : decode cX7_ranksAhead 0 = .ok (.iconst 0, 1) := by decide +kernel
theorem dX7_ranksAhead_1 : decode cX7_ranksAhead 1 = .ok (.istore_n 2, 1) := by decide +kernel
theorem dX7_ranksAhead_2 : decode cX7_ranksAhead 2 = .ok (.aload_n 0, 1) := by decide +kernel
theorem dX7_ranksAhead_3 : decode cX7_ranksAhead 3 = .ok (.getfield 57, 3) := by decide +kernel
theorem dX7_ranksAhead_6 : decode cX7_ranksAhead 6 = .ok (.astore_n 3, 1) := by decide +kernel
theorem dX7_ranksAhead_7 : decode cX7_ranksAhead 7 = .ok (.aload_n 3, 1) := by decide +kernel
theorem dX7_ranksAhead_8 : decode cX7_ranksAhead 8 = .ok (.arraylength, 1) := by decide +kernel
theorem dX7_ranksAhead_9 : decode cX7_ranksAhead 9 = .ok (.istore 4, 2) := by decide +kernel
theorem dX7_ranksAhead_11 : decode cX7_ranksAhead 11 = .ok (.iconst 0, 1) := by decide +kernel
theorem dX7_ranksAhead_12 : decode cX7_ranksAhead 12 = .ok (.istore 5, 2) := by decide +kernel
theorem dX7_ranksAhead_14 : decode cX7_ranksAhead 14 = .ok (.iload 5, 2) := by decide +kernel
theorem dX7_ranksAhead_16 : decode cX7_ranksAhead 16 = .ok (.iload 4, 2) := by decide +kernel
theorem dX7_ranksAhead_18 : decode cX7_ranksAhead 18 = .ok (.if_icmp .ge 30, 3) := by decide +kernel
theorem dX7_ranksAhead_21 : decode cX7_ranksAhead 21 = .ok (.aload_n 3, 1) := by decide +kernel
theorem dX7_ranksAhead_22 : decode cX7_ranksAhead 22 = .ok (.iload 5, 2) := by decide +kernel
theorem dX7_ranksAhead_24 : decode cX7_ranksAhead 24 = .ok (.iaload, 1) := by decide +kernel
theorem dX7_ranksAhead_25 : decode cX7_ranksAhead 25 = .ok (.istore 6, 2) := by decide +kernel
theorem dX7_ranksAhead_27 : decode cX7_ranksAhead 27 = .ok (.iload 6, 2) := by decide +kernel
theorem dX7_ranksAhead_29 : decode cX7_ranksAhead 29 = .ok (.iconst (-1), 1) := by decide +kernel
theorem dX7_ranksAhead_30 : decode cX7_ranksAhead 30 = .ok (.if_icmp .eq 12, 3) := by decide +kernel
theorem dX7_ranksAhead_33 : decode cX7_ranksAhead 33 = .ok (.iload 6, 2) := by decide +kernel
theorem dX7_ranksAhead_35 : decode cX7_ranksAhead 35 = .ok (.iload_n 1, 1) := by decide +kernel
theorem dX7_ranksAhead_36 : decode cX7_ranksAhead 36 = .ok (.if_icmp .ge 6, 3) := by decide +kernel
theorem dX7_ranksAhead_39 : decode cX7_ranksAhead 39 = .ok (.iinc 2 1, 3) := by decide +kernel
theorem dX7_ranksAhead_42 : decode cX7_ranksAhead 42 = .ok (.iinc 5 1, 3) := by decide +kernel
theorem dX7_ranksAhead_45 : decode cX7_ranksAhead 45 = .ok (.goto (-31), 3) := by decide +kernel
theorem dX7_ranksAhead_48 : decode cX7_ranksAhead 48 = .ok (.iload_n 2, 1) := by decide +kernel
theorem dX7_ranksAhead_49 : decode cX7_ranksAhead 49 = .ok (.ireturn, 1) := by decide +kernel
theorem dL_law_0 : decode cL_law 0 = .ok (.new 7, 3) := by decide +kernel
theorem dL_law_3 : decode cL_law 3 = .ok (.dup, 1) := by decide +kernel
theorem dL_law_4 : decode cL_law 4 = .ok (.invokespecial 9, 3) := by decide +kernel
theorem dL_law_7 : decode cL_law 7 = .ok (.astore_n 1, 1) := by decide +kernel
theorem dL_law_8 : decode cL_law 8 = .ok (.new 10, 3) := by decide +kernel
theorem dL_law_11 : decode cL_law 11 = .ok (.dup, 1) := by decide +kernel
theorem dL_law_12 : decode cL_law 12 = .ok (.invokespecial 12, 3) := by decide +kernel
theorem dL_law_15 : decode cL_law 15 = .ok (.astore_n 2, 1) := by decide +kernel
theorem dL_law_16 : decode cL_law 16 = .ok (.iconst 0, 1) := by decide +kernel
theorem dL_law_17 : decode cL_law 17 = .ok (.istore_n 3, 1) := by decide +kernel
theorem dL_law_18 : decode cL_law 18 = .ok (.iload_n 3, 1) := by decide +kernel
theorem dL_law_19 : decode cL_law 19 = .ok (.aload_n 0, 1) := by decide +kernel
theorem dL_law_20 : decode cL_law 20 = .ok (.arraylength, 1) := by decide +kernel
theorem dL_law_21 : decode cL_law 21 = .ok (.bipush 6, 2) := by decide +kernel
theorem dL_law_23 : decode cL_law 23 = .ok (.isub, 1) := by decide +kernel
theorem dL_law_24 : decode cL_law 24 = .ok (.if_icmp .gt 669, 3) := by decide +kernel
theorem dL_law_27 : decode cL_law 27 = .ok (.aload_n 0, 1) := by decide +kernel
theorem dL_law_28 : decode cL_law 28 = .ok (.iload_n 3, 1) := by decide +kernel
theorem dL_law_29 : decode cL_law 29 = .ok (.iaload, 1) := by decide +kernel
theorem dL_law_30 : decode cL_law 30 = .ok (.bipush 31, 2) := by decide +kernel
theorem dL_law_32 : decode cL_law 32 = .ok (.iand, 1) := by decide +kernel
theorem dL_law_33 : decode cL_law 33 = .ok (.tableswitch 654 0 16 #[83, 146, 169, 202, 245, 268, 301, 334, 397, 450, 513, 546, 569, 582, 605, 618, 641], 83) := by decide +kernel
theorem dL_law_116 : decode cL_law 116 = .ok (.aload_n 1, 1) := by decide +kernel
theorem dL_law_117 : decode cL_law 117 = .ok (.aload_n 0, 1) := by decide +kernel
theorem dL_law_118 : decode cL_law 118 = .ok (.iload_n 3, 1) := by decide +kernel
theorem dL_law_119 : decode cL_law 119 = .ok (.iconst 1, 1) := by decide +kernel
theorem dL_law_120 : decode cL_law 120 = .ok (.iadd, 1) := by decide +kernel
theorem dL_law_121 : decode cL_law 121 = .ok (.iaload, 1) := by decide +kernel
theorem dL_law_122 : decode cL_law 122 = .ok (.aload_n 0, 1) := by decide +kernel
theorem dL_law_123 : decode cL_law 123 = .ok (.iload_n 3, 1) := by decide +kernel
theorem dL_law_124 : decode cL_law 124 = .ok (.iconst 2, 1) := by decide +kernel
theorem dL_law_125 : decode cL_law 125 = .ok (.iadd, 1) := by decide +kernel
theorem dL_law_126 : decode cL_law 126 = .ok (.iaload, 1) := by decide +kernel
theorem dL_law_127 : decode cL_law 127 = .ok (.aload_n 0, 1) := by decide +kernel
theorem dL_law_128 : decode cL_law 128 = .ok (.iload_n 3, 1) := by decide +kernel
theorem dL_law_129 : decode cL_law 129 = .ok (.iconst 3, 1) := by decide +kernel
theorem dL_law_130 : decode cL_law 130 = .ok (.iadd, 1) := by decide +kernel
theorem dL_law_131 : decode cL_law 131 = .ok (.iaload, 1) := by decide +kernel
theorem dL_law_132 : decode cL_law 132 = .ok (.aload_n 0, 1) := by decide +kernel
theorem dL_law_133 : decode cL_law 133 = .ok (.iload_n 3, 1) := by decide +kernel
theorem dL_law_134 : decode cL_law 134 = .ok (.iconst 4, 1) := by decide +kernel
theorem dL_law_135 : decode cL_law 135 = .ok (.iadd, 1) := by decide +kernel
theorem dL_law_136 : decode cL_law 136 = .ok (.iaload, 1) := by decide +kernel
theorem dL_law_137 : decode cL_law 137 = .ok (.aload_n 0, 1) := by decide +kernel
theorem dL_law_138 : decode cL_law 138 = .ok (.iload_n 3, 1) := by decide +kernel
theorem dL_law_139 : decode cL_law 139 = .ok (.iconst 5, 1) := by decide +kernel
theorem dL_law_140 : decode cL_law 140 = .ok (.iadd, 1) := by decide +kernel
theorem dL_law_141 : decode cL_law 141 = .ok (.iaload, 1) := by decide +kernel
theorem dL_law_142 : decode cL_law 142 = .ok (.invokevirtual 13, 3) := by decide +kernel
theorem dL_law_145 : decode cL_law 145 = .ok (.aload_n 2, 1) := by decide +kernel
theorem dL_law_146 : decode cL_law 146 = .ok (.aload_n 0, 1) := by decide +kernel
theorem dL_law_147 : decode cL_law 147 = .ok (.iload_n 3, 1) := by decide +kernel
theorem dL_law_148 : decode cL_law 148 = .ok (.iconst 1, 1) := by decide +kernel
theorem dL_law_149 : decode cL_law 149 = .ok (.iadd, 1) := by decide +kernel
theorem dL_law_150 : decode cL_law 150 = .ok (.iaload, 1) := by decide +kernel
theorem dL_law_151 : decode cL_law 151 = .ok (.aload_n 0, 1) := by decide +kernel
theorem dL_law_152 : decode cL_law 152 = .ok (.iload_n 3, 1) := by decide +kernel
theorem dL_law_153 : decode cL_law 153 = .ok (.iconst 2, 1) := by decide +kernel
theorem dL_law_154 : decode cL_law 154 = .ok (.iadd, 1) := by decide +kernel
theorem dL_law_155 : decode cL_law 155 = .ok (.iaload, 1) := by decide +kernel
theorem dL_law_156 : decode cL_law 156 = .ok (.aload_n 0, 1) := by decide +kernel
theorem dL_law_157 : decode cL_law 157 = .ok (.iload_n 3, 1) := by decide +kernel
theorem dL_law_158 : decode cL_law 158 = .ok (.iconst 3, 1) := by decide +kernel
theorem dL_law_159 : decode cL_law 159 = .ok (.iadd, 1) := by decide +kernel
theorem dL_law_160 : decode cL_law 160 = .ok (.iaload, 1) := by decide +kernel
theorem dL_law_161 : decode cL_law 161 = .ok (.aload_n 0, 1) := by decide +kernel
theorem dL_law_162 : decode cL_law 162 = .ok (.iload_n 3, 1) := by decide +kernel
theorem dL_law_163 : decode cL_law 163 = .ok (.iconst 4, 1) := by decide +kernel
theorem dL_law_164 : decode cL_law 164 = .ok (.iadd, 1) := by decide +kernel
theorem dL_law_165 : decode cL_law 165 = .ok (.iaload, 1) := by decide +kernel
theorem dL_law_166 : decode cL_law 166 = .ok (.aload_n 0, 1) := by decide +kernel
theorem dL_law_167 : decode cL_law 167 = .ok (.iload_n 3, 1) := by decide +kernel
theorem dL_law_168 : decode cL_law 168 = .ok (.iconst 5, 1) := by decide +kernel
theorem dL_law_169 : decode cL_law 169 = .ok (.iadd, 1) := by decide +kernel
theorem dL_law_170 : decode cL_law 170 = .ok (.iaload, 1) := by decide +kernel
theorem dL_law_171 : decode cL_law 171 = .ok (.invokevirtual 17, 3) := by decide +kernel
theorem dL_law_174 : decode cL_law 174 = .ok (.if_icmp .eq 513, 3) := by decide +kernel
theorem dL_law_177 : decode cL_law 177 = .ok (.iconst 0, 1) := by decide +kernel
theorem dL_law_178 : decode cL_law 178 = .ok (.ireturn, 1) := by decide +kernel
theorem dL_law_179 : decode cL_law 179 = .ok (.aload_n 1, 1) := by decide +kernel
theorem dL_law_180 : decode cL_law 180 = .ok (.aload_n 0, 1) := by decide +kernel
theorem dL_law_181 : decode cL_law 181 = .ok (.iload_n 3, 1) := by decide +kernel
theorem dL_law_182 : decode cL_law 182 = .ok (.iconst 1, 1) := by decide +kernel
theorem dL_law_183 : decode cL_law 183 = .ok (.iadd, 1) := by decide +kernel
theorem dL_law_184 : decode cL_law 184 = .ok (.iaload, 1) := by decide +kernel
theorem dL_law_185 : decode cL_law 185 = .ok (.invokevirtual 18, 3) := by decide +kernel
theorem dL_law_188 : decode cL_law 188 = .ok (.aload_n 2, 1) := by decide +kernel
theorem dL_law_189 : decode cL_law 189 = .ok (.aload_n 0, 1) := by decide +kernel
theorem dL_law_190 : decode cL_law 190 = .ok (.iload_n 3, 1) := by decide +kernel
theorem dL_law_191 : decode cL_law 191 = .ok (.iconst 1, 1) := by decide +kernel
theorem dL_law_192 : decode cL_law 192 = .ok (.iadd, 1) := by decide +kernel
theorem dL_law_193 : decode cL_law 193 = .ok (.iaload, 1) := by decide +kernel
theorem dL_law_194 : decode cL_law 194 = .ok (.invokevirtual 22, 3) := by decide +kernel
theorem dL_law_197 : decode cL_law 197 = .ok (.if_icmp .eq 490, 3) := by decide +kernel
theorem dL_law_200 : decode cL_law 200 = .ok (.iconst 0, 1) := by decide +kernel
theorem dL_law_201 : decode cL_law 201 = .ok (.ireturn, 1) := by decide +kernel
theorem dL_law_202 : decode cL_law 202 = .ok (.aload_n 1, 1) := by decide +kernel
theorem dL_law_203 : decode cL_law 203 = .ok (.aload_n 0, 1) := by decide +kernel
theorem dL_law_204 : decode cL_law 204 = .ok (.iload_n 3, 1) := by decide +kernel
theorem dL_law_205 : decode cL_law 205 = .ok (.iconst 1, 1) := by decide +kernel
theorem dL_law_206 : decode cL_law 206 = .ok (.iadd, 1) := by decide +kernel
theorem dL_law_207 : decode cL_law 207 = .ok (.iaload, 1) := by decide +kernel
theorem dL_law_208 : decode cL_law 208 = .ok (.aload_n 0, 1) := by decide +kernel
theorem dL_law_209 : decode cL_law 209 = .ok (.iload_n 3, 1) := by decide +kernel
theorem dL_law_210 : decode cL_law 210 = .ok (.iconst 2, 1) := by decide +kernel
theorem dL_law_211 : decode cL_law 211 = .ok (.iadd, 1) := by decide +kernel
theorem dL_law_212 : decode cL_law 212 = .ok (.iaload, 1) := by decide +kernel
theorem dL_law_213 : decode cL_law 213 = .ok (.invokevirtual 23, 3) := by decide +kernel
theorem dL_law_216 : decode cL_law 216 = .ok (.aload_n 2, 1) := by decide +kernel
theorem dL_law_217 : decode cL_law 217 = .ok (.aload_n 0, 1) := by decide +kernel
theorem dL_law_218 : decode cL_law 218 = .ok (.iload_n 3, 1) := by decide +kernel
theorem dL_law_219 : decode cL_law 219 = .ok (.iconst 1, 1) := by decide +kernel
theorem dL_law_220 : decode cL_law 220 = .ok (.iadd, 1) := by decide +kernel
theorem dL_law_221 : decode cL_law 221 = .ok (.iaload, 1) := by decide +kernel
theorem dL_law_222 : decode cL_law 222 = .ok (.aload_n 0, 1) := by decide +kernel
theorem dL_law_223 : decode cL_law 223 = .ok (.iload_n 3, 1) := by decide +kernel
theorem dL_law_224 : decode cL_law 224 = .ok (.iconst 2, 1) := by decide +kernel
theorem dL_law_225 : decode cL_law 225 = .ok (.iadd, 1) := by decide +kernel
theorem dL_law_226 : decode cL_law 226 = .ok (.iaload, 1) := by decide +kernel
theorem dL_law_227 : decode cL_law 227 = .ok (.invokevirtual 27, 3) := by decide +kernel
theorem dL_law_230 : decode cL_law 230 = .ok (.if_icmp .eq 457, 3) := by decide +kernel
theorem dL_law_233 : decode cL_law 233 = .ok (.iconst 0, 1) := by decide +kernel
theorem dL_law_234 : decode cL_law 234 = .ok (.ireturn, 1) := by decide +kernel
theorem dL_law_235 : decode cL_law 235 = .ok (.aload_n 1, 1) := by decide +kernel
theorem dL_law_236 : decode cL_law 236 = .ok (.aload_n 0, 1) := by decide +kernel
theorem dL_law_237 : decode cL_law 237 = .ok (.iload_n 3, 1) := by decide +kernel
theorem dL_law_238 : decode cL_law 238 = .ok (.iconst 1, 1) := by decide +kernel
theorem dL_law_239 : decode cL_law 239 = .ok (.iadd, 1) := by decide +kernel
theorem dL_law_240 : decode cL_law 240 = .ok (.iaload, 1) := by decide +kernel
theorem dL_law_241 : decode cL_law 241 = .ok (.aload_n 0, 1) := by decide +kernel
theorem dL_law_242 : decode cL_law 242 = .ok (.iload_n 3, 1) := by decide +kernel
theorem dL_law_243 : decode cL_law 243 = .ok (.iconst 2, 1) := by decide +kernel
theorem dL_law_244 : decode cL_law 244 = .ok (.iadd, 1) := by decide +kernel
theorem dL_law_245 : decode cL_law 245 = .ok (.iaload, 1) := by decide +kernel
theorem dL_law_246 : decode cL_law 246 = .ok (.aload_n 0, 1) := by decide +kernel
theorem dL_law_247 : decode cL_law 247 = .ok (.iload_n 3, 1) := by decide +kernel
theorem dL_law_248 : decode cL_law 248 = .ok (.iconst 3, 1) := by decide +kernel
theorem dL_law_249 : decode cL_law 249 = .ok (.iadd, 1) := by decide +kernel
theorem dL_law_250 : decode cL_law 250 = .ok (.iaload, 1) := by decide +kernel
theorem dL_law_251 : decode cL_law 251 = .ok (.invokevirtual 28, 3) := by decide +kernel
theorem dL_law_254 : decode cL_law 254 = .ok (.aload_n 2, 1) := by decide +kernel
theorem dL_law_255 : decode cL_law 255 = .ok (.aload_n 0, 1) := by decide +kernel
theorem dL_law_256 : decode cL_law 256 = .ok (.iload_n 3, 1) := by decide +kernel
theorem dL_law_257 : decode cL_law 257 = .ok (.iconst 1, 1) := by decide +kernel
theorem dL_law_258 : decode cL_law 258 = .ok (.iadd, 1) := by decide +kernel
theorem dL_law_259 : decode cL_law 259 = .ok (.iaload, 1) := by decide +kernel
theorem dL_law_260 : decode cL_law 260 = .ok (.aload_n 0, 1) := by decide +kernel
theorem dL_law_261 : decode cL_law 261 = .ok (.iload_n 3, 1) := by decide +kernel
theorem dL_law_262 : decode cL_law 262 = .ok (.iconst 2, 1) := by decide +kernel
theorem dL_law_263 : decode cL_law 263 = .ok (.iadd, 1) := by decide +kernel
theorem dL_law_264 : decode cL_law 264 = .ok (.iaload, 1) := by decide +kernel
theorem dL_law_265 : decode cL_law 265 = .ok (.aload_n 0, 1) := by decide +kernel
theorem dL_law_266 : decode cL_law 266 = .ok (.iload_n 3, 1) := by decide +kernel
theorem dL_law_267 : decode cL_law 267 = .ok (.iconst 3, 1) := by decide +kernel
theorem dL_law_268 : decode cL_law 268 = .ok (.iadd, 1) := by decide +kernel
theorem dL_law_269 : decode cL_law 269 = .ok (.iaload, 1) := by decide +kernel
theorem dL_law_270 : decode cL_law 270 = .ok (.invokevirtual 32, 3) := by decide +kernel
theorem dL_law_273 : decode cL_law 273 = .ok (.if_icmp .eq 414, 3) := by decide +kernel
theorem dL_law_276 : decode cL_law 276 = .ok (.iconst 0, 1) := by decide +kernel
theorem dL_law_277 : decode cL_law 277 = .ok (.ireturn, 1) := by decide +kernel
theorem dL_law_278 : decode cL_law 278 = .ok (.aload_n 1, 1) := by decide +kernel
theorem dL_law_279 : decode cL_law 279 = .ok (.aload_n 0, 1) := by decide +kernel
theorem dL_law_280 : decode cL_law 280 = .ok (.iload_n 3, 1) := by decide +kernel
theorem dL_law_281 : decode cL_law 281 = .ok (.iconst 1, 1) := by decide +kernel
theorem dL_law_282 : decode cL_law 282 = .ok (.iadd, 1) := by decide +kernel
theorem dL_law_283 : decode cL_law 283 = .ok (.iaload, 1) := by decide +kernel
theorem dL_law_284 : decode cL_law 284 = .ok (.invokevirtual 33, 3) := by decide +kernel
theorem dL_law_287 : decode cL_law 287 = .ok (.aload_n 2, 1) := by decide +kernel
theorem dL_law_288 : decode cL_law 288 = .ok (.aload_n 0, 1) := by decide +kernel
theorem dL_law_289 : decode cL_law 289 = .ok (.iload_n 3, 1) := by decide +kernel
theorem dL_law_290 : decode cL_law 290 = .ok (.iconst 1, 1) := by decide +kernel
theorem dL_law_291 : decode cL_law 291 = .ok (.iadd, 1) := by decide +kernel
theorem dL_law_292 : decode cL_law 292 = .ok (.iaload, 1) := by decide +kernel
theorem dL_law_293 : decode cL_law 293 = .ok (.invokevirtual 36, 3) := by decide +kernel
theorem dL_law_296 : decode cL_law 296 = .ok (.if_icmp .eq 391, 3) := by decide +kernel
theorem dL_law_299 : decode cL_law 299 = .ok (.iconst 0, 1) := by decide +kernel
theorem dL_law_300 : decode cL_law 300 = .ok (.ireturn, 1) := by decide +kernel
theorem dL_law_301 : decode cL_law 301 = .ok (.aload_n 1, 1) := by decide +kernel
theorem dL_law_302 : decode cL_law 302 = .ok (.aload_n 0, 1) := by decide +kernel
theorem dL_law_303 : decode cL_law 303 = .ok (.iload_n 3, 1) := by decide +kernel
theorem dL_law_304 : decode cL_law 304 = .ok (.iconst 1, 1) := by decide +kernel
theorem dL_law_305 : decode cL_law 305 = .ok (.iadd, 1) := by decide +kernel
theorem dL_law_306 : decode cL_law 306 = .ok (.iaload, 1) := by decide +kernel
theorem dL_law_307 : decode cL_law 307 = .ok (.aload_n 0, 1) := by decide +kernel
theorem dL_law_308 : decode cL_law 308 = .ok (.iload_n 3, 1) := by decide +kernel
theorem dL_law_309 : decode cL_law 309 = .ok (.iconst 2, 1) := by decide +kernel
theorem dL_law_310 : decode cL_law 310 = .ok (.iadd, 1) := by decide +kernel
theorem dL_law_311 : decode cL_law 311 = .ok (.iaload, 1) := by decide +kernel
theorem dL_law_312 : decode cL_law 312 = .ok (.invokevirtual 37, 3) := by decide +kernel
theorem dL_law_315 : decode cL_law 315 = .ok (.aload_n 2, 1) := by decide +kernel
theorem dL_law_316 : decode cL_law 316 = .ok (.aload_n 0, 1) := by decide +kernel
theorem dL_law_317 : decode cL_law 317 = .ok (.iload_n 3, 1) := by decide +kernel
theorem dL_law_318 : decode cL_law 318 = .ok (.iconst 1, 1) := by decide +kernel
theorem dL_law_319 : decode cL_law 319 = .ok (.iadd, 1) := by decide +kernel
theorem dL_law_320 : decode cL_law 320 = .ok (.iaload, 1) := by decide +kernel
theorem dL_law_321 : decode cL_law 321 = .ok (.aload_n 0, 1) := by decide +kernel
theorem dL_law_322 : decode cL_law 322 = .ok (.iload_n 3, 1) := by decide +kernel
theorem dL_law_323 : decode cL_law 323 = .ok (.iconst 2, 1) := by decide +kernel
theorem dL_law_324 : decode cL_law 324 = .ok (.iadd, 1) := by decide +kernel
theorem dL_law_325 : decode cL_law 325 = .ok (.iaload, 1) := by decide +kernel
theorem dL_law_326 : decode cL_law 326 = .ok (.invokevirtual 40, 3) := by decide +kernel
theorem dL_law_329 : decode cL_law 329 = .ok (.if_icmp .eq 358, 3) := by decide +kernel
theorem dL_law_332 : decode cL_law 332 = .ok (.iconst 0, 1) := by decide +kernel
theorem dL_law_333 : decode cL_law 333 = .ok (.ireturn, 1) := by decide +kernel
theorem dL_law_334 : decode cL_law 334 = .ok (.aload_n 1, 1) := by decide +kernel
theorem dL_law_335 : decode cL_law 335 = .ok (.aload_n 0, 1) := by decide +kernel
theorem dL_law_336 : decode cL_law 336 = .ok (.iload_n 3, 1) := by decide +kernel
theorem dL_law_337 : decode cL_law 337 = .ok (.iconst 1, 1) := by decide +kernel
theorem dL_law_338 : decode cL_law 338 = .ok (.iadd, 1) := by decide +kernel
theorem dL_law_339 : decode cL_law 339 = .ok (.iaload, 1) := by decide +kernel
theorem dL_law_340 : decode cL_law 340 = .ok (.aload_n 0, 1) := by decide +kernel
theorem dL_law_341 : decode cL_law 341 = .ok (.iload_n 3, 1) := by decide +kernel
theorem dL_law_342 : decode cL_law 342 = .ok (.iconst 2, 1) := by decide +kernel
theorem dL_law_343 : decode cL_law 343 = .ok (.iadd, 1) := by decide +kernel
theorem dL_law_344 : decode cL_law 344 = .ok (.iaload, 1) := by decide +kernel
theorem dL_law_345 : decode cL_law 345 = .ok (.invokevirtual 41, 3) := by decide +kernel
theorem dL_law_348 : decode cL_law 348 = .ok (.aload_n 2, 1) := by decide +kernel
theorem dL_law_349 : decode cL_law 349 = .ok (.aload_n 0, 1) := by decide +kernel
theorem dL_law_350 : decode cL_law 350 = .ok (.iload_n 3, 1) := by decide +kernel
theorem dL_law_351 : decode cL_law 351 = .ok (.iconst 1, 1) := by decide +kernel
theorem dL_law_352 : decode cL_law 352 = .ok (.iadd, 1) := by decide +kernel
theorem dL_law_353 : decode cL_law 353 = .ok (.iaload, 1) := by decide +kernel
theorem dL_law_354 : decode cL_law 354 = .ok (.aload_n 0, 1) := by decide +kernel
theorem dL_law_355 : decode cL_law 355 = .ok (.iload_n 3, 1) := by decide +kernel
theorem dL_law_356 : decode cL_law 356 = .ok (.iconst 2, 1) := by decide +kernel
theorem dL_law_357 : decode cL_law 357 = .ok (.iadd, 1) := by decide +kernel
theorem dL_law_358 : decode cL_law 358 = .ok (.iaload, 1) := by decide +kernel
theorem dL_law_359 : decode cL_law 359 = .ok (.invokevirtual 44, 3) := by decide +kernel
theorem dL_law_362 : decode cL_law 362 = .ok (.if_icmp .eq 325, 3) := by decide +kernel
theorem dL_law_365 : decode cL_law 365 = .ok (.iconst 0, 1) := by decide +kernel
theorem dL_law_366 : decode cL_law 366 = .ok (.ireturn, 1) := by decide +kernel
theorem dL_law_367 : decode cL_law 367 = .ok (.aload_n 1, 1) := by decide +kernel
theorem dL_law_368 : decode cL_law 368 = .ok (.aload_n 0, 1) := by decide +kernel
theorem dL_law_369 : decode cL_law 369 = .ok (.iload_n 3, 1) := by decide +kernel
theorem dL_law_370 : decode cL_law 370 = .ok (.iconst 1, 1) := by decide +kernel
theorem dL_law_371 : decode cL_law 371 = .ok (.iadd, 1) := by decide +kernel
theorem dL_law_372 : decode cL_law 372 = .ok (.iaload, 1) := by decide +kernel
theorem dL_law_373 : decode cL_law 373 = .ok (.aload_n 0, 1) := by decide +kernel
theorem dL_law_374 : decode cL_law 374 = .ok (.iload_n 3, 1) := by decide +kernel
theorem dL_law_375 : decode cL_law 375 = .ok (.iconst 2, 1) := by decide +kernel
theorem dL_law_376 : decode cL_law 376 = .ok (.iadd, 1) := by decide +kernel
theorem dL_law_377 : decode cL_law 377 = .ok (.iaload, 1) := by decide +kernel
theorem dL_law_378 : decode cL_law 378 = .ok (.aload_n 0, 1) := by decide +kernel
theorem dL_law_379 : decode cL_law 379 = .ok (.iload_n 3, 1) := by decide +kernel
theorem dL_law_380 : decode cL_law 380 = .ok (.iconst 3, 1) := by decide +kernel
theorem dL_law_381 : decode cL_law 381 = .ok (.iadd, 1) := by decide +kernel
theorem dL_law_382 : decode cL_law 382 = .ok (.iaload, 1) := by decide +kernel
theorem dL_law_383 : decode cL_law 383 = .ok (.aload_n 0, 1) := by decide +kernel
theorem dL_law_384 : decode cL_law 384 = .ok (.iload_n 3, 1) := by decide +kernel
theorem dL_law_385 : decode cL_law 385 = .ok (.iconst 4, 1) := by decide +kernel
theorem dL_law_386 : decode cL_law 386 = .ok (.iadd, 1) := by decide +kernel
theorem dL_law_387 : decode cL_law 387 = .ok (.iaload, 1) := by decide +kernel
theorem dL_law_388 : decode cL_law 388 = .ok (.aload_n 0, 1) := by decide +kernel
theorem dL_law_389 : decode cL_law 389 = .ok (.iload_n 3, 1) := by decide +kernel
theorem dL_law_390 : decode cL_law 390 = .ok (.iconst 5, 1) := by decide +kernel
theorem dL_law_391 : decode cL_law 391 = .ok (.iadd, 1) := by decide +kernel
theorem dL_law_392 : decode cL_law 392 = .ok (.iaload, 1) := by decide +kernel
theorem dL_law_393 : decode cL_law 393 = .ok (.invokevirtual 45, 3) := by decide +kernel
theorem dL_law_396 : decode cL_law 396 = .ok (.aload_n 2, 1) := by decide +kernel
theorem dL_law_397 : decode cL_law 397 = .ok (.aload_n 0, 1) := by decide +kernel
theorem dL_law_398 : decode cL_law 398 = .ok (.iload_n 3, 1) := by decide +kernel
theorem dL_law_399 : decode cL_law 399 = .ok (.iconst 1, 1) := by decide +kernel
theorem dL_law_400 : decode cL_law 400 = .ok (.iadd, 1) := by decide +kernel
theorem dL_law_401 : decode cL_law 401 = .ok (.iaload, 1) := by decide +kernel
theorem dL_law_402 : decode cL_law 402 = .ok (.aload_n 0, 1) := by decide +kernel
theorem dL_law_403 : decode cL_law 403 = .ok (.iload_n 3, 1) := by decide +kernel
theorem dL_law_404 : decode cL_law 404 = .ok (.iconst 2, 1) := by decide +kernel
theorem dL_law_405 : decode cL_law 405 = .ok (.iadd, 1) := by decide +kernel
theorem dL_law_406 : decode cL_law 406 = .ok (.iaload, 1) := by decide +kernel
theorem dL_law_407 : decode cL_law 407 = .ok (.aload_n 0, 1) := by decide +kernel
theorem dL_law_408 : decode cL_law 408 = .ok (.iload_n 3, 1) := by decide +kernel
theorem dL_law_409 : decode cL_law 409 = .ok (.iconst 3, 1) := by decide +kernel
theorem dL_law_410 : decode cL_law 410 = .ok (.iadd, 1) := by decide +kernel
theorem dL_law_411 : decode cL_law 411 = .ok (.iaload, 1) := by decide +kernel
theorem dL_law_412 : decode cL_law 412 = .ok (.aload_n 0, 1) := by decide +kernel
theorem dL_law_413 : decode cL_law 413 = .ok (.iload_n 3, 1) := by decide +kernel
theorem dL_law_414 : decode cL_law 414 = .ok (.iconst 4, 1) := by decide +kernel
theorem dL_law_415 : decode cL_law 415 = .ok (.iadd, 1) := by decide +kernel
theorem dL_law_416 : decode cL_law 416 = .ok (.iaload, 1) := by decide +kernel
theorem dL_law_417 : decode cL_law 417 = .ok (.aload_n 0, 1) := by decide +kernel
theorem dL_law_418 : decode cL_law 418 = .ok (.iload_n 3, 1) := by decide +kernel
theorem dL_law_419 : decode cL_law 419 = .ok (.iconst 5, 1) := by decide +kernel
theorem dL_law_420 : decode cL_law 420 = .ok (.iadd, 1) := by decide +kernel
theorem dL_law_421 : decode cL_law 421 = .ok (.iaload, 1) := by decide +kernel
theorem dL_law_422 : decode cL_law 422 = .ok (.invokevirtual 48, 3) := by decide +kernel
theorem dL_law_425 : decode cL_law 425 = .ok (.if_icmp .eq 262, 3) := by decide +kernel
theorem dL_law_428 : decode cL_law 428 = .ok (.iconst 0, 1) := by decide +kernel
theorem dL_law_429 : decode cL_law 429 = .ok (.ireturn, 1) := by decide +kernel
theorem dL_law_430 : decode cL_law 430 = .ok (.aload_n 1, 1) := by decide +kernel
theorem dL_law_431 : decode cL_law 431 = .ok (.aload_n 0, 1) := by decide +kernel
theorem dL_law_432 : decode cL_law 432 = .ok (.iload_n 3, 1) := by decide +kernel
theorem dL_law_433 : decode cL_law 433 = .ok (.iconst 1, 1) := by decide +kernel
theorem dL_law_434 : decode cL_law 434 = .ok (.iadd, 1) := by decide +kernel
theorem dL_law_435 : decode cL_law 435 = .ok (.iaload, 1) := by decide +kernel
theorem dL_law_436 : decode cL_law 436 = .ok (.aload_n 0, 1) := by decide +kernel
theorem dL_law_437 : decode cL_law 437 = .ok (.iload_n 3, 1) := by decide +kernel
theorem dL_law_438 : decode cL_law 438 = .ok (.iconst 2, 1) := by decide +kernel
theorem dL_law_439 : decode cL_law 439 = .ok (.iadd, 1) := by decide +kernel
theorem dL_law_440 : decode cL_law 440 = .ok (.iaload, 1) := by decide +kernel
theorem dL_law_441 : decode cL_law 441 = .ok (.aload_n 0, 1) := by decide +kernel
theorem dL_law_442 : decode cL_law 442 = .ok (.iload_n 3, 1) := by decide +kernel
theorem dL_law_443 : decode cL_law 443 = .ok (.iconst 3, 1) := by decide +kernel
theorem dL_law_444 : decode cL_law 444 = .ok (.iadd, 1) := by decide +kernel
theorem dL_law_445 : decode cL_law 445 = .ok (.iaload, 1) := by decide +kernel
theorem dL_law_446 : decode cL_law 446 = .ok (.aload_n 0, 1) := by decide +kernel
theorem dL_law_447 : decode cL_law 447 = .ok (.iload_n 3, 1) := by decide +kernel
theorem dL_law_448 : decode cL_law 448 = .ok (.iconst 4, 1) := by decide +kernel
theorem dL_law_449 : decode cL_law 449 = .ok (.iadd, 1) := by decide +kernel
theorem dL_law_450 : decode cL_law 450 = .ok (.iaload, 1) := by decide +kernel
theorem dL_law_451 : decode cL_law 451 = .ok (.invokevirtual 49, 3) := by decide +kernel
theorem dL_law_454 : decode cL_law 454 = .ok (.aload_n 2, 1) := by decide +kernel
theorem dL_law_455 : decode cL_law 455 = .ok (.aload_n 0, 1) := by decide +kernel
theorem dL_law_456 : decode cL_law 456 = .ok (.iload_n 3, 1) := by decide +kernel
theorem dL_law_457 : decode cL_law 457 = .ok (.iconst 1, 1) := by decide +kernel
theorem dL_law_458 : decode cL_law 458 = .ok (.iadd, 1) := by decide +kernel
theorem dL_law_459 : decode cL_law 459 = .ok (.iaload, 1) := by decide +kernel
theorem dL_law_460 : decode cL_law 460 = .ok (.aload_n 0, 1) := by decide +kernel
theorem dL_law_461 : decode cL_law 461 = .ok (.iload_n 3, 1) := by decide +kernel
theorem dL_law_462 : decode cL_law 462 = .ok (.iconst 2, 1) := by decide +kernel
theorem dL_law_463 : decode cL_law 463 = .ok (.iadd, 1) := by decide +kernel
theorem dL_law_464 : decode cL_law 464 = .ok (.iaload, 1) := by decide +kernel
theorem dL_law_465 : decode cL_law 465 = .ok (.aload_n 0, 1) := by decide +kernel
theorem dL_law_466 : decode cL_law 466 = .ok (.iload_n 3, 1) := by decide +kernel
theorem dL_law_467 : decode cL_law 467 = .ok (.iconst 3, 1) := by decide +kernel
theorem dL_law_468 : decode cL_law 468 = .ok (.iadd, 1) := by decide +kernel
theorem dL_law_469 : decode cL_law 469 = .ok (.iaload, 1) := by decide +kernel
theorem dL_law_470 : decode cL_law 470 = .ok (.aload_n 0, 1) := by decide +kernel
theorem dL_law_471 : decode cL_law 471 = .ok (.iload_n 3, 1) := by decide +kernel
theorem dL_law_472 : decode cL_law 472 = .ok (.iconst 4, 1) := by decide +kernel
theorem dL_law_473 : decode cL_law 473 = .ok (.iadd, 1) := by decide +kernel
theorem dL_law_474 : decode cL_law 474 = .ok (.iaload, 1) := by decide +kernel
theorem dL_law_475 : decode cL_law 475 = .ok (.invokevirtual 53, 3) := by decide +kernel
theorem dL_law_478 : decode cL_law 478 = .ok (.if_icmp .eq 209, 3) := by decide +kernel
theorem dL_law_481 : decode cL_law 481 = .ok (.iconst 0, 1) := by decide +kernel
theorem dL_law_482 : decode cL_law 482 = .ok (.ireturn, 1) := by decide +kernel
theorem dL_law_483 : decode cL_law 483 = .ok (.aload_n 1, 1) := by decide +kernel
theorem dL_law_484 : decode cL_law 484 = .ok (.aload_n 0, 1) := by decide +kernel
theorem dL_law_485 : decode cL_law 485 = .ok (.iload_n 3, 1) := by decide +kernel
theorem dL_law_486 : decode cL_law 486 = .ok (.iconst 1, 1) := by decide +kernel
theorem dL_law_487 : decode cL_law 487 = .ok (.iadd, 1) := by decide +kernel
theorem dL_law_488 : decode cL_law 488 = .ok (.iaload, 1) := by decide +kernel
theorem dL_law_489 : decode cL_law 489 = .ok (.aload_n 0, 1) := by decide +kernel
theorem dL_law_490 : decode cL_law 490 = .ok (.iload_n 3, 1) := by decide +kernel
theorem dL_law_491 : decode cL_law 491 = .ok (.iconst 2, 1) := by decide +kernel
theorem dL_law_492 : decode cL_law 492 = .ok (.iadd, 1) := by decide +kernel
theorem dL_law_493 : decode cL_law 493 = .ok (.iaload, 1) := by decide +kernel
theorem dL_law_494 : decode cL_law 494 = .ok (.aload_n 0, 1) := by decide +kernel
theorem dL_law_495 : decode cL_law 495 = .ok (.iload_n 3, 1) := by decide +kernel
theorem dL_law_496 : decode cL_law 496 = .ok (.iconst 3, 1) := by decide +kernel
theorem dL_law_497 : decode cL_law 497 = .ok (.iadd, 1) := by decide +kernel
theorem dL_law_498 : decode cL_law 498 = .ok (.iaload, 1) := by decide +kernel
theorem dL_law_499 : decode cL_law 499 = .ok (.aload_n 0, 1) := by decide +kernel
theorem dL_law_500 : decode cL_law 500 = .ok (.iload_n 3, 1) := by decide +kernel
theorem dL_law_501 : decode cL_law 501 = .ok (.iconst 4, 1) := by decide +kernel
theorem dL_law_502 : decode cL_law 502 = .ok (.iadd, 1) := by decide +kernel
theorem dL_law_503 : decode cL_law 503 = .ok (.iaload, 1) := by decide +kernel
theorem dL_law_504 : decode cL_law 504 = .ok (.aload_n 0, 1) := by decide +kernel
theorem dL_law_505 : decode cL_law 505 = .ok (.iload_n 3, 1) := by decide +kernel
theorem dL_law_506 : decode cL_law 506 = .ok (.iconst 5, 1) := by decide +kernel
theorem dL_law_507 : decode cL_law 507 = .ok (.iadd, 1) := by decide +kernel
theorem dL_law_508 : decode cL_law 508 = .ok (.iaload, 1) := by decide +kernel
theorem dL_law_509 : decode cL_law 509 = .ok (.invokevirtual 54, 3) := by decide +kernel
theorem dL_law_512 : decode cL_law 512 = .ok (.aload_n 2, 1) := by decide +kernel
theorem dL_law_513 : decode cL_law 513 = .ok (.aload_n 0, 1) := by decide +kernel
theorem dL_law_514 : decode cL_law 514 = .ok (.iload_n 3, 1) := by decide +kernel
theorem dL_law_515 : decode cL_law 515 = .ok (.iconst 1, 1) := by decide +kernel
theorem dL_law_516 : decode cL_law 516 = .ok (.iadd, 1) := by decide +kernel
theorem dL_law_517 : decode cL_law 517 = .ok (.iaload, 1) := by decide +kernel
theorem dL_law_518 : decode cL_law 518 = .ok (.aload_n 0, 1) := by decide +kernel
theorem dL_law_519 : decode cL_law 519 = .ok (.iload_n 3, 1) := by decide +kernel
theorem dL_law_520 : decode cL_law 520 = .ok (.iconst 2, 1) := by decide +kernel
theorem dL_law_521 : decode cL_law 521 = .ok (.iadd, 1) := by decide +kernel
theorem dL_law_522 : decode cL_law 522 = .ok (.iaload, 1) := by decide +kernel
theorem dL_law_523 : decode cL_law 523 = .ok (.aload_n 0, 1) := by decide +kernel
theorem dL_law_524 : decode cL_law 524 = .ok (.iload_n 3, 1) := by decide +kernel
theorem dL_law_525 : decode cL_law 525 = .ok (.iconst 3, 1) := by decide +kernel
theorem dL_law_526 : decode cL_law 526 = .ok (.iadd, 1) := by decide +kernel
theorem dL_law_527 : decode cL_law 527 = .ok (.iaload, 1) := by decide +kernel
theorem dL_law_528 : decode cL_law 528 = .ok (.aload_n 0, 1) := by decide +kernel
theorem dL_law_529 : decode cL_law 529 = .ok (.iload_n 3, 1) := by decide +kernel
theorem dL_law_530 : decode cL_law 530 = .ok (.iconst 4, 1) := by decide +kernel
theorem dL_law_531 : decode cL_law 531 = .ok (.iadd, 1) := by decide +kernel
theorem dL_law_532 : decode cL_law 532 = .ok (.iaload, 1) := by decide +kernel
theorem dL_law_533 : decode cL_law 533 = .ok (.aload_n 0, 1) := by decide +kernel
theorem dL_law_534 : decode cL_law 534 = .ok (.iload_n 3, 1) := by decide +kernel
theorem dL_law_535 : decode cL_law 535 = .ok (.iconst 5, 1) := by decide +kernel
theorem dL_law_536 : decode cL_law 536 = .ok (.iadd, 1) := by decide +kernel
theorem dL_law_537 : decode cL_law 537 = .ok (.iaload, 1) := by decide +kernel
theorem dL_law_538 : decode cL_law 538 = .ok (.invokevirtual 57, 3) := by decide +kernel
theorem dL_law_541 : decode cL_law 541 = .ok (.if_icmp .eq 146, 3) := by decide +kernel
theorem dL_law_544 : decode cL_law 544 = .ok (.iconst 0, 1) := by decide +kernel
theorem dL_law_545 : decode cL_law 545 = .ok (.ireturn, 1) := by decide +kernel
theorem dL_law_546 : decode cL_law 546 = .ok (.aload_n 1, 1) := by decide +kernel
theorem dL_law_547 : decode cL_law 547 = .ok (.aload_n 0, 1) := by decide +kernel
theorem dL_law_548 : decode cL_law 548 = .ok (.iload_n 3, 1) := by decide +kernel
theorem dL_law_549 : decode cL_law 549 = .ok (.iconst 1, 1) := by decide +kernel
theorem dL_law_550 : decode cL_law 550 = .ok (.iadd, 1) := by decide +kernel
theorem dL_law_551 : decode cL_law 551 = .ok (.iaload, 1) := by decide +kernel
theorem dL_law_552 : decode cL_law 552 = .ok (.aload_n 0, 1) := by decide +kernel
theorem dL_law_553 : decode cL_law 553 = .ok (.iload_n 3, 1) := by decide +kernel
theorem dL_law_554 : decode cL_law 554 = .ok (.iconst 2, 1) := by decide +kernel
theorem dL_law_555 : decode cL_law 555 = .ok (.iadd, 1) := by decide +kernel
theorem dL_law_556 : decode cL_law 556 = .ok (.iaload, 1) := by decide +kernel
theorem dL_law_557 : decode cL_law 557 = .ok (.invokevirtual 58, 3) := by decide +kernel
theorem dL_law_560 : decode cL_law 560 = .ok (.aload_n 2, 1) := by decide +kernel
theorem dL_law_561 : decode cL_law 561 = .ok (.aload_n 0, 1) := by decide +kernel
theorem dL_law_562 : decode cL_law 562 = .ok (.iload_n 3, 1) := by decide +kernel
theorem dL_law_563 : decode cL_law 563 = .ok (.iconst 1, 1) := by decide +kernel
theorem dL_law_564 : decode cL_law 564 = .ok (.iadd, 1) := by decide +kernel
theorem dL_law_565 : decode cL_law 565 = .ok (.iaload, 1) := by decide +kernel
theorem dL_law_566 : decode cL_law 566 = .ok (.aload_n 0, 1) := by decide +kernel
theorem dL_law_567 : decode cL_law 567 = .ok (.iload_n 3, 1) := by decide +kernel
theorem dL_law_568 : decode cL_law 568 = .ok (.iconst 2, 1) := by decide +kernel
theorem dL_law_569 : decode cL_law 569 = .ok (.iadd, 1) := by decide +kernel
theorem dL_law_570 : decode cL_law 570 = .ok (.iaload, 1) := by decide +kernel
theorem dL_law_571 : decode cL_law 571 = .ok (.invokevirtual 61, 3) := by decide +kernel
theorem dL_law_574 : decode cL_law 574 = .ok (.if_icmp .eq 113, 3) := by decide +kernel
theorem dL_law_577 : decode cL_law 577 = .ok (.iconst 0, 1) := by decide +kernel
theorem dL_law_578 : decode cL_law 578 = .ok (.ireturn, 1) := by decide +kernel
theorem dL_law_579 : decode cL_law 579 = .ok (.aload_n 1, 1) := by decide +kernel
theorem dL_law_580 : decode cL_law 580 = .ok (.aload_n 0, 1) := by decide +kernel
theorem dL_law_581 : decode cL_law 581 = .ok (.iload_n 3, 1) := by decide +kernel
theorem dL_law_582 : decode cL_law 582 = .ok (.iconst 1, 1) := by decide +kernel
theorem dL_law_583 : decode cL_law 583 = .ok (.iadd, 1) := by decide +kernel
theorem dL_law_584 : decode cL_law 584 = .ok (.iaload, 1) := by decide +kernel
theorem dL_law_585 : decode cL_law 585 = .ok (.invokevirtual 62, 3) := by decide +kernel
theorem dL_law_588 : decode cL_law 588 = .ok (.aload_n 2, 1) := by decide +kernel
theorem dL_law_589 : decode cL_law 589 = .ok (.aload_n 0, 1) := by decide +kernel
theorem dL_law_590 : decode cL_law 590 = .ok (.iload_n 3, 1) := by decide +kernel
theorem dL_law_591 : decode cL_law 591 = .ok (.iconst 1, 1) := by decide +kernel
theorem dL_law_592 : decode cL_law 592 = .ok (.iadd, 1) := by decide +kernel
theorem dL_law_593 : decode cL_law 593 = .ok (.iaload, 1) := by decide +kernel
theorem dL_law_594 : decode cL_law 594 = .ok (.invokevirtual 65, 3) := by decide +kernel
theorem dL_law_597 : decode cL_law 597 = .ok (.if_icmp .eq 90, 3) := by decide +kernel
theorem dL_law_600 : decode cL_law 600 = .ok (.iconst 0, 1) := by decide +kernel
theorem dL_law_601 : decode cL_law 601 = .ok (.ireturn, 1) := by decide +kernel
theorem dL_law_602 : decode cL_law 602 = .ok (.aload_n 1, 1) := by decide +kernel
theorem dL_law_603 : decode cL_law 603 = .ok (.invokevirtual 66, 3) := by decide +kernel
theorem dL_law_606 : decode cL_law 606 = .ok (.aload_n 2, 1) := by decide +kernel
theorem dL_law_607 : decode cL_law 607 = .ok (.invokevirtual 70, 3) := by decide +kernel
theorem dL_law_610 : decode cL_law 610 = .ok (.if_icmp .eq 77, 3) := by decide +kernel
theorem dL_law_613 : decode cL_law 613 = .ok (.iconst 0, 1) := by decide +kernel
theorem dL_law_614 : decode cL_law 614 = .ok (.ireturn, 1) := by decide +kernel
theorem dL_law_615 : decode cL_law 615 = .ok (.aload_n 1, 1) := by decide +kernel
theorem dL_law_616 : decode cL_law 616 = .ok (.aload_n 0, 1) := by decide +kernel
theorem dL_law_617 : decode cL_law 617 = .ok (.iload_n 3, 1) := by decide +kernel
theorem dL_law_618 : decode cL_law 618 = .ok (.iconst 1, 1) := by decide +kernel
theorem dL_law_619 : decode cL_law 619 = .ok (.iadd, 1) := by decide +kernel
theorem dL_law_620 : decode cL_law 620 = .ok (.iaload, 1) := by decide +kernel
theorem dL_law_621 : decode cL_law 621 = .ok (.invokevirtual 71, 3) := by decide +kernel
theorem dL_law_624 : decode cL_law 624 = .ok (.aload_n 2, 1) := by decide +kernel
theorem dL_law_625 : decode cL_law 625 = .ok (.aload_n 0, 1) := by decide +kernel
theorem dL_law_626 : decode cL_law 626 = .ok (.iload_n 3, 1) := by decide +kernel
theorem dL_law_627 : decode cL_law 627 = .ok (.iconst 1, 1) := by decide +kernel
theorem dL_law_628 : decode cL_law 628 = .ok (.iadd, 1) := by decide +kernel
theorem dL_law_629 : decode cL_law 629 = .ok (.iaload, 1) := by decide +kernel
theorem dL_law_630 : decode cL_law 630 = .ok (.invokevirtual 74, 3) := by decide +kernel
theorem dL_law_633 : decode cL_law 633 = .ok (.if_icmp .eq 54, 3) := by decide +kernel
theorem dL_law_636 : decode cL_law 636 = .ok (.iconst 0, 1) := by decide +kernel
theorem dL_law_637 : decode cL_law 637 = .ok (.ireturn, 1) := by decide +kernel
theorem dL_law_638 : decode cL_law 638 = .ok (.aload_n 1, 1) := by decide +kernel
theorem dL_law_639 : decode cL_law 639 = .ok (.invokevirtual 75, 3) := by decide +kernel
theorem dL_law_642 : decode cL_law 642 = .ok (.aload_n 2, 1) := by decide +kernel
theorem dL_law_643 : decode cL_law 643 = .ok (.invokevirtual 78, 3) := by decide +kernel
theorem dL_law_646 : decode cL_law 646 = .ok (.if_icmp .eq 41, 3) := by decide +kernel
theorem dL_law_649 : decode cL_law 649 = .ok (.iconst 0, 1) := by decide +kernel
theorem dL_law_650 : decode cL_law 650 = .ok (.ireturn, 1) := by decide +kernel
theorem dL_law_651 : decode cL_law 651 = .ok (.aload_n 1, 1) := by decide +kernel
theorem dL_law_652 : decode cL_law 652 = .ok (.aload_n 0, 1) := by decide +kernel
theorem dL_law_653 : decode cL_law 653 = .ok (.iload_n 3, 1) := by decide +kernel
theorem dL_law_654 : decode cL_law 654 = .ok (.iconst 1, 1) := by decide +kernel
theorem dL_law_655 : decode cL_law 655 = .ok (.iadd, 1) := by decide +kernel
theorem dL_law_656 : decode cL_law 656 = .ok (.iaload, 1) := by decide +kernel
theorem dL_law_657 : decode cL_law 657 = .ok (.invokevirtual 79, 3) := by decide +kernel
theorem dL_law_660 : decode cL_law 660 = .ok (.aload_n 2, 1) := by decide +kernel
theorem dL_law_661 : decode cL_law 661 = .ok (.aload_n 0, 1) := by decide +kernel
theorem dL_law_662 : decode cL_law 662 = .ok (.iload_n 3, 1) := by decide +kernel
theorem dL_law_663 : decode cL_law 663 = .ok (.iconst 1, 1) := by decide +kernel
theorem dL_law_664 : decode cL_law 664 = .ok (.iadd, 1) := by decide +kernel
theorem dL_law_665 : decode cL_law 665 = .ok (.iaload, 1) := by decide +kernel
theorem dL_law_666 : decode cL_law 666 = .ok (.invokevirtual 82, 3) := by decide +kernel
theorem dL_law_669 : decode cL_law 669 = .ok (.if_icmp .eq 18, 3) := by decide +kernel
theorem dL_law_672 : decode cL_law 672 = .ok (.iconst 0, 1) := by decide +kernel
theorem dL_law_673 : decode cL_law 673 = .ok (.ireturn, 1) := by decide +kernel
theorem dL_law_674 : decode cL_law 674 = .ok (.aload_n 1, 1) := by decide +kernel
theorem dL_law_675 : decode cL_law 675 = .ok (.invokevirtual 83, 3) := by decide +kernel
theorem dL_law_678 : decode cL_law 678 = .ok (.aload_n 2, 1) := by decide +kernel
theorem dL_law_679 : decode cL_law 679 = .ok (.invokevirtual 86, 3) := by decide +kernel
theorem dL_law_682 : decode cL_law 682 = .ok (.if_icmp .eq 5, 3) := by decide +kernel
theorem dL_law_685 : decode cL_law 685 = .ok (.iconst 0, 1) := by decide +kernel
theorem dL_law_686 : decode cL_law 686 = .ok (.ireturn, 1) := by decide +kernel
theorem dL_law_687 : decode cL_law 687 = .ok (.iinc 3 6, 3) := by decide +kernel
theorem dL_law_690 : decode cL_law 690 = .ok (.goto (-672), 3) := by decide +kernel
theorem dL_law_693 : decode cL_law 693 = .ok (.iconst 1, 1) := by decide +kernel
theorem dL_law_694 : decode cL_law 694 = .ok (.ireturn, 1) := by decide +kernel
theorem dJ6_bitCount_0f7a4_0 : decode cJ6_bitCount_0f7a4 0 = .ok (.iload_n 0, 1) := by decide +kernel
theorem dJ6_bitCount_0f7a4_1 : decode cJ6_bitCount_0f7a4 1 = .ok (.iload_n 0, 1) := by decide +kernel
theorem dJ6_bitCount_0f7a4_2 : decode cJ6_bitCount_0f7a4 2 = .ok (.iconst 1, 1) := by decide +kernel
theorem dJ6_bitCount_0f7a4_3 : decode cJ6_bitCount_0f7a4 3 = .ok (.iushr, 1) := by decide +kernel
theorem dJ6_bitCount_0f7a4_4 : decode cJ6_bitCount_0f7a4 4 = .ok (.ldc_w 265, 3) := by decide +kernel
theorem dJ6_bitCount_0f7a4_7 : decode cJ6_bitCount_0f7a4 7 = .ok (.iand, 1) := by decide +kernel
theorem dJ6_bitCount_0f7a4_8 : decode cJ6_bitCount_0f7a4 8 = .ok (.isub, 1) := by decide +kernel
theorem dJ6_bitCount_0f7a4_9 : decode cJ6_bitCount_0f7a4 9 = .ok (.istore_n 0, 1) := by decide +kernel
theorem dJ6_bitCount_0f7a4_10 : decode cJ6_bitCount_0f7a4 10 = .ok (.iload_n 0, 1) := by decide +kernel
theorem dJ6_bitCount_0f7a4_11 : decode cJ6_bitCount_0f7a4 11 = .ok (.ldc_w 266, 3) := by decide +kernel
theorem dJ6_bitCount_0f7a4_14 : decode cJ6_bitCount_0f7a4 14 = .ok (.iand, 1) := by decide +kernel
theorem dJ6_bitCount_0f7a4_15 : decode cJ6_bitCount_0f7a4 15 = .ok (.iload_n 0, 1) := by decide +kernel
theorem dJ6_bitCount_0f7a4_16 : decode cJ6_bitCount_0f7a4 16 = .ok (.iconst 2, 1) := by decide +kernel
theorem dJ6_bitCount_0f7a4_17 : decode cJ6_bitCount_0f7a4 17 = .ok (.iushr, 1) := by decide +kernel
theorem dJ6_bitCount_0f7a4_18 : decode cJ6_bitCount_0f7a4 18 = .ok (.ldc_w 266, 3) := by decide +kernel
theorem dJ6_bitCount_0f7a4_21 : decode cJ6_bitCount_0f7a4 21 = .ok (.iand, 1) := by decide +kernel
theorem dJ6_bitCount_0f7a4_22 : decode cJ6_bitCount_0f7a4 22 = .ok (.iadd, 1) := by decide +kernel
theorem dJ6_bitCount_0f7a4_23 : decode cJ6_bitCount_0f7a4 23 = .ok (.istore_n 0, 1) := by decide +kernel
theorem dJ6_bitCount_0f7a4_24 : decode cJ6_bitCount_0f7a4 24 = .ok (.iload_n 0, 1) := by decide +kernel
theorem dJ6_bitCount_0f7a4_25 : decode cJ6_bitCount_0f7a4 25 = .ok (.iload_n 0, 1) := by decide +kernel
theorem dJ6_bitCount_0f7a4_26 : decode cJ6_bitCount_0f7a4 26 = .ok (.iconst 4, 1) := by decide +kernel
theorem dJ6_bitCount_0f7a4_27 : decode cJ6_bitCount_0f7a4 27 = .ok (.iushr, 1) := by decide +kernel
theorem dJ6_bitCount_0f7a4_28 : decode cJ6_bitCount_0f7a4 28 = .ok (.iadd, 1) := by decide +kernel
theorem dJ6_bitCount_0f7a4_29 : decode cJ6_bitCount_0f7a4 29 = .ok (.ldc_w 267, 3) := by decide +kernel
theorem dJ6_bitCount_0f7a4_32 : decode cJ6_bitCount_0f7a4 32 = .ok (.iand, 1) := by decide +kernel
theorem dJ6_bitCount_0f7a4_33 : decode cJ6_bitCount_0f7a4 33 = .ok (.istore_n 0, 1) := by decide +kernel
theorem dJ6_bitCount_0f7a4_34 : decode cJ6_bitCount_0f7a4 34 = .ok (.iload_n 0, 1) := by decide +kernel
theorem dJ6_bitCount_0f7a4_35 : decode cJ6_bitCount_0f7a4 35 = .ok (.iload_n 0, 1) := by decide +kernel
theorem dJ6_bitCount_0f7a4_36 : decode cJ6_bitCount_0f7a4 36 = .ok (.bipush 8, 2) := by decide +kernel
theorem dJ6_bitCount_0f7a4_38 : decode cJ6_bitCount_0f7a4 38 = .ok (.iushr, 1) := by decide +kernel
theorem dJ6_bitCount_0f7a4_39 : decode cJ6_bitCount_0f7a4 39 = .ok (.iadd, 1) := by decide +kernel
theorem dJ6_bitCount_0f7a4_40 : decode cJ6_bitCount_0f7a4 40 = .ok (.istore_n 0, 1) := by decide +kernel
theorem dJ6_bitCount_0f7a4_41 : decode cJ6_bitCount_0f7a4 41 = .ok (.iload_n 0, 1) := by decide +kernel
theorem dJ6_bitCount_0f7a4_42 : decode cJ6_bitCount_0f7a4 42 = .ok (.iload_n 0, 1) := by decide +kernel
theorem dJ6_bitCount_0f7a4_43 : decode cJ6_bitCount_0f7a4 43 = .ok (.bipush 16, 2) := by decide +kernel
theorem dJ6_bitCount_0f7a4_45 : decode cJ6_bitCount_0f7a4 45 = .ok (.iushr, 1) := by decide +kernel
theorem dJ6_bitCount_0f7a4_46 : decode cJ6_bitCount_0f7a4 46 = .ok (.iadd, 1) := by decide +kernel
theorem dJ6_bitCount_0f7a4_47 : decode cJ6_bitCount_0f7a4 47 = .ok (.istore_n 0, 1) := by decide +kernel
theorem dJ6_bitCount_0f7a4_48 : decode cJ6_bitCount_0f7a4 48 = .ok (.iload_n 0, 1) := by decide +kernel
theorem dJ6_bitCount_0f7a4_49 : decode cJ6_bitCount_0f7a4 49 = .ok (.bipush 63, 2) := by decide +kernel
theorem dJ6_bitCount_0f7a4_51 : decode cJ6_bitCount_0f7a4 51 = .ok (.iand, 1) := by decide +kernel
theorem dJ6_bitCount_0f7a4_52 : decode cJ6_bitCount_0f7a4 52 = .ok (.ireturn, 1) := by decide +kernel
theorem dJ9_max_7cf53_0 : decode cJ9_max_7cf53 0 = .ok (.iload_n 0, 1) := by decide +kernel
theorem dJ9_max_7cf53_1 : decode cJ9_max_7cf53 1 = .ok (.iload_n 1, 1) := by decide +kernel
theorem dJ9_max_7cf53_2 : decode cJ9_max_7cf53 2 = .ok (.if_icmp .lt 7, 3) := by decide +kernel
theorem dJ9_max_7cf53_5 : decode cJ9_max_7cf53 5 = .ok (.iload_n 0, 1) := by decide +kernel
theorem dJ9_max_7cf53_6 : decode cJ9_max_7cf53 6 = .ok (.goto 4, 3) := by decide +kernel
theorem dJ9_max_7cf53_9 : decode cJ9_max_7cf53 9 = .ok (.iload_n 1, 1) := by decide +kernel
theorem dJ9_max_7cf53_10 : decode cJ9_max_7cf53 10 = .ok (.ireturn, 1) := by decide +kernel
theorem dJ9_min_7cf53_0 : decode cJ9_min_7cf53 0 = .ok (.iload_n 0, 1) := by decide +kernel
theorem dJ9_min_7cf53_1 : decode cJ9_min_7cf53 1 = .ok (.iload_n 1, 1) := by decide +kernel
theorem dJ9_min_7cf53_2 : decode cJ9_min_7cf53 2 = .ok (.if_icmp .gt 7, 3) := by decide +kernel
theorem dJ9_min_7cf53_5 : decode cJ9_min_7cf53 5 = .ok (.iload_n 0, 1) := by decide +kernel
theorem dJ9_min_7cf53_6 : decode cJ9_min_7cf53 6 = .ok (.goto 4, 3) := by decide +kernel
theorem dJ9_min_7cf53_9 : decode cJ9_min_7cf53 9 = .ok (.iload_n 1, 1) := by decide +kernel
theorem dJ9_min_7cf53_10 : decode cJ9_min_7cf53 10 = .ok (.ireturn, 1) := by decide +kernel
theorem dJ7_fill_53178_0 : decode cJ7_fill_53178 0 = .ok (.iconst 0, 1) := by decide +kernel
theorem dJ7_fill_53178_1 : decode cJ7_fill_53178 1 = .ok (.istore_n 2, 1) := by decide +kernel
theorem dJ7_fill_53178_2 : decode cJ7_fill_53178 2 = .ok (.aload_n 0, 1) := by decide +kernel
theorem dJ7_fill_53178_3 : decode cJ7_fill_53178 3 = .ok (.arraylength, 1) := by decide +kernel
theorem dJ7_fill_53178_4 : decode cJ7_fill_53178 4 = .ok (.istore_n 3, 1) := by decide +kernel
theorem dJ7_fill_53178_5 : decode cJ7_fill_53178 5 = .ok (.iload_n 2, 1) := by decide +kernel
theorem dJ7_fill_53178_6 : decode cJ7_fill_53178 6 = .ok (.iload_n 3, 1) := by decide +kernel
theorem dJ7_fill_53178_7 : decode cJ7_fill_53178 7 = .ok (.if_icmp .ge 13, 3) := by decide +kernel
theorem dJ7_fill_53178_10 : decode cJ7_fill_53178 10 = .ok (.aload_n 0, 1) := by decide +kernel
theorem dJ7_fill_53178_11 : decode cJ7_fill_53178 11 = .ok (.iload_n 2, 1) := by decide +kernel
theorem dJ7_fill_53178_12 : decode cJ7_fill_53178 12 = .ok (.iload_n 1, 1) := by decide +kernel
theorem dJ7_fill_53178_13 : decode cJ7_fill_53178 13 = .ok (.iastore, 1) := by decide +kernel
theorem dJ7_fill_53178_14 : decode cJ7_fill_53178 14 = .ok (.iinc 2 1, 3) := by decide +kernel
theorem dJ7_fill_53178_17 : decode cJ7_fill_53178 17 = .ok (.goto (-12), 3) := by decide +kernel
theorem dJ7_fill_53178_20 : decode cJ7_fill_53178 20 = .ok (.return_, 1) := by decide +kernel
end
section
theorem dX8_init_0 : decode cX8_init 0 = .ok (.aload_n 0, 1) := by decide +kernel
theorem dX8_init_1 : decode cX8_init 1 = .ok (.invokespecial 1, 3) := by decide +kernel
theorem dX8_init_4 : decode cX8_init 4 = .ok (.aload_n 0, 1) := by decide +kernel
theorem dX8_init_5 : decode cX8_init 5 = .ok (.sipush 439, 3) := by decide +kernel
theorem dX8_init_8 : decode cX8_init 8 = .ok (.newarray .int, 2) := by decide +kernel
theorem dX8_init_10 : decode cX8_init 10 = .ok (.putfield 7, 3) := by decide +kernel
theorem dX8_init_13 : decode cX8_init 13 = .ok (.aload_n 0, 1) := by decide +kernel
theorem dX8_init_14 : decode cX8_init 14 = .ok (.sipush 439, 3) := by decide +kernel
theorem dX8_init_17 : decode cX8_init 17 = .ok (.newarray .int, 2) := by decide +kernel
theorem dX8_init_19 : decode cX8_init 19 = .ok (.putfield 13, 3) := by decide +kernel
theorem dX8_init_22 : decode cX8_init 22 = .ok (.aload_n 0, 1) := by decide +kernel
theorem dX8_init_23 : decode cX8_init 23 = .ok (.sipush 1756, 3) := by decide +kernel
theorem dX8_init_26 : decode cX8_init 26 = .ok (.newarray .int, 2) := by decide +kernel
theorem dX8_init_28 : decode cX8_init 28 = .ok (.putfield 16, 3) := by decide +kernel
theorem dX8_init_31 : decode cX8_init 31 = .ok (.aload_n 0, 1) := by decide +kernel
theorem dX8_init_32 : decode cX8_init 32 = .ok (.bipush 60, 2) := by decide +kernel
theorem dX8_init_34 : decode cX8_init 34 = .ok (.newarray .int, 2) := by decide +kernel
theorem dX8_init_36 : decode cX8_init 36 = .ok (.putfield 19, 3) := by decide +kernel
theorem dX8_init_39 : decode cX8_init 39 = .ok (.aload_n 0, 1) := by decide +kernel
theorem dX8_init_40 : decode cX8_init 40 = .ok (.sipush 160, 3) := by decide +kernel
theorem dX8_init_43 : decode cX8_init 43 = .ok (.newarray .int, 2) := by decide +kernel
theorem dX8_init_45 : decode cX8_init 45 = .ok (.putfield 22, 3) := by decide +kernel
theorem dX8_init_48 : decode cX8_init 48 = .ok (.aload_n 0, 1) := by decide +kernel
theorem dX8_init_49 : decode cX8_init 49 = .ok (.bipush 40, 2) := by decide +kernel
theorem dX8_init_51 : decode cX8_init 51 = .ok (.newarray .int, 2) := by decide +kernel
theorem dX8_init_53 : decode cX8_init 53 = .ok (.putfield 25, 3) := by decide +kernel
theorem dX8_init_56 : decode cX8_init 56 = .ok (.aload_n 0, 1) := by decide +kernel
theorem dX8_init_57 : decode cX8_init 57 = .ok (.iconst 4, 1) := by decide +kernel
theorem dX8_init_58 : decode cX8_init 58 = .ok (.newarray .int, 2) := by decide +kernel
theorem dX8_init_60 : decode cX8_init 60 = .ok (.putfield 28, 3) := by decide +kernel
theorem dX8_init_63 : decode cX8_init 63 = .ok (.aload_n 0, 1) := by decide +kernel
theorem dX8_init_64 : decode cX8_init 64 = .ok (.iconst 4, 1) := by decide +kernel
theorem dX8_init_65 : decode cX8_init 65 = .ok (.newarray .int, 2) := by decide +kernel
theorem dX8_init_67 : decode cX8_init 67 = .ok (.putfield 31, 3) := by decide +kernel
theorem dX8_init_70 : decode cX8_init 70 = .ok (.aload_n 0, 1) := by decide +kernel
theorem dX8_init_71 : decode cX8_init 71 = .ok (.bipush 24, 2) := by decide +kernel
theorem dX8_init_73 : decode cX8_init 73 = .ok (.newarray .int, 2) := by decide +kernel
theorem dX8_init_75 : decode cX8_init 75 = .ok (.putfield 34, 3) := by decide +kernel
theorem dX8_init_78 : decode cX8_init 78 = .ok (.aload_n 0, 1) := by decide +kernel
theorem dX8_init_79 : decode cX8_init 79 = .ok (.bipush 24, 2) := by decide +kernel
theorem dX8_init_81 : decode cX8_init 81 = .ok (.newarray .int, 2) := by decide +kernel
theorem dX8_init_83 : decode cX8_init 83 = .ok (.putfield 37, 3) := by decide +kernel
theorem dX8_init_86 : decode cX8_init 86 = .ok (.aload_n 0, 1) := by decide +kernel
theorem dX8_init_87 : decode cX8_init 87 = .ok (.bipush 48, 2) := by decide +kernel
theorem dX8_init_89 : decode cX8_init 89 = .ok (.newarray .int, 2) := by decide +kernel
theorem dX8_init_91 : decode cX8_init 91 = .ok (.putfield 40, 3) := by decide +kernel
theorem dX8_init_94 : decode cX8_init 94 = .ok (.aload_n 0, 1) := by decide +kernel
theorem dX8_init_95 : decode cX8_init 95 = .ok (.bipush 48, 2) := by decide +kernel
theorem dX8_init_97 : decode cX8_init 97 = .ok (.newarray .int, 2) := by decide +kernel
theorem dX8_init_99 : decode cX8_init 99 = .ok (.putfield 43, 3) := by decide +kernel
theorem dX8_init_102 : decode cX8_init 102 = .ok (.aload_n 0, 1) := by decide +kernel
theorem dX8_init_103 : decode cX8_init 103 = .ok (.bipush 48, 2) := by decide +kernel
theorem dX8_init_105 : decode cX8_init 105 = .ok (.newarray .int, 2) := by decide +kernel
theorem dX8_init_107 : decode cX8_init 107 = .ok (.putfield 46, 3) := by decide +kernel
theorem dX8_init_110 : decode cX8_init 110 = .ok (.aload_n 0, 1) := by decide +kernel
theorem dX8_init_111 : decode cX8_init 111 = .ok (.bipush 48, 2) := by decide +kernel
theorem dX8_init_113 : decode cX8_init 113 = .ok (.newarray .int, 2) := by decide +kernel
theorem dX8_init_115 : decode cX8_init 115 = .ok (.putfield 49, 3) := by decide +kernel
theorem dX8_init_118 : decode cX8_init 118 = .ok (.aload_n 0, 1) := by decide +kernel
theorem dX8_init_119 : decode cX8_init 119 = .ok (.iconst 5, 1) := by decide +kernel
theorem dX8_init_120 : decode cX8_init 120 = .ok (.newarray .int, 2) := by decide +kernel
theorem dX8_init_122 : decode cX8_init 122 = .ok (.putfield 52, 3) := by decide +kernel
theorem dX8_init_125 : decode cX8_init 125 = .ok (.aload_n 0, 1) := by decide +kernel
theorem dX8_init_126 : decode cX8_init 126 = .ok (.iconst 5, 1) := by decide +kernel
theorem dX8_init_127 : decode cX8_init 127 = .ok (.newarray .int, 2) := by decide +kernel
theorem dX8_init_129 : decode cX8_init 129 = .ok (.putfield 55, 3) := by decide +kernel
theorem dX8_init_132 : decode cX8_init 132 = .ok (.aload_n 0, 1) := by decide +kernel
theorem dX8_init_133 : decode cX8_init 133 = .ok (.bipush 40, 2) := by decide +kernel
theorem dX8_init_135 : decode cX8_init 135 = .ok (.newarray .int, 2) := by decide +kernel
theorem dX8_init_137 : decode cX8_init 137 = .ok (.putfield 58, 3) := by decide +kernel
theorem dX8_init_140 : decode cX8_init 140 = .ok (.aload_n 0, 1) := by decide +kernel
theorem dX8_init_141 : decode cX8_init 141 = .ok (.bipush 40, 2) := by decide +kernel
theorem dX8_init_143 : decode cX8_init 143 = .ok (.newarray .int, 2) := by decide +kernel
theorem dX8_init_145 : decode cX8_init 145 = .ok (.putfield 61, 3) := by decide +kernel
theorem dX8_init_148 : decode cX8_init 148 = .ok (.aload_n 0, 1) := by decide +kernel
theorem dX8_init_149 : decode cX8_init 149 = .ok (.bipush 40, 2) := by decide +kernel
theorem dX8_init_151 : decode cX8_init 151 = .ok (.newarray .int, 2) := by decide +kernel
theorem dX8_init_153 : decode cX8_init 153 = .ok (.putfield 64, 3) := by decide +kernel
theorem dX8_init_156 : decode cX8_init 156 = .ok (.aload_n 0, 1) := by decide +kernel
theorem dX8_init_157 : decode cX8_init 157 = .ok (.bipush 40, 2) := by decide +kernel
theorem dX8_init_159 : decode cX8_init 159 = .ok (.newarray .int, 2) := by decide +kernel
theorem dX8_init_161 : decode cX8_init 161 = .ok (.putfield 67, 3) := by decide +kernel
theorem dX8_init_164 : decode cX8_init 164 = .ok (.aload_n 0, 1) := by decide +kernel
theorem dX8_init_165 : decode cX8_init 165 = .ok (.iconst 5, 1) := by decide +kernel
theorem dX8_init_166 : decode cX8_init 166 = .ok (.newarray .int, 2) := by decide +kernel
theorem dX8_init_168 : decode cX8_init 168 = .ok (.putfield 70, 3) := by decide +kernel
theorem dX8_init_171 : decode cX8_init 171 = .ok (.iconst 1, 1) := by decide +kernel
theorem dX8_init_172 : decode cX8_init 172 = .ok (.istore_n 1, 1) := by decide +kernel
theorem dX8_init_173 : decode cX8_init 173 = .ok (.iload_n 1, 1) := by decide +kernel
theorem dX8_init_174 : decode cX8_init 174 = .ok (.bipush 40, 2) := by decide +kernel
theorem dX8_init_176 : decode cX8_init 176 = .ok (.if_icmp .ge 20, 3) := by decide +kernel
theorem dX8_init_179 : decode cX8_init 179 = .ok (.aload_n 0, 1) := by decide +kernel
theorem dX8_init_180 : decode cX8_init 180 = .ok (.getfield 7, 3) := by decide +kernel
theorem dX8_init_183 : decode cX8_init 183 = .ok (.sipush 159, 3) := by decide +kernel
theorem dX8_init_186 : decode cX8_init 186 = .ok (.iload_n 1, 1) := by decide +kernel
theorem dX8_init_187 : decode cX8_init 187 = .ok (.iadd, 1) := by decide +kernel
theorem dX8_init_188 : decode cX8_init 188 = .ok (.iconst (-1), 1) := by decide +kernel
theorem dX8_init_189 : decode cX8_init 189 = .ok (.iastore, 1) := by decide +kernel
theorem dX8_init_190 : decode cX8_init 190 = .ok (.iinc 1 1, 3) := by decide +kernel
theorem dX8_init_193 : decode cX8_init 193 = .ok (.goto (-20), 3) := by decide +kernel
theorem dX8_init_196 : decode cX8_init 196 = .ok (.return_, 1) := by decide +kernel
theorem dX8_in_0 : decode cX8_in 0 = .ok (.iload_n 0, 1) := by decide +kernel
theorem dX8_in_1 : decode cX8_in 1 = .ok (.iload_n 1, 1) := by decide +kernel
theorem dX8_in_2 : decode cX8_in 2 = .ok (.if_icmp .lt 12, 3) := by decide +kernel
theorem dX8_in_5 : decode cX8_in 5 = .ok (.iload_n 0, 1) := by decide +kernel
theorem dX8_in_6 : decode cX8_in 6 = .ok (.iload_n 2, 1) := by decide +kernel
theorem dX8_in_7 : decode cX8_in 7 = .ok (.if_icmp .gt 7, 3) := by decide +kernel
theorem dX8_in_10 : decode cX8_in 10 = .ok (.iconst 1, 1) := by decide +kernel
theorem dX8_in_11 : decode cX8_in 11 = .ok (.goto 4, 3) := by decide +kernel
theorem dX8_in_14 : decode cX8_in 14 = .ok (.iconst 0, 1) := by decide +kernel
theorem dX8_in_15 : decode cX8_in 15 = .ok (.ireturn, 1) := by decide +kernel
theorem dX8_least_0 : decode cX8_least 0 = .ok (.iload_n 0, 1) := by decide +kernel
theorem dX8_least_1 : decode cX8_least 1 = .ok (.iload_n 1, 1) := by decide +kernel
theorem dX8_least_2 : decode cX8_least 2 = .ok (.if_icmp .ge 7, 3) := by decide +kernel
theorem dX8_least_5 : decode cX8_least 5 = .ok (.iload_n 0, 1) := by decide +kernel
theorem dX8_least_6 : decode cX8_least 6 = .ok (.goto 4, 3) := by decide +kernel
theorem dX8_least_9 : decode cX8_least 9 = .ok (.iload_n 1, 1) := by decide +kernel
theorem dX8_least_10 : decode cX8_least 10 = .ok (.ireturn, 1) := by decide +kernel
theorem dX8_most_0 : decode cX8_most 0 = .ok (.iload_n 0, 1) := by decide +kernel
theorem dX8_most_1 : decode cX8_most 1 = .ok (.iload_n 1, 1) := by decide +kernel
theorem dX8_most_2 : decode cX8_most 2 = .ok (.if_icmp .le 7, 3) := by decide +kernel
theorem dX8_most_5 : decode cX8_most 5 = .ok (.iload_n 0, 1) := by decide +kernel
theorem dX8_most_6 : decode cX8_most 6 = .ok (.goto 4, 3) := by decide +kernel
theorem dX8_most_9 : decode cX8_most 9 = .ok (.iload_n 1, 1) := by decide +kernel
theorem dX8_most_10 : decode cX8_most 10 = .ok (.ireturn, 1) := by decide +kernel
theorem dX8_copy_0 : decode cX8_copy 0 = .ok (.iconst 0, 1) := by decide +kernel
theorem dX8_copy_1 : decode cX8_copy 1 = .ok (.istore_n 1, 1) := by decide +kernel
theorem dX8_copy_2 : decode cX8_copy 2 = .ok (.iload_n 1, 1) := by decide +kernel
theorem dX8_copy_3 : decode cX8_copy 3 = .ok (.sipush 439, 3) := by decide +kernel
theorem dX8_copy_6 : decode cX8_copy 6 = .ok (.if_icmp .ge 21, 3) := by decide +kernel
theorem dX8_copy_9 : decode cX8_copy 9 = .ok (.aload_n 0, 1) := by decide +kernel
theorem dX8_copy_10 : decode cX8_copy 10 = .ok (.getfield 13, 3) := by decide +kernel
theorem dX8_copy_13 : decode cX8_copy 13 = .ok (.iload_n 1, 1) := by decide +kernel
theorem dX8_copy_14 : decode cX8_copy 14 = .ok (.aload_n 0, 1) := by decide +kernel
theorem dX8_copy_15 : decode cX8_copy 15 = .ok (.getfield 7, 3) := by decide +kernel
theorem dX8_copy_18 : decode cX8_copy 18 = .ok (.iload_n 1, 1) := by decide +kernel
theorem dX8_copy_19 : decode cX8_copy 19 = .ok (.iaload, 1) := by decide +kernel
theorem dX8_copy_20 : decode cX8_copy 20 = .ok (.iastore, 1) := by decide +kernel
theorem dX8_copy_21 : decode cX8_copy 21 = .ok (.iinc 1 1, 3) := by decide +kernel
theorem dX8_copy_24 : decode cX8_copy 24 = .ok (.goto (-22), 3) := by decide +kernel
theorem dX8_copy_27 : decode cX8_copy 27 = .ok (.return_, 1) := by decide +kernel
theorem dX8_back_0 : decode cX8_back 0 = .ok (.iconst 0, 1) := by decide +kernel
theorem dX8_back_1 : decode cX8_back 1 = .ok (.istore_n 1, 1) := by decide +kernel
theorem dX8_back_2 : decode cX8_back 2 = .ok (.iload_n 1, 1) := by decide +kernel
theorem dX8_back_3 : decode cX8_back 3 = .ok (.sipush 439, 3) := by decide +kernel
theorem dX8_back_6 : decode cX8_back 6 = .ok (.if_icmp .ge 21, 3) := by decide +kernel
theorem dX8_back_9 : decode cX8_back 9 = .ok (.aload_n 0, 1) := by decide +kernel
theorem dX8_back_10 : decode cX8_back 10 = .ok (.getfield 7, 3) := by decide +kernel
theorem dX8_back_13 : decode cX8_back 13 = .ok (.iload_n 1, 1) := by decide +kernel
theorem dX8_back_14 : decode cX8_back 14 = .ok (.aload_n 0, 1) := by decide +kernel
theorem dX8_back_15 : decode cX8_back 15 = .ok (.getfield 13, 3) := by decide +kernel
theorem dX8_back_18 : decode cX8_back 18 = .ok (.iload_n 1, 1) := by decide +kernel
theorem dX8_back_19 : decode cX8_back 19 = .ok (.iaload, 1) := by decide +kernel
theorem dX8_back_20 : decode cX8_back 20 = .ok (.iastore, 1) := by decide +kernel
theorem dX8_back_21 : decode cX8_back 21 = .ok (.iinc 1 1, 3) := by decide +kernel
theorem dX8_back_24 : decode cX8_back 24 = .ok (.goto (-22), 3) := by decide +kernel
theorem dX8_back_27 : decode cX8_back 27 = .ok (.return_, 1) := by decide +kernel
theorem dX8_record_0 : decode cX8_record 0 = .ok (.iconst 0, 1) := by decide +kernel
theorem dX8_record_1 : decode cX8_record 1 = .ok (.istore_n 1, 1) := by decide +kernel
theorem dX8_record_2 : decode cX8_record 2 = .ok (.iload_n 1, 1) := by decide +kernel
theorem dX8_record_3 : decode cX8_record 3 = .ok (.sipush 439, 3) := by decide +kernel
theorem dX8_record_6 : decode cX8_record 6 = .ok (.if_icmp .ge 30, 3) := by decide +kernel
theorem dX8_record_9 : decode cX8_record 9 = .ok (.aload_n 0, 1) := by decide +kernel
theorem dX8_record_10 : decode cX8_record 10 = .ok (.getfield 16, 3) := by decide +kernel
theorem dX8_record_13 : decode cX8_record 13 = .ok (.sipush 439, 3) := by decide +kernel
theorem dX8_record_16 : decode cX8_record 16 = .ok (.aload_n 0, 1) := by decide +kernel
theorem dX8_record_17 : decode cX8_record 17 = .ok (.getfield 73, 3) := by decide +kernel
theorem dX8_record_20 : decode cX8_record 20 = .ok (.imul, 1) := by decide +kernel
theorem dX8_record_21 : decode cX8_record 21 = .ok (.iload_n 1, 1) := by decide +kernel
theorem dX8_record_22 : decode cX8_record 22 = .ok (.iadd, 1) := by decide +kernel
theorem dX8_record_23 : decode cX8_record 23 = .ok (.aload_n 0, 1) := by decide +kernel
theorem dX8_record_24 : decode cX8_record 24 = .ok (.getfield 13, 3) := by decide +kernel
theorem dX8_record_27 : decode cX8_record 27 = .ok (.iload_n 1, 1) := by decide +kernel
theorem dX8_record_28 : decode cX8_record 28 = .ok (.iaload, 1) := by decide +kernel
theorem dX8_record_29 : decode cX8_record 29 = .ok (.iastore, 1) := by decide +kernel
theorem dX8_record_30 : decode cX8_record 30 = .ok (.iinc 1 1, 3) := by decide +kernel
theorem dX8_record_33 : decode cX8_record 33 = .ok (.goto (-31), 3) := by decide +kernel
theorem dX8_record_36 : decode cX8_record 36 = .ok (.aload_n 0, 1) := by decide +kernel
theorem dX8_record_37 : decode cX8_record 37 = .ok (.aload_n 0, 1) := by decide +kernel
theorem dX8_record_38 : decode cX8_record 38 = .ok (.getfield 73, 3) := by decide +kernel
theorem dX8_record_41 : decode cX8_record 41 = .ok (.iconst 1, 1) := by decide +kernel
theorem dX8_record_42 : decode cX8_record 42 = .ok (.iadd, 1) := by decide +kernel
theorem dX8_record_43 : decode cX8_record 43 = .ok (.iconst 4, 1) := by decide +kernel
theorem dX8_record_44 : decode cX8_record 44 = .ok (.irem, 1) := by decide +kernel
theorem dX8_record_45 : decode cX8_record 45 = .ok (.putfield 73, 3) := by decide +kernel
theorem dX8_record_48 : decode cX8_record 48 = .ok (.aload_n 0, 1) := by decide +kernel
theorem dX8_record_49 : decode cX8_record 49 = .ok (.aload_n 0, 1) := by decide +kernel
theorem dX8_record_50 : decode cX8_record 50 = .ok (.getfield 77, 3) := by decide +kernel
theorem dX8_record_53 : decode cX8_record 53 = .ok (.iconst 4, 1) := by decide +kernel
theorem dX8_record_54 : decode cX8_record 54 = .ok (.if_icmp .ge 12, 3) := by decide +kernel
theorem dX8_record_57 : decode cX8_record 57 = .ok (.aload_n 0, 1) := by decide +kernel
theorem dX8_record_58 : decode cX8_record 58 = .ok (.getfield 77, 3) := by decide +kernel
theorem dX8_record_61 : decode cX8_record 61 = .ok (.iconst 1, 1) := by decide +kernel
theorem dX8_record_62 : decode cX8_record 62 = .ok (.iadd, 1) := by decide +kernel
theorem dX8_record_63 : decode cX8_record 63 = .ok (.goto 4, 3) := by decide +kernel
theorem dX8_record_66 : decode cX8_record 66 = .ok (.iconst 4, 1) := by decide +kernel
theorem dX8_record_67 : decode cX8_record 67 = .ok (.putfield 77, 3) := by decide +kernel
theorem dX8_record_70 : decode cX8_record 70 = .ok (.return_, 1) := by decide +kernel
theorem dX8_undo_0 : decode cX8_undo 0 = .ok (.aload_n 0, 1) := by decide +kernel
theorem dX8_undo_1 : decode cX8_undo 1 = .ok (.getfield 77, 3) := by decide +kernel
theorem dX8_undo_4 : decode cX8_undo 4 = .ok (.ifCond .ne 6, 3) := by decide +kernel
theorem dX8_undo_7 : decode cX8_undo 7 = .ok (.ldc 80, 2) := by decide +kernel
theorem dX8_undo_9 : decode cX8_undo 9 = .ok (.ireturn, 1) := by decide +kernel
theorem dX8_undo_10 : decode cX8_undo 10 = .ok (.aload_n 0, 1) := by decide +kernel
theorem dX8_undo_11 : decode cX8_undo 11 = .ok (.aload_n 0, 1) := by decide +kernel
theorem dX8_undo_12 : decode cX8_undo 12 = .ok (.getfield 73, 3) := by decide +kernel
theorem dX8_undo_15 : decode cX8_undo 15 = .ok (.iconst 4, 1) := by decide +kernel
theorem dX8_undo_16 : decode cX8_undo 16 = .ok (.iadd, 1) := by decide +kernel
theorem dX8_undo_17 : decode cX8_undo 17 = .ok (.iconst 1, 1) := by decide +kernel
theorem dX8_undo_18 : decode cX8_undo 18 = .ok (.isub, 1) := by decide +kernel
theorem dX8_undo_19 : decode cX8_undo 19 = .ok (.iconst 4, 1) := by decide +kernel
theorem dX8_undo_20 : decode cX8_undo 20 = .ok (.irem, 1) := by decide +kernel
theorem dX8_undo_21 : decode cX8_undo 21 = .ok (.putfield 73, 3) := by decide +kernel
theorem dX8_undo_24 : decode cX8_undo 24 = .ok (.aload_n 0, 1) := by decide +kernel
theorem dX8_undo_25 : decode cX8_undo 25 = .ok (.dup, 1) := by decide +kernel
theorem dX8_undo_26 : decode cX8_undo 26 = .ok (.getfield 77, 3) := by decide +kernel
theorem dX8_undo_29 : decode cX8_undo 29 = .ok (.iconst 1, 1) := by decide +kernel
theorem dX8_undo_30 : decode cX8_undo 30 = .ok (.isub, 1) := by decide +kernel
theorem dX8_undo_31 : decode cX8_undo 31 = .ok (.putfield 77, 3) := by decide +kernel
theorem dX8_undo_34 : decode cX8_undo 34 = .ok (.iconst 0, 1) := by decide +kernel
theorem dX8_undo_35 : decode cX8_undo 35 = .ok (.istore_n 1, 1) := by decide +kernel
theorem dX8_undo_36 : decode cX8_undo 36 = .ok (.iload_n 1, 1) := by decide +kernel
theorem dX8_undo_37 : decode cX8_undo 37 = .ok (.sipush 439, 3) := by decide +kernel
theorem dX8_undo_40 : decode cX8_undo 40 = .ok (.if_icmp .ge 30, 3) := by decide +kernel
theorem dX8_undo_43 : decode cX8_undo 43 = .ok (.aload_n 0, 1) := by decide +kernel
theorem dX8_undo_44 : decode cX8_undo 44 = .ok (.getfield 7, 3) := by decide +kernel
theorem dX8_undo_47 : decode cX8_undo 47 = .ok (.iload_n 1, 1) := by decide +kernel
theorem dX8_undo_48 : decode cX8_undo 48 = .ok (.aload_n 0, 1) := by decide +kernel
theorem dX8_undo_49 : decode cX8_undo 49 = .ok (.getfield 16, 3) := by decide +kernel
theorem dX8_undo_52 : decode cX8_undo 52 = .ok (.sipush 439, 3) := by decide +kernel
theorem dX8_undo_55 : decode cX8_undo 55 = .ok (.aload_n 0, 1) := by decide +kernel
theorem dX8_undo_56 : decode cX8_undo 56 = .ok (.getfield 73, 3) := by decide +kernel
theorem dX8_undo_59 : decode cX8_undo 59 = .ok (.imul, 1) := by decide +kernel
theorem dX8_undo_60 : decode cX8_undo 60 = .ok (.iload_n 1, 1) := by decide +kernel
theorem dX8_undo_61 : decode cX8_undo 61 = .ok (.iadd, 1) := by decide +kernel
theorem dX8_undo_62 : decode cX8_undo 62 = .ok (.iaload, 1) := by decide +kernel
theorem dX8_undo_63 : decode cX8_undo 63 = .ok (.iastore, 1) := by decide +kernel
theorem dX8_undo_64 : decode cX8_undo 64 = .ok (.iinc 1 1, 3) := by decide +kernel
theorem dX8_undo_67 : decode cX8_undo 67 = .ok (.goto (-31), 3) := by decide +kernel
theorem dX8_undo_70 : decode cX8_undo 70 = .ok (.aload_n 0, 1) := by decide +kernel
theorem dX8_undo_71 : decode cX8_undo 71 = .ok (.getfield 77, 3) := by decide +kernel
theorem dX8_undo_74 : decode cX8_undo 74 = .ok (.ireturn, 1) := by decide +kernel
theorem dX8_levelOf_0 : decode cX8_levelOf 0 = .ok (.aload_n 0, 1) := by decide +kernel
theorem dX8_levelOf_1 : decode cX8_levelOf 1 = .ok (.getfield 7, 3) := by decide +kernel
theorem dX8_levelOf_4 : decode cX8_levelOf 4 = .ok (.sipush 159, 3) := by decide +kernel
theorem dX8_levelOf_7 : decode cX8_levelOf 7 = .ok (.iload_n 1, 1) := by decide +kernel
theorem dX8_levelOf_8 : decode cX8_levelOf 8 = .ok (.iadd, 1) := by decide +kernel
theorem dX8_levelOf_9 : decode cX8_levelOf 9 = .ok (.iaload, 1) := by decide +kernel
theorem dX8_levelOf_10 : decode cX8_levelOf 10 = .ok (.ireturn, 1) := by decide +kernel
theorem dX8_manyOf_0 : decode cX8_manyOf 0 = .ok (.aload_n 0, 1) := by decide +kernel
theorem dX8_manyOf_1 : decode cX8_manyOf 1 = .ok (.getfield 7, 3) := by decide +kernel
theorem dX8_manyOf_4 : decode cX8_manyOf 4 = .ok (.sipush 199, 3) := by decide +kernel
theorem dX8_manyOf_7 : decode cX8_manyOf 7 = .ok (.iload_n 1, 1) := by decide +kernel
theorem dX8_manyOf_8 : decode cX8_manyOf 8 = .ok (.iadd, 1) := by decide +kernel
theorem dX8_manyOf_9 : decode cX8_manyOf 9 = .ok (.iaload, 1) := by decide +kernel
theorem dX8_manyOf_10 : decode cX8_manyOf 10 = .ok (.ireturn, 1) := by decide +kernel
theorem dX8_thing_0 : decode cX8_thing 0 = .ok (.aload_n 0, 1) := by decide +kernel
theorem dX8_thing_1 : decode cX8_thing 1 = .ok (.getfield 7, 3) := by decide +kernel
theorem dX8_thing_4 : decode cX8_thing 4 = .ok (.sipush 239, 3) := by decide +kernel
theorem dX8_thing_7 : decode cX8_thing 7 = .ok (.iconst 5, 1) := by decide +kernel
theorem dX8_thing_8 : decode cX8_thing 8 = .ok (.iload_n 1, 1) := by decide +kernel
theorem dX8_thing_9 : decode cX8_thing 9 = .ok (.imul, 1) := by decide +kernel
theorem dX8_thing_10 : decode cX8_thing 10 = .ok (.iadd, 1) := by decide +kernel
theorem dX8_thing_11 : decode cX8_thing 11 = .ok (.iload_n 2, 1) := by decide +kernel
theorem dX8_thing_12 : decode cX8_thing 12 = .ok (.iadd, 1) := by decide +kernel
theorem dX8_thing_13 : decode cX8_thing 13 = .ok (.iaload, 1) := by decide +kernel
theorem dX8_thing_14 : decode cX8_thing 14 = .ok (.ireturn, 1) := by decide +kernel
theorem dX8_side_0 : decode cX8_side 0 = .ok (.iload_n 2, 1) := by decide +kernel
theorem dX8_side_1 : decode cX8_side 1 = .ok (.ifCond .ne 19, 3) := by decide +kernel
theorem dX8_side_4 : decode cX8_side 4 = .ok (.aload_n 0, 1) := by decide +kernel
theorem dX8_side_5 : decode cX8_side 5 = .ok (.getfield 7, 3) := by decide +kernel
theorem dX8_side_8 : decode cX8_side 8 = .ok (.bipush 35, 2) := by decide +kernel
theorem dX8_side_10 : decode cX8_side 10 = .ok (.iconst 4, 1) := by decide +kernel
theorem dX8_side_11 : decode cX8_side 11 = .ok (.iload_n 1, 1) := by decide +kernel
theorem dX8_side_12 : decode cX8_side 12 = .ok (.imul, 1) := by decide +kernel
theorem dX8_side_13 : decode cX8_side 13 = .ok (.iadd, 1) := by decide +kernel
theorem dX8_side_14 : decode cX8_side 14 = .ok (.iload_n 3, 1) := by decide +kernel
theorem dX8_side_15 : decode cX8_side 15 = .ok (.iadd, 1) := by decide +kernel
theorem dX8_side_16 : decode cX8_side 16 = .ok (.iaload, 1) := by decide +kernel
theorem dX8_side_17 : decode cX8_side 17 = .ok (.goto 13, 3) := by decide +kernel
theorem dX8_side_20 : decode cX8_side 20 = .ok (.aload_n 0, 1) := by decide +kernel
theorem dX8_side_21 : decode cX8_side 21 = .ok (.getfield 22, 3) := by decide +kernel
theorem dX8_side_24 : decode cX8_side 24 = .ok (.iconst 4, 1) := by decide +kernel
theorem dX8_side_25 : decode cX8_side 25 = .ok (.iload_n 1, 1) := by decide +kernel
theorem dX8_side_26 : decode cX8_side 26 = .ok (.imul, 1) := by decide +kernel
theorem dX8_side_27 : decode cX8_side 27 = .ok (.iload_n 3, 1) := by decide +kernel
theorem dX8_side_28 : decode cX8_side 28 = .ok (.iadd, 1) := by decide +kernel
theorem dX8_side_29 : decode cX8_side 29 = .ok (.iaload, 1) := by decide +kernel
theorem dX8_side_30 : decode cX8_side 30 = .ok (.ireturn, 1) := by decide +kernel
theorem dX8_layNode_0 : decode cX8_layNode 0 = .ok (.aload_n 0, 1) := by decide +kernel
theorem dX8_layNode_1 : decode cX8_layNode 1 = .ok (.iload_n 1, 1) := by decide +kernel
theorem dX8_layNode_2 : decode cX8_layNode 2 = .ok (.invokevirtual 81, 3) := by decide +kernel
theorem dX8_layNode_5 : decode cX8_layNode 5 = .ok (.istore_n 2, 1) := by decide +kernel
theorem dX8_layNode_6 : decode cX8_layNode 6 = .ok (.aload_n 0, 1) := by decide +kernel
theorem dX8_layNode_7 : decode cX8_layNode 7 = .ok (.getfield 25, 3) := by decide +kernel
theorem dX8_layNode_10 : decode cX8_layNode 10 = .ok (.iload_n 1, 1) := by decide +kernel
theorem dX8_layNode_11 : decode cX8_layNode 11 = .ok (.iconst 0, 1) := by decide +kernel
theorem dX8_layNode_12 : decode cX8_layNode 12 = .ok (.iastore, 1) := by decide +kernel
theorem dX8_layNode_13 : decode cX8_layNode 13 = .ok (.iconst 0, 1) := by decide +kernel
theorem dX8_layNode_14 : decode cX8_layNode 14 = .ok (.istore_n 3, 1) := by decide +kernel
theorem dX8_layNode_15 : decode cX8_layNode 15 = .ok (.iload_n 3, 1) := by decide +kernel
theorem dX8_layNode_16 : decode cX8_layNode 16 = .ok (.aload_n 0, 1) := by decide +kernel
theorem dX8_layNode_17 : decode cX8_layNode 17 = .ok (.iload_n 1, 1) := by decide +kernel
theorem dX8_layNode_18 : decode cX8_layNode 18 = .ok (.invokevirtual 85, 3) := by decide +kernel
theorem dX8_layNode_21 : decode cX8_layNode 21 = .ok (.if_icmp .ge 123, 3) := by decide +kernel
theorem dX8_layNode_24 : decode cX8_layNode 24 = .ok (.aload_n 0, 1) := by decide +kernel
theorem dX8_layNode_25 : decode cX8_layNode 25 = .ok (.iload_n 1, 1) := by decide +kernel
theorem dX8_layNode_26 : decode cX8_layNode 26 = .ok (.iload_n 3, 1) := by decide +kernel
theorem dX8_layNode_27 : decode cX8_layNode 27 = .ok (.invokevirtual 88, 3) := by decide +kernel
theorem dX8_layNode_30 : decode cX8_layNode 30 = .ok (.istore 4, 2) := by decide +kernel
theorem dX8_layNode_32 : decode cX8_layNode 32 = .ok (.aload_n 0, 1) := by decide +kernel
theorem dX8_layNode_33 : decode cX8_layNode 33 = .ok (.getfield 25, 3) := by decide +kernel
theorem dX8_layNode_36 : decode cX8_layNode 36 = .ok (.iload_n 1, 1) := by decide +kernel
theorem dX8_layNode_37 : decode cX8_layNode 37 = .ok (.dup2, 1) := by decide +kernel
theorem dX8_layNode_38 : decode cX8_layNode 38 = .ok (.iaload, 1) := by decide +kernel
theorem dX8_layNode_39 : decode cX8_layNode 39 = .ok (.iload_n 2, 1) := by decide +kernel
theorem dX8_layNode_40 : decode cX8_layNode 40 = .ok (.ifCond .ne 7, 3) := by decide +kernel
theorem dX8_layNode_43 : decode cX8_layNode 43 = .ok (.iconst 1, 1) := by decide +kernel
theorem dX8_layNode_44 : decode cX8_layNode 44 = .ok (.goto 10, 3) := by decide +kernel
theorem dX8_layNode_47 : decode cX8_layNode 47 = .ok (.aload_n 0, 1) := by decide +kernel
theorem dX8_layNode_48 : decode cX8_layNode 48 = .ok (.getfield 25, 3) := by decide +kernel
theorem dX8_layNode_51 : decode cX8_layNode 51 = .ok (.iload 4, 2) := by decide +kernel
theorem dX8_layNode_53 : decode cX8_layNode 53 = .ok (.iaload, 1) := by decide +kernel
theorem dX8_layNode_54 : decode cX8_layNode 54 = .ok (.iadd, 1) := by decide +kernel
theorem dX8_layNode_55 : decode cX8_layNode 55 = .ok (.iastore, 1) := by decide +kernel
theorem dX8_layNode_56 : decode cX8_layNode 56 = .ok (.iconst 0, 1) := by decide +kernel
theorem dX8_layNode_57 : decode cX8_layNode 57 = .ok (.istore 5, 2) := by decide +kernel
theorem dX8_layNode_59 : decode cX8_layNode 59 = .ok (.iload 5, 2) := by decide +kernel
theorem dX8_layNode_61 : decode cX8_layNode 61 = .ok (.iconst 4, 1) := by decide +kernel
theorem dX8_layNode_62 : decode cX8_layNode 62 = .ok (.if_icmp .ge 76, 3) := by decide +kernel
theorem dX8_layNode_65 : decode cX8_layNode 65 = .ok (.aload_n 0, 1) := by decide +kernel
theorem dX8_layNode_66 : decode cX8_layNode 66 = .ok (.iload 4, 2) := by decide +kernel
theorem dX8_layNode_68 : decode cX8_layNode 68 = .ok (.iload_n 2, 1) := by decide +kernel
theorem dX8_layNode_69 : decode cX8_layNode 69 = .ok (.iload 5, 2) := by decide +kernel
theorem dX8_layNode_71 : decode cX8_layNode 71 = .ok (.invokevirtual 92, 3) := by decide +kernel
theorem dX8_layNode_74 : decode cX8_layNode 74 = .ok (.istore 6, 2) := by decide +kernel
theorem dX8_layNode_76 : decode cX8_layNode 76 = .ok (.aload_n 0, 1) := by decide +kernel
theorem dX8_layNode_77 : decode cX8_layNode 77 = .ok (.getfield 22, 3) := by decide +kernel
theorem dX8_layNode_80 : decode cX8_layNode 80 = .ok (.iconst 4, 1) := by decide +kernel
theorem dX8_layNode_81 : decode cX8_layNode 81 = .ok (.iload_n 1, 1) := by decide +kernel
theorem dX8_layNode_82 : decode cX8_layNode 82 = .ok (.imul, 1) := by decide +kernel
theorem dX8_layNode_83 : decode cX8_layNode 83 = .ok (.iload 5, 2) := by decide +kernel
theorem dX8_layNode_85 : decode cX8_layNode 85 = .ok (.iadd, 1) := by decide +kernel
theorem dX8_layNode_86 : decode cX8_layNode 86 = .ok (.iaload, 1) := by decide +kernel
theorem dX8_layNode_87 : decode cX8_layNode 87 = .ok (.istore 7, 2) := by decide +kernel
theorem dX8_layNode_89 : decode cX8_layNode 89 = .ok (.aload_n 0, 1) := by decide +kernel
theorem dX8_layNode_90 : decode cX8_layNode 90 = .ok (.getfield 22, 3) := by decide +kernel
theorem dX8_layNode_93 : decode cX8_layNode 93 = .ok (.iconst 4, 1) := by decide +kernel
theorem dX8_layNode_94 : decode cX8_layNode 94 = .ok (.iload_n 1, 1) := by decide +kernel
theorem dX8_layNode_95 : decode cX8_layNode 95 = .ok (.imul, 1) := by decide +kernel
theorem dX8_layNode_96 : decode cX8_layNode 96 = .ok (.iload 5, 2) := by decide +kernel
theorem dX8_layNode_98 : decode cX8_layNode 98 = .ok (.iadd, 1) := by decide +kernel
theorem dX8_layNode_99 : decode cX8_layNode 99 = .ok (.iload_n 3, 1) := by decide +kernel
theorem dX8_layNode_100 : decode cX8_layNode 100 = .ok (.ifCond .ne 8, 3) := by decide +kernel
theorem dX8_layNode_103 : decode cX8_layNode 103 = .ok (.iload 6, 2) := by decide +kernel
theorem dX8_layNode_105 : decode cX8_layNode 105 = .ok (.goto 26, 3) := by decide +kernel
theorem dX8_layNode_108 : decode cX8_layNode 108 = .ok (.iload 5, 2) := by decide +kernel
theorem dX8_layNode_110 : decode cX8_layNode 110 = .ok (.iconst 2, 1) := by decide +kernel
theorem dX8_layNode_111 : decode cX8_layNode 111 = .ok (.if_icmp .ge 13, 3) := by decide +kernel
theorem dX8_layNode_114 : decode cX8_layNode 114 = .ok (.iload 7, 2) := by decide +kernel
theorem dX8_layNode_116 : decode cX8_layNode 116 = .ok (.iload 6, 2) := by decide +kernel
theorem dX8_layNode_118 : decode cX8_layNode 118 = .ok (.invokestatic 96, 3) := by decide +kernel
theorem dX8_layNode_121 : decode cX8_layNode 121 = .ok (.goto 10, 3) := by decide +kernel
theorem dX8_layNode_124 : decode cX8_layNode 124 = .ok (.iload 7, 2) := by decide +kernel
theorem dX8_layNode_126 : decode cX8_layNode 126 = .ok (.iload 6, 2) := by decide +kernel
theorem dX8_layNode_128 : decode cX8_layNode 128 = .ok (.invokestatic 99, 3) := by decide +kernel
theorem dX8_layNode_131 : decode cX8_layNode 131 = .ok (.iastore, 1) := by decide +kernel
theorem dX8_layNode_132 : decode cX8_layNode 132 = .ok (.iinc 5 1, 3) := by decide +kernel
theorem dX8_layNode_135 : decode cX8_layNode 135 = .ok (.goto (-76), 3) := by decide +kernel
theorem dX8_layNode_138 : decode cX8_layNode 138 = .ok (.iinc 3 1, 3) := by decide +kernel
theorem dX8_layNode_141 : decode cX8_layNode 141 = .ok (.goto (-126), 3) := by decide +kernel
theorem dX8_layNode_144 : decode cX8_layNode 144 = .ok (.return_, 1) := by decide +kernel
theorem dX8_lay_0 : decode cX8_lay 0 = .ok (.iconst 0, 1) := by decide +kernel
theorem dX8_lay_1 : decode cX8_lay 1 = .ok (.istore_n 1, 1) := by decide +kernel
theorem dX8_lay_2 : decode cX8_lay 2 = .ok (.iload_n 1, 1) := by decide +kernel
theorem dX8_lay_3 : decode cX8_lay 3 = .ok (.aload_n 0, 1) := by decide +kernel
theorem dX8_lay_4 : decode cX8_lay 4 = .ok (.aload_n 0, 1) := by decide +kernel
theorem dX8_lay_5 : decode cX8_lay 5 = .ok (.getfield 7, 3) := by decide +kernel
theorem dX8_lay_8 : decode cX8_lay 8 = .ok (.iconst 0, 1) := by decide +kernel
theorem dX8_lay_9 : decode cX8_lay 9 = .ok (.iaload, 1) := by decide +kernel
theorem dX8_lay_10 : decode cX8_lay 10 = .ok (.invokevirtual 81, 3) := by decide +kernel
theorem dX8_lay_13 : decode cX8_lay 13 = .ok (.if_icmp .gt 37, 3) := by decide +kernel
theorem dX8_lay_16 : decode cX8_lay 16 = .ok (.iconst 0, 1) := by decide +kernel
theorem dX8_lay_17 : decode cX8_lay 17 = .ok (.istore_n 2, 1) := by decide +kernel
theorem dX8_lay_18 : decode cX8_lay 18 = .ok (.iload_n 2, 1) := by decide +kernel
theorem dX8_lay_19 : decode cX8_lay 19 = .ok (.bipush 40, 2) := by decide +kernel
theorem dX8_lay_21 : decode cX8_lay 21 = .ok (.if_icmp .ge 23, 3) := by decide +kernel
theorem dX8_lay_24 : decode cX8_lay 24 = .ok (.aload_n 0, 1) := by decide +kernel
theorem dX8_lay_25 : decode cX8_lay 25 = .ok (.iload_n 2, 1) := by decide +kernel
theorem dX8_lay_26 : decode cX8_lay 26 = .ok (.invokevirtual 81, 3) := by decide +kernel
theorem dX8_lay_29 : decode cX8_lay 29 = .ok (.iload_n 1, 1) := by decide +kernel
theorem dX8_lay_30 : decode cX8_lay 30 = .ok (.if_icmp .ne 8, 3) := by decide +kernel
theorem dX8_lay_33 : decode cX8_lay 33 = .ok (.aload_n 0, 1) := by decide +kernel
theorem dX8_lay_34 : decode cX8_lay 34 = .ok (.iload_n 2, 1) := by decide +kernel
theorem dX8_lay_35 : decode cX8_lay 35 = .ok (.invokevirtual 102, 3) := by decide +kernel
theorem dX8_lay_38 : decode cX8_lay 38 = .ok (.iinc 2 1, 3) := by decide +kernel
theorem dX8_lay_41 : decode cX8_lay 41 = .ok (.goto (-23), 3) := by decide +kernel
theorem dX8_lay_44 : decode cX8_lay 44 = .ok (.iinc 1 1, 3) := by decide +kernel
theorem dX8_lay_47 : decode cX8_lay 47 = .ok (.goto (-45), 3) := by decide +kernel
theorem dX8_lay_50 : decode cX8_lay 50 = .ok (.return_, 1) := by decide +kernel
theorem dX8_takes_0 : decode cX8_takes 0 = .ok (.iconst 0, 1) := by decide +kernel
theorem dX8_takes_1 : decode cX8_takes 1 = .ok (.istore 4, 2) := by decide +kernel
theorem dX8_takes_3 : decode cX8_takes 3 = .ok (.iload 4, 2) := by decide +kernel
theorem dX8_takes_5 : decode cX8_takes 5 = .ok (.iconst 4, 1) := by decide +kernel
theorem dX8_takes_6 : decode cX8_takes 6 = .ok (.if_icmp .ge 21, 3) := by decide +kernel
theorem dX8_takes_9 : decode cX8_takes 9 = .ok (.aload_n 1, 1) := by decide +kernel
theorem dX8_takes_10 : decode cX8_takes 10 = .ok (.iload 4, 2) := by decide +kernel
theorem dX8_takes_12 : decode cX8_takes 12 = .ok (.aload_n 0, 1) := by decide +kernel
theorem dX8_takes_13 : decode cX8_takes 13 = .ok (.iload_n 2, 1) := by decide +kernel
theorem dX8_takes_14 : decode cX8_takes 14 = .ok (.iload_n 3, 1) := by decide +kernel
theorem dX8_takes_15 : decode cX8_takes 15 = .ok (.iload 4, 2) := by decide +kernel
theorem dX8_takes_17 : decode cX8_takes 17 = .ok (.invokevirtual 92, 3) := by decide +kernel
theorem dX8_takes_20 : decode cX8_takes 20 = .ok (.iastore, 1) := by decide +kernel
theorem dX8_takes_21 : decode cX8_takes 21 = .ok (.iinc 4 1, 3) := by decide +kernel
theorem dX8_takes_24 : decode cX8_takes 24 = .ok (.goto (-21), 3) := by decide +kernel
theorem dX8_takes_27 : decode cX8_takes 27 = .ok (.return_, 1) := by decide +kernel
theorem dX8_widens_0 : decode cX8_widens 0 = .ok (.iconst 0, 1) := by decide +kernel
theorem dX8_widens_1 : decode cX8_widens 1 = .ok (.istore 4, 2) := by decide +kernel
theorem dX8_widens_3 : decode cX8_widens 3 = .ok (.iload 4, 2) := by decide +kernel
theorem dX8_widens_5 : decode cX8_widens 5 = .ok (.iconst 4, 1) := by decide +kernel
theorem dX8_widens_6 : decode cX8_widens 6 = .ok (.if_icmp .ge 50, 3) := by decide +kernel
theorem dX8_widens_9 : decode cX8_widens 9 = .ok (.aload_n 0, 1) := by decide +kernel
theorem dX8_widens_10 : decode cX8_widens 10 = .ok (.iload_n 2, 1) := by decide +kernel
theorem dX8_widens_11 : decode cX8_widens 11 = .ok (.iload_n 3, 1) := by decide +kernel
theorem dX8_widens_12 : decode cX8_widens 12 = .ok (.iload 4, 2) := by decide +kernel
theorem dX8_widens_14 : decode cX8_widens 14 = .ok (.invokevirtual 92, 3) := by decide +kernel
theorem dX8_widens_17 : decode cX8_widens 17 = .ok (.istore 5, 2) := by decide +kernel
theorem dX8_widens_19 : decode cX8_widens 19 = .ok (.aload_n 1, 1) := by decide +kernel
theorem dX8_widens_20 : decode cX8_widens 20 = .ok (.iload 4, 2) := by decide +kernel
theorem dX8_widens_22 : decode cX8_widens 22 = .ok (.iload 4, 2) := by decide +kernel
theorem dX8_widens_24 : decode cX8_widens 24 = .ok (.iconst 2, 1) := by decide +kernel
theorem dX8_widens_25 : decode cX8_widens 25 = .ok (.if_icmp .ge 15, 3) := by decide +kernel
theorem dX8_widens_28 : decode cX8_widens 28 = .ok (.aload_n 1, 1) := by decide +kernel
theorem dX8_widens_29 : decode cX8_widens 29 = .ok (.iload 4, 2) := by decide +kernel
theorem dX8_widens_31 : decode cX8_widens 31 = .ok (.iaload, 1) := by decide +kernel
theorem dX8_widens_32 : decode cX8_widens 32 = .ok (.iload 5, 2) := by decide +kernel
theorem dX8_widens_34 : decode cX8_widens 34 = .ok (.invokestatic 96, 3) := by decide +kernel
theorem dX8_widens_37 : decode cX8_widens 37 = .ok (.goto 12, 3) := by decide +kernel
theorem dX8_widens_40 : decode cX8_widens 40 = .ok (.aload_n 1, 1) := by decide +kernel
theorem dX8_widens_41 : decode cX8_widens 41 = .ok (.iload 4, 2) := by decide +kernel
theorem dX8_widens_43 : decode cX8_widens 43 = .ok (.iaload, 1) := by decide +kernel
theorem dX8_widens_44 : decode cX8_widens 44 = .ok (.iload 5, 2) := by decide +kernel
theorem dX8_widens_46 : decode cX8_widens 46 = .ok (.invokestatic 99, 3) := by decide +kernel
theorem dX8_widens_49 : decode cX8_widens 49 = .ok (.iastore, 1) := by decide +kernel
theorem dX8_widens_50 : decode cX8_widens 50 = .ok (.iinc 4 1, 3) := by decide +kernel
theorem dX8_widens_53 : decode cX8_widens 53 = .ok (.goto (-50), 3) := by decide +kernel
theorem dX8_widens_56 : decode cX8_widens 56 = .ok (.return_, 1) := by decide +kernel
theorem dX8_area_0 : decode cX8_area 0 = .ok (.aload_n 0, 1) := by decide +kernel
theorem dX8_area_1 : decode cX8_area 1 = .ok (.iconst 2, 1) := by decide +kernel
theorem dX8_area_2 : decode cX8_area 2 = .ok (.iaload, 1) := by decide +kernel
theorem dX8_area_3 : decode cX8_area 3 = .ok (.aload_n 0, 1) := by decide +kernel
theorem dX8_area_4 : decode cX8_area 4 = .ok (.iconst 0, 1) := by decide +kernel
theorem dX8_area_5 : decode cX8_area 5 = .ok (.iaload, 1) := by decide +kernel
theorem dX8_area_6 : decode cX8_area 6 = .ok (.isub, 1) := by decide +kernel
theorem dX8_area_7 : decode cX8_area 7 = .ok (.aload_n 0, 1) := by decide +kernel
theorem dX8_area_8 : decode cX8_area 8 = .ok (.iconst 3, 1) := by decide +kernel
theorem dX8_area_9 : decode cX8_area 9 = .ok (.iaload, 1) := by decide +kernel
theorem dX8_area_10 : decode cX8_area 10 = .ok (.aload_n 0, 1) := by decide +kernel
theorem dX8_area_11 : decode cX8_area 11 = .ok (.iconst 1, 1) := by decide +kernel
theorem dX8_area_12 : decode cX8_area 12 = .ok (.iaload, 1) := by decide +kernel
theorem dX8_area_13 : decode cX8_area 13 = .ok (.isub, 1) := by decide +kernel
theorem dX8_area_14 : decode cX8_area 14 = .ok (.imul, 1) := by decide +kernel
theorem dX8_area_15 : decode cX8_area 15 = .ok (.ireturn, 1) := by decide +kernel
theorem dX8_common_0 : decode cX8_common 0 = .ok (.aload_n 0, 1) := by decide +kernel
theorem dX8_common_1 : decode cX8_common 1 = .ok (.getfield 28, 3) := by decide +kernel
theorem dX8_common_4 : decode cX8_common 4 = .ok (.iconst 2, 1) := by decide +kernel
theorem dX8_common_5 : decode cX8_common 5 = .ok (.iaload, 1) := by decide +kernel
theorem dX8_common_6 : decode cX8_common 6 = .ok (.aload_n 0, 1) := by decide +kernel
theorem dX8_common_7 : decode cX8_common 7 = .ok (.getfield 31, 3) := by decide +kernel
theorem dX8_common_10 : decode cX8_common 10 = .ok (.iconst 2, 1) := by decide +kernel
theorem dX8_common_11 : decode cX8_common 11 = .ok (.iaload, 1) := by decide +kernel
theorem dX8_common_12 : decode cX8_common 12 = .ok (.invokestatic 96, 3) := by decide +kernel
theorem dX8_common_15 : decode cX8_common 15 = .ok (.aload_n 0, 1) := by decide +kernel
theorem dX8_common_16 : decode cX8_common 16 = .ok (.getfield 28, 3) := by decide +kernel
theorem dX8_common_19 : decode cX8_common 19 = .ok (.iconst 0, 1) := by decide +kernel
theorem dX8_common_20 : decode cX8_common 20 = .ok (.iaload, 1) := by decide +kernel
theorem dX8_common_21 : decode cX8_common 21 = .ok (.aload_n 0, 1) := by decide +kernel
theorem dX8_common_22 : decode cX8_common 22 = .ok (.getfield 31, 3) := by decide +kernel
theorem dX8_common_25 : decode cX8_common 25 = .ok (.iconst 0, 1) := by decide +kernel
theorem dX8_common_26 : decode cX8_common 26 = .ok (.iaload, 1) := by decide +kernel
theorem dX8_common_27 : decode cX8_common 27 = .ok (.invokestatic 99, 3) := by decide +kernel
theorem dX8_common_30 : decode cX8_common 30 = .ok (.isub, 1) := by decide +kernel
theorem dX8_common_31 : decode cX8_common 31 = .ok (.istore_n 1, 1) := by decide +kernel
theorem dX8_common_32 : decode cX8_common 32 = .ok (.aload_n 0, 1) := by decide +kernel
theorem dX8_common_33 : decode cX8_common 33 = .ok (.getfield 28, 3) := by decide +kernel
theorem dX8_common_36 : decode cX8_common 36 = .ok (.iconst 3, 1) := by decide +kernel
theorem dX8_common_37 : decode cX8_common 37 = .ok (.iaload, 1) := by decide +kernel
theorem dX8_common_38 : decode cX8_common 38 = .ok (.aload_n 0, 1) := by decide +kernel
theorem dX8_common_39 : decode cX8_common 39 = .ok (.getfield 31, 3) := by decide +kernel
theorem dX8_common_42 : decode cX8_common 42 = .ok (.iconst 3, 1) := by decide +kernel
theorem dX8_common_43 : decode cX8_common 43 = .ok (.iaload, 1) := by decide +kernel
theorem dX8_common_44 : decode cX8_common 44 = .ok (.invokestatic 96, 3) := by decide +kernel
theorem dX8_common_47 : decode cX8_common 47 = .ok (.aload_n 0, 1) := by decide +kernel
theorem dX8_common_48 : decode cX8_common 48 = .ok (.getfield 28, 3) := by decide +kernel
theorem dX8_common_51 : decode cX8_common 51 = .ok (.iconst 1, 1) := by decide +kernel
theorem dX8_common_52 : decode cX8_common 52 = .ok (.iaload, 1) := by decide +kernel
theorem dX8_common_53 : decode cX8_common 53 = .ok (.aload_n 0, 1) := by decide +kernel
theorem dX8_common_54 : decode cX8_common 54 = .ok (.getfield 31, 3) := by decide +kernel
theorem dX8_common_57 : decode cX8_common 57 = .ok (.iconst 1, 1) := by decide +kernel
theorem dX8_common_58 : decode cX8_common 58 = .ok (.iaload, 1) := by decide +kernel
theorem dX8_common_59 : decode cX8_common 59 = .ok (.invokestatic 99, 3) := by decide +kernel
theorem dX8_common_62 : decode cX8_common 62 = .ok (.isub, 1) := by decide +kernel
theorem dX8_common_63 : decode cX8_common 63 = .ok (.istore_n 2, 1) := by decide +kernel
theorem dX8_common_64 : decode cX8_common 64 = .ok (.iload_n 1, 1) := by decide +kernel
theorem dX8_common_65 : decode cX8_common 65 = .ok (.ifCond .le 13, 3) := by decide +kernel
theorem dX8_common_68 : decode cX8_common 68 = .ok (.iload_n 2, 1) := by decide +kernel
theorem dX8_common_69 : decode cX8_common 69 = .ok (.ifCond .le 9, 3) := by decide +kernel
theorem dX8_common_72 : decode cX8_common 72 = .ok (.iload_n 1, 1) := by decide +kernel
theorem dX8_common_73 : decode cX8_common 73 = .ok (.iload_n 2, 1) := by decide +kernel
theorem dX8_common_74 : decode cX8_common 74 = .ok (.imul, 1) := by decide +kernel
theorem dX8_common_75 : decode cX8_common 75 = .ok (.goto 4, 3) := by decide +kernel
theorem dX8_common_78 : decode cX8_common 78 = .ok (.iconst 0, 1) := by decide +kernel
theorem dX8_common_79 : decode cX8_common 79 = .ok (.ireturn, 1) := by decide +kernel
theorem dX8_newNode_0 : decode cX8_newNode 0 = .ok (.iconst 0, 1) := by decide +kernel
theorem dX8_newNode_1 : decode cX8_newNode 1 = .ok (.istore_n 2, 1) := by decide +kernel
theorem dX8_newNode_2 : decode cX8_newNode 2 = .ok (.aload_n 0, 1) := by decide +kernel
theorem dX8_newNode_3 : decode cX8_newNode 3 = .ok (.iload_n 2, 1) := by decide +kernel
theorem dX8_newNode_4 : decode cX8_newNode 4 = .ok (.invokevirtual 81, 3) := by decide +kernel
theorem dX8_newNode_7 : decode cX8_newNode 7 = .ok (.iconst (-1), 1) := by decide +kernel
theorem dX8_newNode_8 : decode cX8_newNode 8 = .ok (.if_icmp .eq 9, 3) := by decide +kernel
theorem dX8_newNode_11 : decode cX8_newNode 11 = .ok (.iinc 2 1, 3) := by decide +kernel
theorem dX8_newNode_14 : decode cX8_newNode 14 = .ok (.goto (-12), 3) := by decide +kernel
theorem dX8_newNode_17 : decode cX8_newNode 17 = .ok (.aload_n 0, 1) := by decide +kernel
theorem dX8_newNode_18 : decode cX8_newNode 18 = .ok (.getfield 7, 3) := by decide +kernel
theorem dX8_newNode_21 : decode cX8_newNode 21 = .ok (.sipush 159, 3) := by decide +kernel
theorem dX8_newNode_24 : decode cX8_newNode 24 = .ok (.iload_n 2, 1) := by decide +kernel
theorem dX8_newNode_25 : decode cX8_newNode 25 = .ok (.iadd, 1) := by decide +kernel
theorem dX8_newNode_26 : decode cX8_newNode 26 = .ok (.iload_n 1, 1) := by decide +kernel
theorem dX8_newNode_27 : decode cX8_newNode 27 = .ok (.iastore, 1) := by decide +kernel
theorem dX8_newNode_28 : decode cX8_newNode 28 = .ok (.aload_n 0, 1) := by decide +kernel
theorem dX8_newNode_29 : decode cX8_newNode 29 = .ok (.getfield 7, 3) := by decide +kernel
theorem dX8_newNode_32 : decode cX8_newNode 32 = .ok (.sipush 199, 3) := by decide +kernel
theorem dX8_newNode_35 : decode cX8_newNode 35 = .ok (.iload_n 2, 1) := by decide +kernel
theorem dX8_newNode_36 : decode cX8_newNode 36 = .ok (.iadd, 1) := by decide +kernel
theorem dX8_newNode_37 : decode cX8_newNode 37 = .ok (.iconst 0, 1) := by decide +kernel
theorem dX8_newNode_38 : decode cX8_newNode 38 = .ok (.iastore, 1) := by decide +kernel
theorem dX8_newNode_39 : decode cX8_newNode 39 = .ok (.iload_n 2, 1) := by decide +kernel
theorem dX8_newNode_40 : decode cX8_newNode 40 = .ok (.ireturn, 1) := by decide +kernel
theorem dX8_puts_0 : decode cX8_puts 0 = .ok (.aload_n 0, 1) := by decide +kernel
theorem dX8_puts_1 : decode cX8_puts 1 = .ok (.iload_n 1, 1) := by decide +kernel
theorem dX8_puts_2 : decode cX8_puts 2 = .ok (.invokevirtual 85, 3) := by decide +kernel
theorem dX8_puts_5 : decode cX8_puts 5 = .ok (.istore 4, 2) := by decide +kernel
theorem dX8_puts_7 : decode cX8_puts 7 = .ok (.iload 4, 2) := by decide +kernel
theorem dX8_puts_9 : decode cX8_puts 9 = .ok (.iload_n 2, 1) := by decide +kernel
theorem dX8_puts_10 : decode cX8_puts 10 = .ok (.if_icmp .le 33, 3) := by decide +kernel
theorem dX8_puts_13 : decode cX8_puts 13 = .ok (.aload_n 0, 1) := by decide +kernel
theorem dX8_puts_14 : decode cX8_puts 14 = .ok (.getfield 7, 3) := by decide +kernel
theorem dX8_puts_17 : decode cX8_puts 17 = .ok (.sipush 239, 3) := by decide +kernel
theorem dX8_puts_20 : decode cX8_puts 20 = .ok (.iconst 5, 1) := by decide +kernel
theorem dX8_puts_21 : decode cX8_puts 21 = .ok (.iload_n 1, 1) := by decide +kernel
theorem dX8_puts_22 : decode cX8_puts 22 = .ok (.imul, 1) := by decide +kernel
theorem dX8_puts_23 : decode cX8_puts 23 = .ok (.iadd, 1) := by decide +kernel
theorem dX8_puts_24 : decode cX8_puts 24 = .ok (.iload 4, 2) := by decide +kernel
theorem dX8_puts_26 : decode cX8_puts 26 = .ok (.iadd, 1) := by decide +kernel
theorem dX8_puts_27 : decode cX8_puts 27 = .ok (.aload_n 0, 1) := by decide +kernel
theorem dX8_puts_28 : decode cX8_puts 28 = .ok (.iload_n 1, 1) := by decide +kernel
theorem dX8_puts_29 : decode cX8_puts 29 = .ok (.iload 4, 2) := by decide +kernel
theorem dX8_puts_31 : decode cX8_puts 31 = .ok (.iconst 1, 1) := by decide +kernel
theorem dX8_puts_32 : decode cX8_puts 32 = .ok (.isub, 1) := by decide +kernel
theorem dX8_puts_33 : decode cX8_puts 33 = .ok (.invokevirtual 88, 3) := by decide +kernel
theorem dX8_puts_36 : decode cX8_puts 36 = .ok (.iastore, 1) := by decide +kernel
theorem dX8_puts_37 : decode cX8_puts 37 = .ok (.iinc 4 (-1), 3) := by decide +kernel
theorem dX8_puts_40 : decode cX8_puts 40 = .ok (.goto (-33), 3) := by decide +kernel
theorem dX8_puts_43 : decode cX8_puts 43 = .ok (.aload_n 0, 1) := by decide +kernel
theorem dX8_puts_44 : decode cX8_puts 44 = .ok (.getfield 7, 3) := by decide +kernel
theorem dX8_puts_47 : decode cX8_puts 47 = .ok (.sipush 239, 3) := by decide +kernel
theorem dX8_puts_50 : decode cX8_puts 50 = .ok (.iconst 5, 1) := by decide +kernel
theorem dX8_puts_51 : decode cX8_puts 51 = .ok (.iload_n 1, 1) := by decide +kernel
theorem dX8_puts_52 : decode cX8_puts 52 = .ok (.imul, 1) := by decide +kernel
theorem dX8_puts_53 : decode cX8_puts 53 = .ok (.iadd, 1) := by decide +kernel
theorem dX8_puts_54 : decode cX8_puts 54 = .ok (.iload_n 2, 1) := by decide +kernel
theorem dX8_puts_55 : decode cX8_puts 55 = .ok (.iadd, 1) := by decide +kernel
theorem dX8_puts_56 : decode cX8_puts 56 = .ok (.iload_n 3, 1) := by decide +kernel
theorem dX8_puts_57 : decode cX8_puts 57 = .ok (.iastore, 1) := by decide +kernel
theorem dX8_puts_58 : decode cX8_puts 58 = .ok (.aload_n 0, 1) := by decide +kernel
theorem dX8_puts_59 : decode cX8_puts 59 = .ok (.getfield 7, 3) := by decide +kernel
theorem dX8_puts_62 : decode cX8_puts 62 = .ok (.sipush 199, 3) := by decide +kernel
theorem dX8_puts_65 : decode cX8_puts 65 = .ok (.iload_n 1, 1) := by decide +kernel
theorem dX8_puts_66 : decode cX8_puts 66 = .ok (.iadd, 1) := by decide +kernel
theorem dX8_puts_67 : decode cX8_puts 67 = .ok (.dup2, 1) := by decide +kernel
theorem dX8_puts_68 : decode cX8_puts 68 = .ok (.iaload, 1) := by decide +kernel
theorem dX8_puts_69 : decode cX8_puts 69 = .ok (.iconst 1, 1) := by decide +kernel
theorem dX8_puts_70 : decode cX8_puts 70 = .ok (.iadd, 1) := by decide +kernel
theorem dX8_puts_71 : decode cX8_puts 71 = .ok (.iastore, 1) := by decide +kernel
theorem dX8_puts_72 : decode cX8_puts 72 = .ok (.return_, 1) := by decide +kernel
theorem dX8_drops_0 : decode cX8_drops 0 = .ok (.aload_n 0, 1) := by decide +kernel
theorem dX8_drops_1 : decode cX8_drops 1 = .ok (.getfield 7, 3) := by decide +kernel
theorem dX8_drops_4 : decode cX8_drops 4 = .ok (.sipush 199, 3) := by decide +kernel
theorem dX8_drops_7 : decode cX8_drops 7 = .ok (.iload_n 1, 1) := by decide +kernel
theorem dX8_drops_8 : decode cX8_drops 8 = .ok (.iadd, 1) := by decide +kernel
theorem dX8_drops_9 : decode cX8_drops 9 = .ok (.dup2, 1) := by decide +kernel
theorem dX8_drops_10 : decode cX8_drops 10 = .ok (.iaload, 1) := by decide +kernel
theorem dX8_drops_11 : decode cX8_drops 11 = .ok (.iconst 1, 1) := by decide +kernel
theorem dX8_drops_12 : decode cX8_drops 12 = .ok (.isub, 1) := by decide +kernel
theorem dX8_drops_13 : decode cX8_drops 13 = .ok (.iastore, 1) := by decide +kernel
theorem dX8_drops_14 : decode cX8_drops 14 = .ok (.iload_n 2, 1) := by decide +kernel
theorem dX8_drops_15 : decode cX8_drops 15 = .ok (.istore_n 3, 1) := by decide +kernel
theorem dX8_drops_16 : decode cX8_drops 16 = .ok (.iload_n 3, 1) := by decide +kernel
theorem dX8_drops_17 : decode cX8_drops 17 = .ok (.aload_n 0, 1) := by decide +kernel
theorem dX8_drops_18 : decode cX8_drops 18 = .ok (.iload_n 1, 1) := by decide +kernel
theorem dX8_drops_19 : decode cX8_drops 19 = .ok (.invokevirtual 85, 3) := by decide +kernel
theorem dX8_drops_22 : decode cX8_drops 22 = .ok (.if_icmp .ge 31, 3) := by decide +kernel
theorem dX8_drops_25 : decode cX8_drops 25 = .ok (.aload_n 0, 1) := by decide +kernel
theorem dX8_drops_26 : decode cX8_drops 26 = .ok (.getfield 7, 3) := by decide +kernel
theorem dX8_drops_29 : decode cX8_drops 29 = .ok (.sipush 239, 3) := by decide +kernel
theorem dX8_drops_32 : decode cX8_drops 32 = .ok (.iconst 5, 1) := by decide +kernel
theorem dX8_drops_33 : decode cX8_drops 33 = .ok (.iload_n 1, 1) := by decide +kernel
theorem dX8_drops_34 : decode cX8_drops 34 = .ok (.imul, 1) := by decide +kernel
theorem dX8_drops_35 : decode cX8_drops 35 = .ok (.iadd, 1) := by decide +kernel
theorem dX8_drops_36 : decode cX8_drops 36 = .ok (.iload_n 3, 1) := by decide +kernel
theorem dX8_drops_37 : decode cX8_drops 37 = .ok (.iadd, 1) := by decide +kernel
theorem dX8_drops_38 : decode cX8_drops 38 = .ok (.aload_n 0, 1) := by decide +kernel
theorem dX8_drops_39 : decode cX8_drops 39 = .ok (.iload_n 1, 1) := by decide +kernel
theorem dX8_drops_40 : decode cX8_drops 40 = .ok (.iload_n 3, 1) := by decide +kernel
theorem dX8_drops_41 : decode cX8_drops 41 = .ok (.iconst 1, 1) := by decide +kernel
theorem dX8_drops_42 : decode cX8_drops 42 = .ok (.iadd, 1) := by decide +kernel
theorem dX8_drops_43 : decode cX8_drops 43 = .ok (.invokevirtual 88, 3) := by decide +kernel
theorem dX8_drops_46 : decode cX8_drops 46 = .ok (.iastore, 1) := by decide +kernel
theorem dX8_drops_47 : decode cX8_drops 47 = .ok (.iinc 3 1, 3) := by decide +kernel
theorem dX8_drops_50 : decode cX8_drops 50 = .ok (.goto (-34), 3) := by decide +kernel
theorem dX8_drops_53 : decode cX8_drops 53 = .ok (.return_, 1) := by decide +kernel
theorem dX8_placeIn_0 : decode cX8_placeIn 0 = .ok (.iconst 0, 1) := by decide +kernel
theorem dX8_placeIn_1 : decode cX8_placeIn 1 = .ok (.istore_n 3, 1) := by decide +kernel
theorem dX8_placeIn_2 : decode cX8_placeIn 2 = .ok (.iload_n 3, 1) := by decide +kernel
theorem dX8_placeIn_3 : decode cX8_placeIn 3 = .ok (.aload_n 0, 1) := by decide +kernel
theorem dX8_placeIn_4 : decode cX8_placeIn 4 = .ok (.iload_n 1, 1) := by decide +kernel
theorem dX8_placeIn_5 : decode cX8_placeIn 5 = .ok (.invokevirtual 85, 3) := by decide +kernel
theorem dX8_placeIn_8 : decode cX8_placeIn 8 = .ok (.if_icmp .ge 21, 3) := by decide +kernel
theorem dX8_placeIn_11 : decode cX8_placeIn 11 = .ok (.aload_n 0, 1) := by decide +kernel
theorem dX8_placeIn_12 : decode cX8_placeIn 12 = .ok (.iload_n 1, 1) := by decide +kernel
theorem dX8_placeIn_13 : decode cX8_placeIn 13 = .ok (.iload_n 3, 1) := by decide +kernel
theorem dX8_placeIn_14 : decode cX8_placeIn 14 = .ok (.invokevirtual 88, 3) := by decide +kernel
theorem dX8_placeIn_17 : decode cX8_placeIn 17 = .ok (.iload_n 2, 1) := by decide +kernel
theorem dX8_placeIn_18 : decode cX8_placeIn 18 = .ok (.if_icmp .ne 5, 3) := by decide +kernel
theorem dX8_placeIn_21 : decode cX8_placeIn 21 = .ok (.iload_n 3, 1) := by decide +kernel
theorem dX8_placeIn_22 : decode cX8_placeIn 22 = .ok (.ireturn, 1) := by decide +kernel
theorem dX8_placeIn_23 : decode cX8_placeIn 23 = .ok (.iinc 3 1, 3) := by decide +kernel
theorem dX8_placeIn_26 : decode cX8_placeIn 26 = .ok (.goto (-24), 3) := by decide +kernel
theorem dX8_placeIn_29 : decode cX8_placeIn 29 = .ok (.iconst (-1), 1) := by decide +kernel
theorem dX8_placeIn_30 : decode cX8_placeIn 30 = .ok (.ireturn, 1) := by decide +kernel
theorem dX8_holder_0 : decode cX8_holder 0 = .ok (.iconst 0, 1) := by decide +kernel
theorem dX8_holder_1 : decode cX8_holder 1 = .ok (.istore_n 3, 1) := by decide +kernel
theorem dX8_holder_2 : decode cX8_holder 2 = .ok (.iload_n 3, 1) := by decide +kernel
theorem dX8_holder_3 : decode cX8_holder 3 = .ok (.bipush 40, 2) := by decide +kernel
theorem dX8_holder_5 : decode cX8_holder 5 = .ok (.if_icmp .ge 29, 3) := by decide +kernel
theorem dX8_holder_8 : decode cX8_holder 8 = .ok (.aload_n 0, 1) := by decide +kernel
theorem dX8_holder_9 : decode cX8_holder 9 = .ok (.iload_n 3, 1) := by decide +kernel
theorem dX8_holder_10 : decode cX8_holder 10 = .ok (.invokevirtual 81, 3) := by decide +kernel
theorem dX8_holder_13 : decode cX8_holder 13 = .ok (.iload_n 2, 1) := by decide +kernel
theorem dX8_holder_14 : decode cX8_holder 14 = .ok (.if_icmp .ne 14, 3) := by decide +kernel
theorem dX8_holder_17 : decode cX8_holder 17 = .ok (.aload_n 0, 1) := by decide +kernel
theorem dX8_holder_18 : decode cX8_holder 18 = .ok (.iload_n 3, 1) := by decide +kernel
theorem dX8_holder_19 : decode cX8_holder 19 = .ok (.iload_n 1, 1) := by decide +kernel
theorem dX8_holder_20 : decode cX8_holder 20 = .ok (.invokevirtual 106, 3) := by decide +kernel
theorem dX8_holder_23 : decode cX8_holder 23 = .ok (.ifCond .lt 5, 3) := by decide +kernel
theorem dX8_holder_26 : decode cX8_holder 26 = .ok (.iload_n 3, 1) := by decide +kernel
theorem dX8_holder_27 : decode cX8_holder 27 = .ok (.ireturn, 1) := by decide +kernel
theorem dX8_holder_28 : decode cX8_holder 28 = .ok (.iinc 3 1, 3) := by decide +kernel
theorem dX8_holder_31 : decode cX8_holder 31 = .ok (.goto (-29), 3) := by decide +kernel
theorem dX8_holder_34 : decode cX8_holder 34 = .ok (.iconst (-1), 1) := by decide +kernel
theorem dX8_holder_35 : decode cX8_holder 35 = .ok (.ireturn, 1) := by decide +kernel
theorem dX8_waits_0 : decode cX8_waits 0 = .ok (.aload_n 0, 1) := by decide +kernel
theorem dX8_waits_1 : decode cX8_waits 1 = .ok (.getfield 34, 3) := by decide +kernel
theorem dX8_waits_4 : decode cX8_waits 4 = .ok (.aload_n 0, 1) := by decide +kernel
theorem dX8_waits_5 : decode cX8_waits 5 = .ok (.getfield 109, 3) := by decide +kernel
theorem dX8_waits_8 : decode cX8_waits 8 = .ok (.iload_n 1, 1) := by decide +kernel
theorem dX8_waits_9 : decode cX8_waits 9 = .ok (.iastore, 1) := by decide +kernel
theorem dX8_waits_10 : decode cX8_waits 10 = .ok (.aload_n 0, 1) := by decide +kernel
theorem dX8_waits_11 : decode cX8_waits 11 = .ok (.getfield 37, 3) := by decide +kernel
theorem dX8_waits_14 : decode cX8_waits 14 = .ok (.aload_n 0, 1) := by decide +kernel
theorem dX8_waits_15 : decode cX8_waits 15 = .ok (.getfield 109, 3) := by decide +kernel
theorem dX8_waits_18 : decode cX8_waits 18 = .ok (.iload_n 2, 1) := by decide +kernel
theorem dX8_waits_19 : decode cX8_waits 19 = .ok (.iastore, 1) := by decide +kernel
theorem dX8_waits_20 : decode cX8_waits 20 = .ok (.aload_n 0, 1) := by decide +kernel
theorem dX8_waits_21 : decode cX8_waits 21 = .ok (.dup, 1) := by decide +kernel
theorem dX8_waits_22 : decode cX8_waits 22 = .ok (.getfield 109, 3) := by decide +kernel
theorem dX8_waits_25 : decode cX8_waits 25 = .ok (.iconst 1, 1) := by decide +kernel
theorem dX8_waits_26 : decode cX8_waits 26 = .ok (.iadd, 1) := by decide +kernel
theorem dX8_waits_27 : decode cX8_waits 27 = .ok (.putfield 109, 3) := by decide +kernel
theorem dX8_waits_30 : decode cX8_waits 30 = .ok (.return_, 1) := by decide +kernel
theorem dX8_wayOn_0 : decode cX8_wayOn 0 = .ok (.iconst (-1), 1) := by decide +kernel
theorem dX8_wayOn_1 : decode cX8_wayOn 1 = .ok (.istore 4, 2) := by decide +kernel
theorem dX8_wayOn_3 : decode cX8_wayOn 3 = .ok (.iconst 0, 1) := by decide +kernel
theorem dX8_wayOn_4 : decode cX8_wayOn 4 = .ok (.istore 5, 2) := by decide +kernel
theorem dX8_wayOn_6 : decode cX8_wayOn 6 = .ok (.iconst 0, 1) := by decide +kernel
theorem dX8_wayOn_7 : decode cX8_wayOn 7 = .ok (.istore 6, 2) := by decide +kernel
theorem dX8_wayOn_9 : decode cX8_wayOn 9 = .ok (.iconst 0, 1) := by decide +kernel
theorem dX8_wayOn_10 : decode cX8_wayOn 10 = .ok (.istore 7, 2) := by decide +kernel
theorem dX8_wayOn_12 : decode cX8_wayOn 12 = .ok (.iload 7, 2) := by decide +kernel
theorem dX8_wayOn_14 : decode cX8_wayOn 14 = .ok (.aload_n 0, 1) := by decide +kernel
theorem dX8_wayOn_15 : decode cX8_wayOn 15 = .ok (.iload_n 1, 1) := by decide +kernel
theorem dX8_wayOn_16 : decode cX8_wayOn 16 = .ok (.invokevirtual 85, 3) := by decide +kernel
theorem dX8_wayOn_19 : decode cX8_wayOn 19 = .ok (.if_icmp .ge 104, 3) := by decide +kernel
theorem dX8_wayOn_22 : decode cX8_wayOn 22 = .ok (.aload_n 0, 1) := by decide +kernel
theorem dX8_wayOn_23 : decode cX8_wayOn 23 = .ok (.aload_n 0, 1) := by decide +kernel
theorem dX8_wayOn_24 : decode cX8_wayOn 24 = .ok (.getfield 28, 3) := by decide +kernel
theorem dX8_wayOn_27 : decode cX8_wayOn 27 = .ok (.aload_n 0, 1) := by decide +kernel
theorem dX8_wayOn_28 : decode cX8_wayOn 28 = .ok (.iload_n 1, 1) := by decide +kernel
theorem dX8_wayOn_29 : decode cX8_wayOn 29 = .ok (.iload 7, 2) := by decide +kernel
theorem dX8_wayOn_31 : decode cX8_wayOn 31 = .ok (.invokevirtual 88, 3) := by decide +kernel
theorem dX8_wayOn_34 : decode cX8_wayOn 34 = .ok (.aload_n 0, 1) := by decide +kernel
theorem dX8_wayOn_35 : decode cX8_wayOn 35 = .ok (.iload_n 1, 1) := by decide +kernel
theorem dX8_wayOn_36 : decode cX8_wayOn 36 = .ok (.invokevirtual 81, 3) := by decide +kernel
theorem dX8_wayOn_39 : decode cX8_wayOn 39 = .ok (.invokevirtual 112, 3) := by decide +kernel
theorem dX8_wayOn_42 : decode cX8_wayOn 42 = .ok (.aload_n 0, 1) := by decide +kernel
theorem dX8_wayOn_43 : decode cX8_wayOn 43 = .ok (.getfield 28, 3) := by decide +kernel
theorem dX8_wayOn_46 : decode cX8_wayOn 46 = .ok (.invokestatic 116, 3) := by decide +kernel
theorem dX8_wayOn_49 : decode cX8_wayOn 49 = .ok (.istore 8, 2) := by decide +kernel
theorem dX8_wayOn_51 : decode cX8_wayOn 51 = .ok (.aload_n 0, 1) := by decide +kernel
theorem dX8_wayOn_52 : decode cX8_wayOn 52 = .ok (.aload_n 0, 1) := by decide +kernel
theorem dX8_wayOn_53 : decode cX8_wayOn 53 = .ok (.getfield 28, 3) := by decide +kernel
theorem dX8_wayOn_56 : decode cX8_wayOn 56 = .ok (.iload_n 2, 1) := by decide +kernel
theorem dX8_wayOn_57 : decode cX8_wayOn 57 = .ok (.iload_n 3, 1) := by decide +kernel
theorem dX8_wayOn_58 : decode cX8_wayOn 58 = .ok (.invokevirtual 120, 3) := by decide +kernel
theorem dX8_wayOn_61 : decode cX8_wayOn 61 = .ok (.aload_n 0, 1) := by decide +kernel
theorem dX8_wayOn_62 : decode cX8_wayOn 62 = .ok (.getfield 28, 3) := by decide +kernel
theorem dX8_wayOn_65 : decode cX8_wayOn 65 = .ok (.invokestatic 116, 3) := by decide +kernel
theorem dX8_wayOn_68 : decode cX8_wayOn 68 = .ok (.iload 8, 2) := by decide +kernel
theorem dX8_wayOn_70 : decode cX8_wayOn 70 = .ok (.isub, 1) := by decide +kernel
theorem dX8_wayOn_71 : decode cX8_wayOn 71 = .ok (.istore 9, 2) := by decide +kernel
theorem dX8_wayOn_73 : decode cX8_wayOn 73 = .ok (.iload 4, 2) := by decide +kernel
theorem dX8_wayOn_75 : decode cX8_wayOn 75 = .ok (.iconst (-1), 1) := by decide +kernel
theorem dX8_wayOn_76 : decode cX8_wayOn 76 = .ok (.if_icmp .eq 24, 3) := by decide +kernel
theorem dX8_wayOn_79 : decode cX8_wayOn 79 = .ok (.iload 9, 2) := by decide +kernel
theorem dX8_wayOn_81 : decode cX8_wayOn 81 = .ok (.iload 5, 2) := by decide +kernel
theorem dX8_wayOn_83 : decode cX8_wayOn 83 = .ok (.if_icmp .lt 17, 3) := by decide +kernel
theorem dX8_wayOn_86 : decode cX8_wayOn 86 = .ok (.iload 9, 2) := by decide +kernel
theorem dX8_wayOn_88 : decode cX8_wayOn 88 = .ok (.iload 5, 2) := by decide +kernel
theorem dX8_wayOn_90 : decode cX8_wayOn 90 = .ok (.if_icmp .ne 27, 3) := by decide +kernel
theorem dX8_wayOn_93 : decode cX8_wayOn 93 = .ok (.iload 8, 2) := by decide +kernel
theorem dX8_wayOn_95 : decode cX8_wayOn 95 = .ok (.iload 6, 2) := by decide +kernel
theorem dX8_wayOn_97 : decode cX8_wayOn 97 = .ok (.if_icmp .ge 20, 3) := by decide +kernel
theorem dX8_wayOn_100 : decode cX8_wayOn 100 = .ok (.aload_n 0, 1) := by decide +kernel
theorem dX8_wayOn_101 : decode cX8_wayOn 101 = .ok (.iload_n 1, 1) := by decide +kernel
theorem dX8_wayOn_102 : decode cX8_wayOn 102 = .ok (.iload 7, 2) := by decide +kernel
theorem dX8_wayOn_104 : decode cX8_wayOn 104 = .ok (.invokevirtual 88, 3) := by decide +kernel
theorem dX8_wayOn_107 : decode cX8_wayOn 107 = .ok (.istore 4, 2) := by decide +kernel
theorem dX8_wayOn_109 : decode cX8_wayOn 109 = .ok (.iload 9, 2) := by decide +kernel
theorem dX8_wayOn_111 : decode cX8_wayOn 111 = .ok (.istore 5, 2) := by decide +kernel
theorem dX8_wayOn_113 : decode cX8_wayOn 113 = .ok (.iload 8, 2) := by decide +kernel
theorem dX8_wayOn_115 : decode cX8_wayOn 115 = .ok (.istore 6, 2) := by decide +kernel
theorem dX8_wayOn_117 : decode cX8_wayOn 117 = .ok (.iinc 7 1, 3) := by decide +kernel
theorem dX8_wayOn_120 : decode cX8_wayOn 120 = .ok (.goto (-108), 3) := by decide +kernel
theorem dX8_wayOn_123 : decode cX8_wayOn 123 = .ok (.iload 4, 2) := by decide +kernel
theorem dX8_wayOn_125 : decode cX8_wayOn 125 = .ok (.ireturn, 1) := by decide +kernel
theorem dX8_farOf_0 : decode cX8_farOf 0 = .ok (.iconst 0, 1) := by decide +kernel
theorem dX8_farOf_1 : decode cX8_farOf 1 = .ok (.istore_n 3, 1) := by decide +kernel
theorem dX8_farOf_2 : decode cX8_farOf 2 = .ok (.iconst 0, 1) := by decide +kernel
theorem dX8_farOf_3 : decode cX8_farOf 3 = .ok (.istore 4, 2) := by decide +kernel
theorem dX8_farOf_5 : decode cX8_farOf 5 = .ok (.iconst 0, 1) := by decide +kernel
theorem dX8_farOf_6 : decode cX8_farOf 6 = .ok (.istore 5, 2) := by decide +kernel
theorem dX8_farOf_8 : decode cX8_farOf 8 = .ok (.iload 5, 2) := by decide +kernel
theorem dX8_farOf_10 : decode cX8_farOf 10 = .ok (.iconst 4, 1) := by decide +kernel
theorem dX8_farOf_11 : decode cX8_farOf 11 = .ok (.if_icmp .ge 75, 3) := by decide +kernel
theorem dX8_farOf_14 : decode cX8_farOf 14 = .ok (.aload_n 0, 1) := by decide +kernel
theorem dX8_farOf_15 : decode cX8_farOf 15 = .ok (.aload_n 0, 1) := by decide +kernel
theorem dX8_farOf_16 : decode cX8_farOf 16 = .ok (.iload_n 1, 1) := by decide +kernel
theorem dX8_farOf_17 : decode cX8_farOf 17 = .ok (.iload_n 2, 1) := by decide +kernel
theorem dX8_farOf_18 : decode cX8_farOf 18 = .ok (.invokevirtual 88, 3) := by decide +kernel
theorem dX8_farOf_21 : decode cX8_farOf 21 = .ok (.aload_n 0, 1) := by decide +kernel
theorem dX8_farOf_22 : decode cX8_farOf 22 = .ok (.iload_n 1, 1) := by decide +kernel
theorem dX8_farOf_23 : decode cX8_farOf 23 = .ok (.invokevirtual 81, 3) := by decide +kernel
theorem dX8_farOf_26 : decode cX8_farOf 26 = .ok (.iload 5, 2) := by decide +kernel
theorem dX8_farOf_28 : decode cX8_farOf 28 = .ok (.invokevirtual 92, 3) := by decide +kernel
theorem dX8_farOf_31 : decode cX8_farOf 31 = .ok (.aload_n 0, 1) := by decide +kernel
theorem dX8_farOf_32 : decode cX8_farOf 32 = .ok (.getfield 22, 3) := by decide +kernel
theorem dX8_farOf_35 : decode cX8_farOf 35 = .ok (.iconst 4, 1) := by decide +kernel
theorem dX8_farOf_36 : decode cX8_farOf 36 = .ok (.iload_n 1, 1) := by decide +kernel
theorem dX8_farOf_37 : decode cX8_farOf 37 = .ok (.imul, 1) := by decide +kernel
theorem dX8_farOf_38 : decode cX8_farOf 38 = .ok (.iload 5, 2) := by decide +kernel
theorem dX8_farOf_40 : decode cX8_farOf 40 = .ok (.iadd, 1) := by decide +kernel
theorem dX8_farOf_41 : decode cX8_farOf 41 = .ok (.iaload, 1) := by decide +kernel
theorem dX8_farOf_42 : decode cX8_farOf 42 = .ok (.isub, 1) := by decide +kernel
theorem dX8_farOf_43 : decode cX8_farOf 43 = .ok (.istore 6, 2) := by decide +kernel
theorem dX8_farOf_45 : decode cX8_farOf 45 = .ok (.iload_n 3, 1) := by decide +kernel
theorem dX8_farOf_46 : decode cX8_farOf 46 = .ok (.iload 5, 2) := by decide +kernel
theorem dX8_farOf_48 : decode cX8_farOf 48 = .ok (.iconst 2, 1) := by decide +kernel
theorem dX8_farOf_49 : decode cX8_farOf 49 = .ok (.irem, 1) := by decide +kernel
theorem dX8_farOf_50 : decode cX8_farOf 50 = .ok (.ifCond .ne 8, 3) := by decide +kernel
theorem dX8_farOf_53 : decode cX8_farOf 53 = .ok (.iload 6, 2) := by decide +kernel
theorem dX8_farOf_55 : decode cX8_farOf 55 = .ok (.goto 4, 3) := by decide +kernel
theorem dX8_farOf_58 : decode cX8_farOf 58 = .ok (.iconst 0, 1) := by decide +kernel
theorem dX8_farOf_59 : decode cX8_farOf 59 = .ok (.iadd, 1) := by decide +kernel
theorem dX8_farOf_60 : decode cX8_farOf 60 = .ok (.istore_n 3, 1) := by decide +kernel
theorem dX8_farOf_61 : decode cX8_farOf 61 = .ok (.iload 4, 2) := by decide +kernel
theorem dX8_farOf_63 : decode cX8_farOf 63 = .ok (.iload 5, 2) := by decide +kernel
theorem dX8_farOf_65 : decode cX8_farOf 65 = .ok (.iconst 2, 1) := by decide +kernel
theorem dX8_farOf_66 : decode cX8_farOf 66 = .ok (.irem, 1) := by decide +kernel
theorem dX8_farOf_67 : decode cX8_farOf 67 = .ok (.iconst 1, 1) := by decide +kernel
theorem dX8_farOf_68 : decode cX8_farOf 68 = .ok (.if_icmp .ne 8, 3) := by decide +kernel
theorem dX8_farOf_71 : decode cX8_farOf 71 = .ok (.iload 6, 2) := by decide +kernel
theorem dX8_farOf_73 : decode cX8_farOf 73 = .ok (.goto 4, 3) := by decide +kernel
theorem dX8_farOf_76 : decode cX8_farOf 76 = .ok (.iconst 0, 1) := by decide +kernel
theorem dX8_farOf_77 : decode cX8_farOf 77 = .ok (.iadd, 1) := by decide +kernel
theorem dX8_farOf_78 : decode cX8_farOf 78 = .ok (.istore 4, 2) := by decide +kernel
theorem dX8_farOf_80 : decode cX8_farOf 80 = .ok (.iinc 5 1, 3) := by decide +kernel
theorem dX8_farOf_83 : decode cX8_farOf 83 = .ok (.goto (-75), 3) := by decide +kernel
theorem dX8_farOf_86 : decode cX8_farOf 86 = .ok (.iload_n 3, 1) := by decide +kernel
theorem dX8_farOf_87 : decode cX8_farOf 87 = .ok (.iload_n 3, 1) := by decide +kernel
theorem dX8_farOf_88 : decode cX8_farOf 88 = .ok (.imul, 1) := by decide +kernel
theorem dX8_farOf_89 : decode cX8_farOf 89 = .ok (.iload 4, 2) := by decide +kernel
theorem dX8_farOf_91 : decode cX8_farOf 91 = .ok (.iload 4, 2) := by decide +kernel
theorem dX8_farOf_93 : decode cX8_farOf 93 = .ok (.imul, 1) := by decide +kernel
theorem dX8_farOf_94 : decode cX8_farOf 94 = .ok (.iadd, 1) := by decide +kernel
theorem dX8_farOf_95 : decode cX8_farOf 95 = .ok (.ireturn, 1) := by decide +kernel
theorem dX8_farthest_0 : decode cX8_farthest 0 = .ok (.iconst (-1), 1) := by decide +kernel
theorem dX8_farthest_1 : decode cX8_farthest 1 = .ok (.istore_n 3, 1) := by decide +kernel
theorem dX8_farthest_2 : decode cX8_farthest 2 = .ok (.iconst 0, 1) := by decide +kernel
theorem dX8_farthest_3 : decode cX8_farthest 3 = .ok (.istore 4, 2) := by decide +kernel
theorem dX8_farthest_5 : decode cX8_farthest 5 = .ok (.iload 4, 2) := by decide +kernel
theorem dX8_farthest_7 : decode cX8_farthest 7 = .ok (.aload_n 0, 1) := by decide +kernel
theorem dX8_farthest_8 : decode cX8_farthest 8 = .ok (.iload_n 1, 1) := by decide +kernel
theorem dX8_farthest_9 : decode cX8_farthest 9 = .ok (.invokevirtual 85, 3) := by decide +kernel
theorem dX8_farthest_12 : decode cX8_farthest 12 = .ok (.if_icmp .ge 39, 3) := by decide +kernel
theorem dX8_farthest_15 : decode cX8_farthest 15 = .ok (.iload 4, 2) := by decide +kernel
theorem dX8_farthest_17 : decode cX8_farthest 17 = .ok (.iload_n 2, 1) := by decide +kernel
theorem dX8_farthest_18 : decode cX8_farthest 18 = .ok (.if_icmp .eq 27, 3) := by decide +kernel
theorem dX8_farthest_21 : decode cX8_farthest 21 = .ok (.iload_n 3, 1) := by decide +kernel
theorem dX8_farthest_22 : decode cX8_farthest 22 = .ok (.iconst (-1), 1) := by decide +kernel
theorem dX8_farthest_23 : decode cX8_farthest 23 = .ok (.if_icmp .eq 19, 3) := by decide +kernel
theorem dX8_farthest_26 : decode cX8_farthest 26 = .ok (.aload_n 0, 1) := by decide +kernel
theorem dX8_farthest_27 : decode cX8_farthest 27 = .ok (.iload_n 1, 1) := by decide +kernel
theorem dX8_farthest_28 : decode cX8_farthest 28 = .ok (.iload 4, 2) := by decide +kernel
theorem dX8_farthest_30 : decode cX8_farthest 30 = .ok (.invokevirtual 123, 3) := by decide +kernel
theorem dX8_farthest_33 : decode cX8_farthest 33 = .ok (.aload_n 0, 1) := by decide +kernel
theorem dX8_farthest_34 : decode cX8_farthest 34 = .ok (.iload_n 1, 1) := by decide +kernel
theorem dX8_farthest_35 : decode cX8_farthest 35 = .ok (.iload_n 3, 1) := by decide +kernel
theorem dX8_farthest_36 : decode cX8_farthest 36 = .ok (.invokevirtual 123, 3) := by decide +kernel
theorem dX8_farthest_39 : decode cX8_farthest 39 = .ok (.if_icmp .lt 6, 3) := by decide +kernel
theorem dX8_farthest_42 : decode cX8_farthest 42 = .ok (.iload 4, 2) := by decide +kernel
theorem dX8_farthest_44 : decode cX8_farthest 44 = .ok (.istore_n 3, 1) := by decide +kernel
theorem dX8_farthest_45 : decode cX8_farthest 45 = .ok (.iinc 4 1, 3) := by decide +kernel
theorem dX8_farthest_48 : decode cX8_farthest 48 = .ok (.goto (-43), 3) := by decide +kernel
theorem dX8_farthest_51 : decode cX8_farthest 51 = .ok (.iload_n 3, 1) := by decide +kernel
theorem dX8_farthest_52 : decode cX8_farthest 52 = .ok (.ireturn, 1) := by decide +kernel
theorem dX8_court_0 : decode cX8_court 0 = .ok (.aload_n 0, 1) := by decide +kernel
theorem dX8_court_1 : decode cX8_court 1 = .ok (.iload_n 1, 1) := by decide +kernel
theorem dX8_court_2 : decode cX8_court 2 = .ok (.invokevirtual 81, 3) := by decide +kernel
theorem dX8_court_5 : decode cX8_court 5 = .ok (.istore_n 2, 1) := by decide +kernel
theorem dX8_court_6 : decode cX8_court 6 = .ok (.aload_n 0, 1) := by decide +kernel
theorem dX8_court_7 : decode cX8_court 7 = .ok (.invokevirtual 126, 3) := by decide +kernel
theorem dX8_court_10 : decode cX8_court 10 = .ok (.aload_n 0, 1) := by decide +kernel
theorem dX8_court_11 : decode cX8_court 11 = .ok (.iload_n 1, 1) := by decide +kernel
theorem dX8_court_12 : decode cX8_court 12 = .ok (.iconst (-1), 1) := by decide +kernel
theorem dX8_court_13 : decode cX8_court 13 = .ok (.invokevirtual 129, 3) := by decide +kernel
theorem dX8_court_16 : decode cX8_court 16 = .ok (.istore_n 3, 1) := by decide +kernel
theorem dX8_court_17 : decode cX8_court 17 = .ok (.aload_n 0, 1) := by decide +kernel
theorem dX8_court_18 : decode cX8_court 18 = .ok (.iload_n 1, 1) := by decide +kernel
theorem dX8_court_19 : decode cX8_court 19 = .ok (.iload_n 3, 1) := by decide +kernel
theorem dX8_court_20 : decode cX8_court 20 = .ok (.invokevirtual 129, 3) := by decide +kernel
theorem dX8_court_23 : decode cX8_court 23 = .ok (.istore 4, 2) := by decide +kernel
theorem dX8_court_25 : decode cX8_court 25 = .ok (.aload_n 0, 1) := by decide +kernel
theorem dX8_court_26 : decode cX8_court 26 = .ok (.iload_n 1, 1) := by decide +kernel
theorem dX8_court_27 : decode cX8_court 27 = .ok (.iload_n 3, 1) := by decide +kernel
theorem dX8_court_28 : decode cX8_court 28 = .ok (.invokevirtual 123, 3) := by decide +kernel
theorem dX8_court_31 : decode cX8_court 31 = .ok (.aload_n 0, 1) := by decide +kernel
theorem dX8_court_32 : decode cX8_court 32 = .ok (.iload_n 1, 1) := by decide +kernel
theorem dX8_court_33 : decode cX8_court 33 = .ok (.iload 4, 2) := by decide +kernel
theorem dX8_court_35 : decode cX8_court 35 = .ok (.invokevirtual 123, 3) := by decide +kernel
theorem dX8_court_38 : decode cX8_court 38 = .ok (.if_icmp .lt 25, 3) := by decide +kernel
theorem dX8_court_41 : decode cX8_court 41 = .ok (.aload_n 0, 1) := by decide +kernel
theorem dX8_court_42 : decode cX8_court 42 = .ok (.iload_n 1, 1) := by decide +kernel
theorem dX8_court_43 : decode cX8_court 43 = .ok (.iload_n 3, 1) := by decide +kernel
theorem dX8_court_44 : decode cX8_court 44 = .ok (.invokevirtual 123, 3) := by decide +kernel
theorem dX8_court_47 : decode cX8_court 47 = .ok (.aload_n 0, 1) := by decide +kernel
theorem dX8_court_48 : decode cX8_court 48 = .ok (.iload_n 1, 1) := by decide +kernel
theorem dX8_court_49 : decode cX8_court 49 = .ok (.iload 4, 2) := by decide +kernel
theorem dX8_court_51 : decode cX8_court 51 = .ok (.invokevirtual 123, 3) := by decide +kernel
theorem dX8_court_54 : decode cX8_court 54 = .ok (.if_icmp .ne 13, 3) := by decide +kernel
theorem dX8_court_57 : decode cX8_court 57 = .ok (.iload_n 3, 1) := by decide +kernel
theorem dX8_court_58 : decode cX8_court 58 = .ok (.iload 4, 2) := by decide +kernel
theorem dX8_court_60 : decode cX8_court 60 = .ok (.if_icmp .ge 7, 3) := by decide +kernel
theorem dX8_court_63 : decode cX8_court 63 = .ok (.iconst 1, 1) := by decide +kernel
theorem dX8_court_64 : decode cX8_court 64 = .ok (.goto 4, 3) := by decide +kernel
theorem dX8_court_67 : decode cX8_court 67 = .ok (.iconst 0, 1) := by decide +kernel
theorem dX8_court_68 : decode cX8_court 68 = .ok (.istore 5, 2) := by decide +kernel
theorem dX8_court_70 : decode cX8_court 70 = .ok (.aload_n 0, 1) := by decide +kernel
theorem dX8_court_71 : decode cX8_court 71 = .ok (.iload_n 1, 1) := by decide +kernel
theorem dX8_court_72 : decode cX8_court 72 = .ok (.iload 5, 2) := by decide +kernel
theorem dX8_court_74 : decode cX8_court 74 = .ok (.ifCond .eq 7, 3) := by decide +kernel
theorem dX8_court_77 : decode cX8_court 77 = .ok (.iload_n 3, 1) := by decide +kernel
theorem dX8_court_78 : decode cX8_court 78 = .ok (.goto 5, 3) := by decide +kernel
theorem dX8_court_81 : decode cX8_court 81 = .ok (.iload 4, 2) := by decide +kernel
theorem dX8_court_83 : decode cX8_court 83 = .ok (.invokevirtual 88, 3) := by decide +kernel
theorem dX8_court_86 : decode cX8_court 86 = .ok (.istore 6, 2) := by decide +kernel
theorem dX8_court_88 : decode cX8_court 88 = .ok (.aload_n 0, 1) := by decide +kernel
theorem dX8_court_89 : decode cX8_court 89 = .ok (.iload_n 1, 1) := by decide +kernel
theorem dX8_court_90 : decode cX8_court 90 = .ok (.iload 5, 2) := by decide +kernel
theorem dX8_court_92 : decode cX8_court 92 = .ok (.ifCond .eq 8, 3) := by decide +kernel
theorem dX8_court_95 : decode cX8_court 95 = .ok (.iload 4, 2) := by decide +kernel
theorem dX8_court_97 : decode cX8_court 97 = .ok (.goto 4, 3) := by decide +kernel
theorem dX8_court_100 : decode cX8_court 100 = .ok (.iload_n 3, 1) := by decide +kernel
theorem dX8_court_101 : decode cX8_court 101 = .ok (.invokevirtual 88, 3) := by decide +kernel
theorem dX8_court_104 : decode cX8_court 104 = .ok (.istore 7, 2) := by decide +kernel
theorem dX8_court_106 : decode cX8_court 106 = .ok (.aload_n 0, 1) := by decide +kernel
theorem dX8_court_107 : decode cX8_court 107 = .ok (.dup, 1) := by decide +kernel
theorem dX8_court_108 : decode cX8_court 108 = .ok (.getfield 132, 3) := by decide +kernel
theorem dX8_court_111 : decode cX8_court 111 = .ok (.iconst 1, 1) := by decide +kernel
theorem dX8_court_112 : decode cX8_court 112 = .ok (.iload_n 2, 1) := by decide +kernel
theorem dX8_court_113 : decode cX8_court 113 = .ok (.ishl, 1) := by decide +kernel
theorem dX8_court_114 : decode cX8_court 114 = .ok (.ior, 1) := by decide +kernel
theorem dX8_court_115 : decode cX8_court 115 = .ok (.putfield 132, 3) := by decide +kernel
theorem dX8_court_118 : decode cX8_court 118 = .ok (.aload_n 0, 1) := by decide +kernel
theorem dX8_court_119 : decode cX8_court 119 = .ok (.getfield 40, 3) := by decide +kernel
theorem dX8_court_122 : decode cX8_court 122 = .ok (.aload_n 0, 1) := by decide +kernel
theorem dX8_court_123 : decode cX8_court 123 = .ok (.getfield 135, 3) := by decide +kernel
theorem dX8_court_126 : decode cX8_court 126 = .ok (.iload_n 2, 1) := by decide +kernel
theorem dX8_court_127 : decode cX8_court 127 = .ok (.iastore, 1) := by decide +kernel
theorem dX8_court_128 : decode cX8_court 128 = .ok (.aload_n 0, 1) := by decide +kernel
theorem dX8_court_129 : decode cX8_court 129 = .ok (.getfield 43, 3) := by decide +kernel
theorem dX8_court_132 : decode cX8_court 132 = .ok (.aload_n 0, 1) := by decide +kernel
theorem dX8_court_133 : decode cX8_court 133 = .ok (.getfield 135, 3) := by decide +kernel
theorem dX8_court_136 : decode cX8_court 136 = .ok (.iload_n 2, 1) := by decide +kernel
theorem dX8_court_137 : decode cX8_court 137 = .ok (.ifCond .ne 7, 3) := by decide +kernel
theorem dX8_court_140 : decode cX8_court 140 = .ok (.iconst 2, 1) := by decide +kernel
theorem dX8_court_141 : decode cX8_court 141 = .ok (.goto 18, 3) := by decide +kernel
theorem dX8_court_144 : decode cX8_court 144 = .ok (.aload_n 0, 1) := by decide +kernel
theorem dX8_court_145 : decode cX8_court 145 = .ok (.getfield 25, 3) := by decide +kernel
theorem dX8_court_148 : decode cX8_court 148 = .ok (.iload 6, 2) := by decide +kernel
theorem dX8_court_150 : decode cX8_court 150 = .ok (.iaload, 1) := by decide +kernel
theorem dX8_court_151 : decode cX8_court 151 = .ok (.aload_n 0, 1) := by decide +kernel
theorem dX8_court_152 : decode cX8_court 152 = .ok (.getfield 25, 3) := by decide +kernel
theorem dX8_court_155 : decode cX8_court 155 = .ok (.iload 7, 2) := by decide +kernel
theorem dX8_court_157 : decode cX8_court 157 = .ok (.iaload, 1) := by decide +kernel
theorem dX8_court_158 : decode cX8_court 158 = .ok (.iadd, 1) := by decide +kernel
theorem dX8_court_159 : decode cX8_court 159 = .ok (.iastore, 1) := by decide +kernel
theorem dX8_court_160 : decode cX8_court 160 = .ok (.aload_n 0, 1) := by decide +kernel
theorem dX8_court_161 : decode cX8_court 161 = .ok (.dup, 1) := by decide +kernel
theorem dX8_court_162 : decode cX8_court 162 = .ok (.getfield 135, 3) := by decide +kernel
theorem dX8_court_165 : decode cX8_court 165 = .ok (.iconst 1, 1) := by decide +kernel
theorem dX8_court_166 : decode cX8_court 166 = .ok (.iadd, 1) := by decide +kernel
theorem dX8_court_167 : decode cX8_court 167 = .ok (.putfield 135, 3) := by decide +kernel
theorem dX8_court_170 : decode cX8_court 170 = .ok (.aload_n 0, 1) := by decide +kernel
theorem dX8_court_171 : decode cX8_court 171 = .ok (.getfield 7, 3) := by decide +kernel
theorem dX8_court_174 : decode cX8_court 174 = .ok (.iconst 1, 1) := by decide +kernel
theorem dX8_court_175 : decode cX8_court 175 = .ok (.dup2, 1) := by decide +kernel
theorem dX8_court_176 : decode cX8_court 176 = .ok (.iaload, 1) := by decide +kernel
theorem dX8_court_177 : decode cX8_court 177 = .ok (.iconst 1, 1) := by decide +kernel
theorem dX8_court_178 : decode cX8_court 178 = .ok (.iadd, 1) := by decide +kernel
theorem dX8_court_179 : decode cX8_court 179 = .ok (.iastore, 1) := by decide +kernel
theorem dX8_court_180 : decode cX8_court 180 = .ok (.aload_n 0, 1) := by decide +kernel
theorem dX8_court_181 : decode cX8_court 181 = .ok (.iload_n 1, 1) := by decide +kernel
theorem dX8_court_182 : decode cX8_court 182 = .ok (.iload_n 3, 1) := by decide +kernel
theorem dX8_court_183 : decode cX8_court 183 = .ok (.iload 4, 2) := by decide +kernel
theorem dX8_court_185 : decode cX8_court 185 = .ok (.invokestatic 99, 3) := by decide +kernel
theorem dX8_court_188 : decode cX8_court 188 = .ok (.invokevirtual 138, 3) := by decide +kernel
theorem dX8_court_191 : decode cX8_court 191 = .ok (.aload_n 0, 1) := by decide +kernel
theorem dX8_court_192 : decode cX8_court 192 = .ok (.iload_n 1, 1) := by decide +kernel
theorem dX8_court_193 : decode cX8_court 193 = .ok (.iload_n 3, 1) := by decide +kernel
theorem dX8_court_194 : decode cX8_court 194 = .ok (.iload 4, 2) := by decide +kernel
theorem dX8_court_196 : decode cX8_court 196 = .ok (.invokestatic 96, 3) := by decide +kernel
theorem dX8_court_199 : decode cX8_court 199 = .ok (.invokevirtual 138, 3) := by decide +kernel
theorem dX8_court_202 : decode cX8_court 202 = .ok (.aload_n 0, 1) := by decide +kernel
theorem dX8_court_203 : decode cX8_court 203 = .ok (.iload 7, 2) := by decide +kernel
theorem dX8_court_205 : decode cX8_court 205 = .ok (.iload_n 2, 1) := by decide +kernel
theorem dX8_court_206 : decode cX8_court 206 = .ok (.invokevirtual 142, 3) := by decide +kernel
theorem dX8_court_209 : decode cX8_court 209 = .ok (.aload_n 0, 1) := by decide +kernel
theorem dX8_court_210 : decode cX8_court 210 = .ok (.iload 6, 2) := by decide +kernel
theorem dX8_court_212 : decode cX8_court 212 = .ok (.iload_n 2, 1) := by decide +kernel
theorem dX8_court_213 : decode cX8_court 213 = .ok (.invokevirtual 142, 3) := by decide +kernel
theorem dX8_court_216 : decode cX8_court 216 = .ok (.return_, 1) := by decide +kernel
theorem dX8_sorts_0 : decode cX8_sorts 0 = .ok (.aload_n 0, 1) := by decide +kernel
theorem dX8_sorts_1 : decode cX8_sorts 1 = .ok (.iload_n 1, 1) := by decide +kernel
theorem dX8_sorts_2 : decode cX8_sorts 2 = .ok (.invokevirtual 81, 3) := by decide +kernel
theorem dX8_sorts_5 : decode cX8_sorts 5 = .ok (.istore_n 3, 1) := by decide +kernel
theorem dX8_sorts_6 : decode cX8_sorts 6 = .ok (.iconst 0, 1) := by decide +kernel
theorem dX8_sorts_7 : decode cX8_sorts 7 = .ok (.istore 4, 2) := by decide +kernel
theorem dX8_sorts_9 : decode cX8_sorts 9 = .ok (.iload 4, 2) := by decide +kernel
theorem dX8_sorts_11 : decode cX8_sorts 11 = .ok (.iconst 5, 1) := by decide +kernel
theorem dX8_sorts_12 : decode cX8_sorts 12 = .ok (.if_icmp .ge 140, 3) := by decide +kernel
theorem dX8_sorts_15 : decode cX8_sorts 15 = .ok (.aload_n 0, 1) := by decide +kernel
theorem dX8_sorts_16 : decode cX8_sorts 16 = .ok (.iload_n 1, 1) := by decide +kernel
theorem dX8_sorts_17 : decode cX8_sorts 17 = .ok (.iload 4, 2) := by decide +kernel
theorem dX8_sorts_19 : decode cX8_sorts 19 = .ok (.invokevirtual 88, 3) := by decide +kernel
theorem dX8_sorts_22 : decode cX8_sorts 22 = .ok (.istore 5, 2) := by decide +kernel
theorem dX8_sorts_24 : decode cX8_sorts 24 = .ok (.iload 4, 2) := by decide +kernel
theorem dX8_sorts_26 : decode cX8_sorts 26 = .ok (.istore 6, 2) := by decide +kernel
theorem dX8_sorts_28 : decode cX8_sorts 28 = .ok (.iload 6, 2) := by decide +kernel
theorem dX8_sorts_30 : decode cX8_sorts 30 = .ok (.ifCond .le 107, 3) := by decide +kernel
theorem dX8_sorts_33 : decode cX8_sorts 33 = .ok (.aload_n 0, 1) := by decide +kernel
theorem dX8_sorts_34 : decode cX8_sorts 34 = .ok (.aload_n 0, 1) := by decide +kernel
theorem dX8_sorts_35 : decode cX8_sorts 35 = .ok (.getfield 52, 3) := by decide +kernel
theorem dX8_sorts_38 : decode cX8_sorts 38 = .ok (.iload 6, 2) := by decide +kernel
theorem dX8_sorts_40 : decode cX8_sorts 40 = .ok (.iconst 1, 1) := by decide +kernel
theorem dX8_sorts_41 : decode cX8_sorts 41 = .ok (.isub, 1) := by decide +kernel
theorem dX8_sorts_42 : decode cX8_sorts 42 = .ok (.iaload, 1) := by decide +kernel
theorem dX8_sorts_43 : decode cX8_sorts 43 = .ok (.iload_n 3, 1) := by decide +kernel
theorem dX8_sorts_44 : decode cX8_sorts 44 = .ok (.iload_n 2, 1) := by decide +kernel
theorem dX8_sorts_45 : decode cX8_sorts 45 = .ok (.invokevirtual 92, 3) := by decide +kernel
theorem dX8_sorts_48 : decode cX8_sorts 48 = .ok (.aload_n 0, 1) := by decide +kernel
theorem dX8_sorts_49 : decode cX8_sorts 49 = .ok (.iload 5, 2) := by decide +kernel
theorem dX8_sorts_51 : decode cX8_sorts 51 = .ok (.iload_n 3, 1) := by decide +kernel
theorem dX8_sorts_52 : decode cX8_sorts 52 = .ok (.iload_n 2, 1) := by decide +kernel
theorem dX8_sorts_53 : decode cX8_sorts 53 = .ok (.invokevirtual 92, 3) := by decide +kernel
theorem dX8_sorts_56 : decode cX8_sorts 56 = .ok (.if_icmp .gt 59, 3) := by decide +kernel
theorem dX8_sorts_59 : decode cX8_sorts 59 = .ok (.aload_n 0, 1) := by decide +kernel
theorem dX8_sorts_60 : decode cX8_sorts 60 = .ok (.aload_n 0, 1) := by decide +kernel
theorem dX8_sorts_61 : decode cX8_sorts 61 = .ok (.getfield 52, 3) := by decide +kernel
theorem dX8_sorts_64 : decode cX8_sorts 64 = .ok (.iload 6, 2) := by decide +kernel
theorem dX8_sorts_66 : decode cX8_sorts 66 = .ok (.iconst 1, 1) := by decide +kernel
theorem dX8_sorts_67 : decode cX8_sorts 67 = .ok (.isub, 1) := by decide +kernel
theorem dX8_sorts_68 : decode cX8_sorts 68 = .ok (.iaload, 1) := by decide +kernel
theorem dX8_sorts_69 : decode cX8_sorts 69 = .ok (.iload_n 3, 1) := by decide +kernel
theorem dX8_sorts_70 : decode cX8_sorts 70 = .ok (.iload_n 2, 1) := by decide +kernel
theorem dX8_sorts_71 : decode cX8_sorts 71 = .ok (.invokevirtual 92, 3) := by decide +kernel
theorem dX8_sorts_74 : decode cX8_sorts 74 = .ok (.aload_n 0, 1) := by decide +kernel
theorem dX8_sorts_75 : decode cX8_sorts 75 = .ok (.iload 5, 2) := by decide +kernel
theorem dX8_sorts_77 : decode cX8_sorts 77 = .ok (.iload_n 3, 1) := by decide +kernel
theorem dX8_sorts_78 : decode cX8_sorts 78 = .ok (.iload_n 2, 1) := by decide +kernel
theorem dX8_sorts_79 : decode cX8_sorts 79 = .ok (.invokevirtual 92, 3) := by decide +kernel
theorem dX8_sorts_82 : decode cX8_sorts 82 = .ok (.if_icmp .ne 55, 3) := by decide +kernel
theorem dX8_sorts_85 : decode cX8_sorts 85 = .ok (.aload_n 0, 1) := by decide +kernel
theorem dX8_sorts_86 : decode cX8_sorts 86 = .ok (.aload_n 0, 1) := by decide +kernel
theorem dX8_sorts_87 : decode cX8_sorts 87 = .ok (.getfield 52, 3) := by decide +kernel
theorem dX8_sorts_90 : decode cX8_sorts 90 = .ok (.iload 6, 2) := by decide +kernel
theorem dX8_sorts_92 : decode cX8_sorts 92 = .ok (.iconst 1, 1) := by decide +kernel
theorem dX8_sorts_93 : decode cX8_sorts 93 = .ok (.isub, 1) := by decide +kernel
theorem dX8_sorts_94 : decode cX8_sorts 94 = .ok (.iaload, 1) := by decide +kernel
theorem dX8_sorts_95 : decode cX8_sorts 95 = .ok (.iload_n 3, 1) := by decide +kernel
theorem dX8_sorts_96 : decode cX8_sorts 96 = .ok (.iconst 2, 1) := by decide +kernel
theorem dX8_sorts_97 : decode cX8_sorts 97 = .ok (.iload_n 2, 1) := by decide +kernel
theorem dX8_sorts_98 : decode cX8_sorts 98 = .ok (.iadd, 1) := by decide +kernel
theorem dX8_sorts_99 : decode cX8_sorts 99 = .ok (.invokevirtual 92, 3) := by decide +kernel
theorem dX8_sorts_102 : decode cX8_sorts 102 = .ok (.aload_n 0, 1) := by decide +kernel
theorem dX8_sorts_103 : decode cX8_sorts 103 = .ok (.iload 5, 2) := by decide +kernel
theorem dX8_sorts_105 : decode cX8_sorts 105 = .ok (.iload_n 3, 1) := by decide +kernel
theorem dX8_sorts_106 : decode cX8_sorts 106 = .ok (.iconst 2, 1) := by decide +kernel
theorem dX8_sorts_107 : decode cX8_sorts 107 = .ok (.iload_n 2, 1) := by decide +kernel
theorem dX8_sorts_108 : decode cX8_sorts 108 = .ok (.iadd, 1) := by decide +kernel
theorem dX8_sorts_109 : decode cX8_sorts 109 = .ok (.invokevirtual 92, 3) := by decide +kernel
theorem dX8_sorts_112 : decode cX8_sorts 112 = .ok (.if_icmp .le 25, 3) := by decide +kernel
theorem dX8_sorts_115 : decode cX8_sorts 115 = .ok (.aload_n 0, 1) := by decide +kernel
theorem dX8_sorts_116 : decode cX8_sorts 116 = .ok (.getfield 52, 3) := by decide +kernel
theorem dX8_sorts_119 : decode cX8_sorts 119 = .ok (.iload 6, 2) := by decide +kernel
theorem dX8_sorts_121 : decode cX8_sorts 121 = .ok (.aload_n 0, 1) := by decide +kernel
theorem dX8_sorts_122 : decode cX8_sorts 122 = .ok (.getfield 52, 3) := by decide +kernel
theorem dX8_sorts_125 : decode cX8_sorts 125 = .ok (.iload 6, 2) := by decide +kernel
theorem dX8_sorts_127 : decode cX8_sorts 127 = .ok (.iconst 1, 1) := by decide +kernel
theorem dX8_sorts_128 : decode cX8_sorts 128 = .ok (.isub, 1) := by decide +kernel
theorem dX8_sorts_129 : decode cX8_sorts 129 = .ok (.iaload, 1) := by decide +kernel
theorem dX8_sorts_130 : decode cX8_sorts 130 = .ok (.iastore, 1) := by decide +kernel
theorem dX8_sorts_131 : decode cX8_sorts 131 = .ok (.iinc 6 (-1), 3) := by decide +kernel
theorem dX8_sorts_134 : decode cX8_sorts 134 = .ok (.goto (-106), 3) := by decide +kernel
theorem dX8_sorts_137 : decode cX8_sorts 137 = .ok (.aload_n 0, 1) := by decide +kernel
theorem dX8_sorts_138 : decode cX8_sorts 138 = .ok (.getfield 52, 3) := by decide +kernel
theorem dX8_sorts_141 : decode cX8_sorts 141 = .ok (.iload 6, 2) := by decide +kernel
theorem dX8_sorts_143 : decode cX8_sorts 143 = .ok (.iload 5, 2) := by decide +kernel
theorem dX8_sorts_145 : decode cX8_sorts 145 = .ok (.iastore, 1) := by decide +kernel
theorem dX8_sorts_146 : decode cX8_sorts 146 = .ok (.iinc 4 1, 3) := by decide +kernel
theorem dX8_sorts_149 : decode cX8_sorts 149 = .ok (.goto (-140), 3) := by decide +kernel
theorem dX8_sorts_152 : decode cX8_sorts 152 = .ok (.return_, 1) := by decide +kernel
theorem dX8_splits_0 : decode cX8_splits 0 = .ok (.aload_n 0, 1) := by decide +kernel
theorem dX8_splits_1 : decode cX8_splits 1 = .ok (.iload_n 1, 1) := by decide +kernel
theorem dX8_splits_2 : decode cX8_splits 2 = .ok (.invokevirtual 81, 3) := by decide +kernel
theorem dX8_splits_5 : decode cX8_splits 5 = .ok (.istore_n 2, 1) := by decide +kernel
theorem dX8_splits_6 : decode cX8_splits 6 = .ok (.aload_n 0, 1) := by decide +kernel
theorem dX8_splits_7 : decode cX8_splits 7 = .ok (.invokevirtual 126, 3) := by decide +kernel
theorem dX8_splits_10 : decode cX8_splits 10 = .ok (.iconst (-1), 1) := by decide +kernel
theorem dX8_splits_11 : decode cX8_splits 11 = .ok (.istore_n 3, 1) := by decide +kernel
theorem dX8_splits_12 : decode cX8_splits 12 = .ok (.iconst 0, 1) := by decide +kernel
theorem dX8_splits_13 : decode cX8_splits 13 = .ok (.istore 4, 2) := by decide +kernel
theorem dX8_splits_15 : decode cX8_splits 15 = .ok (.iconst 0, 1) := by decide +kernel
theorem dX8_splits_16 : decode cX8_splits 16 = .ok (.istore 5, 2) := by decide +kernel
theorem dX8_splits_18 : decode cX8_splits 18 = .ok (.iconst 0, 1) := by decide +kernel
theorem dX8_splits_19 : decode cX8_splits 19 = .ok (.istore 6, 2) := by decide +kernel
theorem dX8_splits_21 : decode cX8_splits 21 = .ok (.iload 6, 2) := by decide +kernel
theorem dX8_splits_23 : decode cX8_splits 23 = .ok (.iconst 4, 1) := by decide +kernel
theorem dX8_splits_24 : decode cX8_splits 24 = .ok (.if_icmp .ge 191, 3) := by decide +kernel
theorem dX8_splits_27 : decode cX8_splits 27 = .ok (.aload_n 0, 1) := by decide +kernel
theorem dX8_splits_28 : decode cX8_splits 28 = .ok (.iload_n 1, 1) := by decide +kernel
theorem dX8_splits_29 : decode cX8_splits 29 = .ok (.iload 6, 2) := by decide +kernel
theorem dX8_splits_31 : decode cX8_splits 31 = .ok (.iconst 2, 1) := by decide +kernel
theorem dX8_splits_32 : decode cX8_splits 32 = .ok (.idiv, 1) := by decide +kernel
theorem dX8_splits_33 : decode cX8_splits 33 = .ok (.invokevirtual 145, 3) := by decide +kernel
theorem dX8_splits_36 : decode cX8_splits 36 = .ok (.iconst 2, 1) := by decide +kernel
theorem dX8_splits_37 : decode cX8_splits 37 = .ok (.iload 6, 2) := by decide +kernel
theorem dX8_splits_39 : decode cX8_splits 39 = .ok (.iconst 2, 1) := by decide +kernel
theorem dX8_splits_40 : decode cX8_splits 40 = .ok (.irem, 1) := by decide +kernel
theorem dX8_splits_41 : decode cX8_splits 41 = .ok (.iadd, 1) := by decide +kernel
theorem dX8_splits_42 : decode cX8_splits 42 = .ok (.istore 7, 2) := by decide +kernel
theorem dX8_splits_44 : decode cX8_splits 44 = .ok (.aload_n 0, 1) := by decide +kernel
theorem dX8_splits_45 : decode cX8_splits 45 = .ok (.aload_n 0, 1) := by decide +kernel
theorem dX8_splits_46 : decode cX8_splits 46 = .ok (.getfield 28, 3) := by decide +kernel
theorem dX8_splits_49 : decode cX8_splits 49 = .ok (.aload_n 0, 1) := by decide +kernel
theorem dX8_splits_50 : decode cX8_splits 50 = .ok (.getfield 52, 3) := by decide +kernel
theorem dX8_splits_53 : decode cX8_splits 53 = .ok (.iconst 0, 1) := by decide +kernel
theorem dX8_splits_54 : decode cX8_splits 54 = .ok (.iaload, 1) := by decide +kernel
theorem dX8_splits_55 : decode cX8_splits 55 = .ok (.iload_n 2, 1) := by decide +kernel
theorem dX8_splits_56 : decode cX8_splits 56 = .ok (.invokevirtual 112, 3) := by decide +kernel
theorem dX8_splits_59 : decode cX8_splits 59 = .ok (.aload_n 0, 1) := by decide +kernel
theorem dX8_splits_60 : decode cX8_splits 60 = .ok (.aload_n 0, 1) := by decide +kernel
theorem dX8_splits_61 : decode cX8_splits 61 = .ok (.getfield 31, 3) := by decide +kernel
theorem dX8_splits_64 : decode cX8_splits 64 = .ok (.aload_n 0, 1) := by decide +kernel
theorem dX8_splits_65 : decode cX8_splits 65 = .ok (.getfield 52, 3) := by decide +kernel
theorem dX8_splits_68 : decode cX8_splits 68 = .ok (.iload 7, 2) := by decide +kernel
theorem dX8_splits_70 : decode cX8_splits 70 = .ok (.iaload, 1) := by decide +kernel
theorem dX8_splits_71 : decode cX8_splits 71 = .ok (.iload_n 2, 1) := by decide +kernel
theorem dX8_splits_72 : decode cX8_splits 72 = .ok (.invokevirtual 112, 3) := by decide +kernel
theorem dX8_splits_75 : decode cX8_splits 75 = .ok (.iconst 1, 1) := by decide +kernel
theorem dX8_splits_76 : decode cX8_splits 76 = .ok (.istore 8, 2) := by decide +kernel
theorem dX8_splits_78 : decode cX8_splits 78 = .ok (.iload 8, 2) := by decide +kernel
theorem dX8_splits_80 : decode cX8_splits 80 = .ok (.iconst 5, 1) := by decide +kernel
theorem dX8_splits_81 : decode cX8_splits 81 = .ok (.if_icmp .ge 39, 3) := by decide +kernel
theorem dX8_splits_84 : decode cX8_splits 84 = .ok (.aload_n 0, 1) := by decide +kernel
theorem dX8_splits_85 : decode cX8_splits 85 = .ok (.iload 8, 2) := by decide +kernel
theorem dX8_splits_87 : decode cX8_splits 87 = .ok (.iload 7, 2) := by decide +kernel
theorem dX8_splits_89 : decode cX8_splits 89 = .ok (.if_icmp .ge 10, 3) := by decide +kernel
theorem dX8_splits_92 : decode cX8_splits 92 = .ok (.aload_n 0, 1) := by decide +kernel
theorem dX8_splits_93 : decode cX8_splits 93 = .ok (.getfield 28, 3) := by decide +kernel
theorem dX8_splits_96 : decode cX8_splits 96 = .ok (.goto 7, 3) := by decide +kernel
theorem dX8_splits_99 : decode cX8_splits 99 = .ok (.aload_n 0, 1) := by decide +kernel
theorem dX8_splits_100 : decode cX8_splits 100 = .ok (.getfield 31, 3) := by decide +kernel
theorem dX8_splits_103 : decode cX8_splits 103 = .ok (.aload_n 0, 1) := by decide +kernel
theorem dX8_splits_104 : decode cX8_splits 104 = .ok (.getfield 52, 3) := by decide +kernel
theorem dX8_splits_107 : decode cX8_splits 107 = .ok (.iload 8, 2) := by decide +kernel
theorem dX8_splits_109 : decode cX8_splits 109 = .ok (.iaload, 1) := by decide +kernel
theorem dX8_splits_110 : decode cX8_splits 110 = .ok (.iload_n 2, 1) := by decide +kernel
theorem dX8_splits_111 : decode cX8_splits 111 = .ok (.invokevirtual 120, 3) := by decide +kernel
theorem dX8_splits_114 : decode cX8_splits 114 = .ok (.iinc 8 1, 3) := by decide +kernel
theorem dX8_splits_117 : decode cX8_splits 117 = .ok (.goto (-39), 3) := by decide +kernel
theorem dX8_splits_120 : decode cX8_splits 120 = .ok (.aload_n 0, 1) := by decide +kernel
theorem dX8_splits_121 : decode cX8_splits 121 = .ok (.invokevirtual 148, 3) := by decide +kernel
theorem dX8_splits_124 : decode cX8_splits 124 = .ok (.istore 8, 2) := by decide +kernel
theorem dX8_splits_126 : decode cX8_splits 126 = .ok (.aload_n 0, 1) := by decide +kernel
theorem dX8_splits_127 : decode cX8_splits 127 = .ok (.getfield 28, 3) := by decide +kernel
theorem dX8_splits_130 : decode cX8_splits 130 = .ok (.invokestatic 116, 3) := by decide +kernel
theorem dX8_splits_133 : decode cX8_splits 133 = .ok (.aload_n 0, 1) := by decide +kernel
theorem dX8_splits_134 : decode cX8_splits 134 = .ok (.getfield 31, 3) := by decide +kernel
theorem dX8_splits_137 : decode cX8_splits 137 = .ok (.invokestatic 116, 3) := by decide +kernel
theorem dX8_splits_140 : decode cX8_splits 140 = .ok (.iadd, 1) := by decide +kernel
theorem dX8_splits_141 : decode cX8_splits 141 = .ok (.istore 9, 2) := by decide +kernel
theorem dX8_splits_143 : decode cX8_splits 143 = .ok (.iload_n 3, 1) := by decide +kernel
theorem dX8_splits_144 : decode cX8_splits 144 = .ok (.iconst (-1), 1) := by decide +kernel
theorem dX8_splits_145 : decode cX8_splits 145 = .ok (.if_icmp .eq 24, 3) := by decide +kernel
theorem dX8_splits_148 : decode cX8_splits 148 = .ok (.iload 8, 2) := by decide +kernel
theorem dX8_splits_150 : decode cX8_splits 150 = .ok (.iload 4, 2) := by decide +kernel
theorem dX8_splits_152 : decode cX8_splits 152 = .ok (.if_icmp .lt 17, 3) := by decide +kernel
theorem dX8_splits_155 : decode cX8_splits 155 = .ok (.iload 8, 2) := by decide +kernel
theorem dX8_splits_157 : decode cX8_splits 157 = .ok (.iload 4, 2) := by decide +kernel
theorem dX8_splits_159 : decode cX8_splits 159 = .ok (.if_icmp .ne 50, 3) := by decide +kernel
theorem dX8_splits_162 : decode cX8_splits 162 = .ok (.iload 9, 2) := by decide +kernel
theorem dX8_splits_164 : decode cX8_splits 164 = .ok (.iload 5, 2) := by decide +kernel
theorem dX8_splits_166 : decode cX8_splits 166 = .ok (.if_icmp .ge 43, 3) := by decide +kernel
theorem dX8_splits_169 : decode cX8_splits 169 = .ok (.iload 7, 2) := by decide +kernel
theorem dX8_splits_171 : decode cX8_splits 171 = .ok (.istore_n 3, 1) := by decide +kernel
theorem dX8_splits_172 : decode cX8_splits 172 = .ok (.iload 8, 2) := by decide +kernel
theorem dX8_splits_174 : decode cX8_splits 174 = .ok (.istore 4, 2) := by decide +kernel
theorem dX8_splits_176 : decode cX8_splits 176 = .ok (.iload 9, 2) := by decide +kernel
theorem dX8_splits_178 : decode cX8_splits 178 = .ok (.istore 5, 2) := by decide +kernel
theorem dX8_splits_180 : decode cX8_splits 180 = .ok (.iconst 0, 1) := by decide +kernel
theorem dX8_splits_181 : decode cX8_splits 181 = .ok (.istore 10, 2) := by decide +kernel
theorem dX8_splits_183 : decode cX8_splits 183 = .ok (.iload 10, 2) := by decide +kernel
theorem dX8_splits_185 : decode cX8_splits 185 = .ok (.iconst 5, 1) := by decide +kernel
theorem dX8_splits_186 : decode cX8_splits 186 = .ok (.if_icmp .ge 23, 3) := by decide +kernel
theorem dX8_splits_189 : decode cX8_splits 189 = .ok (.aload_n 0, 1) := by decide +kernel
theorem dX8_splits_190 : decode cX8_splits 190 = .ok (.getfield 55, 3) := by decide +kernel
theorem dX8_splits_193 : decode cX8_splits 193 = .ok (.iload 10, 2) := by decide +kernel
theorem dX8_splits_195 : decode cX8_splits 195 = .ok (.aload_n 0, 1) := by decide +kernel
theorem dX8_splits_196 : decode cX8_splits 196 = .ok (.getfield 52, 3) := by decide +kernel
theorem dX8_splits_199 : decode cX8_splits 199 = .ok (.iload 10, 2) := by decide +kernel
theorem dX8_splits_201 : decode cX8_splits 201 = .ok (.iaload, 1) := by decide +kernel
theorem dX8_splits_202 : decode cX8_splits 202 = .ok (.iastore, 1) := by decide +kernel
theorem dX8_splits_203 : decode cX8_splits 203 = .ok (.iinc 10 1, 3) := by decide +kernel
theorem dX8_splits_206 : decode cX8_splits 206 = .ok (.goto (-23), 3) := by decide +kernel
theorem dX8_splits_209 : decode cX8_splits 209 = .ok (.iinc 6 1, 3) := by decide +kernel
theorem dX8_splits_212 : decode cX8_splits 212 = .ok (.goto (-191), 3) := by decide +kernel
theorem dX8_splits_215 : decode cX8_splits 215 = .ok (.aload_n 0, 1) := by decide +kernel
theorem dX8_splits_216 : decode cX8_splits 216 = .ok (.iload_n 2, 1) := by decide +kernel
theorem dX8_splits_217 : decode cX8_splits 217 = .ok (.invokevirtual 152, 3) := by decide +kernel
theorem dX8_splits_220 : decode cX8_splits 220 = .ok (.istore 6, 2) := by decide +kernel
theorem dX8_splits_222 : decode cX8_splits 222 = .ok (.aload_n 0, 1) := by decide +kernel
theorem dX8_splits_223 : decode cX8_splits 223 = .ok (.getfield 7, 3) := by decide +kernel
theorem dX8_splits_226 : decode cX8_splits 226 = .ok (.sipush 199, 3) := by decide +kernel
theorem dX8_splits_229 : decode cX8_splits 229 = .ok (.iload_n 1, 1) := by decide +kernel
theorem dX8_splits_230 : decode cX8_splits 230 = .ok (.iadd, 1) := by decide +kernel
theorem dX8_splits_231 : decode cX8_splits 231 = .ok (.iconst 0, 1) := by decide +kernel
theorem dX8_splits_232 : decode cX8_splits 232 = .ok (.iastore, 1) := by decide +kernel
theorem dX8_splits_233 : decode cX8_splits 233 = .ok (.iconst 0, 1) := by decide +kernel
theorem dX8_splits_234 : decode cX8_splits 234 = .ok (.istore 7, 2) := by decide +kernel
theorem dX8_splits_236 : decode cX8_splits 236 = .ok (.iload 7, 2) := by decide +kernel
theorem dX8_splits_238 : decode cX8_splits 238 = .ok (.iconst 5, 1) := by decide +kernel
theorem dX8_splits_239 : decode cX8_splits 239 = .ok (.if_icmp .ge 42, 3) := by decide +kernel
theorem dX8_splits_242 : decode cX8_splits 242 = .ok (.iload 7, 2) := by decide +kernel
theorem dX8_splits_244 : decode cX8_splits 244 = .ok (.iload_n 3, 1) := by decide +kernel
theorem dX8_splits_245 : decode cX8_splits 245 = .ok (.if_icmp .ge 7, 3) := by decide +kernel
theorem dX8_splits_248 : decode cX8_splits 248 = .ok (.iload_n 1, 1) := by decide +kernel
theorem dX8_splits_249 : decode cX8_splits 249 = .ok (.goto 5, 3) := by decide +kernel
theorem dX8_splits_252 : decode cX8_splits 252 = .ok (.iload 6, 2) := by decide +kernel
theorem dX8_splits_254 : decode cX8_splits 254 = .ok (.istore 8, 2) := by decide +kernel
theorem dX8_splits_256 : decode cX8_splits 256 = .ok (.aload_n 0, 1) := by decide +kernel
theorem dX8_splits_257 : decode cX8_splits 257 = .ok (.iload 8, 2) := by decide +kernel
theorem dX8_splits_259 : decode cX8_splits 259 = .ok (.aload_n 0, 1) := by decide +kernel
theorem dX8_splits_260 : decode cX8_splits 260 = .ok (.iload 8, 2) := by decide +kernel
theorem dX8_splits_262 : decode cX8_splits 262 = .ok (.invokevirtual 85, 3) := by decide +kernel
theorem dX8_splits_265 : decode cX8_splits 265 = .ok (.aload_n 0, 1) := by decide +kernel
theorem dX8_splits_266 : decode cX8_splits 266 = .ok (.getfield 55, 3) := by decide +kernel
theorem dX8_splits_269 : decode cX8_splits 269 = .ok (.iload 7, 2) := by decide +kernel
theorem dX8_splits_271 : decode cX8_splits 271 = .ok (.iaload, 1) := by decide +kernel
theorem dX8_splits_272 : decode cX8_splits 272 = .ok (.invokevirtual 155, 3) := by decide +kernel
theorem dX8_splits_275 : decode cX8_splits 275 = .ok (.iinc 7 1, 3) := by decide +kernel
theorem dX8_splits_278 : decode cX8_splits 278 = .ok (.goto (-42), 3) := by decide +kernel
theorem dX8_splits_281 : decode cX8_splits 281 = .ok (.aload_n 0, 1) := by decide +kernel
theorem dX8_splits_282 : decode cX8_splits 282 = .ok (.getfield 7, 3) := by decide +kernel
theorem dX8_splits_285 : decode cX8_splits 285 = .ok (.iconst 2, 1) := by decide +kernel
theorem dX8_splits_286 : decode cX8_splits 286 = .ok (.dup2, 1) := by decide +kernel
theorem dX8_splits_287 : decode cX8_splits 287 = .ok (.iaload, 1) := by decide +kernel
theorem dX8_splits_288 : decode cX8_splits 288 = .ok (.iconst 1, 1) := by decide +kernel
theorem dX8_splits_289 : decode cX8_splits 289 = .ok (.iadd, 1) := by decide +kernel
theorem dX8_splits_290 : decode cX8_splits 290 = .ok (.iastore, 1) := by decide +kernel
theorem dX8_splits_291 : decode cX8_splits 291 = .ok (.iload 6, 2) := by decide +kernel
theorem dX8_splits_293 : decode cX8_splits 293 = .ok (.ireturn, 1) := by decide +kernel
theorem dX8_comes_0 : decode cX8_comes 0 = .ok (.aload_n 0, 1) := by decide +kernel
theorem dX8_comes_1 : decode cX8_comes 1 = .ok (.invokevirtual 126, 3) := by decide +kernel
theorem dX8_comes_4 : decode cX8_comes 4 = .ok (.iconst 0, 1) := by decide +kernel
theorem dX8_comes_5 : decode cX8_comes 5 = .ok (.istore_n 3, 1) := by decide +kernel
theorem dX8_comes_6 : decode cX8_comes 6 = .ok (.aload_n 0, 1) := by decide +kernel
theorem dX8_comes_7 : decode cX8_comes 7 = .ok (.getfield 7, 3) := by decide +kernel
theorem dX8_comes_10 : decode cX8_comes 10 = .ok (.iconst 0, 1) := by decide +kernel
theorem dX8_comes_11 : decode cX8_comes 11 = .ok (.iaload, 1) := by decide +kernel
theorem dX8_comes_12 : decode cX8_comes 12 = .ok (.istore 4, 2) := by decide +kernel
theorem dX8_comes_14 : decode cX8_comes 14 = .ok (.aload_n 0, 1) := by decide +kernel
theorem dX8_comes_15 : decode cX8_comes 15 = .ok (.iload 4, 2) := by decide +kernel
theorem dX8_comes_17 : decode cX8_comes 17 = .ok (.invokevirtual 81, 3) := by decide +kernel
theorem dX8_comes_20 : decode cX8_comes 20 = .ok (.iload_n 2, 1) := by decide +kernel
theorem dX8_comes_21 : decode cX8_comes 21 = .ok (.if_icmp .le 27, 3) := by decide +kernel
theorem dX8_comes_24 : decode cX8_comes 24 = .ok (.aload_n 0, 1) := by decide +kernel
theorem dX8_comes_25 : decode cX8_comes 25 = .ok (.getfield 58, 3) := by decide +kernel
theorem dX8_comes_28 : decode cX8_comes 28 = .ok (.iload_n 3, 1) := by decide +kernel
theorem dX8_comes_29 : decode cX8_comes 29 = .ok (.iload 4, 2) := by decide +kernel
theorem dX8_comes_31 : decode cX8_comes 31 = .ok (.iastore, 1) := by decide +kernel
theorem dX8_comes_32 : decode cX8_comes 32 = .ok (.iinc 3 1, 3) := by decide +kernel
theorem dX8_comes_35 : decode cX8_comes 35 = .ok (.aload_n 0, 1) := by decide +kernel
theorem dX8_comes_36 : decode cX8_comes 36 = .ok (.iload 4, 2) := by decide +kernel
theorem dX8_comes_38 : decode cX8_comes 38 = .ok (.iload_n 1, 1) := by decide +kernel
theorem dX8_comes_39 : decode cX8_comes 39 = .ok (.iload_n 2, 1) := by decide +kernel
theorem dX8_comes_40 : decode cX8_comes 40 = .ok (.invokevirtual 159, 3) := by decide +kernel
theorem dX8_comes_43 : decode cX8_comes 43 = .ok (.istore 4, 2) := by decide +kernel
theorem dX8_comes_45 : decode cX8_comes 45 = .ok (.goto (-31), 3) := by decide +kernel
theorem dX8_comes_48 : decode cX8_comes 48 = .ok (.aload_n 0, 1) := by decide +kernel
theorem dX8_comes_49 : decode cX8_comes 49 = .ok (.iload 4, 2) := by decide +kernel
theorem dX8_comes_51 : decode cX8_comes 51 = .ok (.aload_n 0, 1) := by decide +kernel
theorem dX8_comes_52 : decode cX8_comes 52 = .ok (.iload 4, 2) := by decide +kernel
theorem dX8_comes_54 : decode cX8_comes 54 = .ok (.invokevirtual 85, 3) := by decide +kernel
theorem dX8_comes_57 : decode cX8_comes 57 = .ok (.iload_n 1, 1) := by decide +kernel
theorem dX8_comes_58 : decode cX8_comes 58 = .ok (.invokevirtual 155, 3) := by decide +kernel
theorem dX8_comes_61 : decode cX8_comes 61 = .ok (.iconst 1, 1) := by decide +kernel
theorem dX8_comes_62 : decode cX8_comes 62 = .ok (.istore 5, 2) := by decide +kernel
theorem dX8_comes_64 : decode cX8_comes 64 = .ok (.iload 5, 2) := by decide +kernel
theorem dX8_comes_66 : decode cX8_comes 66 = .ok (.ifCond .eq 153, 3) := by decide +kernel
theorem dX8_comes_69 : decode cX8_comes 69 = .ok (.aload_n 0, 1) := by decide +kernel
theorem dX8_comes_70 : decode cX8_comes 70 = .ok (.iload 4, 2) := by decide +kernel
theorem dX8_comes_72 : decode cX8_comes 72 = .ok (.invokevirtual 85, 3) := by decide +kernel
theorem dX8_comes_75 : decode cX8_comes 75 = .ok (.iconst 5, 1) := by decide +kernel
theorem dX8_comes_76 : decode cX8_comes 76 = .ok (.if_icmp .ne 143, 3) := by decide +kernel
theorem dX8_comes_79 : decode cX8_comes 79 = .ok (.iload 4, 2) := by decide +kernel
theorem dX8_comes_81 : decode cX8_comes 81 = .ok (.aload_n 0, 1) := by decide +kernel
theorem dX8_comes_82 : decode cX8_comes 82 = .ok (.getfield 7, 3) := by decide +kernel
theorem dX8_comes_85 : decode cX8_comes 85 = .ok (.iconst 0, 1) := by decide +kernel
theorem dX8_comes_86 : decode cX8_comes 86 = .ok (.iaload, 1) := by decide +kernel
theorem dX8_comes_87 : decode cX8_comes 87 = .ok (.if_icmp .eq 31, 3) := by decide +kernel
theorem dX8_comes_90 : decode cX8_comes 90 = .ok (.aload_n 0, 1) := by decide +kernel
theorem dX8_comes_91 : decode cX8_comes 91 = .ok (.getfield 132, 3) := by decide +kernel
theorem dX8_comes_94 : decode cX8_comes 94 = .ok (.aload_n 0, 1) := by decide +kernel
theorem dX8_comes_95 : decode cX8_comes 95 = .ok (.iload 4, 2) := by decide +kernel
theorem dX8_comes_97 : decode cX8_comes 97 = .ok (.invokevirtual 81, 3) := by decide +kernel
theorem dX8_comes_100 : decode cX8_comes 100 = .ok (.ishr, 1) := by decide +kernel
theorem dX8_comes_101 : decode cX8_comes 101 = .ok (.iconst 1, 1) := by decide +kernel
theorem dX8_comes_102 : decode cX8_comes 102 = .ok (.iand, 1) := by decide +kernel
theorem dX8_comes_103 : decode cX8_comes 103 = .ok (.ifCond .ne 15, 3) := by decide +kernel
theorem dX8_comes_106 : decode cX8_comes 106 = .ok (.aload_n 0, 1) := by decide +kernel
theorem dX8_comes_107 : decode cX8_comes 107 = .ok (.iload 4, 2) := by decide +kernel
theorem dX8_comes_109 : decode cX8_comes 109 = .ok (.invokevirtual 162, 3) := by decide +kernel
theorem dX8_comes_112 : decode cX8_comes 112 = .ok (.iconst 0, 1) := by decide +kernel
theorem dX8_comes_113 : decode cX8_comes 113 = .ok (.istore 5, 2) := by decide +kernel
theorem dX8_comes_115 : decode cX8_comes 115 = .ok (.goto (-51), 3) := by decide +kernel
theorem dX8_comes_118 : decode cX8_comes 118 = .ok (.aload_n 0, 1) := by decide +kernel
theorem dX8_comes_119 : decode cX8_comes 119 = .ok (.iload 4, 2) := by decide +kernel
theorem dX8_comes_121 : decode cX8_comes 121 = .ok (.invokevirtual 165, 3) := by decide +kernel
theorem dX8_comes_124 : decode cX8_comes 124 = .ok (.istore 6, 2) := by decide +kernel
theorem dX8_comes_126 : decode cX8_comes 126 = .ok (.iload 4, 2) := by decide +kernel
theorem dX8_comes_128 : decode cX8_comes 128 = .ok (.aload_n 0, 1) := by decide +kernel
theorem dX8_comes_129 : decode cX8_comes 129 = .ok (.getfield 7, 3) := by decide +kernel
theorem dX8_comes_132 : decode cX8_comes 132 = .ok (.iconst 0, 1) := by decide +kernel
theorem dX8_comes_133 : decode cX8_comes 133 = .ok (.iaload, 1) := by decide +kernel
theorem dX8_comes_134 : decode cX8_comes 134 = .ok (.if_icmp .ne 49, 3) := by decide +kernel
theorem dX8_comes_137 : decode cX8_comes 137 = .ok (.aload_n 0, 1) := by decide +kernel
theorem dX8_comes_138 : decode cX8_comes 138 = .ok (.aload_n 0, 1) := by decide +kernel
theorem dX8_comes_139 : decode cX8_comes 139 = .ok (.iload 4, 2) := by decide +kernel
theorem dX8_comes_141 : decode cX8_comes 141 = .ok (.invokevirtual 81, 3) := by decide +kernel
theorem dX8_comes_144 : decode cX8_comes 144 = .ok (.iconst 1, 1) := by decide +kernel
theorem dX8_comes_145 : decode cX8_comes 145 = .ok (.iadd, 1) := by decide +kernel
theorem dX8_comes_146 : decode cX8_comes 146 = .ok (.invokevirtual 152, 3) := by decide +kernel
theorem dX8_comes_149 : decode cX8_comes 149 = .ok (.istore 7, 2) := by decide +kernel
theorem dX8_comes_151 : decode cX8_comes 151 = .ok (.aload_n 0, 1) := by decide +kernel
theorem dX8_comes_152 : decode cX8_comes 152 = .ok (.iload 7, 2) := by decide +kernel
theorem dX8_comes_154 : decode cX8_comes 154 = .ok (.iconst 0, 1) := by decide +kernel
theorem dX8_comes_155 : decode cX8_comes 155 = .ok (.iload 4, 2) := by decide +kernel
theorem dX8_comes_157 : decode cX8_comes 157 = .ok (.invokevirtual 155, 3) := by decide +kernel
theorem dX8_comes_160 : decode cX8_comes 160 = .ok (.aload_n 0, 1) := by decide +kernel
theorem dX8_comes_161 : decode cX8_comes 161 = .ok (.iload 7, 2) := by decide +kernel
theorem dX8_comes_163 : decode cX8_comes 163 = .ok (.iconst 1, 1) := by decide +kernel
theorem dX8_comes_164 : decode cX8_comes 164 = .ok (.iload 6, 2) := by decide +kernel
theorem dX8_comes_166 : decode cX8_comes 166 = .ok (.invokevirtual 155, 3) := by decide +kernel
theorem dX8_comes_169 : decode cX8_comes 169 = .ok (.aload_n 0, 1) := by decide +kernel
theorem dX8_comes_170 : decode cX8_comes 170 = .ok (.getfield 7, 3) := by decide +kernel
theorem dX8_comes_173 : decode cX8_comes 173 = .ok (.iconst 0, 1) := by decide +kernel
theorem dX8_comes_174 : decode cX8_comes 174 = .ok (.iload 7, 2) := by decide +kernel
theorem dX8_comes_176 : decode cX8_comes 176 = .ok (.iastore, 1) := by decide +kernel
theorem dX8_comes_177 : decode cX8_comes 177 = .ok (.iconst 0, 1) := by decide +kernel
theorem dX8_comes_178 : decode cX8_comes 178 = .ok (.istore 5, 2) := by decide +kernel
theorem dX8_comes_180 : decode cX8_comes 180 = .ok (.goto 36, 3) := by decide +kernel
theorem dX8_comes_183 : decode cX8_comes 183 = .ok (.iinc 3 (-1), 3) := by decide +kernel
theorem dX8_comes_186 : decode cX8_comes 186 = .ok (.aload_n 0, 1) := by decide +kernel
theorem dX8_comes_187 : decode cX8_comes 187 = .ok (.getfield 58, 3) := by decide +kernel
theorem dX8_comes_190 : decode cX8_comes 190 = .ok (.iload_n 3, 1) := by decide +kernel
theorem dX8_comes_191 : decode cX8_comes 191 = .ok (.iaload, 1) := by decide +kernel
theorem dX8_comes_192 : decode cX8_comes 192 = .ok (.istore 7, 2) := by decide +kernel
theorem dX8_comes_194 : decode cX8_comes 194 = .ok (.aload_n 0, 1) := by decide +kernel
theorem dX8_comes_195 : decode cX8_comes 195 = .ok (.iload 7, 2) := by decide +kernel
theorem dX8_comes_197 : decode cX8_comes 197 = .ok (.aload_n 0, 1) := by decide +kernel
theorem dX8_comes_198 : decode cX8_comes 198 = .ok (.iload 7, 2) := by decide +kernel
theorem dX8_comes_200 : decode cX8_comes 200 = .ok (.iload 4, 2) := by decide +kernel
theorem dX8_comes_202 : decode cX8_comes 202 = .ok (.invokevirtual 106, 3) := by decide +kernel
theorem dX8_comes_205 : decode cX8_comes 205 = .ok (.iconst 1, 1) := by decide +kernel
theorem dX8_comes_206 : decode cX8_comes 206 = .ok (.iadd, 1) := by decide +kernel
theorem dX8_comes_207 : decode cX8_comes 207 = .ok (.iload 6, 2) := by decide +kernel
theorem dX8_comes_209 : decode cX8_comes 209 = .ok (.invokevirtual 155, 3) := by decide +kernel
theorem dX8_comes_212 : decode cX8_comes 212 = .ok (.iload 7, 2) := by decide +kernel
theorem dX8_comes_214 : decode cX8_comes 214 = .ok (.istore 4, 2) := by decide +kernel
theorem dX8_comes_216 : decode cX8_comes 216 = .ok (.goto (-152), 3) := by decide +kernel
theorem dX8_comes_219 : decode cX8_comes 219 = .ok (.return_, 1) := by decide +kernel
theorem dX8_insertion_0 : decode cX8_insertion 0 = .ok (.aload_n 0, 1) := by decide +kernel
theorem dX8_insertion_1 : decode cX8_insertion 1 = .ok (.iconst 0, 1) := by decide +kernel
theorem dX8_insertion_2 : decode cX8_insertion 2 = .ok (.putfield 132, 3) := by decide +kernel
theorem dX8_insertion_5 : decode cX8_insertion 5 = .ok (.aload_n 0, 1) := by decide +kernel
theorem dX8_insertion_6 : decode cX8_insertion 6 = .ok (.iconst 0, 1) := by decide +kernel
theorem dX8_insertion_7 : decode cX8_insertion 7 = .ok (.putfield 109, 3) := by decide +kernel
theorem dX8_insertion_10 : decode cX8_insertion 10 = .ok (.aload_n 0, 1) := by decide +kernel
theorem dX8_insertion_11 : decode cX8_insertion 11 = .ok (.iload_n 1, 1) := by decide +kernel
theorem dX8_insertion_12 : decode cX8_insertion 12 = .ok (.iload_n 2, 1) := by decide +kernel
theorem dX8_insertion_13 : decode cX8_insertion 13 = .ok (.invokevirtual 142, 3) := by decide +kernel
theorem dX8_insertion_16 : decode cX8_insertion 16 = .ok (.aload_n 0, 1) := by decide +kernel
theorem dX8_insertion_17 : decode cX8_insertion 17 = .ok (.getfield 109, 3) := by decide +kernel
theorem dX8_insertion_20 : decode cX8_insertion 20 = .ok (.ifCond .le 38, 3) := by decide +kernel
theorem dX8_insertion_23 : decode cX8_insertion 23 = .ok (.aload_n 0, 1) := by decide +kernel
theorem dX8_insertion_24 : decode cX8_insertion 24 = .ok (.dup, 1) := by decide +kernel
theorem dX8_insertion_25 : decode cX8_insertion 25 = .ok (.getfield 109, 3) := by decide +kernel
theorem dX8_insertion_28 : decode cX8_insertion 28 = .ok (.iconst 1, 1) := by decide +kernel
theorem dX8_insertion_29 : decode cX8_insertion 29 = .ok (.isub, 1) := by decide +kernel
theorem dX8_insertion_30 : decode cX8_insertion 30 = .ok (.putfield 109, 3) := by decide +kernel
theorem dX8_insertion_33 : decode cX8_insertion 33 = .ok (.aload_n 0, 1) := by decide +kernel
theorem dX8_insertion_34 : decode cX8_insertion 34 = .ok (.aload_n 0, 1) := by decide +kernel
theorem dX8_insertion_35 : decode cX8_insertion 35 = .ok (.getfield 34, 3) := by decide +kernel
theorem dX8_insertion_38 : decode cX8_insertion 38 = .ok (.aload_n 0, 1) := by decide +kernel
theorem dX8_insertion_39 : decode cX8_insertion 39 = .ok (.getfield 109, 3) := by decide +kernel
theorem dX8_insertion_42 : decode cX8_insertion 42 = .ok (.iaload, 1) := by decide +kernel
theorem dX8_insertion_43 : decode cX8_insertion 43 = .ok (.aload_n 0, 1) := by decide +kernel
theorem dX8_insertion_44 : decode cX8_insertion 44 = .ok (.getfield 37, 3) := by decide +kernel
theorem dX8_insertion_47 : decode cX8_insertion 47 = .ok (.aload_n 0, 1) := by decide +kernel
theorem dX8_insertion_48 : decode cX8_insertion 48 = .ok (.getfield 109, 3) := by decide +kernel
theorem dX8_insertion_51 : decode cX8_insertion 51 = .ok (.iaload, 1) := by decide +kernel
theorem dX8_insertion_52 : decode cX8_insertion 52 = .ok (.invokevirtual 168, 3) := by decide +kernel
theorem dX8_insertion_55 : decode cX8_insertion 55 = .ok (.goto (-39), 3) := by decide +kernel
theorem dX8_insertion_58 : decode cX8_insertion 58 = .ok (.return_, 1) := by decide +kernel
theorem dX8_levels_0 : decode cX8_levels 0 = .ok (.aload_n 0, 1) := by decide +kernel
theorem dX8_levels_1 : decode cX8_levels 1 = .ok (.aload_n 0, 1) := by decide +kernel
theorem dX8_levels_2 : decode cX8_levels 2 = .ok (.getfield 7, 3) := by decide +kernel
theorem dX8_levels_5 : decode cX8_levels 5 = .ok (.iconst 0, 1) := by decide +kernel
theorem dX8_levels_6 : decode cX8_levels 6 = .ok (.iaload, 1) := by decide +kernel
theorem dX8_levels_7 : decode cX8_levels 7 = .ok (.invokevirtual 81, 3) := by decide +kernel
theorem dX8_levels_10 : decode cX8_levels 10 = .ok (.iconst 1, 1) := by decide +kernel
theorem dX8_levels_11 : decode cX8_levels 11 = .ok (.iadd, 1) := by decide +kernel
theorem dX8_levels_12 : decode cX8_levels 12 = .ok (.ireturn, 1) := by decide +kernel
theorem dX8_putsBox_0 : decode cX8_putsBox 0 = .ok (.aload_n 0, 1) := by decide +kernel
theorem dX8_putsBox_1 : decode cX8_putsBox 1 = .ok (.getfield 7, 3) := by decide +kernel
theorem dX8_putsBox_4 : decode cX8_putsBox 4 = .ok (.iconst 4, 1) := by decide +kernel
theorem dX8_putsBox_5 : decode cX8_putsBox 5 = .ok (.iload_n 1, 1) := by decide +kernel
theorem dX8_putsBox_6 : decode cX8_putsBox 6 = .ok (.iadd, 1) := by decide +kernel
theorem dX8_putsBox_7 : decode cX8_putsBox 7 = .ok (.iconst 1, 1) := by decide +kernel
theorem dX8_putsBox_8 : decode cX8_putsBox 8 = .ok (.iastore, 1) := by decide +kernel
theorem dX8_putsBox_9 : decode cX8_putsBox 9 = .ok (.aload_n 0, 1) := by decide +kernel
theorem dX8_putsBox_10 : decode cX8_putsBox 10 = .ok (.getfield 7, 3) := by decide +kernel
theorem dX8_putsBox_13 : decode cX8_putsBox 13 = .ok (.bipush 35, 2) := by decide +kernel
theorem dX8_putsBox_15 : decode cX8_putsBox 15 = .ok (.iconst 4, 1) := by decide +kernel
theorem dX8_putsBox_16 : decode cX8_putsBox 16 = .ok (.iload_n 1, 1) := by decide +kernel
theorem dX8_putsBox_17 : decode cX8_putsBox 17 = .ok (.imul, 1) := by decide +kernel
theorem dX8_putsBox_18 : decode cX8_putsBox 18 = .ok (.iadd, 1) := by decide +kernel
theorem dX8_putsBox_19 : decode cX8_putsBox 19 = .ok (.iload_n 2, 1) := by decide +kernel
theorem dX8_putsBox_20 : decode cX8_putsBox 20 = .ok (.iastore, 1) := by decide +kernel
theorem dX8_putsBox_21 : decode cX8_putsBox 21 = .ok (.aload_n 0, 1) := by decide +kernel
theorem dX8_putsBox_22 : decode cX8_putsBox 22 = .ok (.getfield 7, 3) := by decide +kernel
theorem dX8_putsBox_25 : decode cX8_putsBox 25 = .ok (.bipush 35, 2) := by decide +kernel
theorem dX8_putsBox_27 : decode cX8_putsBox 27 = .ok (.iconst 4, 1) := by decide +kernel
theorem dX8_putsBox_28 : decode cX8_putsBox 28 = .ok (.iload_n 1, 1) := by decide +kernel
theorem dX8_putsBox_29 : decode cX8_putsBox 29 = .ok (.imul, 1) := by decide +kernel
theorem dX8_putsBox_30 : decode cX8_putsBox 30 = .ok (.iadd, 1) := by decide +kernel
theorem dX8_putsBox_31 : decode cX8_putsBox 31 = .ok (.iconst 1, 1) := by decide +kernel
theorem dX8_putsBox_32 : decode cX8_putsBox 32 = .ok (.iadd, 1) := by decide +kernel
theorem dX8_putsBox_33 : decode cX8_putsBox 33 = .ok (.iload_n 3, 1) := by decide +kernel
theorem dX8_putsBox_34 : decode cX8_putsBox 34 = .ok (.iastore, 1) := by decide +kernel
theorem dX8_putsBox_35 : decode cX8_putsBox 35 = .ok (.aload_n 0, 1) := by decide +kernel
theorem dX8_putsBox_36 : decode cX8_putsBox 36 = .ok (.getfield 7, 3) := by decide +kernel
theorem dX8_putsBox_39 : decode cX8_putsBox 39 = .ok (.bipush 35, 2) := by decide +kernel
theorem dX8_putsBox_41 : decode cX8_putsBox 41 = .ok (.iconst 4, 1) := by decide +kernel
theorem dX8_putsBox_42 : decode cX8_putsBox 42 = .ok (.iload_n 1, 1) := by decide +kernel
theorem dX8_putsBox_43 : decode cX8_putsBox 43 = .ok (.imul, 1) := by decide +kernel
theorem dX8_putsBox_44 : decode cX8_putsBox 44 = .ok (.iadd, 1) := by decide +kernel
theorem dX8_putsBox_45 : decode cX8_putsBox 45 = .ok (.iconst 2, 1) := by decide +kernel
theorem dX8_putsBox_46 : decode cX8_putsBox 46 = .ok (.iadd, 1) := by decide +kernel
theorem dX8_putsBox_47 : decode cX8_putsBox 47 = .ok (.iload 4, 2) := by decide +kernel
theorem dX8_putsBox_49 : decode cX8_putsBox 49 = .ok (.iastore, 1) := by decide +kernel
theorem dX8_putsBox_50 : decode cX8_putsBox 50 = .ok (.aload_n 0, 1) := by decide +kernel
theorem dX8_putsBox_51 : decode cX8_putsBox 51 = .ok (.getfield 7, 3) := by decide +kernel
theorem dX8_putsBox_54 : decode cX8_putsBox 54 = .ok (.bipush 35, 2) := by decide +kernel
theorem dX8_putsBox_56 : decode cX8_putsBox 56 = .ok (.iconst 4, 1) := by decide +kernel
theorem dX8_putsBox_57 : decode cX8_putsBox 57 = .ok (.iload_n 1, 1) := by decide +kernel
theorem dX8_putsBox_58 : decode cX8_putsBox 58 = .ok (.imul, 1) := by decide +kernel
theorem dX8_putsBox_59 : decode cX8_putsBox 59 = .ok (.iadd, 1) := by decide +kernel
theorem dX8_putsBox_60 : decode cX8_putsBox 60 = .ok (.iconst 3, 1) := by decide +kernel
theorem dX8_putsBox_61 : decode cX8_putsBox 61 = .ok (.iadd, 1) := by decide +kernel
theorem dX8_putsBox_62 : decode cX8_putsBox 62 = .ok (.iload 5, 2) := by decide +kernel
theorem dX8_putsBox_64 : decode cX8_putsBox 64 = .ok (.iastore, 1) := by decide +kernel
theorem dX8_putsBox_65 : decode cX8_putsBox 65 = .ok (.aload_n 0, 1) := by decide +kernel
theorem dX8_putsBox_66 : decode cX8_putsBox 66 = .ok (.iconst 0, 1) := by decide +kernel
theorem dX8_putsBox_67 : decode cX8_putsBox 67 = .ok (.putfield 135, 3) := by decide +kernel
theorem dX8_putsBox_70 : decode cX8_putsBox 70 = .ok (.aload_n 0, 1) := by decide +kernel
theorem dX8_putsBox_71 : decode cX8_putsBox 71 = .ok (.iload_n 1, 1) := by decide +kernel
theorem dX8_putsBox_72 : decode cX8_putsBox 72 = .ok (.iconst 0, 1) := by decide +kernel
theorem dX8_putsBox_73 : decode cX8_putsBox 73 = .ok (.invokevirtual 171, 3) := by decide +kernel
theorem dX8_putsBox_76 : decode cX8_putsBox 76 = .ok (.return_, 1) := by decide +kernel
theorem dX8_takesBox_0 : decode cX8_takesBox 0 = .ok (.aload_n 0, 1) := by decide +kernel
theorem dX8_takesBox_1 : decode cX8_takesBox 1 = .ok (.iconst 0, 1) := by decide +kernel
theorem dX8_takesBox_2 : decode cX8_takesBox 2 = .ok (.putfield 135, 3) := by decide +kernel
theorem dX8_takesBox_5 : decode cX8_takesBox 5 = .ok (.aload_n 0, 1) := by decide +kernel
theorem dX8_takesBox_6 : decode cX8_takesBox 6 = .ok (.iload_n 1, 1) := by decide +kernel
theorem dX8_takesBox_7 : decode cX8_takesBox 7 = .ok (.iconst 0, 1) := by decide +kernel
theorem dX8_takesBox_8 : decode cX8_takesBox 8 = .ok (.invokevirtual 174, 3) := by decide +kernel
theorem dX8_takesBox_11 : decode cX8_takesBox 11 = .ok (.istore_n 2, 1) := by decide +kernel
theorem dX8_takesBox_12 : decode cX8_takesBox 12 = .ok (.aload_n 0, 1) := by decide +kernel
theorem dX8_takesBox_13 : decode cX8_takesBox 13 = .ok (.iload_n 2, 1) := by decide +kernel
theorem dX8_takesBox_14 : decode cX8_takesBox 14 = .ok (.aload_n 0, 1) := by decide +kernel
theorem dX8_takesBox_15 : decode cX8_takesBox 15 = .ok (.iload_n 2, 1) := by decide +kernel
theorem dX8_takesBox_16 : decode cX8_takesBox 16 = .ok (.iload_n 1, 1) := by decide +kernel
theorem dX8_takesBox_17 : decode cX8_takesBox 17 = .ok (.invokevirtual 106, 3) := by decide +kernel
theorem dX8_takesBox_20 : decode cX8_takesBox 20 = .ok (.invokevirtual 138, 3) := by decide +kernel
theorem dX8_takesBox_23 : decode cX8_takesBox 23 = .ok (.aload_n 0, 1) := by decide +kernel
theorem dX8_takesBox_24 : decode cX8_takesBox 24 = .ok (.getfield 7, 3) := by decide +kernel
theorem dX8_takesBox_27 : decode cX8_takesBox 27 = .ok (.iconst 4, 1) := by decide +kernel
theorem dX8_takesBox_28 : decode cX8_takesBox 28 = .ok (.iload_n 1, 1) := by decide +kernel
theorem dX8_takesBox_29 : decode cX8_takesBox 29 = .ok (.iadd, 1) := by decide +kernel
theorem dX8_takesBox_30 : decode cX8_takesBox 30 = .ok (.iconst 0, 1) := by decide +kernel
theorem dX8_takesBox_31 : decode cX8_takesBox 31 = .ok (.iastore, 1) := by decide +kernel
theorem dX8_takesBox_32 : decode cX8_takesBox 32 = .ok (.aload_n 0, 1) := by decide +kernel
theorem dX8_takesBox_33 : decode cX8_takesBox 33 = .ok (.getfield 7, 3) := by decide +kernel
theorem dX8_takesBox_36 : decode cX8_takesBox 36 = .ok (.iconst 0, 1) := by decide +kernel
theorem dX8_takesBox_37 : decode cX8_takesBox 37 = .ok (.iaload, 1) := by decide +kernel
theorem dX8_takesBox_38 : decode cX8_takesBox 38 = .ok (.istore_n 3, 1) := by decide +kernel
theorem dX8_takesBox_39 : decode cX8_takesBox 39 = .ok (.aload_n 0, 1) := by decide +kernel
theorem dX8_takesBox_40 : decode cX8_takesBox 40 = .ok (.iload_n 3, 1) := by decide +kernel
theorem dX8_takesBox_41 : decode cX8_takesBox 41 = .ok (.invokevirtual 81, 3) := by decide +kernel
theorem dX8_takesBox_44 : decode cX8_takesBox 44 = .ok (.istore 4, 2) := by decide +kernel
theorem dX8_takesBox_46 : decode cX8_takesBox 46 = .ok (.iconst 0, 1) := by decide +kernel
theorem dX8_takesBox_47 : decode cX8_takesBox 47 = .ok (.istore 5, 2) := by decide +kernel
theorem dX8_takesBox_49 : decode cX8_takesBox 49 = .ok (.iload 5, 2) := by decide +kernel
theorem dX8_takesBox_51 : decode cX8_takesBox 51 = .ok (.iload 4, 2) := by decide +kernel
theorem dX8_takesBox_53 : decode cX8_takesBox 53 = .ok (.if_icmp .gt 17, 3) := by decide +kernel
theorem dX8_takesBox_56 : decode cX8_takesBox 56 = .ok (.aload_n 0, 1) := by decide +kernel
theorem dX8_takesBox_57 : decode cX8_takesBox 57 = .ok (.getfield 61, 3) := by decide +kernel
theorem dX8_takesBox_60 : decode cX8_takesBox 60 = .ok (.iload 5, 2) := by decide +kernel
theorem dX8_takesBox_62 : decode cX8_takesBox 62 = .ok (.iconst (-1), 1) := by decide +kernel
theorem dX8_takesBox_63 : decode cX8_takesBox 63 = .ok (.iastore, 1) := by decide +kernel
theorem dX8_takesBox_64 : decode cX8_takesBox 64 = .ok (.iinc 5 1, 3) := by decide +kernel
theorem dX8_takesBox_67 : decode cX8_takesBox 67 = .ok (.goto (-18), 3) := by decide +kernel
theorem dX8_takesBox_70 : decode cX8_takesBox 70 = .ok (.iload_n 2, 1) := by decide +kernel
theorem dX8_takesBox_71 : decode cX8_takesBox 71 = .ok (.iload_n 3, 1) := by decide +kernel
theorem dX8_takesBox_72 : decode cX8_takesBox 72 = .ok (.if_icmp .eq 100, 3) := by decide +kernel
theorem dX8_takesBox_75 : decode cX8_takesBox 75 = .ok (.aload_n 0, 1) := by decide +kernel
theorem dX8_takesBox_76 : decode cX8_takesBox 76 = .ok (.iload_n 2, 1) := by decide +kernel
theorem dX8_takesBox_77 : decode cX8_takesBox 77 = .ok (.invokevirtual 81, 3) := by decide +kernel
theorem dX8_takesBox_80 : decode cX8_takesBox 80 = .ok (.istore 5, 2) := by decide +kernel
theorem dX8_takesBox_82 : decode cX8_takesBox 82 = .ok (.aload_n 0, 1) := by decide +kernel
theorem dX8_takesBox_83 : decode cX8_takesBox 83 = .ok (.iload_n 2, 1) := by decide +kernel
theorem dX8_takesBox_84 : decode cX8_takesBox 84 = .ok (.iload 5, 2) := by decide +kernel
theorem dX8_takesBox_86 : decode cX8_takesBox 86 = .ok (.iconst 1, 1) := by decide +kernel
theorem dX8_takesBox_87 : decode cX8_takesBox 87 = .ok (.iadd, 1) := by decide +kernel
theorem dX8_takesBox_88 : decode cX8_takesBox 88 = .ok (.invokevirtual 174, 3) := by decide +kernel
theorem dX8_takesBox_91 : decode cX8_takesBox 91 = .ok (.istore 6, 2) := by decide +kernel
theorem dX8_takesBox_93 : decode cX8_takesBox 93 = .ok (.aload_n 0, 1) := by decide +kernel
theorem dX8_takesBox_94 : decode cX8_takesBox 94 = .ok (.iload_n 2, 1) := by decide +kernel
theorem dX8_takesBox_95 : decode cX8_takesBox 95 = .ok (.invokevirtual 85, 3) := by decide +kernel
theorem dX8_takesBox_98 : decode cX8_takesBox 98 = .ok (.iconst 2, 1) := by decide +kernel
theorem dX8_takesBox_99 : decode cX8_takesBox 99 = .ok (.if_icmp .ge 67, 3) := by decide +kernel
theorem dX8_takesBox_102 : decode cX8_takesBox 102 = .ok (.aload_n 0, 1) := by decide +kernel
theorem dX8_takesBox_103 : decode cX8_takesBox 103 = .ok (.getfield 61, 3) := by decide +kernel
theorem dX8_takesBox_106 : decode cX8_takesBox 106 = .ok (.iload 5, 2) := by decide +kernel
theorem dX8_takesBox_108 : decode cX8_takesBox 108 = .ok (.aload_n 0, 1) := by decide +kernel
theorem dX8_takesBox_109 : decode cX8_takesBox 109 = .ok (.iload_n 2, 1) := by decide +kernel
theorem dX8_takesBox_110 : decode cX8_takesBox 110 = .ok (.invokevirtual 85, 3) := by decide +kernel
theorem dX8_takesBox_113 : decode cX8_takesBox 113 = .ok (.iconst 1, 1) := by decide +kernel
theorem dX8_takesBox_114 : decode cX8_takesBox 114 = .ok (.if_icmp .ne 12, 3) := by decide +kernel
theorem dX8_takesBox_117 : decode cX8_takesBox 117 = .ok (.aload_n 0, 1) := by decide +kernel
theorem dX8_takesBox_118 : decode cX8_takesBox 118 = .ok (.iload_n 2, 1) := by decide +kernel
theorem dX8_takesBox_119 : decode cX8_takesBox 119 = .ok (.iconst 0, 1) := by decide +kernel
theorem dX8_takesBox_120 : decode cX8_takesBox 120 = .ok (.invokevirtual 88, 3) := by decide +kernel
theorem dX8_takesBox_123 : decode cX8_takesBox 123 = .ok (.goto 4, 3) := by decide +kernel
theorem dX8_takesBox_126 : decode cX8_takesBox 126 = .ok (.iconst (-1), 1) := by decide +kernel
theorem dX8_takesBox_127 : decode cX8_takesBox 127 = .ok (.iastore, 1) := by decide +kernel
theorem dX8_takesBox_128 : decode cX8_takesBox 128 = .ok (.aload_n 0, 1) := by decide +kernel
theorem dX8_takesBox_129 : decode cX8_takesBox 129 = .ok (.getfield 7, 3) := by decide +kernel
theorem dX8_takesBox_132 : decode cX8_takesBox 132 = .ok (.iconst 3, 1) := by decide +kernel
theorem dX8_takesBox_133 : decode cX8_takesBox 133 = .ok (.dup2, 1) := by decide +kernel
theorem dX8_takesBox_134 : decode cX8_takesBox 134 = .ok (.iaload, 1) := by decide +kernel
theorem dX8_takesBox_135 : decode cX8_takesBox 135 = .ok (.aload_n 0, 1) := by decide +kernel
theorem dX8_takesBox_136 : decode cX8_takesBox 136 = .ok (.iload_n 2, 1) := by decide +kernel
theorem dX8_takesBox_137 : decode cX8_takesBox 137 = .ok (.invokevirtual 85, 3) := by decide +kernel
theorem dX8_takesBox_140 : decode cX8_takesBox 140 = .ok (.iadd, 1) := by decide +kernel
theorem dX8_takesBox_141 : decode cX8_takesBox 141 = .ok (.iastore, 1) := by decide +kernel
theorem dX8_takesBox_142 : decode cX8_takesBox 142 = .ok (.aload_n 0, 1) := by decide +kernel
theorem dX8_takesBox_143 : decode cX8_takesBox 143 = .ok (.iload 6, 2) := by decide +kernel
theorem dX8_takesBox_145 : decode cX8_takesBox 145 = .ok (.aload_n 0, 1) := by decide +kernel
theorem dX8_takesBox_146 : decode cX8_takesBox 146 = .ok (.iload 6, 2) := by decide +kernel
theorem dX8_takesBox_148 : decode cX8_takesBox 148 = .ok (.iload_n 2, 1) := by decide +kernel
theorem dX8_takesBox_149 : decode cX8_takesBox 149 = .ok (.invokevirtual 106, 3) := by decide +kernel
theorem dX8_takesBox_152 : decode cX8_takesBox 152 = .ok (.invokevirtual 138, 3) := by decide +kernel
theorem dX8_takesBox_155 : decode cX8_takesBox 155 = .ok (.aload_n 0, 1) := by decide +kernel
theorem dX8_takesBox_156 : decode cX8_takesBox 156 = .ok (.getfield 7, 3) := by decide +kernel
theorem dX8_takesBox_159 : decode cX8_takesBox 159 = .ok (.sipush 159, 3) := by decide +kernel
theorem dX8_takesBox_162 : decode cX8_takesBox 162 = .ok (.iload_n 2, 1) := by decide +kernel
theorem dX8_takesBox_163 : decode cX8_takesBox 163 = .ok (.iadd, 1) := by decide +kernel
theorem dX8_takesBox_164 : decode cX8_takesBox 164 = .ok (.iconst (-1), 1) := by decide +kernel
theorem dX8_takesBox_165 : decode cX8_takesBox 165 = .ok (.iastore, 1) := by decide +kernel
theorem dX8_takesBox_166 : decode cX8_takesBox 166 = .ok (.iload 6, 2) := by decide +kernel
theorem dX8_takesBox_168 : decode cX8_takesBox 168 = .ok (.istore_n 2, 1) := by decide +kernel
theorem dX8_takesBox_169 : decode cX8_takesBox 169 = .ok (.goto (-99), 3) := by decide +kernel
theorem dX8_takesBox_172 : decode cX8_takesBox 172 = .ok (.iload 4, 2) := by decide +kernel
theorem dX8_takesBox_174 : decode cX8_takesBox 174 = .ok (.istore 5, 2) := by decide +kernel
theorem dX8_takesBox_176 : decode cX8_takesBox 176 = .ok (.iload 5, 2) := by decide +kernel
theorem dX8_takesBox_178 : decode cX8_takesBox 178 = .ok (.ifCond .lt 33, 3) := by decide +kernel
theorem dX8_takesBox_181 : decode cX8_takesBox 181 = .ok (.aload_n 0, 1) := by decide +kernel
theorem dX8_takesBox_182 : decode cX8_takesBox 182 = .ok (.getfield 61, 3) := by decide +kernel
theorem dX8_takesBox_185 : decode cX8_takesBox 185 = .ok (.iload 5, 2) := by decide +kernel
theorem dX8_takesBox_187 : decode cX8_takesBox 187 = .ok (.iaload, 1) := by decide +kernel
theorem dX8_takesBox_188 : decode cX8_takesBox 188 = .ok (.iconst (-1), 1) := by decide +kernel
theorem dX8_takesBox_189 : decode cX8_takesBox 189 = .ok (.if_icmp .eq 16, 3) := by decide +kernel
theorem dX8_takesBox_192 : decode cX8_takesBox 192 = .ok (.aload_n 0, 1) := by decide +kernel
theorem dX8_takesBox_193 : decode cX8_takesBox 193 = .ok (.aload_n 0, 1) := by decide +kernel
theorem dX8_takesBox_194 : decode cX8_takesBox 194 = .ok (.getfield 61, 3) := by decide +kernel
theorem dX8_takesBox_197 : decode cX8_takesBox 197 = .ok (.iload 5, 2) := by decide +kernel
theorem dX8_takesBox_199 : decode cX8_takesBox 199 = .ok (.iaload, 1) := by decide +kernel
theorem dX8_takesBox_200 : decode cX8_takesBox 200 = .ok (.iload 5, 2) := by decide +kernel
theorem dX8_takesBox_202 : decode cX8_takesBox 202 = .ok (.invokevirtual 171, 3) := by decide +kernel
theorem dX8_takesBox_205 : decode cX8_takesBox 205 = .ok (.iinc 5 (-1), 3) := by decide +kernel
theorem dX8_takesBox_208 : decode cX8_takesBox 208 = .ok (.goto (-32), 3) := by decide +kernel
theorem dX8_takesBox_211 : decode cX8_takesBox 211 = .ok (.aload_n 0, 1) := by decide +kernel
theorem dX8_takesBox_212 : decode cX8_takesBox 212 = .ok (.aload_n 0, 1) := by decide +kernel
theorem dX8_takesBox_213 : decode cX8_takesBox 213 = .ok (.getfield 7, 3) := by decide +kernel
theorem dX8_takesBox_216 : decode cX8_takesBox 216 = .ok (.iconst 0, 1) := by decide +kernel
theorem dX8_takesBox_217 : decode cX8_takesBox 217 = .ok (.iaload, 1) := by decide +kernel
theorem dX8_takesBox_218 : decode cX8_takesBox 218 = .ok (.invokevirtual 81, 3) := by decide +kernel
theorem dX8_takesBox_221 : decode cX8_takesBox 221 = .ok (.ifCond .le 57, 3) := by decide +kernel
theorem dX8_takesBox_224 : decode cX8_takesBox 224 = .ok (.aload_n 0, 1) := by decide +kernel
theorem dX8_takesBox_225 : decode cX8_takesBox 225 = .ok (.aload_n 0, 1) := by decide +kernel
theorem dX8_takesBox_226 : decode cX8_takesBox 226 = .ok (.getfield 7, 3) := by decide +kernel
theorem dX8_takesBox_229 : decode cX8_takesBox 229 = .ok (.iconst 0, 1) := by decide +kernel
theorem dX8_takesBox_230 : decode cX8_takesBox 230 = .ok (.iaload, 1) := by decide +kernel
theorem dX8_takesBox_231 : decode cX8_takesBox 231 = .ok (.invokevirtual 85, 3) := by decide +kernel
theorem dX8_takesBox_234 : decode cX8_takesBox 234 = .ok (.iconst 1, 1) := by decide +kernel
theorem dX8_takesBox_235 : decode cX8_takesBox 235 = .ok (.if_icmp .ne 43, 3) := by decide +kernel
theorem dX8_takesBox_238 : decode cX8_takesBox 238 = .ok (.aload_n 0, 1) := by decide +kernel
theorem dX8_takesBox_239 : decode cX8_takesBox 239 = .ok (.aload_n 0, 1) := by decide +kernel
theorem dX8_takesBox_240 : decode cX8_takesBox 240 = .ok (.getfield 7, 3) := by decide +kernel
theorem dX8_takesBox_243 : decode cX8_takesBox 243 = .ok (.iconst 0, 1) := by decide +kernel
theorem dX8_takesBox_244 : decode cX8_takesBox 244 = .ok (.iaload, 1) := by decide +kernel
theorem dX8_takesBox_245 : decode cX8_takesBox 245 = .ok (.iconst 0, 1) := by decide +kernel
theorem dX8_takesBox_246 : decode cX8_takesBox 246 = .ok (.invokevirtual 88, 3) := by decide +kernel
theorem dX8_takesBox_249 : decode cX8_takesBox 249 = .ok (.istore 5, 2) := by decide +kernel
theorem dX8_takesBox_251 : decode cX8_takesBox 251 = .ok (.aload_n 0, 1) := by decide +kernel
theorem dX8_takesBox_252 : decode cX8_takesBox 252 = .ok (.getfield 7, 3) := by decide +kernel
theorem dX8_takesBox_255 : decode cX8_takesBox 255 = .ok (.sipush 159, 3) := by decide +kernel
theorem dX8_takesBox_258 : decode cX8_takesBox 258 = .ok (.aload_n 0, 1) := by decide +kernel
theorem dX8_takesBox_259 : decode cX8_takesBox 259 = .ok (.getfield 7, 3) := by decide +kernel
theorem dX8_takesBox_262 : decode cX8_takesBox 262 = .ok (.iconst 0, 1) := by decide +kernel
theorem dX8_takesBox_263 : decode cX8_takesBox 263 = .ok (.iaload, 1) := by decide +kernel
theorem dX8_takesBox_264 : decode cX8_takesBox 264 = .ok (.iadd, 1) := by decide +kernel
theorem dX8_takesBox_265 : decode cX8_takesBox 265 = .ok (.iconst (-1), 1) := by decide +kernel
theorem dX8_takesBox_266 : decode cX8_takesBox 266 = .ok (.iastore, 1) := by decide +kernel
theorem dX8_takesBox_267 : decode cX8_takesBox 267 = .ok (.aload_n 0, 1) := by decide +kernel
theorem dX8_takesBox_268 : decode cX8_takesBox 268 = .ok (.getfield 7, 3) := by decide +kernel
theorem dX8_takesBox_271 : decode cX8_takesBox 271 = .ok (.iconst 0, 1) := by decide +kernel
theorem dX8_takesBox_272 : decode cX8_takesBox 272 = .ok (.iload 5, 2) := by decide +kernel
theorem dX8_takesBox_274 : decode cX8_takesBox 274 = .ok (.iastore, 1) := by decide +kernel
theorem dX8_takesBox_275 : decode cX8_takesBox 275 = .ok (.goto (-64), 3) := by decide +kernel
theorem dX8_takesBox_278 : decode cX8_takesBox 278 = .ok (.return_, 1) := by decide +kernel
theorem dX8_tells_0 : decode cX8_tells 0 = .ok (.aload_n 0, 1) := by decide +kernel
theorem dX8_tells_1 : decode cX8_tells 1 = .ok (.aload_n 0, 1) := by decide +kernel
theorem dX8_tells_2 : decode cX8_tells 2 = .ok (.getfield 135, 3) := by decide +kernel
theorem dX8_tells_5 : decode cX8_tells 5 = .ok (.putfield 177, 3) := by decide +kernel
theorem dX8_tells_8 : decode cX8_tells 8 = .ok (.iconst 0, 1) := by decide +kernel
theorem dX8_tells_9 : decode cX8_tells 9 = .ok (.istore_n 1, 1) := by decide +kernel
theorem dX8_tells_10 : decode cX8_tells 10 = .ok (.iload_n 1, 1) := by decide +kernel
theorem dX8_tells_11 : decode cX8_tells 11 = .ok (.aload_n 0, 1) := by decide +kernel
theorem dX8_tells_12 : decode cX8_tells 12 = .ok (.getfield 135, 3) := by decide +kernel
theorem dX8_tells_15 : decode cX8_tells 15 = .ok (.if_icmp .ge 33, 3) := by decide +kernel
theorem dX8_tells_18 : decode cX8_tells 18 = .ok (.aload_n 0, 1) := by decide +kernel
theorem dX8_tells_19 : decode cX8_tells 19 = .ok (.getfield 46, 3) := by decide +kernel
theorem dX8_tells_22 : decode cX8_tells 22 = .ok (.iload_n 1, 1) := by decide +kernel
theorem dX8_tells_23 : decode cX8_tells 23 = .ok (.aload_n 0, 1) := by decide +kernel
theorem dX8_tells_24 : decode cX8_tells 24 = .ok (.getfield 40, 3) := by decide +kernel
theorem dX8_tells_27 : decode cX8_tells 27 = .ok (.iload_n 1, 1) := by decide +kernel
theorem dX8_tells_28 : decode cX8_tells 28 = .ok (.iaload, 1) := by decide +kernel
theorem dX8_tells_29 : decode cX8_tells 29 = .ok (.iastore, 1) := by decide +kernel
theorem dX8_tells_30 : decode cX8_tells 30 = .ok (.aload_n 0, 1) := by decide +kernel
theorem dX8_tells_31 : decode cX8_tells 31 = .ok (.getfield 49, 3) := by decide +kernel
theorem dX8_tells_34 : decode cX8_tells 34 = .ok (.iload_n 1, 1) := by decide +kernel
theorem dX8_tells_35 : decode cX8_tells 35 = .ok (.aload_n 0, 1) := by decide +kernel
theorem dX8_tells_36 : decode cX8_tells 36 = .ok (.getfield 43, 3) := by decide +kernel
theorem dX8_tells_39 : decode cX8_tells 39 = .ok (.iload_n 1, 1) := by decide +kernel
theorem dX8_tells_40 : decode cX8_tells 40 = .ok (.iaload, 1) := by decide +kernel
theorem dX8_tells_41 : decode cX8_tells 41 = .ok (.iastore, 1) := by decide +kernel
theorem dX8_tells_42 : decode cX8_tells 42 = .ok (.iinc 1 1, 3) := by decide +kernel
theorem dX8_tells_45 : decode cX8_tells 45 = .ok (.goto (-35), 3) := by decide +kernel
theorem dX8_tells_48 : decode cX8_tells 48 = .ok (.return_, 1) := by decide +kernel
theorem dX8_isBox_0 : decode cX8_isBox 0 = .ok (.iload_n 0, 1) := by decide +kernel
theorem dX8_isBox_1 : decode cX8_isBox 1 = .ok (.iconst 0, 1) := by decide +kernel
theorem dX8_isBox_2 : decode cX8_isBox 2 = .ok (.bipush 30, 2) := by decide +kernel
theorem dX8_isBox_4 : decode cX8_isBox 4 = .ok (.invokestatic 180, 3) := by decide +kernel
theorem dX8_isBox_7 : decode cX8_isBox 7 = .ok (.ireturn, 1) := by decide +kernel
theorem dX8_areSides_0 : decode cX8_areSides 0 = .ok (.iload_n 0, 1) := by decide +kernel
theorem dX8_areSides_1 : decode cX8_areSides 1 = .ok (.iconst 0, 1) := by decide +kernel
theorem dX8_areSides_2 : decode cX8_areSides 2 = .ok (.bipush 99, 2) := by decide +kernel
theorem dX8_areSides_4 : decode cX8_areSides 4 = .ok (.invokestatic 180, 3) := by decide +kernel
theorem dX8_areSides_7 : decode cX8_areSides 7 = .ok (.ifCond .eq 37, 3) := by decide +kernel
theorem dX8_areSides_10 : decode cX8_areSides 10 = .ok (.iload_n 1, 1) := by decide +kernel
theorem dX8_areSides_11 : decode cX8_areSides 11 = .ok (.iconst 0, 1) := by decide +kernel
theorem dX8_areSides_12 : decode cX8_areSides 12 = .ok (.bipush 99, 2) := by decide +kernel
theorem dX8_areSides_14 : decode cX8_areSides 14 = .ok (.invokestatic 180, 3) := by decide +kernel
theorem dX8_areSides_17 : decode cX8_areSides 17 = .ok (.ifCond .eq 27, 3) := by decide +kernel
theorem dX8_areSides_20 : decode cX8_areSides 20 = .ok (.iload_n 2, 1) := by decide +kernel
theorem dX8_areSides_21 : decode cX8_areSides 21 = .ok (.iload_n 0, 1) := by decide +kernel
theorem dX8_areSides_22 : decode cX8_areSides 22 = .ok (.bipush 99, 2) := by decide +kernel
theorem dX8_areSides_24 : decode cX8_areSides 24 = .ok (.invokestatic 180, 3) := by decide +kernel
theorem dX8_areSides_27 : decode cX8_areSides 27 = .ok (.ifCond .eq 17, 3) := by decide +kernel
theorem dX8_areSides_30 : decode cX8_areSides 30 = .ok (.iload_n 3, 1) := by decide +kernel
theorem dX8_areSides_31 : decode cX8_areSides 31 = .ok (.iload_n 1, 1) := by decide +kernel
theorem dX8_areSides_32 : decode cX8_areSides 32 = .ok (.bipush 99, 2) := by decide +kernel
theorem dX8_areSides_34 : decode cX8_areSides 34 = .ok (.invokestatic 180, 3) := by decide +kernel
theorem dX8_areSides_37 : decode cX8_areSides 37 = .ok (.ifCond .eq 7, 3) := by decide +kernel
theorem dX8_areSides_40 : decode cX8_areSides 40 = .ok (.iconst 1, 1) := by decide +kernel
theorem dX8_areSides_41 : decode cX8_areSides 41 = .ok (.goto 4, 3) := by decide +kernel
theorem dX8_areSides_44 : decode cX8_areSides 44 = .ok (.iconst 0, 1) := by decide +kernel
theorem dX8_areSides_45 : decode cX8_areSides 45 = .ok (.ireturn, 1) := by decide +kernel
theorem dX8_isThere_0 : decode cX8_isThere 0 = .ok (.aload_n 0, 1) := by decide +kernel
theorem dX8_isThere_1 : decode cX8_isThere 1 = .ok (.getfield 7, 3) := by decide +kernel
theorem dX8_isThere_4 : decode cX8_isThere 4 = .ok (.iconst 4, 1) := by decide +kernel
theorem dX8_isThere_5 : decode cX8_isThere 5 = .ok (.iload_n 1, 1) := by decide +kernel
theorem dX8_isThere_6 : decode cX8_isThere 6 = .ok (.iadd, 1) := by decide +kernel
theorem dX8_isThere_7 : decode cX8_isThere 7 = .ok (.iaload, 1) := by decide +kernel
theorem dX8_isThere_8 : decode cX8_isThere 8 = .ok (.iconst 1, 1) := by decide +kernel
theorem dX8_isThere_9 : decode cX8_isThere 9 = .ok (.if_icmp .ne 7, 3) := by decide +kernel
theorem dX8_isThere_12 : decode cX8_isThere 12 = .ok (.iconst 1, 1) := by decide +kernel
theorem dX8_isThere_13 : decode cX8_isThere 13 = .ok (.goto 4, 3) := by decide +kernel
theorem dX8_isThere_16 : decode cX8_isThere 16 = .ok (.iconst 0, 1) := by decide +kernel
theorem dX8_isThere_17 : decode cX8_isThere 17 = .ok (.ireturn, 1) := by decide +kernel
theorem dX8_put_0 : decode cX8_put 0 = .ok (.iload_n 1, 1) := by decide +kernel
theorem dX8_put_1 : decode cX8_put 1 = .ok (.invokestatic 184, 3) := by decide +kernel
theorem dX8_put_4 : decode cX8_put 4 = .ok (.ifCond .eq 15, 3) := by decide +kernel
theorem dX8_put_7 : decode cX8_put 7 = .ok (.iload_n 2, 1) := by decide +kernel
theorem dX8_put_8 : decode cX8_put 8 = .ok (.iload_n 3, 1) := by decide +kernel
theorem dX8_put_9 : decode cX8_put 9 = .ok (.iload 4, 2) := by decide +kernel
theorem dX8_put_11 : decode cX8_put 11 = .ok (.iload 5, 2) := by decide +kernel
theorem dX8_put_13 : decode cX8_put 13 = .ok (.invokestatic 188, 3) := by decide +kernel
theorem dX8_put_16 : decode cX8_put 16 = .ok (.ifCond .ne 6, 3) := by decide +kernel
theorem dX8_put_19 : decode cX8_put 19 = .ok (.ldc 192, 2) := by decide +kernel
theorem dX8_put_21 : decode cX8_put 21 = .ok (.ireturn, 1) := by decide +kernel
theorem dX8_put_22 : decode cX8_put 22 = .ok (.aload_n 0, 1) := by decide +kernel
theorem dX8_put_23 : decode cX8_put 23 = .ok (.iload_n 1, 1) := by decide +kernel
theorem dX8_put_24 : decode cX8_put 24 = .ok (.invokevirtual 193, 3) := by decide +kernel
theorem dX8_put_27 : decode cX8_put 27 = .ok (.ifCond .eq 6, 3) := by decide +kernel
theorem dX8_put_30 : decode cX8_put 30 = .ok (.ldc 80, 2) := by decide +kernel
theorem dX8_put_32 : decode cX8_put 32 = .ok (.ireturn, 1) := by decide +kernel
theorem dX8_put_33 : decode cX8_put 33 = .ok (.aload_n 0, 1) := by decide +kernel
theorem dX8_put_34 : decode cX8_put 34 = .ok (.invokevirtual 196, 3) := by decide +kernel
theorem dX8_put_37 : decode cX8_put 37 = .ok (.aload_n 0, 1) := by decide +kernel
theorem dX8_put_38 : decode cX8_put 38 = .ok (.invokevirtual 199, 3) := by decide +kernel
theorem dX8_put_41 : decode cX8_put 41 = .ok (.aload_n 0, 1) := by decide +kernel
theorem dX8_put_42 : decode cX8_put 42 = .ok (.iload_n 1, 1) := by decide +kernel
theorem dX8_put_43 : decode cX8_put 43 = .ok (.iload_n 2, 1) := by decide +kernel
theorem dX8_put_44 : decode cX8_put 44 = .ok (.iload_n 3, 1) := by decide +kernel
theorem dX8_put_45 : decode cX8_put 45 = .ok (.iload 4, 2) := by decide +kernel
theorem dX8_put_47 : decode cX8_put 47 = .ok (.iload 5, 2) := by decide +kernel
theorem dX8_put_49 : decode cX8_put 49 = .ok (.invokevirtual 202, 3) := by decide +kernel
theorem dX8_put_52 : decode cX8_put 52 = .ok (.aload_n 0, 1) := by decide +kernel
theorem dX8_put_53 : decode cX8_put 53 = .ok (.invokevirtual 206, 3) := by decide +kernel
theorem dX8_put_56 : decode cX8_put 56 = .ok (.aload_n 0, 1) := by decide +kernel
theorem dX8_put_57 : decode cX8_put 57 = .ok (.invokevirtual 209, 3) := by decide +kernel
theorem dX8_put_60 : decode cX8_put 60 = .ok (.ireturn, 1) := by decide +kernel
theorem dX8_take_0 : decode cX8_take 0 = .ok (.iload_n 1, 1) := by decide +kernel
theorem dX8_take_1 : decode cX8_take 1 = .ok (.invokestatic 184, 3) := by decide +kernel
theorem dX8_take_4 : decode cX8_take 4 = .ok (.ifCond .ne 6, 3) := by decide +kernel
theorem dX8_take_7 : decode cX8_take 7 = .ok (.ldc 192, 2) := by decide +kernel
theorem dX8_take_9 : decode cX8_take 9 = .ok (.ireturn, 1) := by decide +kernel
theorem dX8_take_10 : decode cX8_take 10 = .ok (.aload_n 0, 1) := by decide +kernel
theorem dX8_take_11 : decode cX8_take 11 = .ok (.iload_n 1, 1) := by decide +kernel
theorem dX8_take_12 : decode cX8_take 12 = .ok (.invokevirtual 193, 3) := by decide +kernel
theorem dX8_take_15 : decode cX8_take 15 = .ok (.ifCond .ne 6, 3) := by decide +kernel
theorem dX8_take_18 : decode cX8_take 18 = .ok (.ldc 80, 2) := by decide +kernel
theorem dX8_take_20 : decode cX8_take 20 = .ok (.ireturn, 1) := by decide +kernel
theorem dX8_take_21 : decode cX8_take 21 = .ok (.aload_n 0, 1) := by decide +kernel
theorem dX8_take_22 : decode cX8_take 22 = .ok (.invokevirtual 196, 3) := by decide +kernel
theorem dX8_take_25 : decode cX8_take 25 = .ok (.aload_n 0, 1) := by decide +kernel
theorem dX8_take_26 : decode cX8_take 26 = .ok (.invokevirtual 199, 3) := by decide +kernel
theorem dX8_take_29 : decode cX8_take 29 = .ok (.aload_n 0, 1) := by decide +kernel
theorem dX8_take_30 : decode cX8_take 30 = .ok (.iload_n 1, 1) := by decide +kernel
theorem dX8_take_31 : decode cX8_take 31 = .ok (.invokevirtual 212, 3) := by decide +kernel
theorem dX8_take_34 : decode cX8_take 34 = .ok (.aload_n 0, 1) := by decide +kernel
theorem dX8_take_35 : decode cX8_take 35 = .ok (.invokevirtual 206, 3) := by decide +kernel
theorem dX8_take_38 : decode cX8_take 38 = .ok (.aload_n 0, 1) := by decide +kernel
theorem dX8_take_39 : decode cX8_take 39 = .ok (.invokevirtual 209, 3) := by decide +kernel
theorem dX8_take_42 : decode cX8_take 42 = .ok (.ireturn, 1) := by decide +kernel
theorem dX8_layRow_0 : decode cX8_layRow 0 = .ok (.aload_n 0, 1) := by decide +kernel
theorem dX8_layRow_1 : decode cX8_layRow 1 = .ok (.getfield 64, 3) := by decide +kernel
theorem dX8_layRow_4 : decode cX8_layRow 4 = .ok (.iconst 0, 1) := by decide +kernel
theorem dX8_layRow_5 : decode cX8_layRow 5 = .ok (.aload_n 0, 1) := by decide +kernel
theorem dX8_layRow_6 : decode cX8_layRow 6 = .ok (.getfield 7, 3) := by decide +kernel
theorem dX8_layRow_9 : decode cX8_layRow 9 = .ok (.iconst 0, 1) := by decide +kernel
theorem dX8_layRow_10 : decode cX8_layRow 10 = .ok (.iaload, 1) := by decide +kernel
theorem dX8_layRow_11 : decode cX8_layRow 11 = .ok (.iastore, 1) := by decide +kernel
theorem dX8_layRow_12 : decode cX8_layRow 12 = .ok (.aload_n 0, 1) := by decide +kernel
theorem dX8_layRow_13 : decode cX8_layRow 13 = .ok (.iconst 1, 1) := by decide +kernel
theorem dX8_layRow_14 : decode cX8_layRow 14 = .ok (.putfield 215, 3) := by decide +kernel
theorem dX8_layRow_17 : decode cX8_layRow 17 = .ok (.aload_n 0, 1) := by decide +kernel
theorem dX8_layRow_18 : decode cX8_layRow 18 = .ok (.aload_n 0, 1) := by decide +kernel
theorem dX8_layRow_19 : decode cX8_layRow 19 = .ok (.getfield 7, 3) := by decide +kernel
theorem dX8_layRow_22 : decode cX8_layRow 22 = .ok (.iconst 0, 1) := by decide +kernel
theorem dX8_layRow_23 : decode cX8_layRow 23 = .ok (.iaload, 1) := by decide +kernel
theorem dX8_layRow_24 : decode cX8_layRow 24 = .ok (.invokevirtual 81, 3) := by decide +kernel
theorem dX8_layRow_27 : decode cX8_layRow 27 = .ok (.istore_n 2, 1) := by decide +kernel
theorem dX8_layRow_28 : decode cX8_layRow 28 = .ok (.iload_n 2, 1) := by decide +kernel
theorem dX8_layRow_29 : decode cX8_layRow 29 = .ok (.iload_n 1, 1) := by decide +kernel
theorem dX8_layRow_30 : decode cX8_layRow 30 = .ok (.if_icmp .le 110, 3) := by decide +kernel
theorem dX8_layRow_33 : decode cX8_layRow 33 = .ok (.iconst 0, 1) := by decide +kernel
theorem dX8_layRow_34 : decode cX8_layRow 34 = .ok (.istore_n 3, 1) := by decide +kernel
theorem dX8_layRow_35 : decode cX8_layRow 35 = .ok (.iconst 0, 1) := by decide +kernel
theorem dX8_layRow_36 : decode cX8_layRow 36 = .ok (.istore 4, 2) := by decide +kernel
theorem dX8_layRow_38 : decode cX8_layRow 38 = .ok (.iload 4, 2) := by decide +kernel
theorem dX8_layRow_40 : decode cX8_layRow 40 = .ok (.aload_n 0, 1) := by decide +kernel
theorem dX8_layRow_41 : decode cX8_layRow 41 = .ok (.getfield 215, 3) := by decide +kernel
theorem dX8_layRow_44 : decode cX8_layRow 44 = .ok (.if_icmp .ge 56, 3) := by decide +kernel
theorem dX8_layRow_47 : decode cX8_layRow 47 = .ok (.iconst 0, 1) := by decide +kernel
theorem dX8_layRow_48 : decode cX8_layRow 48 = .ok (.istore 5, 2) := by decide +kernel
theorem dX8_layRow_50 : decode cX8_layRow 50 = .ok (.iload 5, 2) := by decide +kernel
theorem dX8_layRow_52 : decode cX8_layRow 52 = .ok (.aload_n 0, 1) := by decide +kernel
theorem dX8_layRow_53 : decode cX8_layRow 53 = .ok (.aload_n 0, 1) := by decide +kernel
theorem dX8_layRow_54 : decode cX8_layRow 54 = .ok (.getfield 64, 3) := by decide +kernel
theorem dX8_layRow_57 : decode cX8_layRow 57 = .ok (.iload 4, 2) := by decide +kernel
theorem dX8_layRow_59 : decode cX8_layRow 59 = .ok (.iaload, 1) := by decide +kernel
theorem dX8_layRow_60 : decode cX8_layRow 60 = .ok (.invokevirtual 85, 3) := by decide +kernel
theorem dX8_layRow_63 : decode cX8_layRow 63 = .ok (.if_icmp .ge 31, 3) := by decide +kernel
theorem dX8_layRow_66 : decode cX8_layRow 66 = .ok (.aload_n 0, 1) := by decide +kernel
theorem dX8_layRow_67 : decode cX8_layRow 67 = .ok (.getfield 67, 3) := by decide +kernel
theorem dX8_layRow_70 : decode cX8_layRow 70 = .ok (.iload_n 3, 1) := by decide +kernel
theorem dX8_layRow_71 : decode cX8_layRow 71 = .ok (.aload_n 0, 1) := by decide +kernel
theorem dX8_layRow_72 : decode cX8_layRow 72 = .ok (.aload_n 0, 1) := by decide +kernel
theorem dX8_layRow_73 : decode cX8_layRow 73 = .ok (.getfield 64, 3) := by decide +kernel
theorem dX8_layRow_76 : decode cX8_layRow 76 = .ok (.iload 4, 2) := by decide +kernel
theorem dX8_layRow_78 : decode cX8_layRow 78 = .ok (.iaload, 1) := by decide +kernel
theorem dX8_layRow_79 : decode cX8_layRow 79 = .ok (.iload 5, 2) := by decide +kernel
theorem dX8_layRow_81 : decode cX8_layRow 81 = .ok (.invokevirtual 88, 3) := by decide +kernel
theorem dX8_layRow_84 : decode cX8_layRow 84 = .ok (.iastore, 1) := by decide +kernel
theorem dX8_layRow_85 : decode cX8_layRow 85 = .ok (.iinc 3 1, 3) := by decide +kernel
theorem dX8_layRow_88 : decode cX8_layRow 88 = .ok (.iinc 5 1, 3) := by decide +kernel
theorem dX8_layRow_91 : decode cX8_layRow 91 = .ok (.goto (-41), 3) := by decide +kernel
theorem dX8_layRow_94 : decode cX8_layRow 94 = .ok (.iinc 4 1, 3) := by decide +kernel
theorem dX8_layRow_97 : decode cX8_layRow 97 = .ok (.goto (-59), 3) := by decide +kernel
theorem dX8_layRow_100 : decode cX8_layRow 100 = .ok (.iconst 0, 1) := by decide +kernel
theorem dX8_layRow_101 : decode cX8_layRow 101 = .ok (.istore 4, 2) := by decide +kernel
theorem dX8_layRow_103 : decode cX8_layRow 103 = .ok (.iload 4, 2) := by decide +kernel
theorem dX8_layRow_105 : decode cX8_layRow 105 = .ok (.iload_n 3, 1) := by decide +kernel
theorem dX8_layRow_106 : decode cX8_layRow 106 = .ok (.if_icmp .ge 23, 3) := by decide +kernel
theorem dX8_layRow_109 : decode cX8_layRow 109 = .ok (.aload_n 0, 1) := by decide +kernel
theorem dX8_layRow_110 : decode cX8_layRow 110 = .ok (.getfield 64, 3) := by decide +kernel
theorem dX8_layRow_113 : decode cX8_layRow 113 = .ok (.iload 4, 2) := by decide +kernel
theorem dX8_layRow_115 : decode cX8_layRow 115 = .ok (.aload_n 0, 1) := by decide +kernel
theorem dX8_layRow_116 : decode cX8_layRow 116 = .ok (.getfield 67, 3) := by decide +kernel
theorem dX8_layRow_119 : decode cX8_layRow 119 = .ok (.iload 4, 2) := by decide +kernel
theorem dX8_layRow_121 : decode cX8_layRow 121 = .ok (.iaload, 1) := by decide +kernel
theorem dX8_layRow_122 : decode cX8_layRow 122 = .ok (.iastore, 1) := by decide +kernel
theorem dX8_layRow_123 : decode cX8_layRow 123 = .ok (.iinc 4 1, 3) := by decide +kernel
theorem dX8_layRow_126 : decode cX8_layRow 126 = .ok (.goto (-23), 3) := by decide +kernel
theorem dX8_layRow_129 : decode cX8_layRow 129 = .ok (.aload_n 0, 1) := by decide +kernel
theorem dX8_layRow_130 : decode cX8_layRow 130 = .ok (.iload_n 3, 1) := by decide +kernel
theorem dX8_layRow_131 : decode cX8_layRow 131 = .ok (.putfield 215, 3) := by decide +kernel
theorem dX8_layRow_134 : decode cX8_layRow 134 = .ok (.iinc 2 (-1), 3) := by decide +kernel
theorem dX8_layRow_137 : decode cX8_layRow 137 = .ok (.goto (-109), 3) := by decide +kernel
theorem dX8_layRow_140 : decode cX8_layRow 140 = .ok (.return_, 1) := by decide +kernel
theorem dX8_placeOf_0 : decode cX8_placeOf 0 = .ok (.aload_n 0, 1) := by decide +kernel
theorem dX8_placeOf_1 : decode cX8_placeOf 1 = .ok (.aload_n 0, 1) := by decide +kernel
theorem dX8_placeOf_2 : decode cX8_placeOf 2 = .ok (.iload_n 1, 1) := by decide +kernel
theorem dX8_placeOf_3 : decode cX8_placeOf 3 = .ok (.invokevirtual 81, 3) := by decide +kernel
theorem dX8_placeOf_6 : decode cX8_placeOf 6 = .ok (.invokevirtual 218, 3) := by decide +kernel
theorem dX8_placeOf_9 : decode cX8_placeOf 9 = .ok (.iconst 0, 1) := by decide +kernel
theorem dX8_placeOf_10 : decode cX8_placeOf 10 = .ok (.istore_n 2, 1) := by decide +kernel
theorem dX8_placeOf_11 : decode cX8_placeOf 11 = .ok (.aload_n 0, 1) := by decide +kernel
theorem dX8_placeOf_12 : decode cX8_placeOf 12 = .ok (.getfield 64, 3) := by decide +kernel
theorem dX8_placeOf_15 : decode cX8_placeOf 15 = .ok (.iload_n 2, 1) := by decide +kernel
theorem dX8_placeOf_16 : decode cX8_placeOf 16 = .ok (.iaload, 1) := by decide +kernel
theorem dX8_placeOf_17 : decode cX8_placeOf 17 = .ok (.iload_n 1, 1) := by decide +kernel
theorem dX8_placeOf_18 : decode cX8_placeOf 18 = .ok (.if_icmp .eq 9, 3) := by decide +kernel
theorem dX8_placeOf_21 : decode cX8_placeOf 21 = .ok (.iinc 2 1, 3) := by decide +kernel
theorem dX8_placeOf_24 : decode cX8_placeOf 24 = .ok (.goto (-13), 3) := by decide +kernel
theorem dX8_placeOf_27 : decode cX8_placeOf 27 = .ok (.iload_n 2, 1) := by decide +kernel
theorem dX8_placeOf_28 : decode cX8_placeOf 28 = .ok (.ireturn, 1) := by decide +kernel
theorem dX8_boxOf_0 : decode cX8_boxOf 0 = .ok (.iload_n 1, 1) := by decide +kernel
theorem dX8_boxOf_1 : decode cX8_boxOf 1 = .ok (.invokestatic 184, 3) := by decide +kernel
theorem dX8_boxOf_4 : decode cX8_boxOf 4 = .ok (.ifCond .eq 12, 3) := by decide +kernel
theorem dX8_boxOf_7 : decode cX8_boxOf 7 = .ok (.iload_n 2, 1) := by decide +kernel
theorem dX8_boxOf_8 : decode cX8_boxOf 8 = .ok (.iconst 0, 1) := by decide +kernel
theorem dX8_boxOf_9 : decode cX8_boxOf 9 = .ok (.iconst 5, 1) := by decide +kernel
theorem dX8_boxOf_10 : decode cX8_boxOf 10 = .ok (.invokestatic 180, 3) := by decide +kernel
theorem dX8_boxOf_13 : decode cX8_boxOf 13 = .ok (.ifCond .ne 6, 3) := by decide +kernel
theorem dX8_boxOf_16 : decode cX8_boxOf 16 = .ok (.ldc 192, 2) := by decide +kernel
theorem dX8_boxOf_18 : decode cX8_boxOf 18 = .ok (.ireturn, 1) := by decide +kernel
theorem dX8_boxOf_19 : decode cX8_boxOf 19 = .ok (.aload_n 0, 1) := by decide +kernel
theorem dX8_boxOf_20 : decode cX8_boxOf 20 = .ok (.iload_n 1, 1) := by decide +kernel
theorem dX8_boxOf_21 : decode cX8_boxOf 21 = .ok (.invokevirtual 193, 3) := by decide +kernel
theorem dX8_boxOf_24 : decode cX8_boxOf 24 = .ok (.ifCond .ne 6, 3) := by decide +kernel
theorem dX8_boxOf_27 : decode cX8_boxOf 27 = .ok (.ldc 221, 2) := by decide +kernel
theorem dX8_boxOf_29 : decode cX8_boxOf 29 = .ok (.ireturn, 1) := by decide +kernel
theorem dX8_boxOf_30 : decode cX8_boxOf 30 = .ok (.iload_n 2, 1) := by decide +kernel
theorem dX8_boxOf_31 : decode cX8_boxOf 31 = .ok (.iconst 4, 1) := by decide +kernel
theorem dX8_boxOf_32 : decode cX8_boxOf 32 = .ok (.if_icmp .ge 7, 3) := by decide +kernel
theorem dX8_boxOf_35 : decode cX8_boxOf 35 = .ok (.iconst (-1), 1) := by decide +kernel
theorem dX8_boxOf_36 : decode cX8_boxOf 36 = .ok (.goto 9, 3) := by decide +kernel
theorem dX8_boxOf_39 : decode cX8_boxOf 39 = .ok (.aload_n 0, 1) := by decide +kernel
theorem dX8_boxOf_40 : decode cX8_boxOf 40 = .ok (.iload_n 1, 1) := by decide +kernel
theorem dX8_boxOf_41 : decode cX8_boxOf 41 = .ok (.iconst 0, 1) := by decide +kernel
theorem dX8_boxOf_42 : decode cX8_boxOf 42 = .ok (.invokevirtual 174, 3) := by decide +kernel
theorem dX8_boxOf_45 : decode cX8_boxOf 45 = .ok (.istore_n 3, 1) := by decide +kernel
theorem dX8_boxOf_46 : decode cX8_boxOf 46 = .ok (.iload_n 2, 1) := by decide +kernel
theorem dX8_boxOf_47 : decode cX8_boxOf 47 = .ok (.iconst 4, 1) := by decide +kernel
theorem dX8_boxOf_48 : decode cX8_boxOf 48 = .ok (.if_icmp .ge 19, 3) := by decide +kernel
theorem dX8_boxOf_51 : decode cX8_boxOf 51 = .ok (.aload_n 0, 1) := by decide +kernel
theorem dX8_boxOf_52 : decode cX8_boxOf 52 = .ok (.getfield 7, 3) := by decide +kernel
theorem dX8_boxOf_55 : decode cX8_boxOf 55 = .ok (.bipush 35, 2) := by decide +kernel
theorem dX8_boxOf_57 : decode cX8_boxOf 57 = .ok (.iconst 4, 1) := by decide +kernel
theorem dX8_boxOf_58 : decode cX8_boxOf 58 = .ok (.iload_n 1, 1) := by decide +kernel
theorem dX8_boxOf_59 : decode cX8_boxOf 59 = .ok (.imul, 1) := by decide +kernel
theorem dX8_boxOf_60 : decode cX8_boxOf 60 = .ok (.iadd, 1) := by decide +kernel
theorem dX8_boxOf_61 : decode cX8_boxOf 61 = .ok (.iload_n 2, 1) := by decide +kernel
theorem dX8_boxOf_62 : decode cX8_boxOf 62 = .ok (.iadd, 1) := by decide +kernel
theorem dX8_boxOf_63 : decode cX8_boxOf 63 = .ok (.iaload, 1) := by decide +kernel
theorem dX8_boxOf_64 : decode cX8_boxOf 64 = .ok (.goto 22, 3) := by decide +kernel
theorem dX8_boxOf_67 : decode cX8_boxOf 67 = .ok (.iload_n 2, 1) := by decide +kernel
theorem dX8_boxOf_68 : decode cX8_boxOf 68 = .ok (.iconst 4, 1) := by decide +kernel
theorem dX8_boxOf_69 : decode cX8_boxOf 69 = .ok (.if_icmp .ne 11, 3) := by decide +kernel
theorem dX8_boxOf_72 : decode cX8_boxOf 72 = .ok (.aload_n 0, 1) := by decide +kernel
theorem dX8_boxOf_73 : decode cX8_boxOf 73 = .ok (.iload_n 3, 1) := by decide +kernel
theorem dX8_boxOf_74 : decode cX8_boxOf 74 = .ok (.invokevirtual 222, 3) := by decide +kernel
theorem dX8_boxOf_77 : decode cX8_boxOf 77 = .ok (.goto 9, 3) := by decide +kernel
theorem dX8_boxOf_80 : decode cX8_boxOf 80 = .ok (.aload_n 0, 1) := by decide +kernel
theorem dX8_boxOf_81 : decode cX8_boxOf 81 = .ok (.iload_n 3, 1) := by decide +kernel
theorem dX8_boxOf_82 : decode cX8_boxOf 82 = .ok (.iload_n 1, 1) := by decide +kernel
theorem dX8_boxOf_83 : decode cX8_boxOf 83 = .ok (.invokevirtual 106, 3) := by decide +kernel
theorem dX8_boxOf_86 : decode cX8_boxOf 86 = .ok (.ireturn, 1) := by decide +kernel
theorem dX8_nodeOf_0 : decode cX8_nodeOf 0 = .ok (.iload_n 1, 1) := by decide +kernel
theorem dX8_nodeOf_1 : decode cX8_nodeOf 1 = .ok (.ifCond .lt 16, 3) := by decide +kernel
theorem dX8_nodeOf_4 : decode cX8_nodeOf 4 = .ok (.iload_n 2, 1) := by decide +kernel
theorem dX8_nodeOf_5 : decode cX8_nodeOf 5 = .ok (.ifCond .lt 12, 3) := by decide +kernel
theorem dX8_nodeOf_8 : decode cX8_nodeOf 8 = .ok (.iload_n 3, 1) := by decide +kernel
theorem dX8_nodeOf_9 : decode cX8_nodeOf 9 = .ok (.iconst 0, 1) := by decide +kernel
theorem dX8_nodeOf_10 : decode cX8_nodeOf 10 = .ok (.iconst 5, 1) := by decide +kernel
theorem dX8_nodeOf_11 : decode cX8_nodeOf 11 = .ok (.invokestatic 180, 3) := by decide +kernel
theorem dX8_nodeOf_14 : decode cX8_nodeOf 14 = .ok (.ifCond .ne 6, 3) := by decide +kernel
theorem dX8_nodeOf_17 : decode cX8_nodeOf 17 = .ok (.ldc 192, 2) := by decide +kernel
theorem dX8_nodeOf_19 : decode cX8_nodeOf 19 = .ok (.ireturn, 1) := by decide +kernel
theorem dX8_nodeOf_20 : decode cX8_nodeOf 20 = .ok (.iload_n 1, 1) := by decide +kernel
theorem dX8_nodeOf_21 : decode cX8_nodeOf 21 = .ok (.aload_n 0, 1) := by decide +kernel
theorem dX8_nodeOf_22 : decode cX8_nodeOf 22 = .ok (.invokevirtual 209, 3) := by decide +kernel
theorem dX8_nodeOf_25 : decode cX8_nodeOf 25 = .ok (.if_icmp .lt 6, 3) := by decide +kernel
theorem dX8_nodeOf_28 : decode cX8_nodeOf 28 = .ok (.ldc 221, 2) := by decide +kernel
theorem dX8_nodeOf_30 : decode cX8_nodeOf 30 = .ok (.ireturn, 1) := by decide +kernel
theorem dX8_nodeOf_31 : decode cX8_nodeOf 31 = .ok (.aload_n 0, 1) := by decide +kernel
theorem dX8_nodeOf_32 : decode cX8_nodeOf 32 = .ok (.iload_n 1, 1) := by decide +kernel
theorem dX8_nodeOf_33 : decode cX8_nodeOf 33 = .ok (.invokevirtual 218, 3) := by decide +kernel
theorem dX8_nodeOf_36 : decode cX8_nodeOf 36 = .ok (.iload_n 2, 1) := by decide +kernel
theorem dX8_nodeOf_37 : decode cX8_nodeOf 37 = .ok (.aload_n 0, 1) := by decide +kernel
theorem dX8_nodeOf_38 : decode cX8_nodeOf 38 = .ok (.getfield 215, 3) := by decide +kernel
theorem dX8_nodeOf_41 : decode cX8_nodeOf 41 = .ok (.if_icmp .lt 6, 3) := by decide +kernel
theorem dX8_nodeOf_44 : decode cX8_nodeOf 44 = .ok (.ldc 221, 2) := by decide +kernel
theorem dX8_nodeOf_46 : decode cX8_nodeOf 46 = .ok (.ireturn, 1) := by decide +kernel
theorem dX8_nodeOf_47 : decode cX8_nodeOf 47 = .ok (.aload_n 0, 1) := by decide +kernel
theorem dX8_nodeOf_48 : decode cX8_nodeOf 48 = .ok (.getfield 64, 3) := by decide +kernel
theorem dX8_nodeOf_51 : decode cX8_nodeOf 51 = .ok (.iload_n 2, 1) := by decide +kernel
theorem dX8_nodeOf_52 : decode cX8_nodeOf 52 = .ok (.iaload, 1) := by decide +kernel
theorem dX8_nodeOf_53 : decode cX8_nodeOf 53 = .ok (.istore 4, 2) := by decide +kernel
theorem dX8_nodeOf_55 : decode cX8_nodeOf 55 = .ok (.aload_n 0, 1) := by decide +kernel
theorem dX8_nodeOf_56 : decode cX8_nodeOf 56 = .ok (.iload 4, 2) := by decide +kernel
theorem dX8_nodeOf_58 : decode cX8_nodeOf 58 = .ok (.invokevirtual 85, 3) := by decide +kernel
theorem dX8_nodeOf_61 : decode cX8_nodeOf 61 = .ok (.istore 5, 2) := by decide +kernel
theorem dX8_nodeOf_63 : decode cX8_nodeOf 63 = .ok (.iload_n 3, 1) := by decide +kernel
theorem dX8_nodeOf_64 : decode cX8_nodeOf 64 = .ok (.iconst 4, 1) := by decide +kernel
theorem dX8_nodeOf_65 : decode cX8_nodeOf 65 = .ok (.if_icmp .ge 29, 3) := by decide +kernel
theorem dX8_nodeOf_68 : decode cX8_nodeOf 68 = .ok (.aload_n 0, 1) := by decide +kernel
theorem dX8_nodeOf_69 : decode cX8_nodeOf 69 = .ok (.invokevirtual 126, 3) := by decide +kernel
theorem dX8_nodeOf_72 : decode cX8_nodeOf 72 = .ok (.iload 5, 2) := by decide +kernel
theorem dX8_nodeOf_74 : decode cX8_nodeOf 74 = .ok (.ifCond .ne 8, 3) := by decide +kernel
theorem dX8_nodeOf_77 : decode cX8_nodeOf 77 = .ok (.ldc 221, 2) := by decide +kernel
theorem dX8_nodeOf_79 : decode cX8_nodeOf 79 = .ok (.goto 14, 3) := by decide +kernel
theorem dX8_nodeOf_82 : decode cX8_nodeOf 82 = .ok (.aload_n 0, 1) := by decide +kernel
theorem dX8_nodeOf_83 : decode cX8_nodeOf 83 = .ok (.getfield 22, 3) := by decide +kernel
theorem dX8_nodeOf_86 : decode cX8_nodeOf 86 = .ok (.iconst 4, 1) := by decide +kernel
theorem dX8_nodeOf_87 : decode cX8_nodeOf 87 = .ok (.iload 4, 2) := by decide +kernel
theorem dX8_nodeOf_89 : decode cX8_nodeOf 89 = .ok (.imul, 1) := by decide +kernel
theorem dX8_nodeOf_90 : decode cX8_nodeOf 90 = .ok (.iload_n 3, 1) := by decide +kernel
theorem dX8_nodeOf_91 : decode cX8_nodeOf 91 = .ok (.iadd, 1) := by decide +kernel
theorem dX8_nodeOf_92 : decode cX8_nodeOf 92 = .ok (.iaload, 1) := by decide +kernel
theorem dX8_nodeOf_93 : decode cX8_nodeOf 93 = .ok (.ireturn, 1) := by decide +kernel
theorem dX8_nodeOf_94 : decode cX8_nodeOf 94 = .ok (.iload_n 3, 1) := by decide +kernel
theorem dX8_nodeOf_95 : decode cX8_nodeOf 95 = .ok (.iconst 4, 1) := by decide +kernel
theorem dX8_nodeOf_96 : decode cX8_nodeOf 96 = .ok (.if_icmp .ne 6, 3) := by decide +kernel
theorem dX8_nodeOf_99 : decode cX8_nodeOf 99 = .ok (.iload 5, 2) := by decide +kernel
theorem dX8_nodeOf_101 : decode cX8_nodeOf 101 = .ok (.ireturn, 1) := by decide +kernel
theorem dX8_nodeOf_102 : decode cX8_nodeOf 102 = .ok (.iload_n 1, 1) := by decide +kernel
theorem dX8_nodeOf_103 : decode cX8_nodeOf 103 = .ok (.ifCond .le 15, 3) := by decide +kernel
theorem dX8_nodeOf_106 : decode cX8_nodeOf 106 = .ok (.aload_n 0, 1) := by decide +kernel
theorem dX8_nodeOf_107 : decode cX8_nodeOf 107 = .ok (.aload_n 0, 1) := by decide +kernel
theorem dX8_nodeOf_108 : decode cX8_nodeOf 108 = .ok (.iload 4, 2) := by decide +kernel
theorem dX8_nodeOf_110 : decode cX8_nodeOf 110 = .ok (.iconst 0, 1) := by decide +kernel
theorem dX8_nodeOf_111 : decode cX8_nodeOf 111 = .ok (.invokevirtual 88, 3) := by decide +kernel
theorem dX8_nodeOf_114 : decode cX8_nodeOf 114 = .ok (.invokevirtual 222, 3) := by decide +kernel
theorem dX8_nodeOf_117 : decode cX8_nodeOf 117 = .ok (.ireturn, 1) := by decide +kernel
theorem dX8_nodeOf_118 : decode cX8_nodeOf 118 = .ok (.iconst 0, 1) := by decide +kernel
theorem dX8_nodeOf_119 : decode cX8_nodeOf 119 = .ok (.istore 6, 2) := by decide +kernel
theorem dX8_nodeOf_121 : decode cX8_nodeOf 121 = .ok (.iconst 0, 1) := by decide +kernel
theorem dX8_nodeOf_122 : decode cX8_nodeOf 122 = .ok (.istore 7, 2) := by decide +kernel
theorem dX8_nodeOf_124 : decode cX8_nodeOf 124 = .ok (.iload 7, 2) := by decide +kernel
theorem dX8_nodeOf_126 : decode cX8_nodeOf 126 = .ok (.iload 5, 2) := by decide +kernel
theorem dX8_nodeOf_128 : decode cX8_nodeOf 128 = .ok (.if_icmp .ge 24, 3) := by decide +kernel
theorem dX8_nodeOf_131 : decode cX8_nodeOf 131 = .ok (.iload 6, 2) := by decide +kernel
theorem dX8_nodeOf_133 : decode cX8_nodeOf 133 = .ok (.iconst 1, 1) := by decide +kernel
theorem dX8_nodeOf_134 : decode cX8_nodeOf 134 = .ok (.aload_n 0, 1) := by decide +kernel
theorem dX8_nodeOf_135 : decode cX8_nodeOf 135 = .ok (.iload 4, 2) := by decide +kernel
theorem dX8_nodeOf_137 : decode cX8_nodeOf 137 = .ok (.iload 7, 2) := by decide +kernel
theorem dX8_nodeOf_139 : decode cX8_nodeOf 139 = .ok (.invokevirtual 88, 3) := by decide +kernel
theorem dX8_nodeOf_142 : decode cX8_nodeOf 142 = .ok (.ishl, 1) := by decide +kernel
theorem dX8_nodeOf_143 : decode cX8_nodeOf 143 = .ok (.ior, 1) := by decide +kernel
theorem dX8_nodeOf_144 : decode cX8_nodeOf 144 = .ok (.istore 6, 2) := by decide +kernel
theorem dX8_nodeOf_146 : decode cX8_nodeOf 146 = .ok (.iinc 7 1, 3) := by decide +kernel
theorem dX8_nodeOf_149 : decode cX8_nodeOf 149 = .ok (.goto (-25), 3) := by decide +kernel
theorem dX8_nodeOf_152 : decode cX8_nodeOf 152 = .ok (.iload 6, 2) := by decide +kernel
theorem dX8_nodeOf_154 : decode cX8_nodeOf 154 = .ok (.ireturn, 1) := by decide +kernel
theorem dX8_overlapsOf_0 : decode cX8_overlapsOf 0 = .ok (.aload_n 0, 1) := by decide +kernel
theorem dX8_overlapsOf_1 : decode cX8_overlapsOf 1 = .ok (.invokevirtual 126, 3) := by decide +kernel
theorem dX8_overlapsOf_4 : decode cX8_overlapsOf 4 = .ok (.aload_n 0, 1) := by decide +kernel
theorem dX8_overlapsOf_5 : decode cX8_overlapsOf 5 = .ok (.iload_n 1, 1) := by decide +kernel
theorem dX8_overlapsOf_6 : decode cX8_overlapsOf 6 = .ok (.invokevirtual 218, 3) := by decide +kernel
theorem dX8_overlapsOf_9 : decode cX8_overlapsOf 9 = .ok (.iconst 0, 1) := by decide +kernel
theorem dX8_overlapsOf_10 : decode cX8_overlapsOf 10 = .ok (.istore_n 2, 1) := by decide +kernel
theorem dX8_overlapsOf_11 : decode cX8_overlapsOf 11 = .ok (.iconst 0, 1) := by decide +kernel
theorem dX8_overlapsOf_12 : decode cX8_overlapsOf 12 = .ok (.istore_n 3, 1) := by decide +kernel
theorem dX8_overlapsOf_13 : decode cX8_overlapsOf 13 = .ok (.iload_n 3, 1) := by decide +kernel
theorem dX8_overlapsOf_14 : decode cX8_overlapsOf 14 = .ok (.aload_n 0, 1) := by decide +kernel
theorem dX8_overlapsOf_15 : decode cX8_overlapsOf 15 = .ok (.getfield 215, 3) := by decide +kernel
theorem dX8_overlapsOf_18 : decode cX8_overlapsOf 18 = .ok (.if_icmp .ge 62, 3) := by decide +kernel
theorem dX8_overlapsOf_21 : decode cX8_overlapsOf 21 = .ok (.iconst 0, 1) := by decide +kernel
theorem dX8_overlapsOf_22 : decode cX8_overlapsOf 22 = .ok (.istore 4, 2) := by decide +kernel
theorem dX8_overlapsOf_24 : decode cX8_overlapsOf 24 = .ok (.iload 4, 2) := by decide +kernel
theorem dX8_overlapsOf_26 : decode cX8_overlapsOf 26 = .ok (.iload_n 3, 1) := by decide +kernel
theorem dX8_overlapsOf_27 : decode cX8_overlapsOf 27 = .ok (.if_icmp .ge 47, 3) := by decide +kernel
theorem dX8_overlapsOf_30 : decode cX8_overlapsOf 30 = .ok (.aload_n 0, 1) := by decide +kernel
theorem dX8_overlapsOf_31 : decode cX8_overlapsOf 31 = .ok (.aload_n 0, 1) := by decide +kernel
theorem dX8_overlapsOf_32 : decode cX8_overlapsOf 32 = .ok (.getfield 28, 3) := by decide +kernel
theorem dX8_overlapsOf_35 : decode cX8_overlapsOf 35 = .ok (.aload_n 0, 1) := by decide +kernel
theorem dX8_overlapsOf_36 : decode cX8_overlapsOf 36 = .ok (.getfield 64, 3) := by decide +kernel
theorem dX8_overlapsOf_39 : decode cX8_overlapsOf 39 = .ok (.iload_n 3, 1) := by decide +kernel
theorem dX8_overlapsOf_40 : decode cX8_overlapsOf 40 = .ok (.iaload, 1) := by decide +kernel
theorem dX8_overlapsOf_41 : decode cX8_overlapsOf 41 = .ok (.iconst 1, 1) := by decide +kernel
theorem dX8_overlapsOf_42 : decode cX8_overlapsOf 42 = .ok (.invokevirtual 112, 3) := by decide +kernel
theorem dX8_overlapsOf_45 : decode cX8_overlapsOf 45 = .ok (.aload_n 0, 1) := by decide +kernel
theorem dX8_overlapsOf_46 : decode cX8_overlapsOf 46 = .ok (.aload_n 0, 1) := by decide +kernel
theorem dX8_overlapsOf_47 : decode cX8_overlapsOf 47 = .ok (.getfield 31, 3) := by decide +kernel
theorem dX8_overlapsOf_50 : decode cX8_overlapsOf 50 = .ok (.aload_n 0, 1) := by decide +kernel
theorem dX8_overlapsOf_51 : decode cX8_overlapsOf 51 = .ok (.getfield 64, 3) := by decide +kernel
theorem dX8_overlapsOf_54 : decode cX8_overlapsOf 54 = .ok (.iload 4, 2) := by decide +kernel
theorem dX8_overlapsOf_56 : decode cX8_overlapsOf 56 = .ok (.iaload, 1) := by decide +kernel
theorem dX8_overlapsOf_57 : decode cX8_overlapsOf 57 = .ok (.iconst 1, 1) := by decide +kernel
theorem dX8_overlapsOf_58 : decode cX8_overlapsOf 58 = .ok (.invokevirtual 112, 3) := by decide +kernel
theorem dX8_overlapsOf_61 : decode cX8_overlapsOf 61 = .ok (.iload_n 2, 1) := by decide +kernel
theorem dX8_overlapsOf_62 : decode cX8_overlapsOf 62 = .ok (.aload_n 0, 1) := by decide +kernel
theorem dX8_overlapsOf_63 : decode cX8_overlapsOf 63 = .ok (.invokevirtual 148, 3) := by decide +kernel
theorem dX8_overlapsOf_66 : decode cX8_overlapsOf 66 = .ok (.iadd, 1) := by decide +kernel
theorem dX8_overlapsOf_67 : decode cX8_overlapsOf 67 = .ok (.istore_n 2, 1) := by decide +kernel
theorem dX8_overlapsOf_68 : decode cX8_overlapsOf 68 = .ok (.iinc 4 1, 3) := by decide +kernel
theorem dX8_overlapsOf_71 : decode cX8_overlapsOf 71 = .ok (.goto (-47), 3) := by decide +kernel
theorem dX8_overlapsOf_74 : decode cX8_overlapsOf 74 = .ok (.iinc 3 1, 3) := by decide +kernel
theorem dX8_overlapsOf_77 : decode cX8_overlapsOf 77 = .ok (.goto (-64), 3) := by decide +kernel
theorem dX8_overlapsOf_80 : decode cX8_overlapsOf 80 = .ok (.iload_n 2, 1) := by decide +kernel
theorem dX8_overlapsOf_81 : decode cX8_overlapsOf 81 = .ok (.ireturn, 1) := by decide +kernel
theorem dX8_overlaps_0 : decode cX8_overlaps 0 = .ok (.iload_n 1, 1) := by decide +kernel
theorem dX8_overlaps_1 : decode cX8_overlaps 1 = .ok (.ifCond .ge 8, 3) := by decide +kernel
theorem dX8_overlaps_4 : decode cX8_overlaps 4 = .ok (.ldc 192, 2) := by decide +kernel
theorem dX8_overlaps_6 : decode cX8_overlaps 6 = .ok (.goto 21, 3) := by decide +kernel
theorem dX8_overlaps_9 : decode cX8_overlaps 9 = .ok (.iload_n 1, 1) := by decide +kernel
theorem dX8_overlaps_10 : decode cX8_overlaps 10 = .ok (.aload_n 0, 1) := by decide +kernel
theorem dX8_overlaps_11 : decode cX8_overlaps 11 = .ok (.invokevirtual 209, 3) := by decide +kernel
theorem dX8_overlaps_14 : decode cX8_overlaps 14 = .ok (.if_icmp .lt 8, 3) := by decide +kernel
theorem dX8_overlaps_17 : decode cX8_overlaps 17 = .ok (.ldc 221, 2) := by decide +kernel
theorem dX8_overlaps_19 : decode cX8_overlaps 19 = .ok (.goto 8, 3) := by decide +kernel
theorem dX8_overlaps_22 : decode cX8_overlaps 22 = .ok (.aload_n 0, 1) := by decide +kernel
theorem dX8_overlaps_23 : decode cX8_overlaps 23 = .ok (.iload_n 1, 1) := by decide +kernel
theorem dX8_overlaps_24 : decode cX8_overlaps 24 = .ok (.invokevirtual 225, 3) := by decide +kernel
theorem dX8_overlaps_27 : decode cX8_overlaps 27 = .ok (.ireturn, 1) := by decide +kernel
theorem dX8_overlap_0 : decode cX8_overlap 0 = .ok (.iload_n 1, 1) := by decide +kernel
theorem dX8_overlap_1 : decode cX8_overlap 1 = .ok (.invokestatic 184, 3) := by decide +kernel
theorem dX8_overlap_4 : decode cX8_overlap 4 = .ok (.ifCond .eq 10, 3) := by decide +kernel
theorem dX8_overlap_7 : decode cX8_overlap 7 = .ok (.iload_n 2, 1) := by decide +kernel
theorem dX8_overlap_8 : decode cX8_overlap 8 = .ok (.invokestatic 184, 3) := by decide +kernel
theorem dX8_overlap_11 : decode cX8_overlap 11 = .ok (.ifCond .ne 6, 3) := by decide +kernel
theorem dX8_overlap_14 : decode cX8_overlap 14 = .ok (.ldc 192, 2) := by decide +kernel
theorem dX8_overlap_16 : decode cX8_overlap 16 = .ok (.ireturn, 1) := by decide +kernel
theorem dX8_overlap_17 : decode cX8_overlap 17 = .ok (.aload_n 0, 1) := by decide +kernel
theorem dX8_overlap_18 : decode cX8_overlap 18 = .ok (.iload_n 1, 1) := by decide +kernel
theorem dX8_overlap_19 : decode cX8_overlap 19 = .ok (.invokevirtual 193, 3) := by decide +kernel
theorem dX8_overlap_22 : decode cX8_overlap 22 = .ok (.ifCond .eq 11, 3) := by decide +kernel
theorem dX8_overlap_25 : decode cX8_overlap 25 = .ok (.aload_n 0, 1) := by decide +kernel
theorem dX8_overlap_26 : decode cX8_overlap 26 = .ok (.iload_n 2, 1) := by decide +kernel
theorem dX8_overlap_27 : decode cX8_overlap 27 = .ok (.invokevirtual 193, 3) := by decide +kernel
theorem dX8_overlap_30 : decode cX8_overlap 30 = .ok (.ifCond .ne 6, 3) := by decide +kernel
theorem dX8_overlap_33 : decode cX8_overlap 33 = .ok (.ldc 221, 2) := by decide +kernel
theorem dX8_overlap_35 : decode cX8_overlap 35 = .ok (.ireturn, 1) := by decide +kernel
theorem dX8_overlap_36 : decode cX8_overlap 36 = .ok (.aload_n 0, 1) := by decide +kernel
theorem dX8_overlap_37 : decode cX8_overlap 37 = .ok (.aload_n 0, 1) := by decide +kernel
theorem dX8_overlap_38 : decode cX8_overlap 38 = .ok (.getfield 28, 3) := by decide +kernel
theorem dX8_overlap_41 : decode cX8_overlap 41 = .ok (.iload_n 1, 1) := by decide +kernel
theorem dX8_overlap_42 : decode cX8_overlap 42 = .ok (.iconst 0, 1) := by decide +kernel
theorem dX8_overlap_43 : decode cX8_overlap 43 = .ok (.invokevirtual 112, 3) := by decide +kernel
theorem dX8_overlap_46 : decode cX8_overlap 46 = .ok (.aload_n 0, 1) := by decide +kernel
theorem dX8_overlap_47 : decode cX8_overlap 47 = .ok (.aload_n 0, 1) := by decide +kernel
theorem dX8_overlap_48 : decode cX8_overlap 48 = .ok (.getfield 31, 3) := by decide +kernel
theorem dX8_overlap_51 : decode cX8_overlap 51 = .ok (.iload_n 2, 1) := by decide +kernel
theorem dX8_overlap_52 : decode cX8_overlap 52 = .ok (.iconst 0, 1) := by decide +kernel
theorem dX8_overlap_53 : decode cX8_overlap 53 = .ok (.invokevirtual 112, 3) := by decide +kernel
theorem dX8_overlap_56 : decode cX8_overlap 56 = .ok (.aload_n 0, 1) := by decide +kernel
theorem dX8_overlap_57 : decode cX8_overlap 57 = .ok (.invokevirtual 148, 3) := by decide +kernel
theorem dX8_overlap_60 : decode cX8_overlap 60 = .ok (.ireturn, 1) := by decide +kernel
theorem dX8_court__0 : decode cX8_court_ 0 = .ok (.iload_n 1, 1) := by decide +kernel
theorem dX8_court__1 : decode cX8_court_ 1 = .ok (.ifCond .lt 12, 3) := by decide +kernel
theorem dX8_court__4 : decode cX8_court_ 4 = .ok (.iload_n 2, 1) := by decide +kernel
theorem dX8_court__5 : decode cX8_court_ 5 = .ok (.iconst 0, 1) := by decide +kernel
theorem dX8_court__6 : decode cX8_court_ 6 = .ok (.iconst 1, 1) := by decide +kernel
theorem dX8_court__7 : decode cX8_court_ 7 = .ok (.invokestatic 180, 3) := by decide +kernel
theorem dX8_court__10 : decode cX8_court_ 10 = .ok (.ifCond .ne 6, 3) := by decide +kernel
theorem dX8_court__13 : decode cX8_court_ 13 = .ok (.ldc 192, 2) := by decide +kernel
theorem dX8_court__15 : decode cX8_court_ 15 = .ok (.ireturn, 1) := by decide +kernel
theorem dX8_court__16 : decode cX8_court_ 16 = .ok (.iload_n 1, 1) := by decide +kernel
theorem dX8_court__17 : decode cX8_court_ 17 = .ok (.aload_n 0, 1) := by decide +kernel
theorem dX8_court__18 : decode cX8_court_ 18 = .ok (.getfield 177, 3) := by decide +kernel
theorem dX8_court__21 : decode cX8_court_ 21 = .ok (.if_icmp .lt 8, 3) := by decide +kernel
theorem dX8_court__24 : decode cX8_court_ 24 = .ok (.ldc 221, 2) := by decide +kernel
theorem dX8_court__26 : decode cX8_court_ 26 = .ok (.goto 22, 3) := by decide +kernel
theorem dX8_court__29 : decode cX8_court_ 29 = .ok (.iload_n 2, 1) := by decide +kernel
theorem dX8_court__30 : decode cX8_court_ 30 = .ok (.ifCond .ne 12, 3) := by decide +kernel
theorem dX8_court__33 : decode cX8_court_ 33 = .ok (.aload_n 0, 1) := by decide +kernel
theorem dX8_court__34 : decode cX8_court_ 34 = .ok (.getfield 46, 3) := by decide +kernel
theorem dX8_court__37 : decode cX8_court_ 37 = .ok (.iload_n 1, 1) := by decide +kernel
theorem dX8_court__38 : decode cX8_court_ 38 = .ok (.iaload, 1) := by decide +kernel
theorem dX8_court__39 : decode cX8_court_ 39 = .ok (.goto 9, 3) := by decide +kernel
theorem dX8_court__42 : decode cX8_court_ 42 = .ok (.aload_n 0, 1) := by decide +kernel
theorem dX8_court__43 : decode cX8_court_ 43 = .ok (.getfield 49, 3) := by decide +kernel
theorem dX8_court__46 : decode cX8_court_ 46 = .ok (.iload_n 1, 1) := by decide +kernel
theorem dX8_court__47 : decode cX8_court_ 47 = .ok (.iaload, 1) := by decide +kernel
theorem dX8_court__48 : decode cX8_court_ 48 = .ok (.ireturn, 1) := by decide +kernel
theorem dX8_meets_0 : decode cX8_meets 0 = .ok (.aload_n 0, 1) := by decide +kernel
theorem dX8_meets_1 : decode cX8_meets 1 = .ok (.iload_n 1, 1) := by decide +kernel
theorem dX8_meets_2 : decode cX8_meets 2 = .ok (.iload_n 2, 1) := by decide +kernel
theorem dX8_meets_3 : decode cX8_meets 3 = .ok (.iconst 0, 1) := by decide +kernel
theorem dX8_meets_4 : decode cX8_meets 4 = .ok (.invokevirtual 92, 3) := by decide +kernel
theorem dX8_meets_7 : decode cX8_meets 7 = .ok (.iload 5, 2) := by decide +kernel
theorem dX8_meets_9 : decode cX8_meets 9 = .ok (.if_icmp .gt 42, 3) := by decide +kernel
theorem dX8_meets_12 : decode cX8_meets 12 = .ok (.aload_n 0, 1) := by decide +kernel
theorem dX8_meets_13 : decode cX8_meets 13 = .ok (.iload_n 1, 1) := by decide +kernel
theorem dX8_meets_14 : decode cX8_meets 14 = .ok (.iload_n 2, 1) := by decide +kernel
theorem dX8_meets_15 : decode cX8_meets 15 = .ok (.iconst 2, 1) := by decide +kernel
theorem dX8_meets_16 : decode cX8_meets 16 = .ok (.invokevirtual 92, 3) := by decide +kernel
theorem dX8_meets_19 : decode cX8_meets 19 = .ok (.iload_n 3, 1) := by decide +kernel
theorem dX8_meets_20 : decode cX8_meets 20 = .ok (.if_icmp .lt 31, 3) := by decide +kernel
theorem dX8_meets_23 : decode cX8_meets 23 = .ok (.aload_n 0, 1) := by decide +kernel
theorem dX8_meets_24 : decode cX8_meets 24 = .ok (.iload_n 1, 1) := by decide +kernel
theorem dX8_meets_25 : decode cX8_meets 25 = .ok (.iload_n 2, 1) := by decide +kernel
theorem dX8_meets_26 : decode cX8_meets 26 = .ok (.iconst 1, 1) := by decide +kernel
theorem dX8_meets_27 : decode cX8_meets 27 = .ok (.invokevirtual 92, 3) := by decide +kernel
theorem dX8_meets_30 : decode cX8_meets 30 = .ok (.iload 6, 2) := by decide +kernel
theorem dX8_meets_32 : decode cX8_meets 32 = .ok (.if_icmp .gt 19, 3) := by decide +kernel
theorem dX8_meets_35 : decode cX8_meets 35 = .ok (.aload_n 0, 1) := by decide +kernel
theorem dX8_meets_36 : decode cX8_meets 36 = .ok (.iload_n 1, 1) := by decide +kernel
theorem dX8_meets_37 : decode cX8_meets 37 = .ok (.iload_n 2, 1) := by decide +kernel
theorem dX8_meets_38 : decode cX8_meets 38 = .ok (.iconst 3, 1) := by decide +kernel
theorem dX8_meets_39 : decode cX8_meets 39 = .ok (.invokevirtual 92, 3) := by decide +kernel
theorem dX8_meets_42 : decode cX8_meets 42 = .ok (.iload 4, 2) := by decide +kernel
theorem dX8_meets_44 : decode cX8_meets 44 = .ok (.if_icmp .lt 7, 3) := by decide +kernel
theorem dX8_meets_47 : decode cX8_meets 47 = .ok (.iconst 1, 1) := by decide +kernel
theorem dX8_meets_48 : decode cX8_meets 48 = .ok (.goto 4, 3) := by decide +kernel
theorem dX8_meets_51 : decode cX8_meets 51 = .ok (.iconst 0, 1) := by decide +kernel
theorem dX8_meets_52 : decode cX8_meets 52 = .ok (.ireturn, 1) := by decide +kernel
theorem dX8_window_0 : decode cX8_window 0 = .ok (.iload_n 1, 1) := by decide +kernel
theorem dX8_window_1 : decode cX8_window 1 = .ok (.iload_n 2, 1) := by decide +kernel
theorem dX8_window_2 : decode cX8_window 2 = .ok (.iload_n 3, 1) := by decide +kernel
theorem dX8_window_3 : decode cX8_window 3 = .ok (.iload 4, 2) := by decide +kernel
theorem dX8_window_5 : decode cX8_window 5 = .ok (.invokestatic 188, 3) := by decide +kernel
theorem dX8_window_8 : decode cX8_window 8 = .ok (.ifCond .eq 13, 3) := by decide +kernel
theorem dX8_window_11 : decode cX8_window 11 = .ok (.iload 5, 2) := by decide +kernel
theorem dX8_window_13 : decode cX8_window 13 = .ok (.iconst 0, 1) := by decide +kernel
theorem dX8_window_14 : decode cX8_window 14 = .ok (.iconst 1, 1) := by decide +kernel
theorem dX8_window_15 : decode cX8_window 15 = .ok (.invokestatic 180, 3) := by decide +kernel
theorem dX8_window_18 : decode cX8_window 18 = .ok (.ifCond .ne 6, 3) := by decide +kernel
theorem dX8_window_21 : decode cX8_window 21 = .ok (.ldc 192, 2) := by decide +kernel
theorem dX8_window_23 : decode cX8_window 23 = .ok (.ireturn, 1) := by decide +kernel
theorem dX8_window_24 : decode cX8_window 24 = .ok (.aload_n 0, 1) := by decide +kernel
theorem dX8_window_25 : decode cX8_window 25 = .ok (.invokevirtual 126, 3) := by decide +kernel
theorem dX8_window_28 : decode cX8_window 28 = .ok (.iconst 0, 1) := by decide +kernel
theorem dX8_window_29 : decode cX8_window 29 = .ok (.istore 6, 2) := by decide +kernel
theorem dX8_window_31 : decode cX8_window 31 = .ok (.iconst 0, 1) := by decide +kernel
theorem dX8_window_32 : decode cX8_window 32 = .ok (.istore 7, 2) := by decide +kernel
theorem dX8_window_34 : decode cX8_window 34 = .ok (.iload 7, 2) := by decide +kernel
theorem dX8_window_36 : decode cX8_window 36 = .ok (.bipush 31, 2) := by decide +kernel
theorem dX8_window_38 : decode cX8_window 38 = .ok (.if_icmp .ge 46, 3) := by decide +kernel
theorem dX8_window_41 : decode cX8_window 41 = .ok (.iload 6, 2) := by decide +kernel
theorem dX8_window_43 : decode cX8_window 43 = .ok (.aload_n 0, 1) := by decide +kernel
theorem dX8_window_44 : decode cX8_window 44 = .ok (.iload 7, 2) := by decide +kernel
theorem dX8_window_46 : decode cX8_window 46 = .ok (.invokevirtual 193, 3) := by decide +kernel
theorem dX8_window_49 : decode cX8_window 49 = .ok (.ifCond .eq 25, 3) := by decide +kernel
theorem dX8_window_52 : decode cX8_window 52 = .ok (.aload_n 0, 1) := by decide +kernel
theorem dX8_window_53 : decode cX8_window 53 = .ok (.iload 7, 2) := by decide +kernel
theorem dX8_window_55 : decode cX8_window 55 = .ok (.iconst 0, 1) := by decide +kernel
theorem dX8_window_56 : decode cX8_window 56 = .ok (.iload_n 1, 1) := by decide +kernel
theorem dX8_window_57 : decode cX8_window 57 = .ok (.iload_n 2, 1) := by decide +kernel
theorem dX8_window_58 : decode cX8_window 58 = .ok (.iload_n 3, 1) := by decide +kernel
theorem dX8_window_59 : decode cX8_window 59 = .ok (.iload 4, 2) := by decide +kernel
theorem dX8_window_61 : decode cX8_window 61 = .ok (.invokevirtual 228, 3) := by decide +kernel
theorem dX8_window_64 : decode cX8_window 64 = .ok (.ifCond .eq 10, 3) := by decide +kernel
theorem dX8_window_67 : decode cX8_window 67 = .ok (.iconst 1, 1) := by decide +kernel
theorem dX8_window_68 : decode cX8_window 68 = .ok (.iload 7, 2) := by decide +kernel
theorem dX8_window_70 : decode cX8_window 70 = .ok (.ishl, 1) := by decide +kernel
theorem dX8_window_71 : decode cX8_window 71 = .ok (.goto 4, 3) := by decide +kernel
theorem dX8_window_74 : decode cX8_window 74 = .ok (.iconst 0, 1) := by decide +kernel
theorem dX8_window_75 : decode cX8_window 75 = .ok (.ior, 1) := by decide +kernel
theorem dX8_window_76 : decode cX8_window 76 = .ok (.istore 6, 2) := by decide +kernel
theorem dX8_window_78 : decode cX8_window 78 = .ok (.iinc 7 1, 3) := by decide +kernel
theorem dX8_window_81 : decode cX8_window 81 = .ok (.goto (-47), 3) := by decide +kernel
theorem dX8_window_84 : decode cX8_window 84 = .ok (.iconst 0, 1) := by decide +kernel
theorem dX8_window_85 : decode cX8_window 85 = .ok (.istore 7, 2) := by decide +kernel
theorem dX8_window_87 : decode cX8_window 87 = .ok (.iconst 0, 1) := by decide +kernel
theorem dX8_window_88 : decode cX8_window 88 = .ok (.istore 8, 2) := by decide +kernel
theorem dX8_window_90 : decode cX8_window 90 = .ok (.iload 8, 2) := by decide +kernel
theorem dX8_window_92 : decode cX8_window 92 = .ok (.bipush 40, 2) := by decide +kernel
theorem dX8_window_94 : decode cX8_window 94 = .ok (.if_icmp .ge 53, 3) := by decide +kernel
theorem dX8_window_97 : decode cX8_window 97 = .ok (.iload 7, 2) := by decide +kernel
theorem dX8_window_99 : decode cX8_window 99 = .ok (.aload_n 0, 1) := by decide +kernel
theorem dX8_window_100 : decode cX8_window 100 = .ok (.iload 8, 2) := by decide +kernel
theorem dX8_window_102 : decode cX8_window 102 = .ok (.invokevirtual 81, 3) := by decide +kernel
theorem dX8_window_105 : decode cX8_window 105 = .ok (.iconst (-1), 1) := by decide +kernel
theorem dX8_window_106 : decode cX8_window 106 = .ok (.if_icmp .eq 31, 3) := by decide +kernel
theorem dX8_window_109 : decode cX8_window 109 = .ok (.aload_n 0, 1) := by decide +kernel
theorem dX8_window_110 : decode cX8_window 110 = .ok (.iload 8, 2) := by decide +kernel
theorem dX8_window_112 : decode cX8_window 112 = .ok (.invokevirtual 85, 3) := by decide +kernel
theorem dX8_window_115 : decode cX8_window 115 = .ok (.ifCond .le 22, 3) := by decide +kernel
theorem dX8_window_118 : decode cX8_window 118 = .ok (.aload_n 0, 1) := by decide +kernel
theorem dX8_window_119 : decode cX8_window 119 = .ok (.iload 8, 2) := by decide +kernel
theorem dX8_window_121 : decode cX8_window 121 = .ok (.iconst 1, 1) := by decide +kernel
theorem dX8_window_122 : decode cX8_window 122 = .ok (.iload_n 1, 1) := by decide +kernel
theorem dX8_window_123 : decode cX8_window 123 = .ok (.iload_n 2, 1) := by decide +kernel
theorem dX8_window_124 : decode cX8_window 124 = .ok (.iload_n 3, 1) := by decide +kernel
theorem dX8_window_125 : decode cX8_window 125 = .ok (.iload 4, 2) := by decide +kernel
theorem dX8_window_127 : decode cX8_window 127 = .ok (.invokevirtual 228, 3) := by decide +kernel
theorem dX8_window_130 : decode cX8_window 130 = .ok (.ifCond .eq 7, 3) := by decide +kernel
theorem dX8_window_133 : decode cX8_window 133 = .ok (.iconst 1, 1) := by decide +kernel
theorem dX8_window_134 : decode cX8_window 134 = .ok (.goto 4, 3) := by decide +kernel
theorem dX8_window_137 : decode cX8_window 137 = .ok (.iconst 0, 1) := by decide +kernel
theorem dX8_window_138 : decode cX8_window 138 = .ok (.iadd, 1) := by decide +kernel
theorem dX8_window_139 : decode cX8_window 139 = .ok (.istore 7, 2) := by decide +kernel
theorem dX8_window_141 : decode cX8_window 141 = .ok (.iinc 8 1, 3) := by decide +kernel
theorem dX8_window_144 : decode cX8_window 144 = .ok (.goto (-54), 3) := by decide +kernel
theorem dX8_window_147 : decode cX8_window 147 = .ok (.iload 5, 2) := by decide +kernel
theorem dX8_window_149 : decode cX8_window 149 = .ok (.ifCond .ne 8, 3) := by decide +kernel
theorem dX8_window_152 : decode cX8_window 152 = .ok (.iload 6, 2) := by decide +kernel
theorem dX8_window_154 : decode cX8_window 154 = .ok (.goto 5, 3) := by decide +kernel
theorem dX8_window_157 : decode cX8_window 157 = .ok (.iload 7, 2) := by decide +kernel
theorem dX8_window_159 : decode cX8_window 159 = .ok (.ireturn, 1) := by decide +kernel
theorem dX8_distance_0 : decode cX8_distance 0 = .ok (.iconst 0, 1) := by decide +kernel
theorem dX8_distance_1 : decode cX8_distance 1 = .ok (.aload_n 0, 1) := by decide +kernel
theorem dX8_distance_2 : decode cX8_distance 2 = .ok (.iload_n 1, 1) := by decide +kernel
theorem dX8_distance_3 : decode cX8_distance 3 = .ok (.iload_n 2, 1) := by decide +kernel
theorem dX8_distance_4 : decode cX8_distance 4 = .ok (.iconst 0, 1) := by decide +kernel
theorem dX8_distance_5 : decode cX8_distance 5 = .ok (.invokevirtual 92, 3) := by decide +kernel
theorem dX8_distance_8 : decode cX8_distance 8 = .ok (.iload_n 3, 1) := by decide +kernel
theorem dX8_distance_9 : decode cX8_distance 9 = .ok (.isub, 1) := by decide +kernel
theorem dX8_distance_10 : decode cX8_distance 10 = .ok (.iload_n 3, 1) := by decide +kernel
theorem dX8_distance_11 : decode cX8_distance 11 = .ok (.aload_n 0, 1) := by decide +kernel
theorem dX8_distance_12 : decode cX8_distance 12 = .ok (.iload_n 1, 1) := by decide +kernel
theorem dX8_distance_13 : decode cX8_distance 13 = .ok (.iload_n 2, 1) := by decide +kernel
theorem dX8_distance_14 : decode cX8_distance 14 = .ok (.iconst 2, 1) := by decide +kernel
theorem dX8_distance_15 : decode cX8_distance 15 = .ok (.invokevirtual 92, 3) := by decide +kernel
theorem dX8_distance_18 : decode cX8_distance 18 = .ok (.isub, 1) := by decide +kernel
theorem dX8_distance_19 : decode cX8_distance 19 = .ok (.invokestatic 99, 3) := by decide +kernel
theorem dX8_distance_22 : decode cX8_distance 22 = .ok (.invokestatic 99, 3) := by decide +kernel
theorem dX8_distance_25 : decode cX8_distance 25 = .ok (.istore 5, 2) := by decide +kernel
theorem dX8_distance_27 : decode cX8_distance 27 = .ok (.iconst 0, 1) := by decide +kernel
theorem dX8_distance_28 : decode cX8_distance 28 = .ok (.aload_n 0, 1) := by decide +kernel
theorem dX8_distance_29 : decode cX8_distance 29 = .ok (.iload_n 1, 1) := by decide +kernel
theorem dX8_distance_30 : decode cX8_distance 30 = .ok (.iload_n 2, 1) := by decide +kernel
theorem dX8_distance_31 : decode cX8_distance 31 = .ok (.iconst 1, 1) := by decide +kernel
theorem dX8_distance_32 : decode cX8_distance 32 = .ok (.invokevirtual 92, 3) := by decide +kernel
theorem dX8_distance_35 : decode cX8_distance 35 = .ok (.iload 4, 2) := by decide +kernel
theorem dX8_distance_37 : decode cX8_distance 37 = .ok (.isub, 1) := by decide +kernel
theorem dX8_distance_38 : decode cX8_distance 38 = .ok (.iload 4, 2) := by decide +kernel
theorem dX8_distance_40 : decode cX8_distance 40 = .ok (.aload_n 0, 1) := by decide +kernel
theorem dX8_distance_41 : decode cX8_distance 41 = .ok (.iload_n 1, 1) := by decide +kernel
theorem dX8_distance_42 : decode cX8_distance 42 = .ok (.iload_n 2, 1) := by decide +kernel
theorem dX8_distance_43 : decode cX8_distance 43 = .ok (.iconst 3, 1) := by decide +kernel
theorem dX8_distance_44 : decode cX8_distance 44 = .ok (.invokevirtual 92, 3) := by decide +kernel
theorem dX8_distance_47 : decode cX8_distance 47 = .ok (.isub, 1) := by decide +kernel
theorem dX8_distance_48 : decode cX8_distance 48 = .ok (.invokestatic 99, 3) := by decide +kernel
theorem dX8_distance_51 : decode cX8_distance 51 = .ok (.invokestatic 99, 3) := by decide +kernel
theorem dX8_distance_54 : decode cX8_distance 54 = .ok (.istore 6, 2) := by decide +kernel
theorem dX8_distance_56 : decode cX8_distance 56 = .ok (.iload 5, 2) := by decide +kernel
theorem dX8_distance_58 : decode cX8_distance 58 = .ok (.iload 5, 2) := by decide +kernel
theorem dX8_distance_60 : decode cX8_distance 60 = .ok (.imul, 1) := by decide +kernel
theorem dX8_distance_61 : decode cX8_distance 61 = .ok (.iload 6, 2) := by decide +kernel
theorem dX8_distance_63 : decode cX8_distance 63 = .ok (.iload 6, 2) := by decide +kernel
theorem dX8_distance_65 : decode cX8_distance 65 = .ok (.imul, 1) := by decide +kernel
theorem dX8_distance_66 : decode cX8_distance 66 = .ok (.iadd, 1) := by decide +kernel
theorem dX8_distance_67 : decode cX8_distance 67 = .ok (.ireturn, 1) := by decide +kernel
theorem dX8_nearest_0 : decode cX8_nearest 0 = .ok (.iload_n 1, 1) := by decide +kernel
theorem dX8_nearest_1 : decode cX8_nearest 1 = .ok (.iconst 0, 1) := by decide +kernel
theorem dX8_nearest_2 : decode cX8_nearest 2 = .ok (.bipush 99, 2) := by decide +kernel
theorem dX8_nearest_4 : decode cX8_nearest 4 = .ok (.invokestatic 180, 3) := by decide +kernel
theorem dX8_nearest_7 : decode cX8_nearest 7 = .ok (.ifCond .eq 27, 3) := by decide +kernel
theorem dX8_nearest_10 : decode cX8_nearest 10 = .ok (.iload_n 2, 1) := by decide +kernel
theorem dX8_nearest_11 : decode cX8_nearest 11 = .ok (.iconst 0, 1) := by decide +kernel
theorem dX8_nearest_12 : decode cX8_nearest 12 = .ok (.bipush 99, 2) := by decide +kernel
theorem dX8_nearest_14 : decode cX8_nearest 14 = .ok (.invokestatic 180, 3) := by decide +kernel
theorem dX8_nearest_17 : decode cX8_nearest 17 = .ok (.ifCond .eq 17, 3) := by decide +kernel
theorem dX8_nearest_20 : decode cX8_nearest 20 = .ok (.iload_n 3, 1) := by decide +kernel
theorem dX8_nearest_21 : decode cX8_nearest 21 = .ok (.ifCond .lt 13, 3) := by decide +kernel
theorem dX8_nearest_24 : decode cX8_nearest 24 = .ok (.iload 4, 2) := by decide +kernel
theorem dX8_nearest_26 : decode cX8_nearest 26 = .ok (.iconst 0, 1) := by decide +kernel
theorem dX8_nearest_27 : decode cX8_nearest 27 = .ok (.iconst 2, 1) := by decide +kernel
theorem dX8_nearest_28 : decode cX8_nearest 28 = .ok (.invokestatic 180, 3) := by decide +kernel
theorem dX8_nearest_31 : decode cX8_nearest 31 = .ok (.ifCond .ne 6, 3) := by decide +kernel
theorem dX8_nearest_34 : decode cX8_nearest 34 = .ok (.ldc 192, 2) := by decide +kernel
theorem dX8_nearest_36 : decode cX8_nearest 36 = .ok (.ireturn, 1) := by decide +kernel
theorem dX8_nearest_37 : decode cX8_nearest 37 = .ok (.iconst (-1), 1) := by decide +kernel
theorem dX8_nearest_38 : decode cX8_nearest 38 = .ok (.istore 5, 2) := by decide +kernel
theorem dX8_nearest_40 : decode cX8_nearest 40 = .ok (.iconst 0, 1) := by decide +kernel
theorem dX8_nearest_41 : decode cX8_nearest 41 = .ok (.istore 6, 2) := by decide +kernel
theorem dX8_nearest_43 : decode cX8_nearest 43 = .ok (.iload 6, 2) := by decide +kernel
theorem dX8_nearest_45 : decode cX8_nearest 45 = .ok (.bipush 31, 2) := by decide +kernel
theorem dX8_nearest_47 : decode cX8_nearest 47 = .ok (.if_icmp .ge 122, 3) := by decide +kernel
theorem dX8_nearest_50 : decode cX8_nearest 50 = .ok (.iconst 0, 1) := by decide +kernel
theorem dX8_nearest_51 : decode cX8_nearest 51 = .ok (.istore 7, 2) := by decide +kernel
theorem dX8_nearest_53 : decode cX8_nearest 53 = .ok (.iconst 0, 1) := by decide +kernel
theorem dX8_nearest_54 : decode cX8_nearest 54 = .ok (.istore 8, 2) := by decide +kernel
theorem dX8_nearest_56 : decode cX8_nearest 56 = .ok (.iload 8, 2) := by decide +kernel
theorem dX8_nearest_58 : decode cX8_nearest 58 = .ok (.bipush 31, 2) := by decide +kernel
theorem dX8_nearest_60 : decode cX8_nearest 60 = .ok (.if_icmp .ge 79, 3) := by decide +kernel
theorem dX8_nearest_63 : decode cX8_nearest 63 = .ok (.aload_n 0, 1) := by decide +kernel
theorem dX8_nearest_64 : decode cX8_nearest 64 = .ok (.iload 6, 2) := by decide +kernel
theorem dX8_nearest_66 : decode cX8_nearest 66 = .ok (.invokevirtual 193, 3) := by decide +kernel
theorem dX8_nearest_69 : decode cX8_nearest 69 = .ok (.ifCond .eq 70, 3) := by decide +kernel
theorem dX8_nearest_72 : decode cX8_nearest 72 = .ok (.aload_n 0, 1) := by decide +kernel
theorem dX8_nearest_73 : decode cX8_nearest 73 = .ok (.iload 8, 2) := by decide +kernel
theorem dX8_nearest_75 : decode cX8_nearest 75 = .ok (.invokevirtual 193, 3) := by decide +kernel
theorem dX8_nearest_78 : decode cX8_nearest 78 = .ok (.ifCond .eq 25, 3) := by decide +kernel
theorem dX8_nearest_81 : decode cX8_nearest 81 = .ok (.aload_n 0, 1) := by decide +kernel
theorem dX8_nearest_82 : decode cX8_nearest 82 = .ok (.iload 8, 2) := by decide +kernel
theorem dX8_nearest_84 : decode cX8_nearest 84 = .ok (.iconst 0, 1) := by decide +kernel
theorem dX8_nearest_85 : decode cX8_nearest 85 = .ok (.iload_n 1, 1) := by decide +kernel
theorem dX8_nearest_86 : decode cX8_nearest 86 = .ok (.iload_n 2, 1) := by decide +kernel
theorem dX8_nearest_87 : decode cX8_nearest 87 = .ok (.invokevirtual 232, 3) := by decide +kernel
theorem dX8_nearest_90 : decode cX8_nearest 90 = .ok (.aload_n 0, 1) := by decide +kernel
theorem dX8_nearest_91 : decode cX8_nearest 91 = .ok (.iload 6, 2) := by decide +kernel
theorem dX8_nearest_93 : decode cX8_nearest 93 = .ok (.iconst 0, 1) := by decide +kernel
theorem dX8_nearest_94 : decode cX8_nearest 94 = .ok (.iload_n 1, 1) := by decide +kernel
theorem dX8_nearest_95 : decode cX8_nearest 95 = .ok (.iload_n 2, 1) := by decide +kernel
theorem dX8_nearest_96 : decode cX8_nearest 96 = .ok (.invokevirtual 232, 3) := by decide +kernel
theorem dX8_nearest_99 : decode cX8_nearest 99 = .ok (.isub, 1) := by decide +kernel
theorem dX8_nearest_100 : decode cX8_nearest 100 = .ok (.goto 4, 3) := by decide +kernel
theorem dX8_nearest_103 : decode cX8_nearest 103 = .ok (.iconst 1, 1) := by decide +kernel
theorem dX8_nearest_104 : decode cX8_nearest 104 = .ok (.istore 9, 2) := by decide +kernel
theorem dX8_nearest_106 : decode cX8_nearest 106 = .ok (.iload 7, 2) := by decide +kernel
theorem dX8_nearest_108 : decode cX8_nearest 108 = .ok (.iload 9, 2) := by decide +kernel
theorem dX8_nearest_110 : decode cX8_nearest 110 = .ok (.ifCond .lt 15, 3) := by decide +kernel
theorem dX8_nearest_113 : decode cX8_nearest 113 = .ok (.iload 9, 2) := by decide +kernel
theorem dX8_nearest_115 : decode cX8_nearest 115 = .ok (.ifCond .ne 14, 3) := by decide +kernel
theorem dX8_nearest_118 : decode cX8_nearest 118 = .ok (.iload 8, 2) := by decide +kernel
theorem dX8_nearest_120 : decode cX8_nearest 120 = .ok (.iload 6, 2) := by decide +kernel
theorem dX8_nearest_122 : decode cX8_nearest 122 = .ok (.if_icmp .ge 7, 3) := by decide +kernel
theorem dX8_nearest_125 : decode cX8_nearest 125 = .ok (.iconst 1, 1) := by decide +kernel
theorem dX8_nearest_126 : decode cX8_nearest 126 = .ok (.goto 4, 3) := by decide +kernel
theorem dX8_nearest_129 : decode cX8_nearest 129 = .ok (.iconst 0, 1) := by decide +kernel
theorem dX8_nearest_130 : decode cX8_nearest 130 = .ok (.iadd, 1) := by decide +kernel
theorem dX8_nearest_131 : decode cX8_nearest 131 = .ok (.istore 7, 2) := by decide +kernel
theorem dX8_nearest_133 : decode cX8_nearest 133 = .ok (.iinc 8 1, 3) := by decide +kernel
theorem dX8_nearest_136 : decode cX8_nearest 136 = .ok (.goto (-80), 3) := by decide +kernel
theorem dX8_nearest_139 : decode cX8_nearest 139 = .ok (.aload_n 0, 1) := by decide +kernel
theorem dX8_nearest_140 : decode cX8_nearest 140 = .ok (.iload 6, 2) := by decide +kernel
theorem dX8_nearest_142 : decode cX8_nearest 142 = .ok (.invokevirtual 193, 3) := by decide +kernel
theorem dX8_nearest_145 : decode cX8_nearest 145 = .ok (.ifCond .eq 14, 3) := by decide +kernel
theorem dX8_nearest_148 : decode cX8_nearest 148 = .ok (.iload 7, 2) := by decide +kernel
theorem dX8_nearest_150 : decode cX8_nearest 150 = .ok (.iload_n 3, 1) := by decide +kernel
theorem dX8_nearest_151 : decode cX8_nearest 151 = .ok (.if_icmp .ne 8, 3) := by decide +kernel
theorem dX8_nearest_154 : decode cX8_nearest 154 = .ok (.iload 6, 2) := by decide +kernel
theorem dX8_nearest_156 : decode cX8_nearest 156 = .ok (.goto 5, 3) := by decide +kernel
theorem dX8_nearest_159 : decode cX8_nearest 159 = .ok (.iload 5, 2) := by decide +kernel
theorem dX8_nearest_161 : decode cX8_nearest 161 = .ok (.istore 5, 2) := by decide +kernel
theorem dX8_nearest_163 : decode cX8_nearest 163 = .ok (.iinc 6 1, 3) := by decide +kernel
theorem dX8_nearest_166 : decode cX8_nearest 166 = .ok (.goto (-123), 3) := by decide +kernel
theorem dX8_nearest_169 : decode cX8_nearest 169 = .ok (.iload 5, 2) := by decide +kernel
theorem dX8_nearest_171 : decode cX8_nearest 171 = .ok (.iconst (-1), 1) := by decide +kernel
theorem dX8_nearest_172 : decode cX8_nearest 172 = .ok (.if_icmp .ne 6, 3) := by decide +kernel
theorem dX8_nearest_175 : decode cX8_nearest 175 = .ok (.ldc 221, 2) := by decide +kernel
theorem dX8_nearest_177 : decode cX8_nearest 177 = .ok (.ireturn, 1) := by decide +kernel
theorem dX8_nearest_178 : decode cX8_nearest 178 = .ok (.aload_n 0, 1) := by decide +kernel
theorem dX8_nearest_179 : decode cX8_nearest 179 = .ok (.iload 5, 2) := by decide +kernel
theorem dX8_nearest_181 : decode cX8_nearest 181 = .ok (.iconst 0, 1) := by decide +kernel
theorem dX8_nearest_182 : decode cX8_nearest 182 = .ok (.iload_n 1, 1) := by decide +kernel
theorem dX8_nearest_183 : decode cX8_nearest 183 = .ok (.iload_n 2, 1) := by decide +kernel
theorem dX8_nearest_184 : decode cX8_nearest 184 = .ok (.invokevirtual 232, 3) := by decide +kernel
theorem dX8_nearest_187 : decode cX8_nearest 187 = .ok (.istore 6, 2) := by decide +kernel
theorem dX8_nearest_189 : decode cX8_nearest 189 = .ok (.aload_n 0, 1) := by decide +kernel
theorem dX8_nearest_190 : decode cX8_nearest 190 = .ok (.invokevirtual 126, 3) := by decide +kernel
theorem dX8_nearest_193 : decode cX8_nearest 193 = .ok (.iconst 0, 1) := by decide +kernel
theorem dX8_nearest_194 : decode cX8_nearest 194 = .ok (.istore 7, 2) := by decide +kernel
theorem dX8_nearest_196 : decode cX8_nearest 196 = .ok (.iconst 0, 1) := by decide +kernel
theorem dX8_nearest_197 : decode cX8_nearest 197 = .ok (.istore 8, 2) := by decide +kernel
theorem dX8_nearest_199 : decode cX8_nearest 199 = .ok (.iload 8, 2) := by decide +kernel
theorem dX8_nearest_201 : decode cX8_nearest 201 = .ok (.bipush 40, 2) := by decide +kernel
theorem dX8_nearest_203 : decode cX8_nearest 203 = .ok (.if_icmp .ge 52, 3) := by decide +kernel
theorem dX8_nearest_206 : decode cX8_nearest 206 = .ok (.iload 7, 2) := by decide +kernel
theorem dX8_nearest_208 : decode cX8_nearest 208 = .ok (.aload_n 0, 1) := by decide +kernel
theorem dX8_nearest_209 : decode cX8_nearest 209 = .ok (.iload 8, 2) := by decide +kernel
theorem dX8_nearest_211 : decode cX8_nearest 211 = .ok (.invokevirtual 81, 3) := by decide +kernel
theorem dX8_nearest_214 : decode cX8_nearest 214 = .ok (.iconst (-1), 1) := by decide +kernel
theorem dX8_nearest_215 : decode cX8_nearest 215 = .ok (.if_icmp .eq 30, 3) := by decide +kernel
theorem dX8_nearest_218 : decode cX8_nearest 218 = .ok (.aload_n 0, 1) := by decide +kernel
theorem dX8_nearest_219 : decode cX8_nearest 219 = .ok (.iload 8, 2) := by decide +kernel
theorem dX8_nearest_221 : decode cX8_nearest 221 = .ok (.invokevirtual 85, 3) := by decide +kernel
theorem dX8_nearest_224 : decode cX8_nearest 224 = .ok (.ifCond .le 21, 3) := by decide +kernel
theorem dX8_nearest_227 : decode cX8_nearest 227 = .ok (.aload_n 0, 1) := by decide +kernel
theorem dX8_nearest_228 : decode cX8_nearest 228 = .ok (.iload 8, 2) := by decide +kernel
theorem dX8_nearest_230 : decode cX8_nearest 230 = .ok (.iconst 1, 1) := by decide +kernel
theorem dX8_nearest_231 : decode cX8_nearest 231 = .ok (.iload_n 1, 1) := by decide +kernel
theorem dX8_nearest_232 : decode cX8_nearest 232 = .ok (.iload_n 2, 1) := by decide +kernel
theorem dX8_nearest_233 : decode cX8_nearest 233 = .ok (.invokevirtual 232, 3) := by decide +kernel
theorem dX8_nearest_236 : decode cX8_nearest 236 = .ok (.iload 6, 2) := by decide +kernel
theorem dX8_nearest_238 : decode cX8_nearest 238 = .ok (.if_icmp .gt 7, 3) := by decide +kernel
theorem dX8_nearest_241 : decode cX8_nearest 241 = .ok (.iconst 1, 1) := by decide +kernel
theorem dX8_nearest_242 : decode cX8_nearest 242 = .ok (.goto 4, 3) := by decide +kernel
theorem dX8_nearest_245 : decode cX8_nearest 245 = .ok (.iconst 0, 1) := by decide +kernel
theorem dX8_nearest_246 : decode cX8_nearest 246 = .ok (.iadd, 1) := by decide +kernel
theorem dX8_nearest_247 : decode cX8_nearest 247 = .ok (.istore 7, 2) := by decide +kernel
theorem dX8_nearest_249 : decode cX8_nearest 249 = .ok (.iinc 8 1, 3) := by decide +kernel
theorem dX8_nearest_252 : decode cX8_nearest 252 = .ok (.goto (-53), 3) := by decide +kernel
theorem dX8_nearest_255 : decode cX8_nearest 255 = .ok (.iload 4, 2) := by decide +kernel
theorem dX8_nearest_257 : decode cX8_nearest 257 = .ok (.ifCond .ne 8, 3) := by decide +kernel
theorem dX8_nearest_260 : decode cX8_nearest 260 = .ok (.iload 5, 2) := by decide +kernel
theorem dX8_nearest_262 : decode cX8_nearest 262 = .ok (.goto 16, 3) := by decide +kernel
theorem dX8_nearest_265 : decode cX8_nearest 265 = .ok (.iload 4, 2) := by decide +kernel
theorem dX8_nearest_267 : decode cX8_nearest 267 = .ok (.iconst 1, 1) := by decide +kernel
theorem dX8_nearest_268 : decode cX8_nearest 268 = .ok (.if_icmp .ne 8, 3) := by decide +kernel
theorem dX8_nearest_271 : decode cX8_nearest 271 = .ok (.iload 6, 2) := by decide +kernel
theorem dX8_nearest_273 : decode cX8_nearest 273 = .ok (.goto 5, 3) := by decide +kernel
theorem dX8_nearest_276 : decode cX8_nearest 276 = .ok (.iload 7, 2) := by decide +kernel
theorem dX8_nearest_278 : decode cX8_nearest 278 = .ok (.ireturn, 1) := by decide +kernel
theorem dX8_would_0 : decode cX8_would 0 = .ok (.iload_n 1, 1) := by decide +kernel
theorem dX8_would_1 : decode cX8_would 1 = .ok (.iload_n 2, 1) := by decide +kernel
theorem dX8_would_2 : decode cX8_would 2 = .ok (.iload_n 3, 1) := by decide +kernel
theorem dX8_would_3 : decode cX8_would 3 = .ok (.iload 4, 2) := by decide +kernel
theorem dX8_would_5 : decode cX8_would 5 = .ok (.invokestatic 188, 3) := by decide +kernel
theorem dX8_would_8 : decode cX8_would 8 = .ok (.ifCond .eq 13, 3) := by decide +kernel
theorem dX8_would_11 : decode cX8_would 11 = .ok (.iload 5, 2) := by decide +kernel
theorem dX8_would_13 : decode cX8_would 13 = .ok (.iconst 0, 1) := by decide +kernel
theorem dX8_would_14 : decode cX8_would 14 = .ok (.iconst 4, 1) := by decide +kernel
theorem dX8_would_15 : decode cX8_would 15 = .ok (.invokestatic 180, 3) := by decide +kernel
theorem dX8_would_18 : decode cX8_would 18 = .ok (.ifCond .ne 6, 3) := by decide +kernel
theorem dX8_would_21 : decode cX8_would 21 = .ok (.ldc 192, 2) := by decide +kernel
theorem dX8_would_23 : decode cX8_would 23 = .ok (.ireturn, 1) := by decide +kernel
theorem dX8_would_24 : decode cX8_would 24 = .ok (.iconst 0, 1) := by decide +kernel
theorem dX8_would_25 : decode cX8_would 25 = .ok (.istore 6, 2) := by decide +kernel
theorem dX8_would_27 : decode cX8_would 27 = .ok (.iload 6, 2) := by decide +kernel
theorem dX8_would_29 : decode cX8_would 29 = .ok (.bipush 31, 2) := by decide +kernel
theorem dX8_would_31 : decode cX8_would 31 = .ok (.if_icmp .ge 18, 3) := by decide +kernel
theorem dX8_would_34 : decode cX8_would 34 = .ok (.aload_n 0, 1) := by decide +kernel
theorem dX8_would_35 : decode cX8_would 35 = .ok (.iload 6, 2) := by decide +kernel
theorem dX8_would_37 : decode cX8_would 37 = .ok (.invokevirtual 193, 3) := by decide +kernel
theorem dX8_would_40 : decode cX8_would 40 = .ok (.ifCond .eq 9, 3) := by decide +kernel
theorem dX8_would_43 : decode cX8_would 43 = .ok (.iinc 6 1, 3) := by decide +kernel
theorem dX8_would_46 : decode cX8_would 46 = .ok (.goto (-19), 3) := by decide +kernel
theorem dX8_would_49 : decode cX8_would 49 = .ok (.iload 6, 2) := by decide +kernel
theorem dX8_would_51 : decode cX8_would 51 = .ok (.bipush 31, 2) := by decide +kernel
theorem dX8_would_53 : decode cX8_would 53 = .ok (.if_icmp .ne 6, 3) := by decide +kernel
theorem dX8_would_56 : decode cX8_would 56 = .ok (.ldc 80, 2) := by decide +kernel
theorem dX8_would_58 : decode cX8_would 58 = .ok (.ireturn, 1) := by decide +kernel
theorem dX8_would_59 : decode cX8_would 59 = .ok (.aload_n 0, 1) := by decide +kernel
theorem dX8_would_60 : decode cX8_would 60 = .ok (.invokevirtual 196, 3) := by decide +kernel
theorem dX8_would_63 : decode cX8_would 63 = .ok (.aload_n 0, 1) := by decide +kernel
theorem dX8_would_64 : decode cX8_would 64 = .ok (.getfield 7, 3) := by decide +kernel
theorem dX8_would_67 : decode cX8_would 67 = .ok (.bipush 35, 2) := by decide +kernel
theorem dX8_would_69 : decode cX8_would 69 = .ok (.iconst 4, 1) := by decide +kernel
theorem dX8_would_70 : decode cX8_would 70 = .ok (.iload 6, 2) := by decide +kernel
theorem dX8_would_72 : decode cX8_would 72 = .ok (.imul, 1) := by decide +kernel
theorem dX8_would_73 : decode cX8_would 73 = .ok (.iadd, 1) := by decide +kernel
theorem dX8_would_74 : decode cX8_would 74 = .ok (.iload_n 1, 1) := by decide +kernel
theorem dX8_would_75 : decode cX8_would 75 = .ok (.iastore, 1) := by decide +kernel
theorem dX8_would_76 : decode cX8_would 76 = .ok (.aload_n 0, 1) := by decide +kernel
theorem dX8_would_77 : decode cX8_would 77 = .ok (.getfield 7, 3) := by decide +kernel
theorem dX8_would_80 : decode cX8_would 80 = .ok (.bipush 35, 2) := by decide +kernel
theorem dX8_would_82 : decode cX8_would 82 = .ok (.iconst 4, 1) := by decide +kernel
theorem dX8_would_83 : decode cX8_would 83 = .ok (.iload 6, 2) := by decide +kernel
theorem dX8_would_85 : decode cX8_would 85 = .ok (.imul, 1) := by decide +kernel
theorem dX8_would_86 : decode cX8_would 86 = .ok (.iadd, 1) := by decide +kernel
theorem dX8_would_87 : decode cX8_would 87 = .ok (.iconst 1, 1) := by decide +kernel
theorem dX8_would_88 : decode cX8_would 88 = .ok (.iadd, 1) := by decide +kernel
theorem dX8_would_89 : decode cX8_would 89 = .ok (.iload_n 2, 1) := by decide +kernel
theorem dX8_would_90 : decode cX8_would 90 = .ok (.iastore, 1) := by decide +kernel
theorem dX8_would_91 : decode cX8_would 91 = .ok (.aload_n 0, 1) := by decide +kernel
theorem dX8_would_92 : decode cX8_would 92 = .ok (.getfield 7, 3) := by decide +kernel
theorem dX8_would_95 : decode cX8_would 95 = .ok (.bipush 35, 2) := by decide +kernel
theorem dX8_would_97 : decode cX8_would 97 = .ok (.iconst 4, 1) := by decide +kernel
theorem dX8_would_98 : decode cX8_would 98 = .ok (.iload 6, 2) := by decide +kernel
theorem dX8_would_100 : decode cX8_would 100 = .ok (.imul, 1) := by decide +kernel
theorem dX8_would_101 : decode cX8_would 101 = .ok (.iadd, 1) := by decide +kernel
theorem dX8_would_102 : decode cX8_would 102 = .ok (.iconst 2, 1) := by decide +kernel
theorem dX8_would_103 : decode cX8_would 103 = .ok (.iadd, 1) := by decide +kernel
theorem dX8_would_104 : decode cX8_would 104 = .ok (.iload_n 3, 1) := by decide +kernel
theorem dX8_would_105 : decode cX8_would 105 = .ok (.iastore, 1) := by decide +kernel
theorem dX8_would_106 : decode cX8_would 106 = .ok (.aload_n 0, 1) := by decide +kernel
theorem dX8_would_107 : decode cX8_would 107 = .ok (.getfield 7, 3) := by decide +kernel
theorem dX8_would_110 : decode cX8_would 110 = .ok (.bipush 35, 2) := by decide +kernel
theorem dX8_would_112 : decode cX8_would 112 = .ok (.iconst 4, 1) := by decide +kernel
theorem dX8_would_113 : decode cX8_would 113 = .ok (.iload 6, 2) := by decide +kernel
theorem dX8_would_115 : decode cX8_would 115 = .ok (.imul, 1) := by decide +kernel
theorem dX8_would_116 : decode cX8_would 116 = .ok (.iadd, 1) := by decide +kernel
theorem dX8_would_117 : decode cX8_would 117 = .ok (.iconst 3, 1) := by decide +kernel
theorem dX8_would_118 : decode cX8_would 118 = .ok (.iadd, 1) := by decide +kernel
theorem dX8_would_119 : decode cX8_would 119 = .ok (.iload 4, 2) := by decide +kernel
theorem dX8_would_121 : decode cX8_would 121 = .ok (.iastore, 1) := by decide +kernel
theorem dX8_would_122 : decode cX8_would 122 = .ok (.aload_n 0, 1) := by decide +kernel
theorem dX8_would_123 : decode cX8_would 123 = .ok (.invokevirtual 126, 3) := by decide +kernel
theorem dX8_would_126 : decode cX8_would 126 = .ok (.aload_n 0, 1) := by decide +kernel
theorem dX8_would_127 : decode cX8_would 127 = .ok (.getfield 7, 3) := by decide +kernel
theorem dX8_would_130 : decode cX8_would 130 = .ok (.iconst 0, 1) := by decide +kernel
theorem dX8_would_131 : decode cX8_would 131 = .ok (.iaload, 1) := by decide +kernel
theorem dX8_would_132 : decode cX8_would 132 = .ok (.istore 7, 2) := by decide +kernel
theorem dX8_would_134 : decode cX8_would 134 = .ok (.aload_n 0, 1) := by decide +kernel
theorem dX8_would_135 : decode cX8_would 135 = .ok (.iload 7, 2) := by decide +kernel
theorem dX8_would_137 : decode cX8_would 137 = .ok (.invokevirtual 81, 3) := by decide +kernel
theorem dX8_would_140 : decode cX8_would 140 = .ok (.ifCond .le 17, 3) := by decide +kernel
theorem dX8_would_143 : decode cX8_would 143 = .ok (.aload_n 0, 1) := by decide +kernel
theorem dX8_would_144 : decode cX8_would 144 = .ok (.iload 7, 2) := by decide +kernel
theorem dX8_would_146 : decode cX8_would 146 = .ok (.iload 6, 2) := by decide +kernel
theorem dX8_would_148 : decode cX8_would 148 = .ok (.iconst 0, 1) := by decide +kernel
theorem dX8_would_149 : decode cX8_would 149 = .ok (.invokevirtual 159, 3) := by decide +kernel
theorem dX8_would_152 : decode cX8_would 152 = .ok (.istore 7, 2) := by decide +kernel
theorem dX8_would_154 : decode cX8_would 154 = .ok (.goto (-20), 3) := by decide +kernel
theorem dX8_would_157 : decode cX8_would 157 = .ok (.aload_n 0, 1) := by decide +kernel
theorem dX8_would_158 : decode cX8_would 158 = .ok (.iload 7, 2) := by decide +kernel
theorem dX8_would_160 : decode cX8_would 160 = .ok (.invokevirtual 222, 3) := by decide +kernel
theorem dX8_would_163 : decode cX8_would 163 = .ok (.istore 8, 2) := by decide +kernel
theorem dX8_would_165 : decode cX8_would 165 = .ok (.aload_n 0, 1) := by decide +kernel
theorem dX8_would_166 : decode cX8_would 166 = .ok (.iload 7, 2) := by decide +kernel
theorem dX8_would_168 : decode cX8_would 168 = .ok (.invokevirtual 85, 3) := by decide +kernel
theorem dX8_would_171 : decode cX8_would 171 = .ok (.iconst 4, 1) := by decide +kernel
theorem dX8_would_172 : decode cX8_would 172 = .ok (.if_icmp .ne 7, 3) := by decide +kernel
theorem dX8_would_175 : decode cX8_would 175 = .ok (.iconst 1, 1) := by decide +kernel
theorem dX8_would_176 : decode cX8_would 176 = .ok (.goto 4, 3) := by decide +kernel
theorem dX8_would_179 : decode cX8_would 179 = .ok (.iconst 0, 1) := by decide +kernel
theorem dX8_would_180 : decode cX8_would 180 = .ok (.istore 9, 2) := by decide +kernel
theorem dX8_would_182 : decode cX8_would 182 = .ok (.aload_n 0, 1) := by decide +kernel
theorem dX8_would_183 : decode cX8_would 183 = .ok (.iload 6, 2) := by decide +kernel
theorem dX8_would_185 : decode cX8_would 185 = .ok (.iload_n 1, 1) := by decide +kernel
theorem dX8_would_186 : decode cX8_would 186 = .ok (.iload_n 2, 1) := by decide +kernel
theorem dX8_would_187 : decode cX8_would 187 = .ok (.iload_n 3, 1) := by decide +kernel
theorem dX8_would_188 : decode cX8_would 188 = .ok (.iload 4, 2) := by decide +kernel
theorem dX8_would_190 : decode cX8_would 190 = .ok (.invokevirtual 202, 3) := by decide +kernel
theorem dX8_would_193 : decode cX8_would 193 = .ok (.aload_n 0, 1) := by decide +kernel
theorem dX8_would_194 : decode cX8_would 194 = .ok (.invokevirtual 209, 3) := by decide +kernel
theorem dX8_would_197 : decode cX8_would 197 = .ok (.istore 10, 2) := by decide +kernel
theorem dX8_would_199 : decode cX8_would 199 = .ok (.aload_n 0, 1) := by decide +kernel
theorem dX8_would_200 : decode cX8_would 200 = .ok (.iconst 0, 1) := by decide +kernel
theorem dX8_would_201 : decode cX8_would 201 = .ok (.invokevirtual 225, 3) := by decide +kernel
theorem dX8_would_204 : decode cX8_would 204 = .ok (.istore 11, 2) := by decide +kernel
theorem dX8_would_206 : decode cX8_would 206 = .ok (.aload_n 0, 1) := by decide +kernel
theorem dX8_would_207 : decode cX8_would 207 = .ok (.invokevirtual 236, 3) := by decide +kernel
theorem dX8_would_210 : decode cX8_would 210 = .ok (.iload 5, 2) := by decide +kernel
theorem dX8_would_212 : decode cX8_would 212 = .ok (.ifCond .ne 8, 3) := by decide +kernel
theorem dX8_would_215 : decode cX8_would 215 = .ok (.iload 8, 2) := by decide +kernel
theorem dX8_would_217 : decode cX8_would 217 = .ok (.goto 40, 3) := by decide +kernel
theorem dX8_would_220 : decode cX8_would 220 = .ok (.iload 5, 2) := by decide +kernel
theorem dX8_would_222 : decode cX8_would 222 = .ok (.iconst 1, 1) := by decide +kernel
theorem dX8_would_223 : decode cX8_would 223 = .ok (.if_icmp .ne 8, 3) := by decide +kernel
theorem dX8_would_226 : decode cX8_would 226 = .ok (.iload 9, 2) := by decide +kernel
theorem dX8_would_228 : decode cX8_would 228 = .ok (.goto 29, 3) := by decide +kernel
theorem dX8_would_231 : decode cX8_would 231 = .ok (.iload 5, 2) := by decide +kernel
theorem dX8_would_233 : decode cX8_would 233 = .ok (.iconst 2, 1) := by decide +kernel
theorem dX8_would_234 : decode cX8_would 234 = .ok (.if_icmp .ne 10, 3) := by decide +kernel
theorem dX8_would_237 : decode cX8_would 237 = .ok (.aload_n 0, 1) := by decide +kernel
theorem dX8_would_238 : decode cX8_would 238 = .ok (.getfield 135, 3) := by decide +kernel
theorem dX8_would_241 : decode cX8_would 241 = .ok (.goto 16, 3) := by decide +kernel
theorem dX8_would_244 : decode cX8_would 244 = .ok (.iload 5, 2) := by decide +kernel
theorem dX8_would_246 : decode cX8_would 246 = .ok (.iconst 3, 1) := by decide +kernel
theorem dX8_would_247 : decode cX8_would 247 = .ok (.if_icmp .ne 8, 3) := by decide +kernel
theorem dX8_would_250 : decode cX8_would 250 = .ok (.iload 10, 2) := by decide +kernel
theorem dX8_would_252 : decode cX8_would 252 = .ok (.goto 5, 3) := by decide +kernel
theorem dX8_would_255 : decode cX8_would 255 = .ok (.iload 11, 2) := by decide +kernel
theorem dX8_would_257 : decode cX8_would 257 = .ok (.ireturn, 1) := by decide +kernel
theorem dX8_wouldTake_0 : decode cX8_wouldTake 0 = .ok (.iload_n 1, 1) := by decide +kernel
theorem dX8_wouldTake_1 : decode cX8_wouldTake 1 = .ok (.invokestatic 184, 3) := by decide +kernel
theorem dX8_wouldTake_4 : decode cX8_wouldTake 4 = .ok (.ifCond .eq 12, 3) := by decide +kernel
theorem dX8_wouldTake_7 : decode cX8_wouldTake 7 = .ok (.iload_n 2, 1) := by decide +kernel
theorem dX8_wouldTake_8 : decode cX8_wouldTake 8 = .ok (.iconst 0, 1) := by decide +kernel
theorem dX8_wouldTake_9 : decode cX8_wouldTake 9 = .ok (.iconst 3, 1) := by decide +kernel
theorem dX8_wouldTake_10 : decode cX8_wouldTake 10 = .ok (.invokestatic 180, 3) := by decide +kernel
theorem dX8_wouldTake_13 : decode cX8_wouldTake 13 = .ok (.ifCond .ne 6, 3) := by decide +kernel
theorem dX8_wouldTake_16 : decode cX8_wouldTake 16 = .ok (.ldc 192, 2) := by decide +kernel
theorem dX8_wouldTake_18 : decode cX8_wouldTake 18 = .ok (.ireturn, 1) := by decide +kernel
theorem dX8_wouldTake_19 : decode cX8_wouldTake 19 = .ok (.aload_n 0, 1) := by decide +kernel
theorem dX8_wouldTake_20 : decode cX8_wouldTake 20 = .ok (.iload_n 1, 1) := by decide +kernel
theorem dX8_wouldTake_21 : decode cX8_wouldTake 21 = .ok (.invokevirtual 193, 3) := by decide +kernel
theorem dX8_wouldTake_24 : decode cX8_wouldTake 24 = .ok (.ifCond .ne 6, 3) := by decide +kernel
theorem dX8_wouldTake_27 : decode cX8_wouldTake 27 = .ok (.ldc 221, 2) := by decide +kernel
theorem dX8_wouldTake_29 : decode cX8_wouldTake 29 = .ok (.ireturn, 1) := by decide +kernel
theorem dX8_wouldTake_30 : decode cX8_wouldTake 30 = .ok (.aload_n 0, 1) := by decide +kernel
theorem dX8_wouldTake_31 : decode cX8_wouldTake 31 = .ok (.invokevirtual 196, 3) := by decide +kernel
theorem dX8_wouldTake_34 : decode cX8_wouldTake 34 = .ok (.aload_n 0, 1) := by decide +kernel
theorem dX8_wouldTake_35 : decode cX8_wouldTake 35 = .ok (.iload_n 1, 1) := by decide +kernel
theorem dX8_wouldTake_36 : decode cX8_wouldTake 36 = .ok (.invokevirtual 212, 3) := by decide +kernel
theorem dX8_wouldTake_39 : decode cX8_wouldTake 39 = .ok (.aload_n 0, 1) := by decide +kernel
theorem dX8_wouldTake_40 : decode cX8_wouldTake 40 = .ok (.getfield 7, 3) := by decide +kernel
theorem dX8_wouldTake_43 : decode cX8_wouldTake 43 = .ok (.iconst 3, 1) := by decide +kernel
theorem dX8_wouldTake_44 : decode cX8_wouldTake 44 = .ok (.iaload, 1) := by decide +kernel
theorem dX8_wouldTake_45 : decode cX8_wouldTake 45 = .ok (.aload_n 0, 1) := by decide +kernel
theorem dX8_wouldTake_46 : decode cX8_wouldTake 46 = .ok (.getfield 13, 3) := by decide +kernel
theorem dX8_wouldTake_49 : decode cX8_wouldTake 49 = .ok (.iconst 3, 1) := by decide +kernel
theorem dX8_wouldTake_50 : decode cX8_wouldTake 50 = .ok (.iaload, 1) := by decide +kernel
theorem dX8_wouldTake_51 : decode cX8_wouldTake 51 = .ok (.isub, 1) := by decide +kernel
theorem dX8_wouldTake_52 : decode cX8_wouldTake 52 = .ok (.istore_n 3, 1) := by decide +kernel
theorem dX8_wouldTake_53 : decode cX8_wouldTake 53 = .ok (.aload_n 0, 1) := by decide +kernel
theorem dX8_wouldTake_54 : decode cX8_wouldTake 54 = .ok (.invokevirtual 209, 3) := by decide +kernel
theorem dX8_wouldTake_57 : decode cX8_wouldTake 57 = .ok (.istore 4, 2) := by decide +kernel
theorem dX8_wouldTake_59 : decode cX8_wouldTake 59 = .ok (.aload_n 0, 1) := by decide +kernel
theorem dX8_wouldTake_60 : decode cX8_wouldTake 60 = .ok (.iconst 0, 1) := by decide +kernel
theorem dX8_wouldTake_61 : decode cX8_wouldTake 61 = .ok (.invokevirtual 225, 3) := by decide +kernel
theorem dX8_wouldTake_64 : decode cX8_wouldTake 64 = .ok (.istore 5, 2) := by decide +kernel
theorem dX8_wouldTake_66 : decode cX8_wouldTake 66 = .ok (.aload_n 0, 1) := by decide +kernel
theorem dX8_wouldTake_67 : decode cX8_wouldTake 67 = .ok (.invokevirtual 236, 3) := by decide +kernel
theorem dX8_wouldTake_70 : decode cX8_wouldTake 70 = .ok (.iload_n 2, 1) := by decide +kernel
theorem dX8_wouldTake_71 : decode cX8_wouldTake 71 = .ok (.ifCond .ne 7, 3) := by decide +kernel
theorem dX8_wouldTake_74 : decode cX8_wouldTake 74 = .ok (.iload_n 3, 1) := by decide +kernel
theorem dX8_wouldTake_75 : decode cX8_wouldTake 75 = .ok (.goto 27, 3) := by decide +kernel
theorem dX8_wouldTake_78 : decode cX8_wouldTake 78 = .ok (.iload_n 2, 1) := by decide +kernel
theorem dX8_wouldTake_79 : decode cX8_wouldTake 79 = .ok (.iconst 1, 1) := by decide +kernel
theorem dX8_wouldTake_80 : decode cX8_wouldTake 80 = .ok (.if_icmp .ne 10, 3) := by decide +kernel
theorem dX8_wouldTake_83 : decode cX8_wouldTake 83 = .ok (.aload_n 0, 1) := by decide +kernel
theorem dX8_wouldTake_84 : decode cX8_wouldTake 84 = .ok (.getfield 135, 3) := by decide +kernel
theorem dX8_wouldTake_87 : decode cX8_wouldTake 87 = .ok (.goto 15, 3) := by decide +kernel
theorem dX8_wouldTake_90 : decode cX8_wouldTake 90 = .ok (.iload_n 2, 1) := by decide +kernel
theorem dX8_wouldTake_91 : decode cX8_wouldTake 91 = .ok (.iconst 2, 1) := by decide +kernel
theorem dX8_wouldTake_92 : decode cX8_wouldTake 92 = .ok (.if_icmp .ne 8, 3) := by decide +kernel
theorem dX8_wouldTake_95 : decode cX8_wouldTake 95 = .ok (.iload 4, 2) := by decide +kernel
theorem dX8_wouldTake_97 : decode cX8_wouldTake 97 = .ok (.goto 5, 3) := by decide +kernel
theorem dX8_wouldTake_100 : decode cX8_wouldTake 100 = .ok (.iload 5, 2) := by decide +kernel
theorem dX8_wouldTake_102 : decode cX8_wouldTake 102 = .ok (.ireturn, 1) := by decide +kernel
theorem dX8_boxMany_0 : decode cX8_boxMany 0 = .ok (.iconst 0, 1) := by decide +kernel
theorem dX8_boxMany_1 : decode cX8_boxMany 1 = .ok (.istore_n 1, 1) := by decide +kernel
theorem dX8_boxMany_2 : decode cX8_boxMany 2 = .ok (.iconst 0, 1) := by decide +kernel
theorem dX8_boxMany_3 : decode cX8_boxMany 3 = .ok (.istore_n 2, 1) := by decide +kernel
theorem dX8_boxMany_4 : decode cX8_boxMany 4 = .ok (.iload_n 2, 1) := by decide +kernel
theorem dX8_boxMany_5 : decode cX8_boxMany 5 = .ok (.bipush 31, 2) := by decide +kernel
theorem dX8_boxMany_7 : decode cX8_boxMany 7 = .ok (.if_icmp .ge 20, 3) := by decide +kernel
theorem dX8_boxMany_10 : decode cX8_boxMany 10 = .ok (.iload_n 1, 1) := by decide +kernel
theorem dX8_boxMany_11 : decode cX8_boxMany 11 = .ok (.aload_n 0, 1) := by decide +kernel
theorem dX8_boxMany_12 : decode cX8_boxMany 12 = .ok (.getfield 7, 3) := by decide +kernel
theorem dX8_boxMany_15 : decode cX8_boxMany 15 = .ok (.iconst 4, 1) := by decide +kernel
theorem dX8_boxMany_16 : decode cX8_boxMany 16 = .ok (.iload_n 2, 1) := by decide +kernel
theorem dX8_boxMany_17 : decode cX8_boxMany 17 = .ok (.iadd, 1) := by decide +kernel
theorem dX8_boxMany_18 : decode cX8_boxMany 18 = .ok (.iaload, 1) := by decide +kernel
theorem dX8_boxMany_19 : decode cX8_boxMany 19 = .ok (.iadd, 1) := by decide +kernel
theorem dX8_boxMany_20 : decode cX8_boxMany 20 = .ok (.istore_n 1, 1) := by decide +kernel
theorem dX8_boxMany_21 : decode cX8_boxMany 21 = .ok (.iinc 2 1, 3) := by decide +kernel
theorem dX8_boxMany_24 : decode cX8_boxMany 24 = .ok (.goto (-20), 3) := by decide +kernel
theorem dX8_boxMany_27 : decode cX8_boxMany 27 = .ok (.iload_n 1, 1) := by decide +kernel
theorem dX8_boxMany_28 : decode cX8_boxMany 28 = .ok (.ireturn, 1) := by decide +kernel
theorem dX8_nodeMany_0 : decode cX8_nodeMany 0 = .ok (.iconst 0, 1) := by decide +kernel
theorem dX8_nodeMany_1 : decode cX8_nodeMany 1 = .ok (.istore_n 2, 1) := by decide +kernel
theorem dX8_nodeMany_2 : decode cX8_nodeMany 2 = .ok (.iconst 0, 1) := by decide +kernel
theorem dX8_nodeMany_3 : decode cX8_nodeMany 3 = .ok (.istore_n 3, 1) := by decide +kernel
theorem dX8_nodeMany_4 : decode cX8_nodeMany 4 = .ok (.iload_n 3, 1) := by decide +kernel
theorem dX8_nodeMany_5 : decode cX8_nodeMany 5 = .ok (.bipush 40, 2) := by decide +kernel
theorem dX8_nodeMany_7 : decode cX8_nodeMany 7 = .ok (.if_icmp .ge 30, 3) := by decide +kernel
theorem dX8_nodeMany_10 : decode cX8_nodeMany 10 = .ok (.iload_n 2, 1) := by decide +kernel
theorem dX8_nodeMany_11 : decode cX8_nodeMany 11 = .ok (.aload_n 0, 1) := by decide +kernel
theorem dX8_nodeMany_12 : decode cX8_nodeMany 12 = .ok (.iload_n 3, 1) := by decide +kernel
theorem dX8_nodeMany_13 : decode cX8_nodeMany 13 = .ok (.invokevirtual 81, 3) := by decide +kernel
theorem dX8_nodeMany_16 : decode cX8_nodeMany 16 = .ok (.iconst 0, 1) := by decide +kernel
theorem dX8_nodeMany_17 : decode cX8_nodeMany 17 = .ok (.iload_n 1, 1) := by decide +kernel
theorem dX8_nodeMany_18 : decode cX8_nodeMany 18 = .ok (.invokestatic 180, 3) := by decide +kernel
theorem dX8_nodeMany_21 : decode cX8_nodeMany 21 = .ok (.ifCond .eq 7, 3) := by decide +kernel
theorem dX8_nodeMany_24 : decode cX8_nodeMany 24 = .ok (.iconst 1, 1) := by decide +kernel
theorem dX8_nodeMany_25 : decode cX8_nodeMany 25 = .ok (.goto 4, 3) := by decide +kernel
theorem dX8_nodeMany_28 : decode cX8_nodeMany 28 = .ok (.iconst 0, 1) := by decide +kernel
theorem dX8_nodeMany_29 : decode cX8_nodeMany 29 = .ok (.iadd, 1) := by decide +kernel
theorem dX8_nodeMany_30 : decode cX8_nodeMany 30 = .ok (.istore_n 2, 1) := by decide +kernel
theorem dX8_nodeMany_31 : decode cX8_nodeMany 31 = .ok (.iinc 3 1, 3) := by decide +kernel
theorem dX8_nodeMany_34 : decode cX8_nodeMany 34 = .ok (.goto (-30), 3) := by decide +kernel
theorem dX8_nodeMany_37 : decode cX8_nodeMany 37 = .ok (.iload_n 2, 1) := by decide +kernel
theorem dX8_nodeMany_38 : decode cX8_nodeMany 38 = .ok (.ireturn, 1) := by decide +kernel
theorem dX8_areas_0 : decode cX8_areas 0 = .ok (.aload_n 0, 1) := by decide +kernel
theorem dX8_areas_1 : decode cX8_areas 1 = .ok (.invokevirtual 126, 3) := by decide +kernel
theorem dX8_areas_4 : decode cX8_areas 4 = .ok (.iconst 0, 1) := by decide +kernel
theorem dX8_areas_5 : decode cX8_areas 5 = .ok (.istore_n 1, 1) := by decide +kernel
theorem dX8_areas_6 : decode cX8_areas 6 = .ok (.iconst 0, 1) := by decide +kernel
theorem dX8_areas_7 : decode cX8_areas 7 = .ok (.istore_n 2, 1) := by decide +kernel
theorem dX8_areas_8 : decode cX8_areas 8 = .ok (.iload_n 2, 1) := by decide +kernel
theorem dX8_areas_9 : decode cX8_areas 9 = .ok (.bipush 40, 2) := by decide +kernel
theorem dX8_areas_11 : decode cX8_areas 11 = .ok (.if_icmp .ge 45, 3) := by decide +kernel
theorem dX8_areas_14 : decode cX8_areas 14 = .ok (.aload_n 0, 1) := by decide +kernel
theorem dX8_areas_15 : decode cX8_areas 15 = .ok (.iload_n 2, 1) := by decide +kernel
theorem dX8_areas_16 : decode cX8_areas 16 = .ok (.invokevirtual 81, 3) := by decide +kernel
theorem dX8_areas_19 : decode cX8_areas 19 = .ok (.ifCond .ne 31, 3) := by decide +kernel
theorem dX8_areas_22 : decode cX8_areas 22 = .ok (.aload_n 0, 1) := by decide +kernel
theorem dX8_areas_23 : decode cX8_areas 23 = .ok (.iload_n 2, 1) := by decide +kernel
theorem dX8_areas_24 : decode cX8_areas 24 = .ok (.invokevirtual 85, 3) := by decide +kernel
theorem dX8_areas_27 : decode cX8_areas 27 = .ok (.ifCond .le 23, 3) := by decide +kernel
theorem dX8_areas_30 : decode cX8_areas 30 = .ok (.aload_n 0, 1) := by decide +kernel
theorem dX8_areas_31 : decode cX8_areas 31 = .ok (.aload_n 0, 1) := by decide +kernel
theorem dX8_areas_32 : decode cX8_areas 32 = .ok (.getfield 28, 3) := by decide +kernel
theorem dX8_areas_35 : decode cX8_areas 35 = .ok (.iload_n 2, 1) := by decide +kernel
theorem dX8_areas_36 : decode cX8_areas 36 = .ok (.iconst 1, 1) := by decide +kernel
theorem dX8_areas_37 : decode cX8_areas 37 = .ok (.invokevirtual 112, 3) := by decide +kernel
theorem dX8_areas_40 : decode cX8_areas 40 = .ok (.iload_n 1, 1) := by decide +kernel
theorem dX8_areas_41 : decode cX8_areas 41 = .ok (.aload_n 0, 1) := by decide +kernel
theorem dX8_areas_42 : decode cX8_areas 42 = .ok (.getfield 28, 3) := by decide +kernel
theorem dX8_areas_45 : decode cX8_areas 45 = .ok (.invokestatic 116, 3) := by decide +kernel
theorem dX8_areas_48 : decode cX8_areas 48 = .ok (.iadd, 1) := by decide +kernel
theorem dX8_areas_49 : decode cX8_areas 49 = .ok (.istore_n 1, 1) := by decide +kernel
theorem dX8_areas_50 : decode cX8_areas 50 = .ok (.iinc 2 1, 3) := by decide +kernel
theorem dX8_areas_53 : decode cX8_areas 53 = .ok (.goto (-45), 3) := by decide +kernel
theorem dX8_areas_56 : decode cX8_areas 56 = .ok (.iload_n 1, 1) := by decide +kernel
theorem dX8_areas_57 : decode cX8_areas 57 = .ok (.ireturn, 1) := by decide +kernel
theorem dX8_count_0 : decode cX8_count 0 = .ok (.iload_n 1, 1) := by decide +kernel
theorem dX8_count_1 : decode cX8_count 1 = .ok (.tableswitch 123 0 10 #[59, 64, 69, 76, 82, 87, 94, 101, 108, 113, 118], 59) := by decide +kernel
theorem dX8_count_60 : decode cX8_count 60 = .ok (.aload_n 0, 1) := by decide +kernel
theorem dX8_count_61 : decode cX8_count 61 = .ok (.invokevirtual 239, 3) := by decide +kernel
theorem dX8_count_64 : decode cX8_count 64 = .ok (.ireturn, 1) := by decide +kernel
theorem dX8_count_65 : decode cX8_count 65 = .ok (.aload_n 0, 1) := by decide +kernel
theorem dX8_count_66 : decode cX8_count 66 = .ok (.invokevirtual 209, 3) := by decide +kernel
theorem dX8_count_69 : decode cX8_count 69 = .ok (.ireturn, 1) := by decide +kernel
theorem dX8_count_70 : decode cX8_count 70 = .ok (.aload_n 0, 1) := by decide +kernel
theorem dX8_count_71 : decode cX8_count 71 = .ok (.bipush 40, 2) := by decide +kernel
theorem dX8_count_73 : decode cX8_count 73 = .ok (.invokevirtual 242, 3) := by decide +kernel
theorem dX8_count_76 : decode cX8_count 76 = .ok (.ireturn, 1) := by decide +kernel
theorem dX8_count_77 : decode cX8_count 77 = .ok (.aload_n 0, 1) := by decide +kernel
theorem dX8_count_78 : decode cX8_count 78 = .ok (.iconst 0, 1) := by decide +kernel
theorem dX8_count_79 : decode cX8_count 79 = .ok (.invokevirtual 242, 3) := by decide +kernel
theorem dX8_count_82 : decode cX8_count 82 = .ok (.ireturn, 1) := by decide +kernel
theorem dX8_count_83 : decode cX8_count 83 = .ok (.aload_n 0, 1) := by decide +kernel
theorem dX8_count_84 : decode cX8_count 84 = .ok (.getfield 177, 3) := by decide +kernel
theorem dX8_count_87 : decode cX8_count 87 = .ok (.ireturn, 1) := by decide +kernel
theorem dX8_count_88 : decode cX8_count 88 = .ok (.aload_n 0, 1) := by decide +kernel
theorem dX8_count_89 : decode cX8_count 89 = .ok (.getfield 7, 3) := by decide +kernel
theorem dX8_count_92 : decode cX8_count 92 = .ok (.iconst 1, 1) := by decide +kernel
theorem dX8_count_93 : decode cX8_count 93 = .ok (.iaload, 1) := by decide +kernel
theorem dX8_count_94 : decode cX8_count 94 = .ok (.ireturn, 1) := by decide +kernel
theorem dX8_count_95 : decode cX8_count 95 = .ok (.aload_n 0, 1) := by decide +kernel
theorem dX8_count_96 : decode cX8_count 96 = .ok (.getfield 7, 3) := by decide +kernel
theorem dX8_count_99 : decode cX8_count 99 = .ok (.iconst 2, 1) := by decide +kernel
theorem dX8_count_100 : decode cX8_count 100 = .ok (.iaload, 1) := by decide +kernel
theorem dX8_count_101 : decode cX8_count 101 = .ok (.ireturn, 1) := by decide +kernel
theorem dX8_count_102 : decode cX8_count 102 = .ok (.aload_n 0, 1) := by decide +kernel
theorem dX8_count_103 : decode cX8_count 103 = .ok (.getfield 7, 3) := by decide +kernel
theorem dX8_count_106 : decode cX8_count 106 = .ok (.iconst 3, 1) := by decide +kernel
theorem dX8_count_107 : decode cX8_count 107 = .ok (.iaload, 1) := by decide +kernel
theorem dX8_count_108 : decode cX8_count 108 = .ok (.ireturn, 1) := by decide +kernel
theorem dX8_count_109 : decode cX8_count 109 = .ok (.aload_n 0, 1) := by decide +kernel
theorem dX8_count_110 : decode cX8_count 110 = .ok (.getfield 77, 3) := by decide +kernel
theorem dX8_count_113 : decode cX8_count 113 = .ok (.ireturn, 1) := by decide +kernel
theorem dX8_count_114 : decode cX8_count 114 = .ok (.aload_n 0, 1) := by decide +kernel
theorem dX8_count_115 : decode cX8_count 115 = .ok (.getfield 245, 3) := by decide +kernel
theorem dX8_count_118 : decode cX8_count 118 = .ok (.ireturn, 1) := by decide +kernel
theorem dX8_count_119 : decode cX8_count 119 = .ok (.aload_n 0, 1) := by decide +kernel
theorem dX8_count_120 : decode cX8_count 120 = .ok (.invokevirtual 248, 3) := by decide +kernel
theorem dX8_count_123 : decode cX8_count 123 = .ok (.ireturn, 1) := by decide +kernel
theorem dX8_count_124 : decode cX8_count 124 = .ok (.ldc 192, 2) := by decide +kernel
theorem dX8_count_126 : decode cX8_count 126 = .ok (.ireturn, 1) := by decide +kernel
theorem dX8_type_0 : decode cX8_type 0 = .ok (.iload_n 1, 1) := by decide +kernel
theorem dX8_type_1 : decode cX8_type 1 = .ok (.bipush 32, 2) := by decide +kernel
theorem dX8_type_3 : decode cX8_type 3 = .ok (.bipush 126, 2) := by decide +kernel
theorem dX8_type_5 : decode cX8_type 5 = .ok (.invokestatic 180, 3) := by decide +kernel
theorem dX8_type_8 : decode cX8_type 8 = .ok (.ifCond .ne 6, 3) := by decide +kernel
theorem dX8_type_11 : decode cX8_type 11 = .ok (.ldc 192, 2) := by decide +kernel
theorem dX8_type_13 : decode cX8_type 13 = .ok (.ireturn, 1) := by decide +kernel
theorem dX8_type_14 : decode cX8_type 14 = .ok (.aload_n 0, 1) := by decide +kernel
theorem dX8_type_15 : decode cX8_type 15 = .ok (.getfield 245, 3) := by decide +kernel
theorem dX8_type_18 : decode cX8_type 18 = .ok (.bipush 60, 2) := by decide +kernel
theorem dX8_type_20 : decode cX8_type 20 = .ok (.if_icmp .ne 6, 3) := by decide +kernel
theorem dX8_type_23 : decode cX8_type 23 = .ok (.ldc 251, 2) := by decide +kernel
theorem dX8_type_25 : decode cX8_type 25 = .ok (.ireturn, 1) := by decide +kernel
theorem dX8_type_26 : decode cX8_type 26 = .ok (.aload_n 0, 1) := by decide +kernel
theorem dX8_type_27 : decode cX8_type 27 = .ok (.getfield 19, 3) := by decide +kernel
theorem dX8_type_30 : decode cX8_type 30 = .ok (.aload_n 0, 1) := by decide +kernel
theorem dX8_type_31 : decode cX8_type 31 = .ok (.getfield 245, 3) := by decide +kernel
theorem dX8_type_34 : decode cX8_type 34 = .ok (.iload_n 1, 1) := by decide +kernel
theorem dX8_type_35 : decode cX8_type 35 = .ok (.iastore, 1) := by decide +kernel
theorem dX8_type_36 : decode cX8_type 36 = .ok (.aload_n 0, 1) := by decide +kernel
theorem dX8_type_37 : decode cX8_type 37 = .ok (.dup, 1) := by decide +kernel
theorem dX8_type_38 : decode cX8_type 38 = .ok (.getfield 245, 3) := by decide +kernel
theorem dX8_type_41 : decode cX8_type 41 = .ok (.iconst 1, 1) := by decide +kernel
theorem dX8_type_42 : decode cX8_type 42 = .ok (.iadd, 1) := by decide +kernel
theorem dX8_type_43 : decode cX8_type 43 = .ok (.putfield 245, 3) := by decide +kernel
theorem dX8_type_46 : decode cX8_type 46 = .ok (.aload_n 0, 1) := by decide +kernel
theorem dX8_type_47 : decode cX8_type 47 = .ok (.getfield 245, 3) := by decide +kernel
theorem dX8_type_50 : decode cX8_type 50 = .ok (.ireturn, 1) := by decide +kernel
theorem dX8_clearText_0 : decode cX8_clearText 0 = .ok (.aload_n 0, 1) := by decide +kernel
theorem dX8_clearText_1 : decode cX8_clearText 1 = .ok (.getfield 245, 3) := by decide +kernel
theorem dX8_clearText_4 : decode cX8_clearText 4 = .ok (.istore_n 1, 1) := by decide +kernel
theorem dX8_clearText_5 : decode cX8_clearText 5 = .ok (.aload_n 0, 1) := by decide +kernel
theorem dX8_clearText_6 : decode cX8_clearText 6 = .ok (.iconst 0, 1) := by decide +kernel
theorem dX8_clearText_7 : decode cX8_clearText 7 = .ok (.putfield 245, 3) := by decide +kernel
theorem dX8_clearText_10 : decode cX8_clearText 10 = .ok (.iload_n 1, 1) := by decide +kernel
theorem dX8_clearText_11 : decode cX8_clearText 11 = .ok (.ireturn, 1) := by decide +kernel
theorem dX8_here_0 : decode cX8_here 0 = .ok (.aload_n 0, 1) := by decide +kernel
theorem dX8_here_1 : decode cX8_here 1 = .ok (.getfield 252, 3) := by decide +kernel
theorem dX8_here_4 : decode cX8_here 4 = .ok (.aload_n 0, 1) := by decide +kernel
theorem dX8_here_5 : decode cX8_here 5 = .ok (.getfield 245, 3) := by decide +kernel
theorem dX8_here_8 : decode cX8_here 8 = .ok (.if_icmp .ge 15, 3) := by decide +kernel
theorem dX8_here_11 : decode cX8_here 11 = .ok (.aload_n 0, 1) := by decide +kernel
theorem dX8_here_12 : decode cX8_here 12 = .ok (.getfield 19, 3) := by decide +kernel
theorem dX8_here_15 : decode cX8_here 15 = .ok (.aload_n 0, 1) := by decide +kernel
theorem dX8_here_16 : decode cX8_here 16 = .ok (.getfield 252, 3) := by decide +kernel
theorem dX8_here_19 : decode cX8_here 19 = .ok (.iaload, 1) := by decide +kernel
theorem dX8_here_20 : decode cX8_here 20 = .ok (.goto 4, 3) := by decide +kernel
theorem dX8_here_23 : decode cX8_here 23 = .ok (.iconst 0, 1) := by decide +kernel
theorem dX8_here_24 : decode cX8_here 24 = .ok (.ireturn, 1) := by decide +kernel
theorem dX8_reads_0 : decode cX8_reads 0 = .ok (.iconst 0, 1) := by decide +kernel
theorem dX8_reads_1 : decode cX8_reads 1 = .ok (.istore_n 2, 1) := by decide +kernel
theorem dX8_reads_2 : decode cX8_reads 2 = .ok (.iload_n 2, 1) := by decide +kernel
theorem dX8_reads_3 : decode cX8_reads 3 = .ok (.iload_n 1, 1) := by decide +kernel
theorem dX8_reads_4 : decode cX8_reads 4 = .ok (.if_icmp .ge 128, 3) := by decide +kernel
theorem dX8_reads_7 : decode cX8_reads 7 = .ok (.aload_n 0, 1) := by decide +kernel
theorem dX8_reads_8 : decode cX8_reads 8 = .ok (.invokevirtual 255, 3) := by decide +kernel
theorem dX8_reads_11 : decode cX8_reads 11 = .ok (.bipush 48, 2) := by decide +kernel
theorem dX8_reads_13 : decode cX8_reads 13 = .ok (.bipush 57, 2) := by decide +kernel
theorem dX8_reads_15 : decode cX8_reads 15 = .ok (.invokestatic 180, 3) := by decide +kernel
theorem dX8_reads_18 : decode cX8_reads 18 = .ok (.ifCond .ne 5, 3) := by decide +kernel
theorem dX8_reads_21 : decode cX8_reads 21 = .ok (.iconst 0, 1) := by decide +kernel
theorem dX8_reads_22 : decode cX8_reads 22 = .ok (.ireturn, 1) := by decide +kernel
theorem dX8_reads_23 : decode cX8_reads 23 = .ok (.aload_n 0, 1) := by decide +kernel
theorem dX8_reads_24 : decode cX8_reads 24 = .ok (.getfield 70, 3) := by decide +kernel
theorem dX8_reads_27 : decode cX8_reads 27 = .ok (.iload_n 2, 1) := by decide +kernel
theorem dX8_reads_28 : decode cX8_reads 28 = .ok (.aload_n 0, 1) := by decide +kernel
theorem dX8_reads_29 : decode cX8_reads 29 = .ok (.invokevirtual 255, 3) := by decide +kernel
theorem dX8_reads_32 : decode cX8_reads 32 = .ok (.bipush 48, 2) := by decide +kernel
theorem dX8_reads_34 : decode cX8_reads 34 = .ok (.isub, 1) := by decide +kernel
theorem dX8_reads_35 : decode cX8_reads 35 = .ok (.iastore, 1) := by decide +kernel
theorem dX8_reads_36 : decode cX8_reads 36 = .ok (.aload_n 0, 1) := by decide +kernel
theorem dX8_reads_37 : decode cX8_reads 37 = .ok (.dup, 1) := by decide +kernel
theorem dX8_reads_38 : decode cX8_reads 38 = .ok (.getfield 252, 3) := by decide +kernel
theorem dX8_reads_41 : decode cX8_reads 41 = .ok (.iconst 1, 1) := by decide +kernel
theorem dX8_reads_42 : decode cX8_reads 42 = .ok (.iadd, 1) := by decide +kernel
theorem dX8_reads_43 : decode cX8_reads 43 = .ok (.putfield 252, 3) := by decide +kernel
theorem dX8_reads_46 : decode cX8_reads 46 = .ok (.aload_n 0, 1) := by decide +kernel
theorem dX8_reads_47 : decode cX8_reads 47 = .ok (.invokevirtual 255, 3) := by decide +kernel
theorem dX8_reads_50 : decode cX8_reads 50 = .ok (.bipush 48, 2) := by decide +kernel
theorem dX8_reads_52 : decode cX8_reads 52 = .ok (.bipush 57, 2) := by decide +kernel
theorem dX8_reads_54 : decode cX8_reads 54 = .ok (.invokestatic 180, 3) := by decide +kernel
theorem dX8_reads_57 : decode cX8_reads 57 = .ok (.ifCond .eq 36, 3) := by decide +kernel
theorem dX8_reads_60 : decode cX8_reads 60 = .ok (.aload_n 0, 1) := by decide +kernel
theorem dX8_reads_61 : decode cX8_reads 61 = .ok (.getfield 70, 3) := by decide +kernel
theorem dX8_reads_64 : decode cX8_reads 64 = .ok (.iload_n 2, 1) := by decide +kernel
theorem dX8_reads_65 : decode cX8_reads 65 = .ok (.bipush 10, 2) := by decide +kernel
theorem dX8_reads_67 : decode cX8_reads 67 = .ok (.aload_n 0, 1) := by decide +kernel
theorem dX8_reads_68 : decode cX8_reads 68 = .ok (.getfield 70, 3) := by decide +kernel
theorem dX8_reads_71 : decode cX8_reads 71 = .ok (.iload_n 2, 1) := by decide +kernel
theorem dX8_reads_72 : decode cX8_reads 72 = .ok (.iaload, 1) := by decide +kernel
theorem dX8_reads_73 : decode cX8_reads 73 = .ok (.imul, 1) := by decide +kernel
theorem dX8_reads_74 : decode cX8_reads 74 = .ok (.aload_n 0, 1) := by decide +kernel
theorem dX8_reads_75 : decode cX8_reads 75 = .ok (.invokevirtual 255, 3) := by decide +kernel
theorem dX8_reads_78 : decode cX8_reads 78 = .ok (.iadd, 1) := by decide +kernel
theorem dX8_reads_79 : decode cX8_reads 79 = .ok (.bipush 48, 2) := by decide +kernel
theorem dX8_reads_81 : decode cX8_reads 81 = .ok (.isub, 1) := by decide +kernel
theorem dX8_reads_82 : decode cX8_reads 82 = .ok (.iastore, 1) := by decide +kernel
theorem dX8_reads_83 : decode cX8_reads 83 = .ok (.aload_n 0, 1) := by decide +kernel
theorem dX8_reads_84 : decode cX8_reads 84 = .ok (.dup, 1) := by decide +kernel
theorem dX8_reads_85 : decode cX8_reads 85 = .ok (.getfield 252, 3) := by decide +kernel
theorem dX8_reads_88 : decode cX8_reads 88 = .ok (.iconst 1, 1) := by decide +kernel
theorem dX8_reads_89 : decode cX8_reads 89 = .ok (.iadd, 1) := by decide +kernel
theorem dX8_reads_90 : decode cX8_reads 90 = .ok (.putfield 252, 3) := by decide +kernel
theorem dX8_reads_93 : decode cX8_reads 93 = .ok (.aload_n 0, 1) := by decide +kernel
theorem dX8_reads_94 : decode cX8_reads 94 = .ok (.invokevirtual 255, 3) := by decide +kernel
theorem dX8_reads_97 : decode cX8_reads 97 = .ok (.iload_n 2, 1) := by decide +kernel
theorem dX8_reads_98 : decode cX8_reads 98 = .ok (.iload_n 1, 1) := by decide +kernel
theorem dX8_reads_99 : decode cX8_reads 99 = .ok (.iconst 1, 1) := by decide +kernel
theorem dX8_reads_100 : decode cX8_reads 100 = .ok (.isub, 1) := by decide +kernel
theorem dX8_reads_101 : decode cX8_reads 101 = .ok (.if_icmp .ne 8, 3) := by decide +kernel
theorem dX8_reads_104 : decode cX8_reads 104 = .ok (.bipush 59, 2) := by decide +kernel
theorem dX8_reads_106 : decode cX8_reads 106 = .ok (.goto 5, 3) := by decide +kernel
theorem dX8_reads_109 : decode cX8_reads 109 = .ok (.bipush 44, 2) := by decide +kernel
theorem dX8_reads_111 : decode cX8_reads 111 = .ok (.if_icmp .eq 5, 3) := by decide +kernel
theorem dX8_reads_114 : decode cX8_reads 114 = .ok (.iconst 0, 1) := by decide +kernel
theorem dX8_reads_115 : decode cX8_reads 115 = .ok (.ireturn, 1) := by decide +kernel
theorem dX8_reads_116 : decode cX8_reads 116 = .ok (.aload_n 0, 1) := by decide +kernel
theorem dX8_reads_117 : decode cX8_reads 117 = .ok (.dup, 1) := by decide +kernel
theorem dX8_reads_118 : decode cX8_reads 118 = .ok (.getfield 252, 3) := by decide +kernel
theorem dX8_reads_121 : decode cX8_reads 121 = .ok (.iconst 1, 1) := by decide +kernel
theorem dX8_reads_122 : decode cX8_reads 122 = .ok (.iadd, 1) := by decide +kernel
theorem dX8_reads_123 : decode cX8_reads 123 = .ok (.putfield 252, 3) := by decide +kernel
theorem dX8_reads_126 : decode cX8_reads 126 = .ok (.iinc 2 1, 3) := by decide +kernel
theorem dX8_reads_129 : decode cX8_reads 129 = .ok (.goto (-127), 3) := by decide +kernel
theorem dX8_reads_132 : decode cX8_reads 132 = .ok (.iconst 1, 1) := by decide +kernel
theorem dX8_reads_133 : decode cX8_reads 133 = .ok (.ireturn, 1) := by decide +kernel
theorem dX8_wrong_0 : decode cX8_wrong 0 = .ok (.aload_n 0, 1) := by decide +kernel
theorem dX8_wrong_1 : decode cX8_wrong 1 = .ok (.getfield 258, 3) := by decide +kernel
theorem dX8_wrong_4 : decode cX8_wrong 4 = .ok (.ifCond .ne 13, 3) := by decide +kernel
theorem dX8_wrong_7 : decode cX8_wrong 7 = .ok (.aload_n 0, 1) := by decide +kernel
theorem dX8_wrong_8 : decode cX8_wrong 8 = .ok (.iload_n 1, 1) := by decide +kernel
theorem dX8_wrong_9 : decode cX8_wrong 9 = .ok (.putfield 258, 3) := by decide +kernel
theorem dX8_wrong_12 : decode cX8_wrong 12 = .ok (.aload_n 0, 1) := by decide +kernel
theorem dX8_wrong_13 : decode cX8_wrong 13 = .ok (.iload_n 2, 1) := by decide +kernel
theorem dX8_wrong_14 : decode cX8_wrong 14 = .ok (.putfield 261, 3) := by decide +kernel
theorem dX8_wrong_17 : decode cX8_wrong 17 = .ok (.return_, 1) := by decide +kernel
theorem dX8_order_0 : decode cX8_order 0 = .ok (.aload_n 0, 1) := by decide +kernel
theorem dX8_order_1 : decode cX8_order 1 = .ok (.aload_n 0, 1) := by decide +kernel
theorem dX8_order_2 : decode cX8_order 2 = .ok (.getfield 252, 3) := by decide +kernel
theorem dX8_order_5 : decode cX8_order 5 = .ok (.putfield 264, 3) := by decide +kernel
theorem dX8_order_8 : decode cX8_order 8 = .ok (.aload_n 0, 1) := by decide +kernel
theorem dX8_order_9 : decode cX8_order 9 = .ok (.invokevirtual 255, 3) := by decide +kernel
theorem dX8_order_12 : decode cX8_order 12 = .ok (.istore_n 1, 1) := by decide +kernel
theorem dX8_order_13 : decode cX8_order 13 = .ok (.iload_n 1, 1) := by decide +kernel
theorem dX8_order_14 : decode cX8_order 14 = .ok (.bipush 43, 2) := by decide +kernel
theorem dX8_order_16 : decode cX8_order 16 = .ok (.if_icmp .ne 7, 3) := by decide +kernel
theorem dX8_order_19 : decode cX8_order 19 = .ok (.iconst 1, 1) := by decide +kernel
theorem dX8_order_20 : decode cX8_order 20 = .ok (.goto 4, 3) := by decide +kernel
theorem dX8_order_23 : decode cX8_order 23 = .ok (.iconst 0, 1) := by decide +kernel
theorem dX8_order_24 : decode cX8_order 24 = .ok (.istore_n 2, 1) := by decide +kernel
theorem dX8_order_25 : decode cX8_order 25 = .ok (.iload_n 2, 1) := by decide +kernel
theorem dX8_order_26 : decode cX8_order 26 = .ok (.ifCond .ne 16, 3) := by decide +kernel
theorem dX8_order_29 : decode cX8_order 29 = .ok (.iload_n 1, 1) := by decide +kernel
theorem dX8_order_30 : decode cX8_order 30 = .ok (.bipush 45, 2) := by decide +kernel
theorem dX8_order_32 : decode cX8_order 32 = .ok (.if_icmp .eq 10, 3) := by decide +kernel
theorem dX8_order_35 : decode cX8_order 35 = .ok (.aload_n 0, 1) := by decide +kernel
theorem dX8_order_36 : decode cX8_order 36 = .ok (.iconst 1, 1) := by decide +kernel
theorem dX8_order_37 : decode cX8_order 37 = .ok (.iconst 0, 1) := by decide +kernel
theorem dX8_order_38 : decode cX8_order 38 = .ok (.invokevirtual 267, 3) := by decide +kernel
theorem dX8_order_41 : decode cX8_order 41 = .ok (.return_, 1) := by decide +kernel
theorem dX8_order_42 : decode cX8_order 42 = .ok (.aload_n 0, 1) := by decide +kernel
theorem dX8_order_43 : decode cX8_order 43 = .ok (.dup, 1) := by decide +kernel
theorem dX8_order_44 : decode cX8_order 44 = .ok (.getfield 252, 3) := by decide +kernel
theorem dX8_order_47 : decode cX8_order 47 = .ok (.iconst 1, 1) := by decide +kernel
theorem dX8_order_48 : decode cX8_order 48 = .ok (.iadd, 1) := by decide +kernel
theorem dX8_order_49 : decode cX8_order 49 = .ok (.putfield 252, 3) := by decide +kernel
theorem dX8_order_52 : decode cX8_order 52 = .ok (.aload_n 0, 1) := by decide +kernel
theorem dX8_order_53 : decode cX8_order 53 = .ok (.iload_n 2, 1) := by decide +kernel
theorem dX8_order_54 : decode cX8_order 54 = .ok (.ifCond .eq 7, 3) := by decide +kernel
theorem dX8_order_57 : decode cX8_order 57 = .ok (.iconst 5, 1) := by decide +kernel
theorem dX8_order_58 : decode cX8_order 58 = .ok (.goto 4, 3) := by decide +kernel
theorem dX8_order_61 : decode cX8_order 61 = .ok (.iconst 1, 1) := by decide +kernel
theorem dX8_order_62 : decode cX8_order 62 = .ok (.invokevirtual 270, 3) := by decide +kernel
theorem dX8_order_65 : decode cX8_order 65 = .ok (.ifCond .ne 18, 3) := by decide +kernel
theorem dX8_order_68 : decode cX8_order 68 = .ok (.aload_n 0, 1) := by decide +kernel
theorem dX8_order_69 : decode cX8_order 69 = .ok (.iconst 1, 1) := by decide +kernel
theorem dX8_order_70 : decode cX8_order 70 = .ok (.aload_n 0, 1) := by decide +kernel
theorem dX8_order_71 : decode cX8_order 71 = .ok (.getfield 252, 3) := by decide +kernel
theorem dX8_order_74 : decode cX8_order 74 = .ok (.aload_n 0, 1) := by decide +kernel
theorem dX8_order_75 : decode cX8_order 75 = .ok (.getfield 264, 3) := by decide +kernel
theorem dX8_order_78 : decode cX8_order 78 = .ok (.isub, 1) := by decide +kernel
theorem dX8_order_79 : decode cX8_order 79 = .ok (.invokevirtual 267, 3) := by decide +kernel
theorem dX8_order_82 : decode cX8_order 82 = .ok (.return_, 1) := by decide +kernel
theorem dX8_order_83 : decode cX8_order 83 = .ok (.aload_n 0, 1) := by decide +kernel
theorem dX8_order_84 : decode cX8_order 84 = .ok (.getfield 70, 3) := by decide +kernel
theorem dX8_order_87 : decode cX8_order 87 = .ok (.iconst 0, 1) := by decide +kernel
theorem dX8_order_88 : decode cX8_order 88 = .ok (.iaload, 1) := by decide +kernel
theorem dX8_order_89 : decode cX8_order 89 = .ok (.bipush 31, 2) := by decide +kernel
theorem dX8_order_91 : decode cX8_order 91 = .ok (.if_icmp .lt 9, 3) := by decide +kernel
theorem dX8_order_94 : decode cX8_order 94 = .ok (.aload_n 0, 1) := by decide +kernel
theorem dX8_order_95 : decode cX8_order 95 = .ok (.iconst 2, 1) := by decide +kernel
theorem dX8_order_96 : decode cX8_order 96 = .ok (.iconst 0, 1) := by decide +kernel
theorem dX8_order_97 : decode cX8_order 97 = .ok (.invokevirtual 267, 3) := by decide +kernel
theorem dX8_order_100 : decode cX8_order 100 = .ok (.iconst 1, 1) := by decide +kernel
theorem dX8_order_101 : decode cX8_order 101 = .ok (.istore_n 3, 1) := by decide +kernel
theorem dX8_order_102 : decode cX8_order 102 = .ok (.iload_n 3, 1) := by decide +kernel
theorem dX8_order_103 : decode cX8_order 103 = .ok (.iconst 3, 1) := by decide +kernel
theorem dX8_order_104 : decode cX8_order 104 = .ok (.if_icmp .ge 36, 3) := by decide +kernel
theorem dX8_order_107 : decode cX8_order 107 = .ok (.iload_n 2, 1) := by decide +kernel
theorem dX8_order_108 : decode cX8_order 108 = .ok (.ifCond .eq 32, 3) := by decide +kernel
theorem dX8_order_111 : decode cX8_order 111 = .ok (.aload_n 0, 1) := by decide +kernel
theorem dX8_order_112 : decode cX8_order 112 = .ok (.getfield 70, 3) := by decide +kernel
theorem dX8_order_115 : decode cX8_order 115 = .ok (.iload_n 3, 1) := by decide +kernel
theorem dX8_order_116 : decode cX8_order 116 = .ok (.iaload, 1) := by decide +kernel
theorem dX8_order_117 : decode cX8_order 117 = .ok (.aload_n 0, 1) := by decide +kernel
theorem dX8_order_118 : decode cX8_order 118 = .ok (.getfield 70, 3) := by decide +kernel
theorem dX8_order_121 : decode cX8_order 121 = .ok (.iload_n 3, 1) := by decide +kernel
theorem dX8_order_122 : decode cX8_order 122 = .ok (.iconst 2, 1) := by decide +kernel
theorem dX8_order_123 : decode cX8_order 123 = .ok (.iadd, 1) := by decide +kernel
theorem dX8_order_124 : decode cX8_order 124 = .ok (.iaload, 1) := by decide +kernel
theorem dX8_order_125 : decode cX8_order 125 = .ok (.if_icmp .le 9, 3) := by decide +kernel
theorem dX8_order_128 : decode cX8_order 128 = .ok (.aload_n 0, 1) := by decide +kernel
theorem dX8_order_129 : decode cX8_order 129 = .ok (.iconst 2, 1) := by decide +kernel
theorem dX8_order_130 : decode cX8_order 130 = .ok (.iload_n 3, 1) := by decide +kernel
theorem dX8_order_131 : decode cX8_order 131 = .ok (.invokevirtual 267, 3) := by decide +kernel
theorem dX8_order_134 : decode cX8_order 134 = .ok (.iinc 3 1, 3) := by decide +kernel
theorem dX8_order_137 : decode cX8_order 137 = .ok (.goto (-35), 3) := by decide +kernel
theorem dX8_order_140 : decode cX8_order 140 = .ok (.aload_n 0, 1) := by decide +kernel
theorem dX8_order_141 : decode cX8_order 141 = .ok (.getfield 258, 3) := by decide +kernel
theorem dX8_order_144 : decode cX8_order 144 = .ok (.ifCond .ne 24, 3) := by decide +kernel
theorem dX8_order_147 : decode cX8_order 147 = .ok (.aload_n 0, 1) := by decide +kernel
theorem dX8_order_148 : decode cX8_order 148 = .ok (.aload_n 0, 1) := by decide +kernel
theorem dX8_order_149 : decode cX8_order 149 = .ok (.getfield 70, 3) := by decide +kernel
theorem dX8_order_152 : decode cX8_order 152 = .ok (.iconst 0, 1) := by decide +kernel
theorem dX8_order_153 : decode cX8_order 153 = .ok (.iaload, 1) := by decide +kernel
theorem dX8_order_154 : decode cX8_order 154 = .ok (.invokevirtual 193, 3) := by decide +kernel
theorem dX8_order_157 : decode cX8_order 157 = .ok (.iload_n 2, 1) := by decide +kernel
theorem dX8_order_158 : decode cX8_order 158 = .ok (.if_icmp .ne 10, 3) := by decide +kernel
theorem dX8_order_161 : decode cX8_order 161 = .ok (.aload_n 0, 1) := by decide +kernel
theorem dX8_order_162 : decode cX8_order 162 = .ok (.iconst 3, 1) := by decide +kernel
theorem dX8_order_163 : decode cX8_order 163 = .ok (.ldc 221, 2) := by decide +kernel
theorem dX8_order_165 : decode cX8_order 165 = .ok (.invokevirtual 267, 3) := by decide +kernel
theorem dX8_order_168 : decode cX8_order 168 = .ok (.aload_n 0, 1) := by decide +kernel
theorem dX8_order_169 : decode cX8_order 169 = .ok (.getfield 258, 3) := by decide +kernel
theorem dX8_order_172 : decode cX8_order 172 = .ok (.ifCond .ne 44, 3) := by decide +kernel
theorem dX8_order_175 : decode cX8_order 175 = .ok (.iload_n 2, 1) := by decide +kernel
theorem dX8_order_176 : decode cX8_order 176 = .ok (.ifCond .eq 40, 3) := by decide +kernel
theorem dX8_order_179 : decode cX8_order 179 = .ok (.aload_n 0, 1) := by decide +kernel
theorem dX8_order_180 : decode cX8_order 180 = .ok (.aload_n 0, 1) := by decide +kernel
theorem dX8_order_181 : decode cX8_order 181 = .ok (.getfield 70, 3) := by decide +kernel
theorem dX8_order_184 : decode cX8_order 184 = .ok (.iconst 0, 1) := by decide +kernel
theorem dX8_order_185 : decode cX8_order 185 = .ok (.iaload, 1) := by decide +kernel
theorem dX8_order_186 : decode cX8_order 186 = .ok (.aload_n 0, 1) := by decide +kernel
theorem dX8_order_187 : decode cX8_order 187 = .ok (.getfield 70, 3) := by decide +kernel
theorem dX8_order_190 : decode cX8_order 190 = .ok (.iconst 1, 1) := by decide +kernel
theorem dX8_order_191 : decode cX8_order 191 = .ok (.iaload, 1) := by decide +kernel
theorem dX8_order_192 : decode cX8_order 192 = .ok (.aload_n 0, 1) := by decide +kernel
theorem dX8_order_193 : decode cX8_order 193 = .ok (.getfield 70, 3) := by decide +kernel
theorem dX8_order_196 : decode cX8_order 196 = .ok (.iconst 2, 1) := by decide +kernel
theorem dX8_order_197 : decode cX8_order 197 = .ok (.iaload, 1) := by decide +kernel
theorem dX8_order_198 : decode cX8_order 198 = .ok (.aload_n 0, 1) := by decide +kernel
theorem dX8_order_199 : decode cX8_order 199 = .ok (.getfield 70, 3) := by decide +kernel
theorem dX8_order_202 : decode cX8_order 202 = .ok (.iconst 3, 1) := by decide +kernel
theorem dX8_order_203 : decode cX8_order 203 = .ok (.iaload, 1) := by decide +kernel
theorem dX8_order_204 : decode cX8_order 204 = .ok (.aload_n 0, 1) := by decide +kernel
theorem dX8_order_205 : decode cX8_order 205 = .ok (.getfield 70, 3) := by decide +kernel
theorem dX8_order_208 : decode cX8_order 208 = .ok (.iconst 4, 1) := by decide +kernel
theorem dX8_order_209 : decode cX8_order 209 = .ok (.iaload, 1) := by decide +kernel
theorem dX8_order_210 : decode cX8_order 210 = .ok (.invokevirtual 202, 3) := by decide +kernel
theorem dX8_order_213 : decode cX8_order 213 = .ok (.goto 20, 3) := by decide +kernel
theorem dX8_order_216 : decode cX8_order 216 = .ok (.aload_n 0, 1) := by decide +kernel
theorem dX8_order_217 : decode cX8_order 217 = .ok (.getfield 258, 3) := by decide +kernel
theorem dX8_order_220 : decode cX8_order 220 = .ok (.ifCond .ne 13, 3) := by decide +kernel
theorem dX8_order_223 : decode cX8_order 223 = .ok (.aload_n 0, 1) := by decide +kernel
theorem dX8_order_224 : decode cX8_order 224 = .ok (.aload_n 0, 1) := by decide +kernel
theorem dX8_order_225 : decode cX8_order 225 = .ok (.getfield 70, 3) := by decide +kernel
theorem dX8_order_228 : decode cX8_order 228 = .ok (.iconst 0, 1) := by decide +kernel
theorem dX8_order_229 : decode cX8_order 229 = .ok (.iaload, 1) := by decide +kernel
theorem dX8_order_230 : decode cX8_order 230 = .ok (.invokevirtual 212, 3) := by decide +kernel
theorem dX8_order_233 : decode cX8_order 233 = .ok (.return_, 1) := by decide +kernel
theorem dX8_tries_0 : decode cX8_tries 0 = .ok (.aload_n 0, 1) := by decide +kernel
theorem dX8_tries_1 : decode cX8_tries 1 = .ok (.iconst 0, 1) := by decide +kernel
theorem dX8_tries_2 : decode cX8_tries 2 = .ok (.putfield 252, 3) := by decide +kernel
theorem dX8_tries_5 : decode cX8_tries 5 = .ok (.aload_n 0, 1) := by decide +kernel
theorem dX8_tries_6 : decode cX8_tries 6 = .ok (.iconst 0, 1) := by decide +kernel
theorem dX8_tries_7 : decode cX8_tries 7 = .ok (.putfield 273, 3) := by decide +kernel
theorem dX8_tries_10 : decode cX8_tries 10 = .ok (.aload_n 0, 1) := by decide +kernel
theorem dX8_tries_11 : decode cX8_tries 11 = .ok (.iconst 0, 1) := by decide +kernel
theorem dX8_tries_12 : decode cX8_tries 12 = .ok (.putfield 258, 3) := by decide +kernel
theorem dX8_tries_15 : decode cX8_tries 15 = .ok (.aload_n 0, 1) := by decide +kernel
theorem dX8_tries_16 : decode cX8_tries 16 = .ok (.getfield 252, 3) := by decide +kernel
theorem dX8_tries_19 : decode cX8_tries 19 = .ok (.aload_n 0, 1) := by decide +kernel
theorem dX8_tries_20 : decode cX8_tries 20 = .ok (.getfield 245, 3) := by decide +kernel
theorem dX8_tries_23 : decode cX8_tries 23 = .ok (.if_icmp .ge 27, 3) := by decide +kernel
theorem dX8_tries_26 : decode cX8_tries 26 = .ok (.aload_n 0, 1) := by decide +kernel
theorem dX8_tries_27 : decode cX8_tries 27 = .ok (.getfield 258, 3) := by decide +kernel
theorem dX8_tries_30 : decode cX8_tries 30 = .ok (.ifCond .ne 20, 3) := by decide +kernel
theorem dX8_tries_33 : decode cX8_tries 33 = .ok (.aload_n 0, 1) := by decide +kernel
theorem dX8_tries_34 : decode cX8_tries 34 = .ok (.invokevirtual 276, 3) := by decide +kernel
theorem dX8_tries_37 : decode cX8_tries 37 = .ok (.aload_n 0, 1) := by decide +kernel
theorem dX8_tries_38 : decode cX8_tries 38 = .ok (.dup, 1) := by decide +kernel
theorem dX8_tries_39 : decode cX8_tries 39 = .ok (.getfield 273, 3) := by decide +kernel
theorem dX8_tries_42 : decode cX8_tries 42 = .ok (.iconst 1, 1) := by decide +kernel
theorem dX8_tries_43 : decode cX8_tries 43 = .ok (.iadd, 1) := by decide +kernel
theorem dX8_tries_44 : decode cX8_tries 44 = .ok (.putfield 273, 3) := by decide +kernel
theorem dX8_tries_47 : decode cX8_tries 47 = .ok (.goto (-32), 3) := by decide +kernel
theorem dX8_tries_50 : decode cX8_tries 50 = .ok (.return_, 1) := by decide +kernel
theorem dX8_fault_0 : decode cX8_fault 0 = .ok (.iload_n 1, 1) := by decide +kernel
theorem dX8_fault_1 : decode cX8_fault 1 = .ok (.iconst 0, 1) := by decide +kernel
theorem dX8_fault_2 : decode cX8_fault 2 = .ok (.iconst 2, 1) := by decide +kernel
theorem dX8_fault_3 : decode cX8_fault 3 = .ok (.invokestatic 180, 3) := by decide +kernel
theorem dX8_fault_6 : decode cX8_fault 6 = .ok (.ifCond .ne 6, 3) := by decide +kernel
theorem dX8_fault_9 : decode cX8_fault 9 = .ok (.ldc 192, 2) := by decide +kernel
theorem dX8_fault_11 : decode cX8_fault 11 = .ok (.ireturn, 1) := by decide +kernel
theorem dX8_fault_12 : decode cX8_fault 12 = .ok (.aload_n 0, 1) := by decide +kernel
theorem dX8_fault_13 : decode cX8_fault 13 = .ok (.invokevirtual 196, 3) := by decide +kernel
theorem dX8_fault_16 : decode cX8_fault 16 = .ok (.aload_n 0, 1) := by decide +kernel
theorem dX8_fault_17 : decode cX8_fault 17 = .ok (.invokevirtual 279, 3) := by decide +kernel
theorem dX8_fault_20 : decode cX8_fault 20 = .ok (.aload_n 0, 1) := by decide +kernel
theorem dX8_fault_21 : decode cX8_fault 21 = .ok (.invokevirtual 236, 3) := by decide +kernel
theorem dX8_fault_24 : decode cX8_fault 24 = .ok (.aload_n 0, 1) := by decide +kernel
theorem dX8_fault_25 : decode cX8_fault 25 = .ok (.getfield 258, 3) := by decide +kernel
theorem dX8_fault_28 : decode cX8_fault 28 = .ok (.ifCond .ne 8, 3) := by decide +kernel
theorem dX8_fault_31 : decode cX8_fault 31 = .ok (.ldc 221, 2) := by decide +kernel
theorem dX8_fault_33 : decode cX8_fault 33 = .ok (.goto 30, 3) := by decide +kernel
theorem dX8_fault_36 : decode cX8_fault 36 = .ok (.iload_n 1, 1) := by decide +kernel
theorem dX8_fault_37 : decode cX8_fault 37 = .ok (.ifCond .ne 10, 3) := by decide +kernel
theorem dX8_fault_40 : decode cX8_fault 40 = .ok (.aload_n 0, 1) := by decide +kernel
theorem dX8_fault_41 : decode cX8_fault 41 = .ok (.getfield 264, 3) := by decide +kernel
theorem dX8_fault_44 : decode cX8_fault 44 = .ok (.goto 19, 3) := by decide +kernel
theorem dX8_fault_47 : decode cX8_fault 47 = .ok (.iload_n 1, 1) := by decide +kernel
theorem dX8_fault_48 : decode cX8_fault 48 = .ok (.iconst 1, 1) := by decide +kernel
theorem dX8_fault_49 : decode cX8_fault 49 = .ok (.if_icmp .ne 10, 3) := by decide +kernel
theorem dX8_fault_52 : decode cX8_fault 52 = .ok (.aload_n 0, 1) := by decide +kernel
theorem dX8_fault_53 : decode cX8_fault 53 = .ok (.getfield 258, 3) := by decide +kernel
theorem dX8_fault_56 : decode cX8_fault 56 = .ok (.goto 7, 3) := by decide +kernel
theorem dX8_fault_59 : decode cX8_fault 59 = .ok (.aload_n 0, 1) := by decide +kernel
theorem dX8_fault_60 : decode cX8_fault 60 = .ok (.getfield 261, 3) := by decide +kernel
theorem dX8_fault_63 : decode cX8_fault 63 = .ok (.ireturn, 1) := by decide +kernel
theorem dX8_play_0 : decode cX8_play 0 = .ok (.aload_n 0, 1) := by decide +kernel
theorem dX8_play_1 : decode cX8_play 1 = .ok (.invokevirtual 196, 3) := by decide +kernel
theorem dX8_play_4 : decode cX8_play 4 = .ok (.aload_n 0, 1) := by decide +kernel
theorem dX8_play_5 : decode cX8_play 5 = .ok (.invokevirtual 279, 3) := by decide +kernel
theorem dX8_play_8 : decode cX8_play 8 = .ok (.aload_n 0, 1) := by decide +kernel
theorem dX8_play_9 : decode cX8_play 9 = .ok (.getfield 258, 3) := by decide +kernel
theorem dX8_play_12 : decode cX8_play 12 = .ok (.ifCond .eq 10, 3) := by decide +kernel
theorem dX8_play_15 : decode cX8_play 15 = .ok (.aload_n 0, 1) := by decide +kernel
theorem dX8_play_16 : decode cX8_play 16 = .ok (.invokevirtual 236, 3) := by decide +kernel
theorem dX8_play_19 : decode cX8_play 19 = .ok (.ldc 80, 2) := by decide +kernel
theorem dX8_play_21 : decode cX8_play 21 = .ok (.ireturn, 1) := by decide +kernel
theorem dX8_play_22 : decode cX8_play 22 = .ok (.aload_n 0, 1) := by decide +kernel
theorem dX8_play_23 : decode cX8_play 23 = .ok (.invokevirtual 199, 3) := by decide +kernel
theorem dX8_play_26 : decode cX8_play 26 = .ok (.aload_n 0, 1) := by decide +kernel
theorem dX8_play_27 : decode cX8_play 27 = .ok (.getfield 273, 3) := by decide +kernel
theorem dX8_play_30 : decode cX8_play 30 = .ok (.ifCond .le 7, 3) := by decide +kernel
theorem dX8_play_33 : decode cX8_play 33 = .ok (.aload_n 0, 1) := by decide +kernel
theorem dX8_play_34 : decode cX8_play 34 = .ok (.invokevirtual 206, 3) := by decide +kernel
theorem dX8_play_37 : decode cX8_play 37 = .ok (.aload_n 0, 1) := by decide +kernel
theorem dX8_play_38 : decode cX8_play 38 = .ok (.getfield 273, 3) := by decide +kernel
theorem dX8_play_41 : decode cX8_play 41 = .ok (.ireturn, 1) := by decide +kernel
end
section
section JX1
/-! ===== numbers: an Int stands for the int that it wraps to ===== -/
def jx_i (a : Int) : Int32 := Int32.ofInt a
def jx_R (a : Int) : Prop := -2147483648 ≤ a ∧ a ≤ 2147483647
def jx_B (i : Int) (n : Nat) : Prop := 0 ≤ i ∧ i < (n : Int)
theorem jx_i_add (a b : Int) : jx_i a + jx_i b = jx_i (a + b) := (Int32.ofInt_add a b).symm
theorem jx_i_sub (a b : Int) : jx_i a - jx_i b = jx_i (a - b) := (Int32.ofInt_sub a b).symm
theorem jx_i_mul (a b : Int) : jx_i a * jx_i b = jx_i (a * b) := (Int32.ofInt_mul a b).symm
theorem jx_toInt {a : Int} (h : jx_R a) : (jx_i a).toInt = a := Int32.toInt_ofInt_of_le (by have := h.1; omega) (by have := h.2; omega)
theorem jx_ofToInt (x : Int32) : jx_i x.toInt = x := Int32.ofInt_toInt x
theorem jx_Rt (x : Int32) : jx_R x.toInt := ⟨by have := Int32.le_toInt x; omega, by have := Int32.toInt_lt x; omega⟩
theorem jx_lt {a b : Int} (ha : jx_R a) (hb : jx_R b) : jx_i a < jx_i b ↔ a < b := by rw [Int32.lt_iff_toInt_lt, jx_toInt ha, jx_toInt hb]
theorem jx_le {a b : Int} (ha : jx_R a) (hb : jx_R b) : jx_i a ≤ jx_i b ↔ a ≤ b := by rw [Int32.le_iff_toInt_le, jx_toInt ha, jx_toInt hb]
theorem jx_eq {a b : Int} (ha : jx_R a) (hb : jx_R b) : jx_i a = jx_i b ↔ a = b := by rw [← Int32.toInt_inj, jx_toInt ha, jx_toInt hb]
theorem jx_B.R {i : Int} {n : Nat} (h : jx_B i n) (hn : n ≤ 2147483647) : jx_R i := ⟨by have := h.1; omega, by have := h.2; omega⟩
theorem jx_B.vp {i : Int} {n : Nat} (h : jx_B i n) (hn : n ≤ 2147483647) : vp_in (jx_i i) n := vp_in_iff.mpr (by rw [jx_toInt (h.R hn)]; exact h)
theorem jx_nat {i : Int} (h : jx_R i) : (jx_i i).toNatClampNeg = i.toNat := by
  show (jx_i i).toInt.toNat = i.toNat
  rw [jx_toInt h]
def jx_and (a b : Int) : Int := (jx_i a &&& jx_i b).toInt
def jx_or (a b : Int) : Int := (jx_i a ||| jx_i b).toInt
def jx_xor (a b : Int) : Int := (jx_i a ^^^ jx_i b).toInt
def jx_shl (a b : Int) : Int := (jx_i a <<< (jx_i b &&& 31)).toInt
def jx_shr (a b : Int) : Int := (jx_i a >>> (jx_i b &&& 31)).toInt
def jx_div (a b : Int) : Int := (jx_i a / jx_i b).toInt
def jx_rem (a b : Int) : Int := (jx_i a - jx_i a / jx_i b * jx_i b).toInt
/-! ===== a component of the world: its cells, and what its numbers are ===== -/
abbrev jx_St : Type := Nat → Int → Int
def jx_su (σ : jx_St) (k : Nat) (i v : Int) : jx_St := fun k' i' => if k' = k ∧ i' = i then v else σ k' i'
abbrev jx_Sh : Type := (Nat × Nat) ⊕ ((Nat × List (Nat ⊕ Nat)) ⊕ List Nat)
abbrev jx_Cp : Type := List (Nat × jx_Sh) × jx_St
def jx_fv (σ : jx_St) : Nat ⊕ Nat → Value := fun f => match f with
  | .inl a => .ref a
  | .inr k => .int (jx_i (σ k 0))
def jx_ce (cI cT : ClassId) (σ : jx_St) : jx_Sh → va_E := fun sh => match sh with
  | .inl q => .inl (cI, q.2, .inl (fun j : Nat => jx_i (σ q.1 (j : Int))))
  | .inr (.inl o) => .inr (o.1, o.2.map (jx_fv σ))
  | .inr (.inr l) => .inl (cT, l.length, .inr (.inr (.inr (.inr (fun j => l[j]?)))))
def jx_w (cI cT : ClassId) (c : jx_Cp) : va_W := c.1.map (fun q => (q.1, jx_ce cI cT c.2 q.2))
def jx_ws (cI cT : ClassId) (cs : List jx_Cp) : va_W := cs.flatMap (jx_w cI cT)
def jx_ty (cI cT : ClassId) : List (ClassId × FieldType) := [(cI, .int), (cT, .object "BoxCourt$Tree")]
def jx_hask (k : Nat) : jx_Sh → Bool := fun sh => match sh with
  | .inl q => q.1 == k
  | .inr (.inl o) => o.2.any (fun f => match f with
    | .inl _ => false
    | .inr k' => k' == k)
  | .inr (.inr _) => false
def jx_sole (k : Nat) : Nat → List (Nat × jx_Sh) → Bool
  | _, [] => true
  | 0, _ :: cs => cs.all (fun c => !jx_hask k c.2)
  | q + 1, c :: cs => !jx_hask k c.2 && jx_sole k q cs
def jx_sof (k : Nat) : Nat → List (Nat ⊕ Nat) → Bool
  | _, [] => true
  | 0, _ :: cs => cs.all (fun f => match f with
    | .inl _ => true
    | .inr k' => !(k' == k))
  | q + 1, f :: cs => (match f with
    | .inl _ => true
    | .inr k' => !(k' == k)) && jx_sof k q cs
theorem jx_sole_spec {k : Nat} : ∀ {cells : List (Nat × jx_Sh)} {q j : Nat} {c : Nat × jx_Sh}, jx_sole k q cells = true → cells[j]? = some c → j ≠ q → jx_hask k c.2 = false := by
  intro cells
  induction cells with
  | nil => intro q j c _ h; simp at h
  | cons d ds ih =>
    intro q j c hs hj hn
    cases q with
    | zero =>
      cases j with
      | zero => exact absurd rfl hn
      | succ j =>
        have h1 := List.all_eq_true.mp hs c (List.mem_of_getElem? (show ds[j]? = some c from by simpa using hj))
        simpa using h1
    | succ q =>
      simp only [jx_sole, Bool.and_eq_true] at hs
      cases j with
      | zero =>
        have e : d = c := by simpa using hj
        subst e
        simpa using hs.1
      | succ j => exact ih hs.2 (show ds[j]? = some c from by simpa using hj) (fun e => hn (by rw [e]))
theorem jx_sof_spec {k : Nat} : ∀ {fs : List (Nat ⊕ Nat)} {q j : Nat} {f : Nat ⊕ Nat}, jx_sof k q fs = true → fs[j]? = some f → j ≠ q → f ≠ .inr k := by
  intro cells
  induction cells with
  | nil => intro q j c _ h; simp at h
  | cons d ds ih =>
    intro q j c hs hj hn
    cases q with
    | zero =>
      cases j with
      | zero => exact absurd rfl hn
      | succ j =>
        have h1 := List.all_eq_true.mp hs c (List.mem_of_getElem? (show ds[j]? = some c from by simpa using hj))
        intro e
        subst e
        simp at h1
    | succ q =>
      simp only [jx_sof, Bool.and_eq_true] at hs
      cases j with
      | zero =>
        have e : d = c := by simpa using hj
        subst e
        intro e
        subst e
        simp at hs
      | succ j => exact ih hs.2 (show ds[j]? = some c from by simpa using hj) (fun e => hn (by rw [e]))
theorem jx_su_ne {σ : jx_St} {k k' : Nat} {i i' v : Int} (h : k' ≠ k) : jx_su σ k i v k' i' = σ k' i' := by simp [jx_su, h]
theorem jx_su_eq {σ : jx_St} {k : Nat} {i v : Int} : jx_su σ k i v k i = v := by simp [jx_su]
theorem jx_su_same {σ : jx_St} {k : Nat} {i i' v : Int} : jx_su σ k i v k i' = if i' = i then v else σ k i' := by simp [jx_su]
theorem jx_fv_su {σ : jx_St} {k : Nat} {i v : Int} {f : Nat ⊕ Nat} (h : f ≠ .inr k) : jx_fv (jx_su σ k i v) f = jx_fv σ f := by
  cases f with
  | inl a => rfl
  | inr k' =>
    have hk : k' ≠ k := fun e => h (by rw [e])
    simp only [jx_fv, jx_su_ne hk]
theorem jx_ce_su {cI cT : ClassId} {σ : jx_St} {k : Nat} {i v : Int} {sh : jx_Sh} (h : jx_hask k sh = false) : jx_ce cI cT (jx_su σ k i v) sh = jx_ce cI cT σ sh := by
  rcases sh with ⟨k', n⟩ | ⟨ci, fs⟩ | l
  · have hk : k' ≠ k := by simpa [jx_hask] using h
    simp only [jx_ce, jx_su_ne hk]
  · simp only [jx_ce]
    have h2 : fs.map (jx_fv (jx_su σ k i v)) = fs.map (jx_fv σ) := by
      apply List.map_congr_left
      intro f hf
      apply jx_fv_su
      intro e
      subst e
      simp only [jx_hask, List.any_eq_false] at h
      have := h _ hf
      simp at this
    rw [h2]
  · rfl
theorem jx_ce_arr {cI cT : ClassId} {σ : jx_St} {k n : Nat} {i v : Int} (hi : 0 ≤ i) : jx_ce cI cT (jx_su σ k i v) (.inl (k, n)) = .inl (cI, n, .inl (upd (fun j : Nat => jx_i (σ k (j : Int))) i.toNat (jx_i v))) := by
  simp only [jx_ce]
  congr 3
  congr 1
  funext j
  simp only [upd, jx_su_same]
  by_cases hj : j = i.toNat
  · subst hj
    rw [if_pos rfl, if_pos (by omega)]
  · rw [if_neg hj, if_neg (by omega)]
theorem jx_fs_su {σ : jx_St} {k f : Nat} {v : Int} {fs : List (Nat ⊕ Nat)} (hf : fs[f]? = some (.inr k)) (hs : jx_sof k f fs = true) : fs.map (jx_fv (jx_su σ k 0 v)) = (fs.map (jx_fv σ)).set f (.int (jx_i v)) := by
  apply List.ext_getElem?
  intro j
  rw [List.getElem?_map, List.getElem?_set]
  by_cases hj : f = j
  · subst hj
    have hl : f < fs.length := (List.getElem?_eq_some_iff.mp hf).1
    rw [if_pos rfl, hf, if_pos (by rw [List.length_map]; exact hl)]
    simp only [Option.map_some, jx_fv, jx_su_eq]
  · rw [if_neg hj, List.getElem?_map]
    cases h : fs[j]? with
    | none => rfl
    | some g =>
      simp only [Option.map_some]
      rw [jx_fv_su (jx_sof_spec hs h (fun e => hj e.symm))]
theorem jx_w_get {cI cT : ClassId} {cells : List (Nat × jx_Sh)} {σ : jx_St} {q a : Nat} {sh : jx_Sh} (h : cells[q]? = some (a, sh)) : (jx_w cI cT (cells, σ))[q]? = some (a, jx_ce cI cT σ sh) := by
  simp only [jx_w, List.getElem?_map, h, Option.map_some]
theorem jx_w_su {cI cT : ClassId} {cells : List (Nat × jx_Sh)} {σ : jx_St} {q a k : Nat} {i v : Int} {sh : jx_Sh} (h : cells[q]? = some (a, sh)) (hs : jx_sole k q cells = true) : jx_w cI cT (cells, jx_su σ k i v) = (jx_w cI cT (cells, σ)).set q (a, jx_ce cI cT (jx_su σ k i v) sh) := by
  apply List.ext_getElem?
  intro j
  rw [List.getElem?_set]
  by_cases hj : q = j
  · subst hj
    have hl : q < cells.length := (List.getElem?_eq_some_iff.mp h).1
    rw [jx_w_get h, if_pos rfl, if_pos (by simp only [jx_w, List.length_map]; exact hl)]
  · rw [if_neg hj]
    simp only [jx_w, List.getElem?_map]
    cases hc : cells[j]? with
    | none => rfl
    | some d =>
      simp only [Option.map_some]
      rw [jx_ce_su (jx_sole_spec hs hc (fun e => hj e.symm))]
theorem jx_flat {cI cT : ClassId} : ∀ {cs : List jx_Cp} {i q : Nat} {c : jx_Cp} {x : Nat × va_E}, cs[i]? = some c → (jx_w cI cT c)[q]? = some x → ∃ k, (jx_ws cI cT cs)[k]? = some x ∧ ∀ x' c', jx_w cI cT c' = (jx_w cI cT c).set q x' → (jx_ws cI cT cs).set k x' = jx_ws cI cT (cs.set i c') := by
  intro cs
  induction cs with
  | nil => intro i q c x h; simp at h
  | cons d ds ih =>
    intro i q c x hc hx
    have hq : q < (jx_w cI cT c).length := (List.getElem?_eq_some_iff.mp hx).1
    cases i with
    | zero =>
      have e : d = c := by simpa using hc
      subst e
      refine ⟨q, ?_, ?_⟩
      · show (jx_w cI cT d ++ jx_ws cI cT ds)[q]? = some x
        rw [List.getElem?_append_left hq]
        exact hx
      · intro x' c' h'
        show (jx_w cI cT d ++ jx_ws cI cT ds).set q x' = jx_w cI cT c' ++ jx_ws cI cT ds
        rw [List.set_append_left _ _ hq, h']
    | succ i =>
      obtain ⟨k, h1, h2⟩ := ih (show ds[i]? = some c from by simpa using hc) hx
      refine ⟨(jx_w cI cT d).length + k, ?_, ?_⟩
      · show (jx_w cI cT d ++ jx_ws cI cT ds)[(jx_w cI cT d).length + k]? = some x
        rw [List.getElem?_append_right (by omega), Nat.add_sub_cancel_left]
        exact h1
      · intro x' c' h'
        show (jx_w cI cT d ++ jx_ws cI cT ds).set ((jx_w cI cT d).length + k) x' = jx_w cI cT d ++ jx_ws cI cT (ds.set i c')
        rw [List.set_append_right _ _ (by omega), Nat.add_sub_cancel_left, h2 x' c' h']
end JX1
end
section
/-! ===== the world's cells, apart; a call's join ===== -/
section JX2
def jx_off (cI cT : ClassId) : List jx_Cp → Nat → Nat
  | [], _ => 0
  | _, 0 => 0
  | d :: ds, i + 1 => (jx_w cI cT d).length + jx_off cI cT ds i
theorem jx_pos {cI cT : ClassId} : ∀ {cs : List jx_Cp} {i q : Nat} {c : jx_Cp} {x : Nat × va_E}, cs[i]? = some c → (jx_w cI cT c)[q]? = some x → (jx_ws cI cT cs)[jx_off cI cT cs i + q]? = some x := by
  intro cs
  induction cs with
  | nil => intro i q c x h; simp at h
  | cons d ds ih =>
    intro i q c x hc hx
    have hq : q < (jx_w cI cT c).length := (List.getElem?_eq_some_iff.mp hx).1
    cases i with
    | zero =>
      have e : d = c := by simpa using hc
      subst e
      show (jx_w cI cT d ++ jx_ws cI cT ds)[0 + q]? = some x
      rw [Nat.zero_add, List.getElem?_append_left hq]
      exact hx
    | succ i =>
      show (jx_w cI cT d ++ jx_ws cI cT ds)[(jx_w cI cT d).length + jx_off cI cT ds i + q]? = some x
      rw [List.getElem?_append_right (by omega), Nat.add_assoc, Nat.add_sub_cancel_left]
      exact ih (show ds[i]? = some c from by simpa using hc) hx
theorem jx_off_lt {cI cT : ClassId} : ∀ {cs : List jx_Cp} {i j : Nat} {c : jx_Cp}, cs[i]? = some c → i < j → jx_off cI cT cs i + (jx_w cI cT c).length ≤ jx_off cI cT cs j := by
  intro cs
  induction cs with
  | nil => intro i j c h; simp at h
  | cons d ds ih =>
    intro i j c hc hij
    cases j with
    | zero => omega
    | succ j =>
      cases i with
      | zero =>
        have e : d = c := by simpa using hc
        subst e
        simp only [jx_off]
        omega
      | succ i =>
        have := ih (show ds[i]? = some c from by simpa using hc) (show i < j by omega)
        simp only [jx_off]
        omega
theorem jx_mem {cI cT : ClassId} {cs : List jx_Cp} {x : Nat × va_E} : x ∈ jx_ws cI cT cs ↔ ∃ (i : Nat) (c : jx_Cp), cs[i]? = some c ∧ x ∈ jx_w cI cT c := by
  unfold jx_ws
  rw [List.mem_flatMap]
  constructor
  · rintro ⟨c, hc, hx⟩
    obtain ⟨i, hi⟩ := List.mem_iff_getElem?.mp hc
    exact ⟨i, c, hi, hx⟩
  · rintro ⟨i, c, hi, hx⟩
    exact ⟨c, List.mem_of_getElem? hi, hx⟩
theorem jx_apart {cI cT : ClassId} {A : Nat → Prop} {cs : List jx_Cp} (hD : va_D A (jx_ws cI cT cs)) {i j : Nat} {c d : jx_Cp} {x y : Nat × va_E} (hi : cs[i]? = some c) (hj : cs[j]? = some d) (hij : i ≠ j) (hx : x ∈ jx_w cI cT c) (hy : y ∈ jx_w cI cT d) : x.1 ≠ y.1 := by
  intro e
  obtain ⟨q, hq⟩ := List.mem_iff_getElem?.mp hx
  obtain ⟨r, hr⟩ := List.mem_iff_getElem?.mp hy
  have h1 := hD.1 _ _ _ _ (jx_pos hi hq) (jx_pos hj hr) e
  have l1 : q < (jx_w cI cT c).length := (List.getElem?_eq_some_iff.mp hq).1
  have l2 : r < (jx_w cI cT d).length := (List.getElem?_eq_some_iff.mp hr).1
  rcases Nat.lt_or_gt_of_ne hij with h | h
  · have := jx_off_lt (cI := cI) (cT := cT) hi h
    omega
  · have := jx_off_lt (cI := cI) (cT := cT) hj h
    omega
theorem jx_fst {cI cT : ClassId} : ∀ {cs cs' : List jx_Cp}, cs'.map Prod.fst = cs.map Prod.fst → (jx_ws cI cT cs').map Prod.fst = (jx_ws cI cT cs).map Prod.fst := by
  intro cs
  induction cs with
  | nil =>
    intro cs' h
    have : cs' = [] := by simpa using h
    subst this
    rfl
  | cons d ds ih =>
    intro cs' h
    cases cs' with
    | nil => simp at h
    | cons d' ds' =>
      simp only [List.map_cons, List.cons.injEq] at h
      show (jx_w cI cT d' ++ jx_ws cI cT ds').map Prod.fst = (jx_w cI cT d ++ jx_ws cI cT ds).map Prod.fst
      rw [List.map_append, List.map_append, ih h.2]
      congr 1
      simp only [jx_w, List.map_map]
      rw [h.1]
      rfl
theorem jx_D_fst {A : Nat → Prop} {ws ws' : va_W} (h : ws'.map Prod.fst = ws.map Prod.fst) (hD : va_D A ws) : va_D A ws' := by
  have key : ∀ (i : Nat) (p : Nat × va_E), ws'[i]? = some p → ∃ p0, ws[i]? = some p0 ∧ p0.1 = p.1 := by
    intro i p hp
    have h1 : (ws'.map Prod.fst)[i]? = some p.1 := by rw [List.getElem?_map, hp]; rfl
    rw [h, List.getElem?_map] at h1
    cases h2 : ws[i]? with
    | none => rw [h2] at h1; cases h1
    | some p0 => rw [h2] at h1; exact ⟨p0, rfl, Option.some.inj h1⟩
  refine ⟨fun i j p q hi hj e => ?_, fun k q hk => ?_⟩
  · obtain ⟨p0, a1, b1⟩ := key i p hi
    obtain ⟨q0, a2, b2⟩ := key j q hj
    exact hD.1 i j p0 q0 a1 a2 (by rw [b1, b2, e])
  · obtain ⟨q0, a1, b1⟩ := key k q hk
    rw [← b1]
    exact hD.2 k q0 a1
theorem jx_D_same {cI cT : ClassId} {A : Nat → Prop} {cs cs' : List jx_Cp} (h : cs'.map Prod.fst = cs.map Prod.fst) (hD : va_D A (jx_ws cI cT cs)) : va_D A (jx_ws cI cT cs') := jx_D_fst (jx_fst h) hD
def jx_put : List jx_Cp → List Nat → List jx_Cp → List jx_Cp
  | cs, i :: is, c :: r => jx_put (cs.set i c) is r
  | cs, _, _ => cs
theorem jx_put_get : ∀ {is : List Nat} {r cs : List jx_Cp} {i : Nat} {c : jx_Cp}, is.length = r.length → (jx_put cs is r)[i]? = some c → c ∈ r ∨ (i ∉ is ∧ cs[i]? = some c) := by
  intro is
  induction is with
  | nil => intro r cs i c _ h; exact Or.inr ⟨List.not_mem_nil, by simpa [jx_put] using h⟩
  | cons i0 is ih =>
    intro r cs i c hl h
    cases r with
    | nil => simp at hl
    | cons c0 r =>
      rcases ih (by simpa using hl) (show (jx_put (cs.set i0 c0) is r)[i]? = some c from h) with h1 | ⟨h1, h2⟩
      · exact Or.inl (List.mem_cons_of_mem _ h1)
      · rw [List.getElem?_set] at h2
        by_cases e : i0 = i
        · subst e
          rw [if_pos rfl] at h2
          split at h2
          · exact Or.inl (by rw [← Option.some.inj h2]; exact List.mem_cons_self)
          · cases h2
        · rw [if_neg e] at h2
          refine Or.inr ⟨fun hm => ?_, h2⟩
          rcases List.mem_cons.mp hm with h3 | h3
          · exact e h3.symm
          · exact h1 h3
theorem jx_pick {cs ccs : List jx_Cp} {is : List Nat} (his : is.map (fun i => cs[i]?) = ccs.map some) {j : Nat} {c : jx_Cp} (h : ccs[j]? = some c) : ∃ i, i ∈ is ∧ is[j]? = some i ∧ cs[i]? = some c := by
  have h1 : (is.map (fun i => cs[i]?))[j]? = some (some c) := by rw [his, List.getElem?_map, h]; rfl
  rw [List.getElem?_map] at h1
  cases h2 : is[j]? with
  | none => rw [h2] at h1; cases h1
  | some i => rw [h2] at h1; exact ⟨i, List.mem_of_getElem? h2, rfl, Option.some.inj h1⟩
theorem jx_P_sub {cI cT : ClassId} {D : va_G} {cs ccs : List jx_Cp} {H : Heap} (hP : va_P D vwCl (jx_ws cI cT cs) H) {is : List Nat} (his : is.map (fun i => cs[i]?) = ccs.map some) : va_P D vwCl (jx_ws cI cT ccs) H := by
  intro k x hk
  obtain ⟨j, c, hj, hx⟩ := jx_mem.mp (List.mem_of_getElem? hk)
  obtain ⟨i, -, -, hi⟩ := jx_pick his hj
  obtain ⟨k', hk'⟩ := List.mem_iff_getElem?.mp (jx_mem.mpr ⟨i, c, hi, hx⟩)
  exact hP k' x hk'
theorem jx_D_sub {cI cT : ClassId} {A : Nat → Prop} {cs ccs : List jx_Cp} (hD : va_D A (jx_ws cI cT cs)) {is : List Nat} (his : is.map (fun i => cs[i]?) = ccs.map some) (hnd : va_nd is = true) : va_D A (jx_ws cI cT ccs) := by
  have pos : ∀ {k : Nat} {x : Nat × va_E}, (jx_ws cI cT ccs)[k]? = some x → ∃ (j q : Nat) (c : jx_Cp), ccs[j]? = some c ∧ (jx_w cI cT c)[q]? = some x ∧ k = jx_off cI cT ccs j + q := by
    have gen : ∀ (l : List jx_Cp) (k : Nat) (x : Nat × va_E), (jx_ws cI cT l)[k]? = some x → ∃ (j q : Nat) (c : jx_Cp), l[j]? = some c ∧ (jx_w cI cT c)[q]? = some x ∧ k = jx_off cI cT l j + q := by
      intro l
      induction l with
      | nil => intro k x h; simp [jx_ws] at h
      | cons d ds ih =>
        intro k x h
        have h0 : (jx_w cI cT d ++ jx_ws cI cT ds)[k]? = some x := h
        by_cases hk : k < (jx_w cI cT d).length
        · rw [List.getElem?_append_left hk] at h0
          exact ⟨0, k, d, rfl, h0, by simp only [jx_off]; omega⟩
        · rw [List.getElem?_append_right (by omega)] at h0
          obtain ⟨j, q, c, h1, h2, h3⟩ := ih _ _ h0
          exact ⟨j + 1, q, c, by simpa using h1, h2, by simp only [jx_off]; omega⟩
    intro k x h
    exact gen _ _ _ h
  refine ⟨fun k1 k2 x y h1 h2 e => ?_, fun k x hk => ?_⟩
  · obtain ⟨j1, q1, c1, a1, b1, e1⟩ := pos h1
    obtain ⟨j2, q2, c2, a2, b2, e2⟩ := pos h2
    obtain ⟨i1, -, m1, n1⟩ := jx_pick his a1
    obtain ⟨i2, -, m2, n2⟩ := jx_pick his a2
    by_cases hi : i1 = i2
    · subst hi
      have hj : j1 = j2 := va_nd_inj is hnd j1 j2 i1 m1 m2
      subst hj
      have hc : c1 = c2 := Option.some.inj (n1.symm.trans n2)
      subst hc
      have := hD.1 _ _ _ _ (jx_pos n1 b1) (jx_pos n1 b2) e
      omega
    · exact absurd e (jx_apart hD n1 n2 hi (List.mem_of_getElem? b1) (List.mem_of_getElem? b2))
  · obtain ⟨j1, q1, c1, a1, b1, e1⟩ := pos hk
    obtain ⟨i1, -, m1, n1⟩ := jx_pick his a1
    exact hD.2 _ _ (jx_pos n1 b1)
theorem jx_free {cI cT : ClassId} {A : Nat → Prop} {cs ccs : List jx_Cp} {H0 H : Heap} {locs : List Loc} (hD : va_D A (jx_ws cI cT cs)) (hS : va_S A H0 H locs) (hA : ∀ q, H0.size ≤ q → A q) {is : List Nat} (his : is.map (fun i => cs[i]?) = ccs.map some) : ∀ q, va_A (jx_ws cI cT ccs) H.size q → A q := by
  intro q h
  rcases h with ⟨k, e, h⟩ | h
  · obtain ⟨j, c, hj, hx⟩ := jx_mem.mp (List.mem_of_getElem? h)
    obtain ⟨i, -, -, hi⟩ := jx_pick his hj
    obtain ⟨r, hr⟩ := List.mem_iff_getElem?.mp hx
    exact hD.2 _ _ (jx_pos hi hr)
  · exact hA q (Nat.le_trans hS.1 h)
theorem jx_join {cI cT : ClassId} {D : va_G} {A : Nat → Prop} {cs ccs ccs' cs' : List jx_Cp} {H H1 : Heap} (hP : va_P D vwCl (jx_ws cI cT cs) H) (hD : va_D A (jx_ws cI cT cs)) {is : List Nat} (his : is.map (fun i => cs[i]?) = ccs.map some) (hfst : ccs'.map Prod.fst = ccs.map Prod.fst) (hput : jx_put cs is ccs' = cs') (hk : ∀ q : Nat, q < H.size → ¬ va_A (jx_ws cI cT ccs) H.size q → H1[q]? = H[q]?) (hP1 : va_P D vwCl (jx_ws cI cT ccs') H1) : va_P D vwCl (jx_ws cI cT cs') H1 := by
  have hl : is.length = ccs'.length := by
    have h1 : (is.map (fun i => cs[i]?)).length = (ccs.map some).length := by rw [his]
    have h2 : (ccs'.map Prod.fst).length = (ccs.map Prod.fst).length := by rw [hfst]
    simp only [List.length_map] at h1 h2
    omega
  intro k x hkx
  obtain ⟨i, c, hi, hx⟩ := jx_mem.mp (List.mem_of_getElem? hkx)
  rw [← hput] at hi
  rcases jx_put_get hl hi with h | ⟨h1, h2⟩
  · obtain ⟨j, hj⟩ := List.mem_iff_getElem?.mp h
    obtain ⟨k', hk'⟩ := List.mem_iff_getElem?.mp (jx_mem.mpr ⟨j, c, hj, hx⟩)
    exact hP1 k' x hk'
  · obtain ⟨r, hr⟩ := List.mem_iff_getElem?.mp hx
    have hat := hP _ _ (jx_pos h2 hr)
    have hlt := hat.lt
    refine hat.kept (hk x.1 hlt (fun hA => ?_))
    rcases hA with ⟨k2, e, hA⟩ | hA
    · obtain ⟨j, d, hj, hy⟩ := jx_mem.mp (List.mem_of_getElem? hA)
      obtain ⟨i2, m2, -, n2⟩ := jx_pick his hj
      exact jx_apart hD h2 n2 (fun e => h1 (by rw [e]; exact m2)) hx hy rfl
    · omega
end JX2
end
section
/-! ===== what a method's instructions rest on; rows over Int ===== -/
/-- the tables' words that stay with a callee -/
def jx_T : List Cond := lw_tbl.filter goodWord
theorem jx_mT {w : Cond} (i : Nat) (h : lw_tbl[i]? = some w) (hg : goodWord w = true) : w ∈ jx_T := List.mem_filter.mpr ⟨List.mem_of_getElem? h, hg⟩
def jx_isN : Cond → Bool := fun w => match w with
  | .fieldLinkNest _ _ _ _ _ _ => true
  | _ => false
/-- the words on nest mates' members: they stand beside a method's words -/
def jx_NW : List Cond := lw_tbl.filter jx_isN
theorem jx_mN {w : Cond} (i : Nat) (h : lw_tbl[i]? = some w) (hg : jx_isN w = true) : w ∈ jx_NW := List.mem_filter.mpr ⟨List.mem_of_getElem? h, hg⟩
def jx_N (U : State) : Prop := ∀ w ∈ jx_NW, va_Nw w U
theorem jx_N.warm {s U : State} (hW : s.WarmedH U.vm) (h : jx_N s) : jx_N U := by
  intro w hw
  have h1 := h w hw
  have h2 := (List.mem_filter.mp hw).2
  cases w <;> first | exact va_Nw.warmF hW h1 | (simp [jx_isN] at h2)
theorem jx_N.same {u U : State} (hv : u.vm = U.vm) (h : jx_N u) : jx_N U := by
  intro w hw
  have h1 := h w hw
  have h2 := (List.mem_filter.mp hw).2
  cases w <;> first | exact va_Nw.same rfl hv h1 | (simp [jx_isN] at h2)
def jx_K (D : va_G) (cI cT : ClassId) (U : State) : Prop := va_K D vwCl (jx_ty cI cT) U ∧ jx_N U
theorem jx_K.warm {D : va_G} {cI cT : ClassId} {s U : State} (hW : s.WarmedH U.vm) (h : jx_K D cI cT s) : jx_K D cI cT U := ⟨va_K.moved hW.alike h.1, h.2.warm hW⟩
def jx_C (p : Program) (s : State) (m : MethodId) (args : Array Value) (c : Code) (cc : ByteArray) (own : String) (nL : Nat) : Prop := p.tables.exec = Jvm.exec ∧ c.code = cc ∧ c.maxLocals = nL ∧ s.vm.findClass own = some m.cls ∧ ∀ w ∈ jx_T, w.before args s = true
def jx_FL (own : String) (index ci k : Nat) : Prop := ∃ (CN : String) (T : u_T) (N : Nat), vwCl[ci]? = some (CN, T, N) ∧ (∀ w ∈ u_ws CN T N, w ∈ jx_T) ∧ k < N ∧ (T k).1 = CN ∧ Cond.fieldLink own index CN (T k).2.1 (T k).2.2.1 ∈ jx_T
def jx_FN (own : String) (index ci k : Nat) : Prop := ∃ (CN : String) (T : u_T) (N : Nat), vwCl[ci]? = some (CN, T, N) ∧ (∀ w ∈ u_ws CN T N, w ∈ jx_T) ∧ k < N ∧ (T k).1 = CN ∧ Cond.fieldLinkNest own index CN (T k).2.1 (T k).2.2.1 "BoxCourt" ∈ jx_NW
/-- a field that may be written: its type, that it isn't final -/
def jx_FW (ci k : Nat) (ty : FieldType) : Prop := ∃ (CN : String) (T : u_T) (N : Nat) (ty0 : Nat → FieldType), vwCl[ci]? = some (CN, T, N) ∧ (∀ k, k < N → parseFieldDescriptor (T k).2.2.1 = some (ty0 k)) ∧ (∀ a, a < N → ∀ b, b < N → a ≠ b → (T a).2.1 ≠ (T b).2.1) ∧ (T k).2.2.2 = false ∧ parseFieldDescriptor (T k).2.2.1 = some ty
section JX3
variable {p : Program} {l : Launch} {e : Env} {R : Room} {s : State} {m : MethodId} {args : Array Value} {below : List Frame} {meth : Method} {c : Code} {H : Heap} {locs : List Loc} {cells slots : Nat} {Q : State → Prop}
variable {cc : ByteArray} {own : String} {nL pc : Nat} {ls : Array Slot} {rest : List Value} {D : va_G} {cI cT : ClassId} {cs : List jx_Cp} {A : Nat → Prop} {H0 : Heap}
theorem jx_iconst (C : jx_C p s m args c cc own nL) {n : Int} (hdg : decode cc pc = .ok (.iconst n, 1)) (k : W p l e R s m args below meth c H locs cells slots Q (F0 m (pc + 1) ls (.int (jx_i n) :: rest))) : W p l e R s m args below meth c H locs cells slots Q (F0 m pc ls rest) := lv_iconst C.1 C.2.1 hdg rfl k
theorem jx_bipush (C : jx_C p s m args c cc own nL) {n : Int} (hdg : decode cc pc = .ok (.bipush n, 2)) (hn : (Int8.ofInt n).toInt32 = jx_i n) (k : W p l e R s m args below meth c H locs cells slots Q (F0 m (pc + 2) ls (.int (jx_i n) :: rest))) : W p l e R s m args below meth c H locs cells slots Q (F0 m pc ls rest) := lv_bipush C.1 C.2.1 hdg hn k
theorem jx_sipush (C : jx_C p s m args c cc own nL) {n : Int} (hdg : decode cc pc = .ok (.sipush n, 3)) (hn : (Int16.ofInt n).toInt32 = jx_i n) (k : W p l e R s m args below meth c H locs cells slots Q (F0 m (pc + 3) ls (.int (jx_i n) :: rest))) : W p l e R s m args below meth c H locs cells slots Q (F0 m pc ls rest) := lv_sipush C.1 C.2.1 hdg hn k
theorem jx_ldc (C : jx_C p s m args c cc own nL) {index : Nat} (n : Int) (hw : Cond.constant own index (jx_i n) ∈ jx_T) (hdg : decode cc pc = .ok (.ldc index, 2)) (k : W p l e R s m args below meth c H locs cells slots Q (F0 m (pc + 2) ls (.int (jx_i n) :: rest))) : W p l e R s m args below meth c H locs cells slots Q (F0 m pc ls rest) := lv_ldc C.1 C.2.1 C.2.2.2.1 (C.2.2.2.2 _ hw) hdg k
theorem jx_iadd (C : jx_C p s m args c cc own nL) {a b : Int} (hdg : decode cc pc = .ok (.iadd, 1)) (k : W p l e R s m args below meth c H locs cells slots Q (F0 m (pc + 1) ls (.int (jx_i (a + b)) :: rest))) : W p l e R s m args below meth c H locs cells slots Q (F0 m pc ls (.int (jx_i b) :: .int (jx_i a) :: rest)) := lv_iadd C.1 C.2.1 hdg (by rw [jx_i_add]; exact k)
theorem jx_isub (C : jx_C p s m args c cc own nL) {a b : Int} (hdg : decode cc pc = .ok (.isub, 1)) (k : W p l e R s m args below meth c H locs cells slots Q (F0 m (pc + 1) ls (.int (jx_i (a - b)) :: rest))) : W p l e R s m args below meth c H locs cells slots Q (F0 m pc ls (.int (jx_i b) :: .int (jx_i a) :: rest)) := lv_isub C.1 C.2.1 hdg (by rw [jx_i_sub]; exact k)
theorem jx_imul (C : jx_C p s m args c cc own nL) {a b : Int} (hdg : decode cc pc = .ok (.imul, 1)) (k : W p l e R s m args below meth c H locs cells slots Q (F0 m (pc + 1) ls (.int (jx_i (a * b)) :: rest))) : W p l e R s m args below meth c H locs cells slots Q (F0 m pc ls (.int (jx_i b) :: .int (jx_i a) :: rest)) := lv_imul C.1 C.2.1 hdg (by rw [jx_i_mul]; exact k)
theorem jx_iand (C : jx_C p s m args c cc own nL) {a b : Int} (hdg : decode cc pc = .ok (.iand, 1)) (k : W p l e R s m args below meth c H locs cells slots Q (F0 m (pc + 1) ls (.int (jx_i (jx_and a b)) :: rest))) : W p l e R s m args below meth c H locs cells slots Q (F0 m pc ls (.int (jx_i b) :: .int (jx_i a) :: rest)) := lv_iand C.1 C.2.1 hdg (by unfold jx_and at k; rw [jx_ofToInt] at k; exact k)
theorem jx_ior (C : jx_C p s m args c cc own nL) {a b : Int} (hdg : decode cc pc = .ok (.ior, 1)) (k : W p l e R s m args below meth c H locs cells slots Q (F0 m (pc + 1) ls (.int (jx_i (jx_or a b)) :: rest))) : W p l e R s m args below meth c H locs cells slots Q (F0 m pc ls (.int (jx_i b) :: .int (jx_i a) :: rest)) := lv_ior C.1 C.2.1 hdg (by unfold jx_or at k; rw [jx_ofToInt] at k; exact k)
theorem jx_ixor (C : jx_C p s m args c cc own nL) {a b : Int} (hdg : decode cc pc = .ok (.ixor, 1)) (k : W p l e R s m args below meth c H locs cells slots Q (F0 m (pc + 1) ls (.int (jx_i (jx_xor a b)) :: rest))) : W p l e R s m args below meth c H locs cells slots Q (F0 m pc ls (.int (jx_i b) :: .int (jx_i a) :: rest)) := lv_ixor C.1 C.2.1 hdg (by unfold jx_xor at k; rw [jx_ofToInt] at k; exact k)
theorem jx_ishl (C : jx_C p s m args c cc own nL) {a b : Int} (hdg : decode cc pc = .ok (.ishl, 1)) (k : W p l e R s m args below meth c H locs cells slots Q (F0 m (pc + 1) ls (.int (jx_i (jx_shl a b)) :: rest))) : W p l e R s m args below meth c H locs cells slots Q (F0 m pc ls (.int (jx_i b) :: .int (jx_i a) :: rest)) := lv_ishl C.1 C.2.1 hdg (by unfold jx_shl at k; rw [jx_ofToInt] at k; exact k)
theorem jx_ishr (C : jx_C p s m args c cc own nL) {a b : Int} (hdg : decode cc pc = .ok (.ishr, 1)) (k : W p l e R s m args below meth c H locs cells slots Q (F0 m (pc + 1) ls (.int (jx_i (jx_shr a b)) :: rest))) : W p l e R s m args below meth c H locs cells slots Q (F0 m pc ls (.int (jx_i b) :: .int (jx_i a) :: rest)) := lv_ishr C.1 C.2.1 hdg (by unfold jx_shr at k; rw [jx_ofToInt] at k; exact k)
theorem jx_idiv (C : jx_C p s m args c cc own nL) {a b : Int} (hne : ¬ jx_i b = 0) (hdg : decode cc pc = .ok (.idiv, 1)) (k : W p l e R s m args below meth c H locs cells slots Q (F0 m (pc + 1) ls (.int (jx_i (jx_div a b)) :: rest))) : W p l e R s m args below meth c H locs cells slots Q (F0 m pc ls (.int (jx_i b) :: .int (jx_i a) :: rest)) := lv_idiv C.1 C.2.1 hdg hne (by unfold jx_div at k; rw [jx_ofToInt] at k; exact k)
theorem jx_irem (C : jx_C p s m args c cc own nL) {a b : Int} (hne : ¬ jx_i b = 0) (hdg : decode cc pc = .ok (.irem, 1)) (k : W p l e R s m args below meth c H locs cells slots Q (F0 m (pc + 1) ls (.int (jx_i (jx_rem a b)) :: rest))) : W p l e R s m args below meth c H locs cells slots Q (F0 m pc ls (.int (jx_i b) :: .int (jx_i a) :: rest)) := lv_irem C.1 C.2.1 hdg hne (by unfold jx_rem at k; rw [jx_ofToInt] at k; exact k)
theorem jx_iinc (C : jx_C p s m args c cc own nL) {i k : Nat} {n a : Int} {lv lv' : List (Nat × Value)} (hdg : decode cc pc = .ok (.iinc i n, 3)) (h : lv_has ls nL lv) (hk : lv[k]? = some (i, .int (jx_i a))) (hn : i < nL) (hl : (i, Value.int (jx_i (a + n))) :: lv.filter (fun q => !(q.1 == i) && !(q.1 + 1 == i && q.2.category == 2)) = lv')
    (kk : ∀ ls' : Array Slot, lv_has ls' nL lv' → W p l e R s m args below meth c H locs cells slots Q (F0 m (pc + 3) ls' rest)) : W p l e R s m args below meth c H locs cells slots Q (F0 m pc ls rest) := lv_iinc (v := jx_i (a + n)) C.1 C.2.1 hdg h hk (jx_i_add a n) hn hl kk
theorem jx_clt (C : jx_C p s m args c cc own nL) {a b : Int} {off : Int} {tgt : Nat} (ha : jx_R a) (hb : jx_R b) (hdg : decode cc pc = .ok (.if_icmp .lt off, 3)) (ht : (pc : Int) + off = (tgt : Int))
    (kt : a < b → W p l e R s m args below meth c H locs cells slots Q (F0 m tgt ls rest)) (kf : ¬ a < b → W p l e R s m args below meth c H locs cells slots Q (F0 m (pc + 3) ls rest)) : W p l e R s m args below meth c H locs cells slots Q (F0 m pc ls (.int (jx_i b) :: .int (jx_i a) :: rest)) :=
  lv_icmp_lt C.1 C.2.1 hdg ht (fun h => kt ((jx_lt ha hb).mp h)) (fun h => kf (fun q => h ((jx_lt ha hb).mpr q)))
theorem jx_cle (C : jx_C p s m args c cc own nL) {a b : Int} {off : Int} {tgt : Nat} (ha : jx_R a) (hb : jx_R b) (hdg : decode cc pc = .ok (.if_icmp .le off, 3)) (ht : (pc : Int) + off = (tgt : Int))
    (kt : a ≤ b → W p l e R s m args below meth c H locs cells slots Q (F0 m tgt ls rest)) (kf : ¬ a ≤ b → W p l e R s m args below meth c H locs cells slots Q (F0 m (pc + 3) ls rest)) : W p l e R s m args below meth c H locs cells slots Q (F0 m pc ls (.int (jx_i b) :: .int (jx_i a) :: rest)) :=
  lv_icmp_le C.1 C.2.1 hdg ht (fun h => kt ((jx_le ha hb).mp h)) (fun h => kf (fun q => h ((jx_le ha hb).mpr q)))
theorem jx_cge (C : jx_C p s m args c cc own nL) {a b : Int} {off : Int} {tgt : Nat} (ha : jx_R a) (hb : jx_R b) (hdg : decode cc pc = .ok (.if_icmp .ge off, 3)) (ht : (pc : Int) + off = (tgt : Int))
    (kt : ¬ a < b → W p l e R s m args below meth c H locs cells slots Q (F0 m tgt ls rest)) (kf : a < b → W p l e R s m args below meth c H locs cells slots Q (F0 m (pc + 3) ls rest)) : W p l e R s m args below meth c H locs cells slots Q (F0 m pc ls (.int (jx_i b) :: .int (jx_i a) :: rest)) :=
  lv_icmp_ge C.1 C.2.1 hdg ht (fun h => kt (by have := (jx_le hb ha).mp h; omega)) (fun h => kf (by rcases Int.lt_or_le a b with q | q; exact q; exact absurd ((jx_le hb ha).mpr q) h))
theorem jx_cgt (C : jx_C p s m args c cc own nL) {a b : Int} {off : Int} {tgt : Nat} (ha : jx_R a) (hb : jx_R b) (hdg : decode cc pc = .ok (.if_icmp .gt off, 3)) (ht : (pc : Int) + off = (tgt : Int))
    (kt : ¬ a ≤ b → W p l e R s m args below meth c H locs cells slots Q (F0 m tgt ls rest)) (kf : a ≤ b → W p l e R s m args below meth c H locs cells slots Q (F0 m (pc + 3) ls rest)) : W p l e R s m args below meth c H locs cells slots Q (F0 m pc ls (.int (jx_i b) :: .int (jx_i a) :: rest)) :=
  lv_icmp_gt C.1 C.2.1 hdg ht (fun h => kt (by have := (jx_lt hb ha).mp h; omega)) (fun h => kf (by rcases Int.lt_or_le b a with q | q; exact absurd ((jx_lt hb ha).mpr q) h; exact q))
theorem jx_ceq (C : jx_C p s m args c cc own nL) {a b : Int} {off : Int} {tgt : Nat} (ha : jx_R a) (hb : jx_R b) (hdg : decode cc pc = .ok (.if_icmp .eq off, 3)) (ht : (pc : Int) + off = (tgt : Int))
    (kt : a = b → W p l e R s m args below meth c H locs cells slots Q (F0 m tgt ls rest)) (kf : ¬ a = b → W p l e R s m args below meth c H locs cells slots Q (F0 m (pc + 3) ls rest)) : W p l e R s m args below meth c H locs cells slots Q (F0 m pc ls (.int (jx_i b) :: .int (jx_i a) :: rest)) :=
  lv_icmp_eq C.1 C.2.1 hdg ht (fun h => kt ((jx_eq ha hb).mp h)) (fun h => kf (fun q => h ((jx_eq ha hb).mpr q)))
theorem jx_cne (C : jx_C p s m args c cc own nL) {a b : Int} {off : Int} {tgt : Nat} (ha : jx_R a) (hb : jx_R b) (hdg : decode cc pc = .ok (.if_icmp .ne off, 3)) (ht : (pc : Int) + off = (tgt : Int))
    (kt : ¬ a = b → W p l e R s m args below meth c H locs cells slots Q (F0 m tgt ls rest)) (kf : a = b → W p l e R s m args below meth c H locs cells slots Q (F0 m (pc + 3) ls rest)) : W p l e R s m args below meth c H locs cells slots Q (F0 m pc ls (.int (jx_i b) :: .int (jx_i a) :: rest)) :=
  lv_icmp_ne C.1 C.2.1 hdg ht (fun h => kt (fun q => h ((jx_eq ha hb).mpr q))) (fun h => kf ((jx_eq ha hb).mp h))
theorem jx_R0 : jx_R 0 := ⟨by decide, by decide⟩
theorem jx_i0 : jx_i 0 = 0 := by decide
theorem jx_zlt (C : jx_C p s m args c cc own nL) {a : Int} {off : Int} {tgt : Nat} (ha : jx_R a) (hdg : decode cc pc = .ok (.ifCond .lt off, 3)) (ht : (pc : Int) + off = (tgt : Int))
    (kt : a < 0 → W p l e R s m args below meth c H locs cells slots Q (F0 m tgt ls rest)) (kf : ¬ a < 0 → W p l e R s m args below meth c H locs cells slots Q (F0 m (pc + 3) ls rest)) : W p l e R s m args below meth c H locs cells slots Q (F0 m pc ls (.int (jx_i a) :: rest)) :=
  lv_if_lt C.1 C.2.1 hdg ht (fun h => kt ((jx_lt ha jx_R0).mp (by rw [jx_i0]; exact h))) (fun h => kf (fun q => h (by have := (jx_lt ha jx_R0).mpr q; rw [jx_i0] at this; exact this)))
theorem jx_zge (C : jx_C p s m args c cc own nL) {a : Int} {off : Int} {tgt : Nat} (ha : jx_R a) (hdg : decode cc pc = .ok (.ifCond .ge off, 3)) (ht : (pc : Int) + off = (tgt : Int))
    (kt : ¬ a < 0 → W p l e R s m args below meth c H locs cells slots Q (F0 m tgt ls rest)) (kf : a < 0 → W p l e R s m args below meth c H locs cells slots Q (F0 m (pc + 3) ls rest)) : W p l e R s m args below meth c H locs cells slots Q (F0 m pc ls (.int (jx_i a) :: rest)) :=
  lv_if_ge C.1 C.2.1 hdg ht (fun h => kt (by have := (jx_le jx_R0 ha).mp (by rw [jx_i0]; exact h); omega)) (fun h => kf (by rcases Int.lt_or_le a 0 with q | q; exact q; exact absurd (by have := (jx_le jx_R0 ha).mpr q; rw [jx_i0] at this; exact this) h))
theorem jx_zgt (C : jx_C p s m args c cc own nL) {a : Int} {off : Int} {tgt : Nat} (ha : jx_R a) (hdg : decode cc pc = .ok (.ifCond .gt off, 3)) (ht : (pc : Int) + off = (tgt : Int))
    (kt : ¬ a ≤ 0 → W p l e R s m args below meth c H locs cells slots Q (F0 m tgt ls rest)) (kf : a ≤ 0 → W p l e R s m args below meth c H locs cells slots Q (F0 m (pc + 3) ls rest)) : W p l e R s m args below meth c H locs cells slots Q (F0 m pc ls (.int (jx_i a) :: rest)) :=
  lv_if_gt C.1 C.2.1 hdg ht (fun h => kt (by have := (jx_lt jx_R0 ha).mp (by rw [jx_i0]; exact h); omega)) (fun h => kf (by rcases Int.lt_or_le 0 a with q | q; exact absurd (by have := (jx_lt jx_R0 ha).mpr q; rw [jx_i0] at this; exact this) h; exact q))
theorem jx_zle (C : jx_C p s m args c cc own nL) {a : Int} {off : Int} {tgt : Nat} (ha : jx_R a) (hdg : decode cc pc = .ok (.ifCond .le off, 3)) (ht : (pc : Int) + off = (tgt : Int))
    (kt : a ≤ 0 → W p l e R s m args below meth c H locs cells slots Q (F0 m tgt ls rest)) (kf : ¬ a ≤ 0 → W p l e R s m args below meth c H locs cells slots Q (F0 m (pc + 3) ls rest)) : W p l e R s m args below meth c H locs cells slots Q (F0 m pc ls (.int (jx_i a) :: rest)) :=
  lv_if_le C.1 C.2.1 hdg ht (fun h => kt ((jx_le ha jx_R0).mp (by rw [jx_i0]; exact h))) (fun h => kf (fun q => h (by have := (jx_le ha jx_R0).mpr q; rw [jx_i0] at this; exact this)))
theorem jx_zeq (C : jx_C p s m args c cc own nL) {a : Int} {off : Int} {tgt : Nat} (ha : jx_R a) (hdg : decode cc pc = .ok (.ifCond .eq off, 3)) (ht : (pc : Int) + off = (tgt : Int))
    (kt : a = 0 → W p l e R s m args below meth c H locs cells slots Q (F0 m tgt ls rest)) (kf : ¬ a = 0 → W p l e R s m args below meth c H locs cells slots Q (F0 m (pc + 3) ls rest)) : W p l e R s m args below meth c H locs cells slots Q (F0 m pc ls (.int (jx_i a) :: rest)) :=
  lv_if_eq C.1 C.2.1 hdg ht (fun h => kt ((jx_eq ha jx_R0).mp (by rw [jx_i0]; exact h))) (fun h => kf (fun q => h (by have := (jx_eq ha jx_R0).mpr q; rw [jx_i0] at this; exact this)))
theorem jx_zne (C : jx_C p s m args c cc own nL) {a : Int} {off : Int} {tgt : Nat} (ha : jx_R a) (hdg : decode cc pc = .ok (.ifCond .ne off, 3)) (ht : (pc : Int) + off = (tgt : Int))
    (kt : ¬ a = 0 → W p l e R s m args below meth c H locs cells slots Q (F0 m tgt ls rest)) (kf : a = 0 → W p l e R s m args below meth c H locs cells slots Q (F0 m (pc + 3) ls rest)) : W p l e R s m args below meth c H locs cells slots Q (F0 m pc ls (.int (jx_i a) :: rest)) :=
  lv_if_ne C.1 C.2.1 hdg ht (fun h => kt (fun q => h (by have := (jx_eq ha jx_R0).mpr q; rw [jx_i0] at this; exact this))) (fun h => kf ((jx_eq ha jx_R0).mp (by rw [jx_i0]; exact h)))
theorem jx_getI (C : jx_C p s m args c cc own nL) (hK : jx_K D cI cT s) (hP : va_P D vwCl (jx_ws cI cT cs) H) (i q k : Nat) {ce : List (Nat × jx_Sh)} {σ : jx_St} {a ci key index : Nat} {fs : List (Nat ⊕ Nat)} (hi : cs[i]? = some (ce, σ)) (hq : ce[q]? = some (a, .inr (.inl (ci, fs)))) (hf : fs[k]? = some (.inr key)) (hL : jx_FL own index ci k) (hdg : decode cc pc = .ok (.getfield index, 3))
    (kk : W p l e R s m args below meth c H locs cells slots Q (F0 m (pc + 3) ls (.int (jx_i (σ key 0)) :: rest))) : W p l e R s m args below meth c H locs cells slots Q (F0 m pc ls (.ref a :: rest)) := by
  obtain ⟨CN, T, N, hc, hin, hk, hT, hl⟩ := hL
  have h1 := jx_pos (cI := cI) (cT := cT) hi (jx_w_get hq)
  exact va_get (v := .int (jx_i (σ key 0))) C.1 C.2.1 C.2.2.2.2 hin C.2.2.2.1 hK.1 hP _ h1 hc k hk (C.2.2.2.2 _ hl) (fun x hx => by rw [hT] at hx; exact hx) (by simp only [List.getElem?_map, hf, Option.map_some, jx_fv]) hdg kk
theorem jx_getR (C : jx_C p s m args c cc own nL) (hK : jx_K D cI cT s) (hP : va_P D vwCl (jx_ws cI cT cs) H) (i q k : Nat) {ce : List (Nat × jx_Sh)} {σ : jx_St} {a b ci index : Nat} {fs : List (Nat ⊕ Nat)} (hi : cs[i]? = some (ce, σ)) (hq : ce[q]? = some (a, .inr (.inl (ci, fs)))) (hf : fs[k]? = some (.inl b)) (hL : jx_FL own index ci k) (hdg : decode cc pc = .ok (.getfield index, 3))
    (kk : W p l e R s m args below meth c H locs cells slots Q (F0 m (pc + 3) ls (.ref b :: rest))) : W p l e R s m args below meth c H locs cells slots Q (F0 m pc ls (.ref a :: rest)) := by
  obtain ⟨CN, T, N, hc, hin, hk, hT, hl⟩ := hL
  have h1 := jx_pos (cI := cI) (cT := cT) hi (jx_w_get hq)
  exact va_get (v := .ref b) C.1 C.2.1 C.2.2.2.2 hin C.2.2.2.1 hK.1 hP _ h1 hc k hk (C.2.2.2.2 _ hl) (fun x hx => by rw [hT] at hx; exact hx) (by simp only [List.getElem?_map, hf, Option.map_some, jx_fv]) hdg kk
theorem jx_getNI (C : jx_C p s m args c cc own nL) (hK : jx_K D cI cT s) (hP : va_P D vwCl (jx_ws cI cT cs) H) (i q k : Nat) {ce : List (Nat × jx_Sh)} {σ : jx_St} {a ci key index : Nat} {fs : List (Nat ⊕ Nat)} (hi : cs[i]? = some (ce, σ)) (hq : ce[q]? = some (a, .inr (.inl (ci, fs)))) (hf : fs[k]? = some (.inr key)) (hL : jx_FN own index ci k) (hdg : decode cc pc = .ok (.getfield index, 3))
    (kk : W p l e R s m args below meth c H locs cells slots Q (F0 m (pc + 3) ls (.int (jx_i (σ key 0)) :: rest))) : W p l e R s m args below meth c H locs cells slots Q (F0 m pc ls (.ref a :: rest)) := by
  obtain ⟨CN, T, N, hc, hin, hk, hT, hl⟩ := hL
  have h1 := jx_pos (cI := cI) (cT := cT) hi (jx_w_get hq)
  exact va_getN (v := .int (jx_i (σ key 0))) C.1 C.2.1 C.2.2.2.2 hin C.2.2.2.1 hK.1 hP _ h1 hc k hk (va_Nw.use rfl (hK.2 _ hl)) (fun x hx => by rw [hT] at hx; exact hx) (by simp only [List.getElem?_map, hf, Option.map_some, jx_fv]) hdg kk
theorem jx_getNR (C : jx_C p s m args c cc own nL) (hK : jx_K D cI cT s) (hP : va_P D vwCl (jx_ws cI cT cs) H) (i q k : Nat) {ce : List (Nat × jx_Sh)} {σ : jx_St} {a b ci index : Nat} {fs : List (Nat ⊕ Nat)} (hi : cs[i]? = some (ce, σ)) (hq : ce[q]? = some (a, .inr (.inl (ci, fs)))) (hf : fs[k]? = some (.inl b)) (hL : jx_FN own index ci k) (hdg : decode cc pc = .ok (.getfield index, 3))
    (kk : W p l e R s m args below meth c H locs cells slots Q (F0 m (pc + 3) ls (.ref b :: rest))) : W p l e R s m args below meth c H locs cells slots Q (F0 m pc ls (.ref a :: rest)) := by
  obtain ⟨CN, T, N, hc, hin, hk, hT, hl⟩ := hL
  have h1 := jx_pos (cI := cI) (cT := cT) hi (jx_w_get hq)
  exact va_getN (v := .ref b) C.1 C.2.1 C.2.2.2.2 hin C.2.2.2.1 hK.1 hP _ h1 hc k hk (va_Nw.use rfl (hK.2 _ hl)) (fun x hx => by rw [hT] at hx; exact hx) (by simp only [List.getElem?_map, hf, Option.map_some, jx_fv]) hdg kk
theorem jx_putI (C : jx_C p s m args c cc own nL) (hK : jx_K D cI cT s) (hP : va_P D vwCl (jx_ws cI cT cs) H) (hD : va_D A (jx_ws cI cT cs)) (hS : va_S A H0 H locs) (i q k : Nat) {ce : List (Nat × jx_Sh)} {σ : jx_St} {a ci key index : Nat} {fs : List (Nat ⊕ Nat)} {ty : FieldType} {v : Int} (hi : cs[i]? = some (ce, σ)) (hq : ce[q]? = some (a, .inr (.inl (ci, fs)))) (hf : fs[k]? = some (.inr key)) (hs1 : jx_sole key q ce = true) (hs2 : jx_sof key k fs = true) (hL : jx_FL own index ci k) (hW : jx_FW ci k ty) (hnar : narrow ty (.int (jx_i v)) = .int (jx_i v) ∧ fits ty (.int (jx_i v)) = true) {cs' : List jx_Cp} (hcs : cs.set i (ce, jx_su σ key 0 v) = cs') (hdg : decode cc pc = .ok (.putfield index, 3))
    (kk : ∀ (H1 : Heap) (locs1 : List Loc), va_P D vwCl (jx_ws cI cT cs') H1 → va_D A (jx_ws cI cT cs') → va_S A H0 H1 locs1 → W p l e R s m args below meth c H1 locs1 cells slots Q (F0 m (pc + 3) ls rest)) : W p l e R s m args below meth c H locs cells slots Q (F0 m pc ls (.int (jx_i v) :: .ref a :: rest)) := by
  obtain ⟨CN, T, N, hc, hin, hk, hT, hl⟩ := hL
  obtain ⟨CN', T', N', ty0, hc', hty, hnm, hfin, hd⟩ := hW
  have hE := hc.symm.trans hc'
  simp only [Option.some.injEq, Prod.mk.injEq] at hE
  obtain ⟨rfl, rfl, rfl⟩ := hE
  obtain ⟨k0, h1, h2⟩ := jx_flat (cI := cI) (cT := cT) hi (jx_w_get hq)
  have hlen : k < fs.length := (List.getElem?_eq_some_iff.mp hf).1
  have hset := h2 (a, .inr (ci, (fs.map (jx_fv σ)).set k (.int (jx_i v)))) (ce, jx_su σ key 0 v) (by rw [jx_w_su hq hs1]; simp only [jx_ce, jx_fs_su hf hs2])
  rw [hcs] at hset
  refine va_put (v := .int (jx_i v)) C.1 C.2.1 C.2.2.2.2 hin ty0 hty hnm C.2.2.2.1 hK.1 hP hD hS k0 h1 hc k hk (C.2.2.2.2 _ hl) (fun x hx => by rw [hT] at hx; exact hx) hfin hd hnar.1 hnar.2 (by rw [List.length_map]; exact hlen) hdg (fun H1 locs1 hP1 hD1 hS1 => ?_)
  rw [hset] at hP1 hD1
  exact kk H1 locs1 hP1 hD1 hS1
theorem jx_putNI (C : jx_C p s m args c cc own nL) (hK : jx_K D cI cT s) (hP : va_P D vwCl (jx_ws cI cT cs) H) (hD : va_D A (jx_ws cI cT cs)) (hS : va_S A H0 H locs) (i q k : Nat) {ce : List (Nat × jx_Sh)} {σ : jx_St} {a ci key index : Nat} {fs : List (Nat ⊕ Nat)} {ty : FieldType} {v : Int} (hi : cs[i]? = some (ce, σ)) (hq : ce[q]? = some (a, .inr (.inl (ci, fs)))) (hf : fs[k]? = some (.inr key)) (hs1 : jx_sole key q ce = true) (hs2 : jx_sof key k fs = true) (hL : jx_FN own index ci k) (hW : jx_FW ci k ty) (hnar : narrow ty (.int (jx_i v)) = .int (jx_i v) ∧ fits ty (.int (jx_i v)) = true) {cs' : List jx_Cp} (hcs : cs.set i (ce, jx_su σ key 0 v) = cs') (hdg : decode cc pc = .ok (.putfield index, 3))
    (kk : ∀ (H1 : Heap) (locs1 : List Loc), va_P D vwCl (jx_ws cI cT cs') H1 → va_D A (jx_ws cI cT cs') → va_S A H0 H1 locs1 → W p l e R s m args below meth c H1 locs1 cells slots Q (F0 m (pc + 3) ls rest)) : W p l e R s m args below meth c H locs cells slots Q (F0 m pc ls (.int (jx_i v) :: .ref a :: rest)) := by
  obtain ⟨CN, T, N, hc, hin, hk, hT, hl⟩ := hL
  obtain ⟨CN', T', N', ty0, hc', hty, hnm, hfin, hd⟩ := hW
  have hE := hc.symm.trans hc'
  simp only [Option.some.injEq, Prod.mk.injEq] at hE
  obtain ⟨rfl, rfl, rfl⟩ := hE
  obtain ⟨k0, h1, h2⟩ := jx_flat (cI := cI) (cT := cT) hi (jx_w_get hq)
  have hlen : k < fs.length := (List.getElem?_eq_some_iff.mp hf).1
  have hset := h2 (a, .inr (ci, (fs.map (jx_fv σ)).set k (.int (jx_i v)))) (ce, jx_su σ key 0 v) (by rw [jx_w_su hq hs1]; simp only [jx_ce, jx_fs_su hf hs2])
  rw [hcs] at hset
  refine va_putN (v := .int (jx_i v)) C.1 C.2.1 C.2.2.2.2 hin ty0 hty hnm C.2.2.2.1 hK.1 hP hD hS k0 h1 hc k hk (va_Nw.use rfl (hK.2 _ hl)) (fun x hx => by rw [hT] at hx; exact hx) hfin hd hnar.1 hnar.2 (by rw [List.length_map]; exact hlen) hdg (fun H1 locs1 hP1 hD1 hS1 => ?_)
  rw [hset] at hP1 hD1
  exact kk H1 locs1 hP1 hD1 hS1
theorem jx_iald (C : jx_C p s m args c cc own nL) (hK : jx_K D cI cT s) (hP : va_P D vwCl (jx_ws cI cT cs) H) (i q : Nat) {ce : List (Nat × jx_Sh)} {σ : jx_St} {a k n : Nat} {ix : Int} (hi : cs[i]? = some (ce, σ)) (hq : ce[q]? = some (a, .inl (k, n))) (hn : Nat.ble n 2147483647 = true) (hB : jx_B ix n) (hdg : decode cc pc = .ok (.iaload, 1))
    (kk : W p l e R s m args below meth c H locs cells slots Q (F0 m (pc + 1) ls (.int (jx_i (σ k ix)) :: rest))) : W p l e R s m args below meth c H locs cells slots Q (F0 m pc ls (.int (jx_i ix) :: .ref a :: rest)) := by
  have h1 := jx_pos (cI := cI) (cT := cT) hi (jx_w_get hq)
  have hn' := Nat.le_of_ble_eq_true hn
  refine va_iald C.1 C.2.1 hK.1 hP _ 0 h1 rfl (hB.vp hn') hdg ?_
  rw [jx_nat (hB.R hn'), Int.toNat_of_nonneg hB.1]
  exact kk
theorem jx_iast (C : jx_C p s m args c cc own nL) (hK : jx_K D cI cT s) (hP : va_P D vwCl (jx_ws cI cT cs) H) (hD : va_D A (jx_ws cI cT cs)) (hS : va_S A H0 H locs) (i q : Nat) {ce : List (Nat × jx_Sh)} {σ : jx_St} {a k n : Nat} {ix v : Int} (hi : cs[i]? = some (ce, σ)) (hq : ce[q]? = some (a, .inl (k, n))) (hs1 : jx_sole k q ce = true) (hn : Nat.ble n 2147483647 = true) (hB : jx_B ix n) {cs' : List jx_Cp} (hcs : cs.set i (ce, jx_su σ k ix v) = cs') (hdg : decode cc pc = .ok (.iastore, 1))
    (kk : ∀ (H1 : Heap) (locs1 : List Loc), va_P D vwCl (jx_ws cI cT cs') H1 → va_D A (jx_ws cI cT cs') → va_S A H0 H1 locs1 → W p l e R s m args below meth c H1 locs1 cells slots Q (F0 m (pc + 1) ls rest)) : W p l e R s m args below meth c H locs cells slots Q (F0 m pc ls (.int (jx_i v) :: .int (jx_i ix) :: .ref a :: rest)) := by
  have hn' := Nat.le_of_ble_eq_true hn
  obtain ⟨k0, h1, h2⟩ := jx_flat (cI := cI) (cT := cT) hi (jx_w_get hq)
  have hset := h2 (a, jx_ce cI cT (jx_su σ k ix v) (.inl (k, n))) (ce, jx_su σ k ix v) (jx_w_su hq hs1)
  rw [hcs, jx_ce_arr hB.1] at hset
  refine va_iast C.1 C.2.1 hK.1 hP hD hS k0 0 h1 rfl (hB.vp hn') hdg (fun H1 locs1 hP1 hD1 hS1 => ?_)
  rw [jx_nat (hB.R hn'), hset] at hP1 hD1
  exact kk H1 locs1 hP1 hD1 hS1
theorem jx_alen (C : jx_C p s m args c cc own nL) (hK : jx_K D cI cT s) (hP : va_P D vwCl (jx_ws cI cT cs) H) (i q : Nat) {ce : List (Nat × jx_Sh)} {σ : jx_St} {a k n : Nat} (hi : cs[i]? = some (ce, σ)) (hq : ce[q]? = some (a, .inl (k, n))) (hdg : decode cc pc = .ok (.arraylength, 1))
    (kk : W p l e R s m args below meth c H locs cells slots Q (F0 m (pc + 1) ls (.int (jx_i (n : Int)) :: rest))) : W p l e R s m args below meth c H locs cells slots Q (F0 m pc ls (.ref a :: rest)) := by
  have h1 := jx_pos (cI := cI) (cT := cT) hi (jx_w_get hq)
  exact va_alen (v := jx_i (n : Int)) C.1 C.2.1 hK.1 hP _ 0 h1 rfl rfl hdg kk
end JX3
end
section
/-! ===== contracts, and calls by them ===== -/
def jx_MV (y : MethodName) (b : ByteArray) (nL : Nat) (ret : Option FieldType) (n : Nat) : Prop := Cond.code y b nL ret ∈ jx_T ∧ Cond.initialized y.cls ∈ jx_T ∧ Cond.instanceMethod y ∈ jx_T ∧ Cond.selects y.cls y y ∈ jx_T ∧ (y.cls ≠ "java/lang/invoke/MethodHandle" ∧ y.cls ≠ "java/lang/invoke/VarHandle" ∧ (parseMethodDescriptor y.desc).map (fun d => d.parameters.length) = some n)
def jx_MS (y : MethodName) (b : ByteArray) (nL : Nat) (ret : Option FieldType) (n : Nat) : Prop := Cond.code y b nL ret ∈ jx_T ∧ Cond.initialized y.cls ∈ jx_T ∧ Cond.static y ∈ jx_T ∧ (y.cls ≠ "java/lang/invoke/MethodHandle" ∧ y.cls ≠ "java/lang/invoke/VarHandle" ∧ (parseMethodDescriptor y.desc).map (fun d => d.parameters.length) = some n)
def jx_rm (fr lo : Nat) : Room := { frames := fr, cells := 0, slots := 0, locals := lo }
def jx_Pre (D : va_G) (cI cT : ClassId) (av : List Value) (cs : List jx_Cp) (sz : Nat) : Array Value → State → Prop := va_Pc av (fun U => U.heap.size = sz ∧ va_P D vwCl (jx_ws cI cT cs) U.heap ∧ jx_K D cI cT U ∧ va_D (fun _ => True) (jx_ws cI cT cs))
def jx_QI (S : Type) (D : va_G) (cI cT : ClassId) (cs : List jx_Cp) (f : S → List jx_Cp) (Q : Int → S → Prop) (sz : Nat) : Array Value → State → Outcome → State → Prop := va_Qi (S := S) (fun r u => ∃ x, r = jx_i x ∧ Q x u) (fun u t => va_P D vwCl (jx_ws cI cT (f u)) t.heap) (va_A (jx_ws cI cT cs) sz)
def jx_QV (S : Type) (D : va_G) (cI cT : ClassId) (cs : List jx_Cp) (f : S → List jx_Cp) (Q : S → Prop) (sz : Nat) : Array Value → State → Outcome → State → Prop := va_Qv (S := S) (fun u => Q u) (fun u t => va_P D vwCl (jx_ws cI cT (f u)) t.heap) (va_A (jx_ws cI cT cs) sz)
def jx_KI (S : Type) (l : Launch) (D : va_G) (cI cT : ClassId) (y : MethodName) (b : ByteArray) (nL : Nat) (rt : FieldType) (fr lo : Nat) (av : List Value) (cs : List jx_Cp) (f : S → List jx_Cp) (Q : Int → S → Prop) : Prop :=
  ∀ sz : Nat, Met l y (.code y b nL (some rt) :: jx_T) (jx_rm fr lo) (jx_Pre D cI cT av cs sz) (jx_QI S D cI cT cs f Q sz) 0 0 (va_A (jx_ws cI cT cs) sz)
def jx_KV (S : Type) (l : Launch) (D : va_G) (cI cT : ClassId) (y : MethodName) (b : ByteArray) (nL : Nat) (fr lo : Nat) (av : List Value) (cs : List jx_Cp) (f : S → List jx_Cp) (Q : S → Prop) : Prop :=
  ∀ sz : Nat, Met l y (.code y b nL none :: jx_T) (jx_rm fr lo) (jx_Pre D cI cT av cs sz) (jx_QV S D cI cT cs f Q sz) 0 0 (va_A (jx_ws cI cT cs) sz)
theorem jx_allgood {w : Cond} (h : w ∈ jx_T) : goodWord w = true := (List.mem_filter.mp h).2
theorem jx_goodIn {y : MethodName} {b : ByteArray} {nL : Nat} {ret : Option FieldType} (h : Cond.code y b nL ret ∈ jx_T) : GoodIn jx_T (.code y b nL ret :: jx_T) := by
  intro w hw
  rcases List.mem_cons.mp hw with rfl | hw
  · exact ⟨h, good_of_word (jx_allgood h)⟩
  · exact ⟨hw, good_of_word (jx_allgood hw)⟩
section JX4
variable {p : Program} {l : Launch} {e : Env} {R : Room} {s : State} {m : MethodId} {args : Array Value} {below : List Frame} {meth : Method} {c : Code} {H : Heap} {locs : List Loc} {cells slots : Nat} {Q : State → Prop}
variable {cc : ByteArray} {own : String} {nL pc : Nat} {ls : Array Slot} {rest : List Value} {D : va_G} {cI cT : ClassId} {cs : List jx_Cp} {A : Nat → Prop} {H0 : Heap}
theorem jx_entry {y : MethodName} {b : ByteArray} {ret : Option FieldType} {fr lo : Nat} {av : List Value} {Qc : Nat → Array Value → State → Outcome → State → Prop} (hy : plainName y.cls = true) (ho : y.cls = own) (hle : (lg_sl av).length ≤ nL)
    (body : ∀ (p : Program) (e : Env) (s : State) (m : MethodId) (args : Array Value) (below : List Frame) (meth : Method) (c : Code) (A : Nat → Prop), jx_C p s m args c b own nL → meth.sig.returnType = ret → meth.locks = false → jx_K D cI cT s → A = va_A (jx_ws cI cT cs) s.heap.size → (∀ q : Nat, s.heap.size ≤ q → A q) → va_P D vwCl (jx_ws cI cT cs) s.heap → va_D A (jx_ws cI cT cs) → va_S A s.heap s.heap [] → ∀ ls : Array Slot, lv_has ls nL (lv_args 0 av) → W p l e (jx_rm fr lo) s m args below meth c s.heap [] 0 0 (MQ below (Qc s.heap.size) args s 0 0 A) (F0 m 0 ls [])) (sz : Nat) :
    Met l y (.code y b nL ret :: jx_T) (jx_rm fr lo) (jx_Pre D cI cT av cs sz) (Qc sz) 0 0 (va_A (jx_ws cI cT cs) sz) := by
  refine Met.ofW (cc := b) (maxL := nL) (ret := ret) hy rfl ?_
  intro p e s m args below meth c s₁ B hml hv
  obtain ⟨rfl, hsz, hP, hK, hD0⟩ := hv
  have hts := atoms_spec (ws := .code y b nL ret :: jx_T) B.pre
  have hown : s.vm.findClass y.cls = some m.cls := findClass_of_methodNamed B.named
  rw [ho] at hown
  subst hsz
  have hD := hD0.self (sz := s.heap.size)
  have hl := lv_entry av (n := nL) hle
  rw [lg_entry_eq]
  generalize (lg_sl av ++ List.replicate (nL - (lg_sl av).length) Slot.unset).toArray = ls at hl ⊢
  exact body p e s m _ below meth c _ ⟨B.exec, B.bytes, hml, hown, fun w hw => hts w (List.mem_cons_of_mem _ hw)⟩ B.returns B.notSynchronized hK rfl (fun q h => Or.inr h) hP hD va_S.rf ls hl
theorem jx_retI {S : Type} {f : S → List jx_Cp} {Q : Int → S → Prop} {cs0 : List jx_Cp} (C : jx_C p s m args c cc own nL) (hr : meth.sig.returnType = some .int) (hlk : meth.locks = false) (hA : A = va_A (jx_ws cI cT cs0) s.heap.size) (hS : va_S A s.heap H locs) {x : Int} (u : S) (hP : va_P D vwCl (jx_ws cI cT (f u)) H) (hq : Q x u) (hdg : decode cc pc = .ok (.ireturn, 1)) :
    W p l e R s m args below meth c H locs 0 0 (MQ below (jx_QI S D cI cT cs0 f Q s.heap.size) args s 0 0 A) (F0 m pc ls [.int (jx_i x)]) :=
  W.iret C.1 C.2.1 hr (fun t ht _ => ⟨⟨jx_i x, u, rfl, ⟨x, rfl, hq⟩, by show va_P D vwCl (jx_ws cI cT (f u)) t.heap; rw [ht]; exact hP⟩, by rw [← hA]; exact hS.F ht⟩) hS.2.2 hdg hlk
theorem jx_retZ {S : Type} {f : S → List jx_Cp} {Q : Int → S → Prop} {cs0 : List jx_Cp} (C : jx_C p s m args c cc own nL) (hr : meth.sig.returnType = some .boolean) (hlk : meth.locks = false) (hA : A = va_A (jx_ws cI cT cs0) s.heap.size) (hS : va_S A s.heap H locs) {x : Int} (hx : x = 0 ∨ x = 1) (u : S) (hP : va_P D vwCl (jx_ws cI cT (f u)) H) (hq : Q x u) (hdg : decode cc pc = .ok (.ireturn, 1)) :
    W p l e R s m args below meth c H locs 0 0 (MQ below (jx_QI S D cI cT cs0 f Q s.heap.size) args s 0 0 A) (F0 m pc ls [.int (jx_i x)]) :=
  W.zret C.1 C.2.1 hr (by rcases hx with rfl | rfl <;> decide) (fun t ht _ => ⟨⟨jx_i x, u, rfl, ⟨x, rfl, hq⟩, by show va_P D vwCl (jx_ws cI cT (f u)) t.heap; rw [ht]; exact hP⟩, by rw [← hA]; exact hS.F ht⟩) hS.2.2 hdg hlk
theorem jx_retV {S : Type} {f : S → List jx_Cp} {Q : S → Prop} {cs0 : List jx_Cp} (C : jx_C p s m args c cc own nL) (hr : meth.sig.returnType = none) (hlk : meth.locks = false) (hA : A = va_A (jx_ws cI cT cs0) s.heap.size) (hS : va_S A s.heap H locs) (u : S) (hP : va_P D vwCl (jx_ws cI cT (f u)) H) (hq : Q u) (hdg : decode cc pc = .ok (.return_, 1)) :
    W p l e R s m args below meth c H locs 0 0 (MQ below (jx_QV S D cI cT cs0 f Q s.heap.size) args s 0 0 A) (F0 m pc ls []) :=
  W.vret C.1 C.2.1 hr (fun t ht _ => ⟨⟨u, rfl, hq, by show va_P D vwCl (jx_ws cI cT (f u)) t.heap; rw [ht]; exact hP⟩, by rw [← hA]; exact hS.F ht⟩) hS.2.2 hdg hlk
theorem jx_blind {av : List Value} {ccs : List jx_Cp} {sz : Nat} : FrameBlind (jx_Pre D cI cT av ccs sz) := fun a U g mk q => by
  obtain ⟨q0, q1, qP, qK, qD⟩ := q
  exact ⟨q0, q1, qP, ⟨va_K.moved (u := U) (U := U.calling g mk a) (Vm.Alike.refl U.vm) qK.1, qK.2.same (u := U) (U := U.calling g mk a) rfl⟩, qD⟩
theorem jx_preU {av : List Value} {ccs : List jx_Cp} (hP : va_P D vwCl (jx_ws cI cT ccs) H) (hK : jx_K D cI cT s) (hD : va_D A (jx_ws cI cT ccs)) : ∀ U : State, U.heap = H → s.WarmedH U.vm → jx_Pre D cI cT av ccs H.size av.toArray U := fun U hU hW => ⟨rfl, by rw [hU], by rw [hU]; exact hP, hK.warm hW, hD.weaken (fun _ _ _ _ => trivial)⟩
theorem jx_callVI {S : Type} {f : S → List jx_Cp} {Q' : Int → S → Prop} {y : MethodName} {b : ByteArray} {nL' index n fr lo a : Nat} {rt : FieldType} {As st0 : List Value} {ccs : List jx_Cp} (C : jx_C p s m args c cc own nL) (hK : jx_K D cI cT s) (hP : va_P D vwCl (jx_ws cI cT cs) H) (hD : va_D A (jx_ws cI cT cs)) (hS : va_S A H0 H locs) (hA : ∀ q : Nat, H0.size ≤ q → A q) (hM : jx_KI S l D cI cT y b nL' rt fr lo (.ref a :: As) ccs f Q') (hy : jx_MV y b nL' (some rt) n) (hl : Cond.methodLink own index y ∈ jx_T)
    (is : List Nat) (his : is.map (fun i => cs[i]?) = ccs.map some) (hnd : va_nd is = true) (hfst : ∀ u, (f u).map Prod.fst = ccs.map Prod.fst) {cs' : S → List jx_Cp} (hput : ∀ u, jx_put cs is (f u) = cs' u) (hcs : ∀ u, (cs' u).map Prod.fst = cs.map Prod.fst)
    (ri rq : Nat) {ce : List (Nat × jx_Sh)} {σr : jx_St} {ci : Nat} {fs : List (Nat ⊕ Nat)} {T : u_T} {N : Nat} (hri : cs[ri]? = some (ce, σr)) (hrq : ce[rq]? = some (a, .inr (.inl (ci, fs)))) (hrc : vwCl[ci]? = some (y.cls, T, N))
    (hst : st0 = As.reverse ++ .ref a :: rest) (hn : As.length = n) (hls : ls.size = nL) (hfr : (Nat.ble (fr + 1) R.frames && Nat.ble (8 + (nL' + 11) + lo) R.locals) = true) (hrest : Nat.ble (rest.map fun v => v.category).sum 8 = true) (hdg : decode cc pc = .ok (.invokevirtual index, 3)) (hcl : cells ≤ R.cells ∧ slots ≤ R.slots)
    (kk : ∀ (x : Int) (u : S) (H1 : Heap) (locs1 : List Loc), Q' x u → va_P D vwCl (jx_ws cI cT (cs' u)) H1 → va_D A (jx_ws cI cT (cs' u)) → va_S A H0 H1 locs1 → W p l e R s m args below meth c H1 locs1 cells slots Q (F0 m (pc + 3) ls (.int (jx_i x) :: rest))) : W p l e R s m args below meth c H locs cells slots Q (F0 m pc ls st0) := by
  obtain ⟨hcode, hini, hin, hsel, hd⟩ := hy
  simp only [Bool.and_eq_true] at hfr
  have hPc := jx_P_sub hP his
  have hDc := jx_D_sub hD his hnd
  have hF := jx_free hD hS hA his
  have hts := C.2.2.2.2
  have cb := callB_of (rm := jx_rm fr lo) (mc := 0) (ms := 0) n hts (jx_goodIn hcode) rfl rfl rfl (hts _ hini) (hts _ hl) hd ⟨Nat.le_of_ble_eq_true hfr.1, Nat.le_of_ble_eq_true hfr.2⟩
  have rcv := va_recv hK.1 hP (ci := ci) (q := (y.cls, T, N)) hrc (jx_pos (cI := cI) (cT := cT) hri (jx_w_get hrq))
  refine va_calli (va_runV C (hM H.size) ⟨cb, hts _ hin, hts _ hsel⟩ ⟨jx_blind, rcv, jx_preU hPc hK hDc⟩ rfl hn hls hst (lv_room (Nat.le_of_ble_eq_true hrest)) hdg ⟨hcl.1, hcl.2⟩) hS (fun q _ h => hF q h) hF (fun r u t H1 locs1 ht hvm hw hB hz1 hk1 hS1 => ?_)
  obtain ⟨x, rfl, hq⟩ := hw
  have hB : va_P D vwCl (jx_ws cI cT (f u)) t.heap := hB
  rw [ht] at hB
  exact kk x u H1 locs1 hq (jx_join hP hD his (hfst u) (hput u) hk1 hB) (jx_D_same (hcs u) hD) hS1
theorem jx_callVV {S : Type} {f : S → List jx_Cp} {Q' : S → Prop} {y : MethodName} {b : ByteArray} {nL' index n fr lo a : Nat} {As st0 : List Value} {ccs : List jx_Cp} (C : jx_C p s m args c cc own nL) (hK : jx_K D cI cT s) (hP : va_P D vwCl (jx_ws cI cT cs) H) (hD : va_D A (jx_ws cI cT cs)) (hS : va_S A H0 H locs) (hA : ∀ q : Nat, H0.size ≤ q → A q) (hM : jx_KV S l D cI cT y b nL' fr lo (.ref a :: As) ccs f Q') (hy : jx_MV y b nL' none n) (hl : Cond.methodLink own index y ∈ jx_T)
    (is : List Nat) (his : is.map (fun i => cs[i]?) = ccs.map some) (hnd : va_nd is = true) (hfst : ∀ u, (f u).map Prod.fst = ccs.map Prod.fst) {cs' : S → List jx_Cp} (hput : ∀ u, jx_put cs is (f u) = cs' u) (hcs : ∀ u, (cs' u).map Prod.fst = cs.map Prod.fst)
    (ri rq : Nat) {ce : List (Nat × jx_Sh)} {σr : jx_St} {ci : Nat} {fs : List (Nat ⊕ Nat)} {T : u_T} {N : Nat} (hri : cs[ri]? = some (ce, σr)) (hrq : ce[rq]? = some (a, .inr (.inl (ci, fs)))) (hrc : vwCl[ci]? = some (y.cls, T, N))
    (hst : st0 = As.reverse ++ .ref a :: rest) (hn : As.length = n) (hls : ls.size = nL) (hfr : (Nat.ble (fr + 1) R.frames && Nat.ble (8 + (nL' + 11) + lo) R.locals) = true) (hrest : Nat.ble (rest.map fun v => v.category).sum 8 = true) (hdg : decode cc pc = .ok (.invokevirtual index, 3)) (hcl : cells ≤ R.cells ∧ slots ≤ R.slots)
    (kk : ∀ (u : S) (H1 : Heap) (locs1 : List Loc), Q' u → va_P D vwCl (jx_ws cI cT (cs' u)) H1 → va_D A (jx_ws cI cT (cs' u)) → va_S A H0 H1 locs1 → W p l e R s m args below meth c H1 locs1 cells slots Q (F0 m (pc + 3) ls rest)) : W p l e R s m args below meth c H locs cells slots Q (F0 m pc ls st0) := by
  obtain ⟨hcode, hini, hin, hsel, hd⟩ := hy
  simp only [Bool.and_eq_true] at hfr
  have hPc := jx_P_sub hP his
  have hDc := jx_D_sub hD his hnd
  have hF := jx_free hD hS hA his
  have hts := C.2.2.2.2
  have cb := callB_of (rm := jx_rm fr lo) (mc := 0) (ms := 0) n hts (jx_goodIn hcode) rfl rfl rfl (hts _ hini) (hts _ hl) hd ⟨Nat.le_of_ble_eq_true hfr.1, Nat.le_of_ble_eq_true hfr.2⟩
  have rcv := va_recv hK.1 hP (ci := ci) (q := (y.cls, T, N)) hrc (jx_pos (cI := cI) (cT := cT) hri (jx_w_get hrq))
  refine va_callv (va_runV C (hM H.size) ⟨cb, hts _ hin, hts _ hsel⟩ ⟨jx_blind, rcv, jx_preU hPc hK hDc⟩ rfl hn hls hst (lv_room (Nat.le_of_ble_eq_true hrest)) hdg ⟨hcl.1, hcl.2⟩) hS (fun q _ h => hF q h) hF (fun u t H1 locs1 ht hvm hw hB hz1 hk1 hS1 => ?_)
  have hB : va_P D vwCl (jx_ws cI cT (f u)) t.heap := hB
  rw [ht] at hB
  exact kk u H1 locs1 hw (jx_join hP hD his (hfst u) (hput u) hk1 hB) (jx_D_same (hcs u) hD) hS1
theorem jx_callSI {S : Type} {f : S → List jx_Cp} {Q' : Int → S → Prop} {y : MethodName} {b : ByteArray} {nL' index n fr lo : Nat} {rt : FieldType} {As st0 : List Value} {ccs : List jx_Cp} (C : jx_C p s m args c cc own nL) (hK : jx_K D cI cT s) (hP : va_P D vwCl (jx_ws cI cT cs) H) (hD : va_D A (jx_ws cI cT cs)) (hS : va_S A H0 H locs) (hA : ∀ q : Nat, H0.size ≤ q → A q) (hM : jx_KI S l D cI cT y b nL' rt fr lo As ccs f Q') (hy : jx_MS y b nL' (some rt) n) (hl : Cond.methodLink own index y ∈ jx_T)
    (is : List Nat) (his : is.map (fun i => cs[i]?) = ccs.map some) (hnd : va_nd is = true) (hfst : ∀ u, (f u).map Prod.fst = ccs.map Prod.fst) {cs' : S → List jx_Cp} (hput : ∀ u, jx_put cs is (f u) = cs' u) (hcs : ∀ u, (cs' u).map Prod.fst = cs.map Prod.fst)
    (hst : st0 = As.reverse ++ rest) (hn : As.length = n) (hls : ls.size = nL) (hfr : (Nat.ble (fr + 1) R.frames && Nat.ble (8 + (nL' + 11) + lo) R.locals) = true) (hrest : Nat.ble (rest.map fun v => v.category).sum 8 = true) (hdg : decode cc pc = .ok (.invokestatic index, 3)) (hcl : cells ≤ R.cells ∧ slots ≤ R.slots)
    (kk : ∀ (x : Int) (u : S) (H1 : Heap) (locs1 : List Loc), Q' x u → va_P D vwCl (jx_ws cI cT (cs' u)) H1 → va_D A (jx_ws cI cT (cs' u)) → va_S A H0 H1 locs1 → W p l e R s m args below meth c H1 locs1 cells slots Q (F0 m (pc + 3) ls (.int (jx_i x) :: rest))) : W p l e R s m args below meth c H locs cells slots Q (F0 m pc ls st0) := by
  obtain ⟨hcode, hini, hstt, hd⟩ := hy
  simp only [Bool.and_eq_true] at hfr
  have hPc := jx_P_sub hP his
  have hDc := jx_D_sub hD his hnd
  have hF := jx_free hD hS hA his
  have hts := C.2.2.2.2
  have cb := callB_of (rm := jx_rm fr lo) (mc := 0) (ms := 0) n hts (jx_goodIn hcode) rfl rfl rfl (hts _ hini) (hts _ hl) hd ⟨Nat.le_of_ble_eq_true hfr.1, Nat.le_of_ble_eq_true hfr.2⟩
  refine va_calli (va_runS C (hM H.size) ⟨cb, hts _ hstt⟩ ⟨jx_blind, jx_preU hPc hK hDc⟩ rfl hn hls hst (lv_room (Nat.le_of_ble_eq_true hrest)) hdg ⟨hcl.1, hcl.2⟩) hS (fun q _ h => hF q h) hF (fun r u t H1 locs1 ht hvm hw hB hz1 hk1 hS1 => ?_)
  obtain ⟨x, rfl, hq⟩ := hw
  have hB : va_P D vwCl (jx_ws cI cT (f u)) t.heap := hB
  rw [ht] at hB
  exact kk x u H1 locs1 hq (jx_join hP hD his (hfst u) (hput u) hk1 hB) (jx_D_same (hcs u) hD) hS1
end JX4
end
section
/-! ===== methods over one row of numbers: Rows.at, Rows.set, Arrays.fill, area; calls of them ===== -/
def jx_at (n : Nat) (f : Int → Int) (ix : Int) : Int := if 0 ≤ ix ∧ ix < (n : Int) then f ix else -1
def jx_se (n : Nat) (σ : jx_St) (k : Nat) (ix v : Int) : jx_St := if 0 ≤ ix ∧ ix < (n : Int) then jx_su σ k ix v else σ
def jx_fill (σ : jx_St) (k n : Nat) (v : Int) : jx_St := fun k' i' => if k' = k ∧ 0 ≤ i' ∧ i' < (n : Int) then v else σ k' i'
def jx_rk (σ : jx_St) (k : Nat) (g : Int → Int) : jx_St := fun k' i' => if k' = k then g i' else σ k' i'
def jx_one (a n : Nat) (σ : jx_St) : jx_Cp := ([(a, .inl (0, n))], σ)
theorem jx_mT_X4_at : jx_MS yX4_at cX4_at 2 (some .int) 2 := ⟨by decide +kernel, by decide +kernel, by decide +kernel, by decide +kernel⟩
theorem jx_mT_X4_set : jx_MS yX4_set cX4_set 3 none 3 := ⟨by decide +kernel, by decide +kernel, by decide +kernel, by decide +kernel⟩
theorem jx_mT_J7_fill : jx_MS yJ7_fill_53178 cJ7_fill_53178 4 none 2 := ⟨by decide +kernel, by decide +kernel, by decide +kernel, by decide +kernel⟩
theorem jx_mT_X8_area : jx_MS yX8_area cX8_area 1 (some .int) 1 := ⟨by decide +kernel, by decide +kernel, by decide +kernel, by decide +kernel⟩
set_option maxRecDepth 100000 in
set_option maxHeartbeats 4000000 in
theorem ct_Rows_at (l : Launch) (D : va_G) (cI cT : ClassId) (a n : Nat) (σ : jx_St) (ix : Int) (hn : Nat.ble n 2147483647 = true) (hR : jx_R ix) : jx_KI Unit l D cI cT yX4_at cX4_at 2 .int 0 0 [.ref a, .int (jx_i ix)] [jx_one a n σ] (fun _ => [jx_one a n σ]) (fun x _ => x = jx_at n (σ 0) ix) := by
  refine jx_entry (own := RX4) (by decide) rfl (Nat.le_of_ble_eq_true rfl) ?_
  intro p e s m args below meth c A C hr hlk hK hAe hA hP hD hS ls hl
  have hl : lv_has ls 2 [(0, .ref a), (1, .int (jx_i ix))] := hl
  have hx := C.1
  have hb := C.2.1
  have hnR : jx_R (n : Int) := ⟨by omega, by have := Nat.le_of_ble_eq_true hn; omega⟩
  refine lv_iload_n hx hb dX4_at_0 rfl (lv_at hl 1 rfl) ?_
  refine jx_zlt C (tgt := 16) hR dX4_at_1 (by decide) (fun h1 => ?_) (fun h1 => ?_)
  · refine jx_iconst C dX4_at_16 ?_
    exact jx_retI C hr hlk hAe hS () hP (by simp only [jx_at]; rw [if_neg (by omega)]) dX4_at_17
  · refine lv_iload_n hx hb dX4_at_4 rfl (lv_at hl 1 rfl) ?_
    refine lv_aload_n hx hb dX4_at_5 rfl (lv_at hl 0 rfl) ?_
    refine jx_alen C hK hP 0 0 rfl rfl dX4_at_6 ?_
    refine jx_cge C (tgt := 16) hR hnR dX4_at_7 (by decide) (fun h2 => ?_) (fun h2 => ?_)
    · refine jx_iconst C dX4_at_16 ?_
      exact jx_retI C hr hlk hAe hS () hP (by simp only [jx_at]; rw [if_neg (by omega)]) dX4_at_17
    · refine lv_aload_n hx hb dX4_at_10 rfl (lv_at hl 0 rfl) ?_
      refine lv_iload_n hx hb dX4_at_11 rfl (lv_at hl 1 rfl) ?_
      refine jx_iald C hK hP 0 0 rfl rfl hn ⟨by omega, h2⟩ dX4_at_12 ?_
      refine lv_goto (tgt := 17) hx hb dX4_at_13 (by decide) ?_
      exact jx_retI C hr hlk hAe hS () hP (by simp only [jx_at]; rw [if_pos ⟨by omega, h2⟩]) dX4_at_17
set_option maxRecDepth 100000 in
set_option maxHeartbeats 4000000 in
theorem ct_Rows_set (l : Launch) (D : va_G) (cI cT : ClassId) (a n : Nat) (σ : jx_St) (ix v : Int) (hn : Nat.ble n 2147483647 = true) (hR : jx_R ix) : jx_KV jx_St l D cI cT yX4_set cX4_set 3 0 0 [.ref a, .int (jx_i ix), .int (jx_i v)] [jx_one a n σ] (fun u => [jx_one a n u]) (fun u => u 0 = jx_se n σ 0 ix v 0) := by
  refine jx_entry (own := RX4) (by decide) rfl (Nat.le_of_ble_eq_true rfl) ?_
  intro p e s m args below meth c A C hr hlk hK hAe hA hP hD hS ls hl
  have hl : lv_has ls 3 [(0, .ref a), (1, .int (jx_i ix)), (2, .int (jx_i v))] := hl
  have hx := C.1
  have hb := C.2.1
  have hnR : jx_R (n : Int) := ⟨by omega, by have := Nat.le_of_ble_eq_true hn; omega⟩
  refine lv_iload_n hx hb dX4_set_0 rfl (lv_at hl 1 rfl) ?_
  refine jx_zlt C (tgt := 14) hR dX4_set_1 (by decide) (fun h1 => ?_) (fun h1 => ?_)
  · exact jx_retV C hr hlk hAe hS σ hP (by simp only [jx_se]; rw [if_neg (by omega)]) dX4_set_14
  · refine lv_iload_n hx hb dX4_set_4 rfl (lv_at hl 1 rfl) ?_
    refine lv_aload_n hx hb dX4_set_5 rfl (lv_at hl 0 rfl) ?_
    refine jx_alen C hK hP 0 0 rfl rfl dX4_set_6 ?_
    refine jx_cge C (tgt := 14) hR hnR dX4_set_7 (by decide) (fun h2 => ?_) (fun h2 => ?_)
    · exact jx_retV C hr hlk hAe hS σ hP (by simp only [jx_se]; rw [if_neg (by omega)]) dX4_set_14
    · refine lv_aload_n hx hb dX4_set_10 rfl (lv_at hl 0 rfl) ?_
      refine lv_iload_n hx hb dX4_set_11 rfl (lv_at hl 1 rfl) ?_
      refine lv_iload_n hx hb dX4_set_12 rfl (lv_at hl 2 rfl) ?_
      refine jx_iast C hK hP hD hS 0 0 rfl rfl rfl hn ⟨by omega, h2⟩ (cs' := [jx_one a n (jx_su σ 0 ix v)]) rfl dX4_set_13 (fun H locs hP hD hS => ?_)
      exact jx_retV C hr hlk hAe hS (jx_su σ 0 ix v) hP (by simp only [jx_se]; rw [if_pos ⟨by omega, h2⟩]) dX4_set_14
end
section
section JX5
theorem jx_ce_gen {cI cT : ClassId} {σ σ' : jx_St} {k : Nat} (hσ : ∀ k' : Nat, k' ≠ k → σ' k' = σ k') {sh : jx_Sh} (h : jx_hask k sh = false) : jx_ce cI cT σ' sh = jx_ce cI cT σ sh := by
  rcases sh with ⟨k', n⟩ | ⟨ci, fs⟩ | l
  · have hk : k' ≠ k := by simpa [jx_hask] using h
    simp only [jx_ce, hσ k' hk]
  · simp only [jx_ce]
    have h2 : fs.map (jx_fv σ') = fs.map (jx_fv σ) := by
      apply List.map_congr_left
      intro f hf
      cases f with
      | inl a => rfl
      | inr k' =>
        have hk : k' ≠ k := by
          intro e
          subst e
          simp only [jx_hask, List.any_eq_false] at h
          have := h _ hf
          simp at this
        simp only [jx_fv, hσ k' hk]
    rw [h2]
  · rfl
theorem jx_w_gen {cI cT : ClassId} {cells : List (Nat × jx_Sh)} {σ σ' : jx_St} {q a k : Nat} {sh : jx_Sh} (hσ : ∀ k' : Nat, k' ≠ k → σ' k' = σ k') (h : cells[q]? = some (a, sh)) (hs : jx_sole k q cells = true) : jx_w cI cT (cells, σ') = (jx_w cI cT (cells, σ)).set q (a, jx_ce cI cT σ' sh) := by
  apply List.ext_getElem?
  intro j
  rw [List.getElem?_set]
  by_cases hj : q = j
  · subst hj
    have hl : q < cells.length := (List.getElem?_eq_some_iff.mp h).1
    rw [jx_w_get h, if_pos rfl, if_pos (by simp only [jx_w, List.length_map]; exact hl)]
  · rw [if_neg hj]
    simp only [jx_w, List.getElem?_map]
    cases hc : cells[j]? with
    | none => rfl
    | some d =>
      simp only [Option.map_some]
      rw [jx_ce_gen hσ (jx_sole_spec hs hc (fun e => hj e.symm))]
theorem jx_one_P {cI cT : ClassId} {D : va_G} {cs : List jx_Cp} {H : Heap} (hP : va_P D vwCl (jx_ws cI cT cs) H) {i q a k n : Nat} {ce : List (Nat × jx_Sh)} {σ : jx_St} (hi : cs[i]? = some (ce, σ)) (hq : ce[q]? = some (a, .inl (k, n))) : va_P D vwCl (jx_ws cI cT [jx_one a n (fun _ => σ k)]) H := by
  intro j x hj
  have h1 := hP _ _ (jx_pos (cI := cI) (cT := cT) hi (jx_w_get hq))
  have h0 : ([(a, jx_ce cI cT (fun _ => σ k) (.inl (0, n)))] : va_W)[j]? = some x := hj
  cases j with
  | zero =>
    have e := Option.some.inj h0
    subst e
    exact h1
  | succ j => simp at h0
theorem jx_one_D {cI cT : ClassId} {A : Nat → Prop} {cs : List jx_Cp} (hD : va_D A (jx_ws cI cT cs)) {i q a k n : Nat} {ce : List (Nat × jx_Sh)} {σ u : jx_St} (hi : cs[i]? = some (ce, σ)) (hq : ce[q]? = some (a, .inl (k, n))) : va_D A (jx_ws cI cT [jx_one a n u]) := by
  have h0 : ∀ (j : Nat) (x : Nat × va_E), (jx_ws cI cT [jx_one a n u])[j]? = some x → j = 0 ∧ x.1 = a := by
    intro j x hj
    have hj : ([(a, jx_ce cI cT u (.inl (0, n)))] : va_W)[j]? = some x := hj
    cases j with
    | zero => exact ⟨rfl, by rw [← Option.some.inj hj]⟩
    | succ j => simp at hj
  refine ⟨fun i j p q hi hj _ => by rw [(h0 _ _ hi).1, (h0 _ _ hj).1], fun j x hj => ?_⟩
  rw [(h0 _ _ hj).2]
  exact hD.2 _ _ (jx_pos (cI := cI) (cT := cT) hi (jx_w_get hq))
theorem jx_one_free {cI cT : ClassId} {A : Nat → Prop} {cs : List jx_Cp} {H0 H : Heap} {locs : List Loc} (hD : va_D A (jx_ws cI cT cs)) (hS : va_S A H0 H locs) (hA : ∀ q, H0.size ≤ q → A q) {i q a k n : Nat} {ce : List (Nat × jx_Sh)} {σ u : jx_St} (hi : cs[i]? = some (ce, σ)) (hq : ce[q]? = some (a, .inl (k, n))) : ∀ r, va_A (jx_ws cI cT [jx_one a n u]) H.size r → A r := by
  intro r h
  rcases h with ⟨j, e, h⟩ | h
  · exact (jx_one_D (u := u) hD hi hq).2 j _ h
  · exact hA r (Nat.le_trans hS.1 h)
theorem jx_one_join {cI cT : ClassId} {D : va_G} {A : Nat → Prop} {cs cs' : List jx_Cp} {H H1 : Heap} (hP : va_P D vwCl (jx_ws cI cT cs) H) (hD : va_D A (jx_ws cI cT cs)) {i q a k n : Nat} {ce : List (Nat × jx_Sh)} {σ u0 u : jx_St} (hi : cs[i]? = some (ce, σ)) (hq : ce[q]? = some (a, .inl (k, n))) (hs : jx_sole k q ce = true) (hcs : cs.set i (ce, jx_rk σ k (u 0)) = cs') (hk : ∀ r : Nat, r < H.size → ¬ va_A (jx_ws cI cT [jx_one a n u0]) H.size r → H1[r]? = H[r]?) (hP1 : va_P D vwCl (jx_ws cI cT [jx_one a n u]) H1) : va_P D vwCl (jx_ws cI cT cs') H1 := by
  obtain ⟨k0, h1, h2⟩ := jx_flat (cI := cI) (cT := cT) hi (jx_w_get hq)
  have hset := h2 (a, jx_ce cI cT (jx_rk σ k (u 0)) (.inl (k, n))) (ce, jx_rk σ k (u 0)) (jx_w_gen (fun k' h => by funext j; simp [jx_rk, h]) hq hs)
  rw [hcs] at hset
  rw [← hset]
  intro j x hj
  rw [List.getElem?_set] at hj
  by_cases e : k0 = j
  · rw [if_pos e] at hj
    split at hj
    · have ex := Option.some.inj hj
      subst ex
      have h3 := hP1 0 (a, jx_ce cI cT u (.inl (0, n))) rfl
      have h4 : jx_ce cI cT (jx_rk σ k (u 0)) (.inl (k, n)) = jx_ce cI cT u (.inl (0, n)) := by simp only [jx_ce, jx_rk, if_pos]
      rw [h4]
      exact h3
    · cases hj
  · rw [if_neg e] at hj
    have hat := hP j x hj
    refine hat.kept (hk x.1 hat.lt (fun hA => ?_))
    rcases hA with ⟨j2, y, hA⟩ | hA
    · have hA : ([(a, jx_ce cI cT u0 (.inl (0, n)))] : va_W)[j2]? = some (x.1, y) := hA
      cases j2 with
      | zero =>
        have ea : a = x.1 := by have := Option.some.inj hA; exact congrArg Prod.fst this
        exact e (hD.1 _ _ _ _ h1 hj ea)
      | succ j2 => simp at hA
    · have := hat.lt
      omega
theorem jx_rk_self {σ : jx_St} {k : Nat} : jx_rk σ k (σ k) = σ := by
  funext k' i'
  simp only [jx_rk]
  split
  · next h => rw [h]
  · rfl
theorem jx_set_self {cs : List jx_Cp} {i : Nat} {c : jx_Cp} (h : cs[i]? = some c) : cs.set i c = cs := by
  apply List.ext_getElem?
  intro j
  rw [List.getElem?_set]
  by_cases e : i = j
  · subst e
    rw [if_pos rfl, if_pos (List.getElem?_eq_some_iff.mp h).1, h]
  · rw [if_neg e]
theorem jx_map_set {cs : List jx_Cp} {i : Nat} {ce : List (Nat × jx_Sh)} {σ σ' : jx_St} (h : cs[i]? = some (ce, σ)) : (cs.set i (ce, σ')).map Prod.fst = cs.map Prod.fst := by
  apply List.ext_getElem?
  intro j
  rw [List.getElem?_map, List.getElem?_map, List.getElem?_set]
  by_cases e : i = j
  · subst e
    rw [if_pos rfl, if_pos (List.getElem?_eq_some_iff.mp h).1, h]
    rfl
  · rw [if_neg e]
variable {p : Program} {l : Launch} {e : Env} {R : Room} {s : State} {m : MethodId} {args : Array Value} {below : List Frame} {meth : Method} {c : Code} {H : Heap} {locs : List Loc} {cells slots : Nat} {Q : State → Prop}
variable {cc : ByteArray} {own : String} {nL pc : Nat} {ls : Array Slot} {rest : List Value} {D : va_G} {cI cT : ClassId} {cs : List jx_Cp} {A : Nat → Prop} {H0 : Heap}
theorem jx_callAI {Q' : Int → Unit → Prop} {y : MethodName} {b : ByteArray} {nL' index nn fr lo : Nat} {rt : FieldType} {As st0 : List Value} (C : jx_C p s m args c cc own nL) (hK : jx_K D cI cT s) (hP : va_P D vwCl (jx_ws cI cT cs) H) (hD : va_D A (jx_ws cI cT cs)) (hS : va_S A H0 H locs) (hA : ∀ q : Nat, H0.size ≤ q → A q)
    (i q : Nat) {a k n : Nat} {ce : List (Nat × jx_Sh)} {σ : jx_St} (hi : cs[i]? = some (ce, σ)) (hq : ce[q]? = some (a, .inl (k, n))) (hs : jx_sole k q ce = true) (hM : jx_KI Unit l D cI cT y b nL' rt fr lo As [jx_one a n (fun _ => σ k)] (fun _ => [jx_one a n (fun _ => σ k)]) Q') (hy : jx_MS y b nL' (some rt) nn) (hl : Cond.methodLink own index y ∈ jx_T)
    (hst : st0 = As.reverse ++ rest) (hn : As.length = nn) (hls : ls.size = nL) (hfr : (Nat.ble (fr + 1) R.frames && Nat.ble (8 + (nL' + 11) + lo) R.locals) = true) (hrest : Nat.ble (rest.map fun v => v.category).sum 8 = true) (hdg : decode cc pc = .ok (.invokestatic index, 3)) (hcl : cells ≤ R.cells ∧ slots ≤ R.slots)
    (kk : ∀ (x : Int) (H1 : Heap) (locs1 : List Loc), Q' x () → va_P D vwCl (jx_ws cI cT cs) H1 → va_S A H0 H1 locs1 → W p l e R s m args below meth c H1 locs1 cells slots Q (F0 m (pc + 3) ls (.int (jx_i x) :: rest))) : W p l e R s m args below meth c H locs cells slots Q (F0 m pc ls st0) := by
  obtain ⟨hcode, hini, hstt, hd⟩ := hy
  simp only [Bool.and_eq_true] at hfr
  have hPc := jx_one_P hP hi hq
  have hDc := jx_one_D (u := fun _ => σ k) hD hi hq
  have hF := jx_one_free (u := fun _ => σ k) hD hS hA hi hq
  have hts := C.2.2.2.2
  have cb := callB_of (rm := jx_rm fr lo) (mc := 0) (ms := 0) nn hts (jx_goodIn hcode) rfl rfl rfl (hts _ hini) (hts _ hl) hd ⟨Nat.le_of_ble_eq_true hfr.1, Nat.le_of_ble_eq_true hfr.2⟩
  refine va_calli (va_runS C (hM H.size) ⟨cb, hts _ hstt⟩ ⟨jx_blind, jx_preU hPc hK hDc⟩ rfl hn hls hst (lv_room (Nat.le_of_ble_eq_true hrest)) hdg ⟨hcl.1, hcl.2⟩) hS (fun q _ h => hF q h) hF (fun r u t H1 locs1 ht hvm hw hB hz1 hk1 hS1 => ?_)
  obtain ⟨x, rfl, hqx⟩ := hw
  have hB : va_P D vwCl (jx_ws cI cT [jx_one a n (fun _ => σ k)]) t.heap := hB
  rw [ht] at hB
  refine kk x H1 locs1 hqx (jx_one_join hP hD hi hq hs ?_ hk1 hB) hS1
  rw [jx_rk_self]
  exact jx_set_self hi
theorem jx_callAV {Q' : jx_St → Prop} {y : MethodName} {b : ByteArray} {nL' index nn fr lo : Nat} {As st0 : List Value} (C : jx_C p s m args c cc own nL) (hK : jx_K D cI cT s) (hP : va_P D vwCl (jx_ws cI cT cs) H) (hD : va_D A (jx_ws cI cT cs)) (hS : va_S A H0 H locs) (hA : ∀ q : Nat, H0.size ≤ q → A q)
    (i q : Nat) {a k n : Nat} {ce : List (Nat × jx_Sh)} {σ : jx_St} (hi : cs[i]? = some (ce, σ)) (hq : ce[q]? = some (a, .inl (k, n))) (hs : jx_sole k q ce = true) (hM : jx_KV jx_St l D cI cT y b nL' fr lo As [jx_one a n (fun _ => σ k)] (fun u => [jx_one a n u]) Q') (hy : jx_MS y b nL' none nn) (hl : Cond.methodLink own index y ∈ jx_T)
    (σ' : jx_St) (hσ : ∀ u, Q' u → jx_rk σ k (u 0) = σ') {cs' : List jx_Cp} (hcs : cs.set i (ce, σ') = cs')
    (hst : st0 = As.reverse ++ rest) (hn : As.length = nn) (hls : ls.size = nL) (hfr : (Nat.ble (fr + 1) R.frames && Nat.ble (8 + (nL' + 11) + lo) R.locals) = true) (hrest : Nat.ble (rest.map fun v => v.category).sum 8 = true) (hdg : decode cc pc = .ok (.invokestatic index, 3)) (hcl : cells ≤ R.cells ∧ slots ≤ R.slots)
    (kk : ∀ (H1 : Heap) (locs1 : List Loc), va_P D vwCl (jx_ws cI cT cs') H1 → va_D A (jx_ws cI cT cs') → va_S A H0 H1 locs1 → W p l e R s m args below meth c H1 locs1 cells slots Q (F0 m (pc + 3) ls rest)) : W p l e R s m args below meth c H locs cells slots Q (F0 m pc ls st0) := by
  obtain ⟨hcode, hini, hstt, hd⟩ := hy
  simp only [Bool.and_eq_true] at hfr
  have hPc := jx_one_P hP hi hq
  have hDc := jx_one_D (u := fun _ => σ k) hD hi hq
  have hF := jx_one_free (u := fun _ => σ k) hD hS hA hi hq
  have hts := C.2.2.2.2
  have cb := callB_of (rm := jx_rm fr lo) (mc := 0) (ms := 0) nn hts (jx_goodIn hcode) rfl rfl rfl (hts _ hini) (hts _ hl) hd ⟨Nat.le_of_ble_eq_true hfr.1, Nat.le_of_ble_eq_true hfr.2⟩
  refine va_callv (va_runS C (hM H.size) ⟨cb, hts _ hstt⟩ ⟨jx_blind, jx_preU hPc hK hDc⟩ rfl hn hls hst (lv_room (Nat.le_of_ble_eq_true hrest)) hdg ⟨hcl.1, hcl.2⟩) hS (fun q _ h => hF q h) hF (fun u t H1 locs1 ht hvm hw hB hz1 hk1 hS1 => ?_)
  have hB : va_P D vwCl (jx_ws cI cT [jx_one a n u]) t.heap := hB
  rw [ht] at hB
  refine kk H1 locs1 (jx_one_join hP hD hi hq hs ?_ hk1 hB) (jx_D_same ?_ hD) hS1
  · rw [hσ u hw]
    exact hcs
  · rw [← hcs]
    exact jx_map_set hi
/-- Rows.at, called: what it answers is known -/
theorem jx_rowsAt {index : Nat} {ix : Int} (C : jx_C p s m args c cc own nL) (hK : jx_K D cI cT s) (hP : va_P D vwCl (jx_ws cI cT cs) H) (hD : va_D A (jx_ws cI cT cs)) (hS : va_S A H0 H locs) (hA : ∀ q : Nat, H0.size ≤ q → A q)
    (i q : Nat) {a k n : Nat} {ce : List (Nat × jx_Sh)} {σ : jx_St} (hi : cs[i]? = some (ce, σ)) (hq : ce[q]? = some (a, .inl (k, n))) (hs : jx_sole k q ce = true) (hn : Nat.ble n 2147483647 = true) (hR : jx_R ix) (hl : Cond.methodLink own index yX4_at ∈ jx_T)
    (hls : ls.size = nL) (hfr : (Nat.ble 1 R.frames && Nat.ble 21 R.locals) = true) (hrest : Nat.ble (rest.map fun v => v.category).sum 8 = true) (hdg : decode cc pc = .ok (.invokestatic index, 3)) (hcl : cells ≤ R.cells ∧ slots ≤ R.slots)
    (kk : ∀ (H1 : Heap) (locs1 : List Loc), va_P D vwCl (jx_ws cI cT cs) H1 → va_S A H0 H1 locs1 → W p l e R s m args below meth c H1 locs1 cells slots Q (F0 m (pc + 3) ls (.int (jx_i (jx_at n (σ k) ix)) :: rest))) : W p l e R s m args below meth c H locs cells slots Q (F0 m pc ls (.int (jx_i ix) :: .ref a :: rest)) :=
  jx_callAI C hK hP hD hS hA i q hi hq hs (ct_Rows_at l D cI cT a n (fun _ => σ k) ix hn hR) jx_mT_X4_at hl rfl rfl hls hfr hrest hdg hcl (fun x H1 locs1 hx hP1 hS1 => by subst hx; exact kk H1 locs1 hP1 hS1)
theorem jx_rowsSet {index : Nat} {ix v : Int} (C : jx_C p s m args c cc own nL) (hK : jx_K D cI cT s) (hP : va_P D vwCl (jx_ws cI cT cs) H) (hD : va_D A (jx_ws cI cT cs)) (hS : va_S A H0 H locs) (hA : ∀ q : Nat, H0.size ≤ q → A q)
    (i q : Nat) {a k n : Nat} {ce : List (Nat × jx_Sh)} {σ : jx_St} (hi : cs[i]? = some (ce, σ)) (hq : ce[q]? = some (a, .inl (k, n))) (hs : jx_sole k q ce = true) (hn : Nat.ble n 2147483647 = true) (hR : jx_R ix) (hl : Cond.methodLink own index yX4_set ∈ jx_T) {cs' : List jx_Cp} (hcs : cs.set i (ce, jx_se n σ k ix v) = cs')
    (hls : ls.size = nL) (hfr : (Nat.ble 1 R.frames && Nat.ble 22 R.locals) = true) (hrest : Nat.ble (rest.map fun v => v.category).sum 8 = true) (hdg : decode cc pc = .ok (.invokestatic index, 3)) (hcl : cells ≤ R.cells ∧ slots ≤ R.slots)
    (kk : ∀ (H1 : Heap) (locs1 : List Loc), va_P D vwCl (jx_ws cI cT cs') H1 → va_D A (jx_ws cI cT cs') → va_S A H0 H1 locs1 → W p l e R s m args below meth c H1 locs1 cells slots Q (F0 m (pc + 3) ls rest)) : W p l e R s m args below meth c H locs cells slots Q (F0 m pc ls (.int (jx_i v) :: .int (jx_i ix) :: .ref a :: rest)) :=
  jx_callAV C hK hP hD hS hA i q hi hq hs (ct_Rows_set l D cI cT a n (fun _ => σ k) ix v hn hR) jx_mT_X4_set hl (jx_se n σ k ix v) (fun u hu => by
    rw [hu]
    funext k' i'
    by_cases hin : 0 ≤ ix ∧ ix < (n : Int)
    · by_cases hk' : k' = k
      · simp [jx_rk, jx_se, jx_su, hin, hk']
      · simp [jx_rk, jx_se, jx_su, hin, hk']
    · by_cases hk' : k' = k
      · simp [jx_rk, jx_se, hin, hk']
      · simp [jx_rk, jx_se, hin, hk']) hcs rfl rfl hls hfr hrest hdg hcl kk
end JX5
end
section
def jx_cp (σ : jx_St) (k : Nat) (f : Int → Int) (n : Nat) : jx_St := fun k' i' => if k' = k ∧ 0 ≤ i' ∧ i' < (n : Int) then f i' else σ k' i'
theorem jx_inR {a : Int} (h1 : -2147483648 ≤ a) (h2 : a ≤ 2147483647) : jx_R a := ⟨h1, h2⟩
set_option maxRecDepth 100000 in
set_option maxHeartbeats 4000000 in
theorem ct_fill (l : Launch) (D : va_G) (cI cT : ClassId) (a n : Nat) (σ : jx_St) (v : Int) (hn : Nat.ble n 2147483646 = true) : jx_KV jx_St l D cI cT yJ7_fill_53178 cJ7_fill_53178 4 0 0 [.ref a, .int (jx_i v)] [jx_one a n σ] (fun u => [jx_one a n u]) (fun u => u 0 = jx_fill σ 0 n v 0) := by
  refine jx_entry (own := RJ7) (by decide) rfl (Nat.le_of_ble_eq_true rfl) ?_
  intro p e s m args below meth c A C hr hlk hK hAe hA hP hD hS ls hl
  have hl : lv_has ls 4 [(0, .ref a), (1, .int (jx_i v))] := hl
  have hx := C.1
  have hb := C.2.1
  have hn' := Nat.le_of_ble_eq_true hn
  have hn2 : Nat.ble n 2147483647 = true := Nat.ble_eq.mpr (by omega)
  have hnR : jx_R (n : Int) := ⟨by omega, by omega⟩
  have L : ∀ (d i : Nat) (τ : jx_St), i + d = n → (∀ (k' : Nat) (j : Int), τ k' j = if k' = 0 ∧ 0 ≤ j ∧ j < (i : Int) then v else σ k' j) → ∀ (H : Heap) (locs : List Loc), va_P D vwCl (jx_ws cI cT [jx_one a n τ]) H → va_D A (jx_ws cI cT [jx_one a n τ]) → va_S A s.heap H locs → ∀ ls, lv_has ls 4 [(2, .int (jx_i (i : Int))), (3, .int (jx_i (n : Int))), (0, .ref a), (1, .int (jx_i v))] → W p l e (jx_rm 0 0) s m args below meth c H locs 0 0 (MQ below (jx_QV jx_St D cI cT [jx_one a n σ] (fun u => [jx_one a n u]) (fun u => u 0 = jx_fill σ 0 n v 0) s.heap.size) args s 0 0 A) (F0 m 5 ls []) := by
    intro d
    induction d with
    | zero =>
      intro i τ hd hτ H locs hP hD hS ls hl
      refine lv_iload_n hx hb dJ7_fill_53178_5 rfl (lv_at hl 0 rfl) ?_
      refine lv_iload_n hx hb dJ7_fill_53178_6 rfl (lv_at hl 1 rfl) ?_
      refine jx_cge C (tgt := 20) ⟨by omega, by omega⟩ hnR dJ7_fill_53178_7 (by decide) (fun h2 => ?_) (fun h2 => absurd h2 (by omega))
      refine jx_retV C hr hlk hAe hS τ hP ?_ dJ7_fill_53178_20
      funext j
      rw [hτ]
      have : (i : Int) = n := by omega
      simp [jx_fill, this]
    | succ d ih =>
      intro i τ hd hτ H locs hP hD hS ls hl
      refine lv_iload_n hx hb dJ7_fill_53178_5 rfl (lv_at hl 0 rfl) ?_
      refine lv_iload_n hx hb dJ7_fill_53178_6 rfl (lv_at hl 1 rfl) ?_
      refine jx_cge C (tgt := 20) ⟨by omega, by omega⟩ hnR dJ7_fill_53178_7 (by decide) (fun h2 => absurd (show (i : Int) < n by omega) h2) (fun h2 => ?_)
      refine lv_aload_n hx hb dJ7_fill_53178_10 rfl (lv_at hl 2 rfl) ?_
      refine lv_iload_n hx hb dJ7_fill_53178_11 rfl (lv_at hl 0 rfl) ?_
      refine lv_iload_n hx hb dJ7_fill_53178_12 rfl (lv_at hl 3 rfl) ?_
      refine jx_iast C hK hP hD hS 0 0 rfl rfl rfl hn2 ⟨by omega, h2⟩ (cs' := [jx_one a n (jx_su τ 0 (i : Int) v)]) rfl dJ7_fill_53178_13 (fun H locs hP hD hS => ?_)
      refine jx_iinc C (lv' := [(2, .int (jx_i ((i : Int) + 1))), (3, .int (jx_i (n : Int))), (0, .ref a), (1, .int (jx_i v))]) dJ7_fill_53178_14 hl (k := 0) rfl (by decide) rfl (fun ls hl => ?_)
      refine lv_goto (tgt := 5) hx hb dJ7_fill_53178_17 (by decide) ?_
      refine ih (i + 1) (jx_su τ 0 (i : Int) v) (by omega) (fun k' j => ?_) H locs hP hD hS ls (by rw [show ((i + 1 : Nat) : Int) = (i : Int) + 1 from by omega]; exact hl)
      simp only [jx_su, hτ]
      by_cases h3 : k' = 0 ∧ j = (i : Int)
      · rw [if_pos h3, if_pos (by omega)]
      · rw [if_neg h3]
        by_cases h4 : k' = 0 ∧ 0 ≤ j ∧ j < (i : Int)
        · rw [if_pos h4, if_pos (by omega)]
        · rw [if_neg h4, if_neg (by omega)]
  refine jx_iconst C dJ7_fill_53178_0 ?_
  refine lv_istore_n (lv' := [(2, .int (jx_i 0)), (0, .ref a), (1, .int (jx_i v))]) hx hb dJ7_fill_53178_1 rfl hl (by decide) rfl (fun ls hl => ?_)
  refine lv_aload_n hx hb dJ7_fill_53178_2 rfl (lv_at hl 1 rfl) ?_
  refine jx_alen C hK hP 0 0 rfl rfl dJ7_fill_53178_3 ?_
  refine lv_istore_n (lv' := [(3, .int (jx_i (n : Int))), (2, .int (jx_i 0)), (0, .ref a), (1, .int (jx_i v))]) hx hb dJ7_fill_53178_4 rfl hl (by decide) rfl (fun ls hl => ?_)
  exact L n 0 σ (by omega) (fun k' j => by rw [if_neg (by omega)]) _ _ hP hD hS ls (lv_sub hl [1, 0, 2, 3] rfl)
section JX6
variable {p : Program} {l : Launch} {e : Env} {R : Room} {s : State} {m : MethodId} {args : Array Value} {below : List Frame} {meth : Method} {c : Code} {H : Heap} {locs : List Loc} {cells slots : Nat} {Q : State → Prop}
variable {cc : ByteArray} {own : String} {nL pc : Nat} {ls : Array Slot} {rest : List Value} {D : va_G} {cI cT : ClassId} {cs : List jx_Cp} {A : Nat → Prop} {H0 : Heap}
theorem jx_callFill {index : Nat} {v : Int} (C : jx_C p s m args c cc own nL) (hK : jx_K D cI cT s) (hP : va_P D vwCl (jx_ws cI cT cs) H) (hD : va_D A (jx_ws cI cT cs)) (hS : va_S A H0 H locs) (hA : ∀ q : Nat, H0.size ≤ q → A q)
    (i q : Nat) {a k n : Nat} {ce : List (Nat × jx_Sh)} {σ : jx_St} (hi : cs[i]? = some (ce, σ)) (hq : ce[q]? = some (a, .inl (k, n))) (hs : jx_sole k q ce = true) (hn : Nat.ble n 2147483646 = true) (hl : Cond.methodLink own index yJ7_fill_53178 ∈ jx_T) {cs' : List jx_Cp} (hcs : cs.set i (ce, jx_fill σ k n v) = cs')
    (hls : ls.size = nL) (hfr : (Nat.ble 1 R.frames && Nat.ble 23 R.locals) = true) (hrest : Nat.ble (rest.map fun v => v.category).sum 8 = true) (hdg : decode cc pc = .ok (.invokestatic index, 3)) (hcl : cells ≤ R.cells ∧ slots ≤ R.slots)
    (kk : ∀ (H1 : Heap) (locs1 : List Loc), va_P D vwCl (jx_ws cI cT cs') H1 → va_D A (jx_ws cI cT cs') → va_S A H0 H1 locs1 → W p l e R s m args below meth c H1 locs1 cells slots Q (F0 m (pc + 3) ls rest)) : W p l e R s m args below meth c H locs cells slots Q (F0 m pc ls (.int (jx_i v) :: .ref a :: rest)) :=
  jx_callAV C hK hP hD hS hA i q hi hq hs (ct_fill l D cI cT a n (fun _ => σ k) v hn) jx_mT_J7_fill hl (jx_fill σ k n v) (fun u hu => by
    rw [hu]
    funext k' i'
    by_cases hk' : k' = k
    · simp [jx_rk, jx_fill, hk']
    · simp [jx_rk, jx_fill, hk']) hcs rfl rfl hls hfr hrest hdg hcl kk
theorem jx_copyi {index n : Nat} {i0 q0 i1 q1 a0 a1 k0 k1 n0 n1 : Nat} {ce0 ce1 : List (Nat × jx_Sh)} {σ0 σ1 : jx_St} (C : jx_C p s m args c cc own nL) (hK : jx_K D cI cT s) (hP : va_P D vwCl (jx_ws cI cT cs) H) (hD : va_D A (jx_ws cI cT cs)) (hS : va_S A H0 H locs)
    (hi0 : cs[i0]? = some (ce0, σ0)) (hq0 : ce0[q0]? = some (a0, .inl (k0, n0))) (hi1 : cs[i1]? = some (ce1, σ1)) (hq1 : ce1[q1]? = some (a1, .inl (k1, n1))) (hs : jx_sole k1 q1 ce1 = true) (hn : (Nat.ble n 2147483647 && Nat.ble n n0 && Nat.ble n n1) = true) (hl : Cond.methodLink own index arraycopyName ∈ jx_T) (hnat : Cond.native arraycopyName ∈ jx_T) (hstat : Cond.static arraycopyName ∈ jx_T) (hini : Cond.initialized "java/lang/System" ∈ jx_T) {cs' : List jx_Cp} (hcs : cs.set i1 (ce1, jx_cp σ1 k1 (σ0 k0) n) = cs')
    (hls : ls.size = nL) (hfr : (Nat.ble 1 R.frames && Nat.ble ((rest.map fun v => v.category).sum + (nativeFrameWords "java/lang/System" "arraycopy" 5 + 11)) R.locals) = true) (hdg : decode cc pc = .ok (.invokestatic index, 3))
    (kk : ∀ (H1 : Heap) (locs1 : List Loc), va_P D vwCl (jx_ws cI cT cs') H1 → va_D A (jx_ws cI cT cs') → va_S A H0 H1 locs1 → W p l e R s m args below meth c H1 locs1 cells slots Q (F0 m (pc + 3) ls rest)) : W p l e R s m args below meth c H locs cells slots Q (F0 m pc ls (.int (jx_i (n : Int)) :: .int (jx_i 0) :: .ref a1 :: .int (jx_i 0) :: .ref a0 :: rest)) := by
  simp only [Bool.and_eq_true] at hfr hn
  have h1 := Nat.le_of_ble_eq_true hn.1.1
  have h2 := Nat.le_of_ble_eq_true hn.1.2
  have h3 := Nat.le_of_ble_eq_true hn.2
  have hts := C.2.2.2.2
  have hnR : jx_R (n : Int) := ⟨by omega, by omega⟩
  have en : (jx_i (n : Int)).toNatClampNeg = n := by rw [jx_nat hnR]; omega
  have ez : (jx_i 0).toNatClampNeg = 0 := by rw [jx_nat jx_R0]; rfl
  have nz : ¬ jx_i 0 < 0 := by decide
  have nn : ¬ jx_i (n : Int) < 0 := fun q => by
    have := (jx_lt hnR jx_R0).mp (by rw [jx_i0]; exact q)
    omega
  have p0 := jx_pos (cI := cI) (cT := cT) hi0 (jx_w_get hq0)
  obtain ⟨k, p1, hset⟩ := jx_flat (cI := cI) (cT := cT) hi1 (jx_w_get hq1)
  have hs2 := hset (a1, jx_ce cI cT (jx_cp σ1 k1 (σ0 k0) n) (.inl (k1, n1))) (ce1, jx_cp σ1 k1 (σ0 k0) n) (jx_w_gen (fun k' h => by funext j; simp [jx_cp, h]) hq1 hs)
  rw [hcs] at hs2
  have ecell : jx_ce cI cT (jx_cp σ1 k1 (σ0 k0) n) (.inl (k1, n1)) = .inl (cI, n1, .inl (va_cpy (fun j : Nat => jx_i (σ0 k0 (j : Int))) (fun j : Nat => jx_i (σ1 k1 (j : Int))) 0 0 n)) := by
    simp only [jx_ce]
    congr 3
    congr 1
    funext j
    simp only [jx_cp, va_cpy]
    by_cases hj : j < n
    · rw [if_pos ⟨trivial, by omega, by omega⟩, if_pos ⟨by omega, by omega⟩]
      congr 2
      omega
    · rw [if_neg (by rintro ⟨-, h, h'⟩; omega), if_neg (by omega)]
  rw [ecell] at hs2
  refine va_copyi (ty := .int) C.1 C.2.1 (C.2.2.1.trans hls.symm) C.2.2.2.1 (hts _ hl) (hts _ hnat) (hts _ hstat) (hts _ hini) hK.1 hP hD hS _ k 0 0 p0 p1 rfl rfl rfl nz nz nn (by rw [ez, en]; omega) (by rw [ez, en]; omega) (fun _ _ => rfl) (Nat.le_of_ble_eq_true hfr.1) (Nat.le_of_ble_eq_true hfr.2) hdg (fun H1 locs1 hP1 hD1 hS1 => ?_)
  rw [ez, en, hs2] at hP1 hD1
  exact kk H1 locs1 hP1 hD1 hS1
theorem jx_max {index : Nat} {a b : Int} (C : jx_C p s m args c cc own nL) (ha : jx_R a) (hb : jx_R b) (hl : Cond.methodLink own index Lib.Math.max.name ∈ jx_T) (hls : ls.size = nL) (hfr : (Nat.ble 1 R.frames && Nat.ble ((rest.map fun v => v.category).sum + 13) R.locals) = true) (hdg : decode cc pc = .ok (.invokestatic index, 3)) (hcl : cells ≤ R.cells ∧ slots ≤ R.slots)
    (hw : Cond.static Lib.Math.max.name ∈ jx_T ∧ Cond.initialized "java/lang/Math" ∈ jx_T ∧ Cond.code Lib.Math.max.name Lib.Math.max.code 2 (some .int) ∈ jx_T)
    (kk : W p l e R s m args below meth c H locs cells slots Q (F0 m (pc + 3) ls (.int (jx_i (max a b)) :: rest))) : W p l e R s m args below meth c H locs cells slots Q (F0 m pc ls (.int (jx_i b) :: .int (jx_i a) :: rest)) := by
  simp only [Bool.and_eq_true] at hfr
  have hts := C.2.2.2.2
  refine va_mmax C.1 C.2.1 (C.2.2.1.trans hls.symm) C.2.2.2.1 (hts _ hl) (hts _ hw.1) (hts _ hw.2.1) (hts _ hw.2.2) (Nat.le_of_ble_eq_true hfr.1) (Nat.le_of_ble_eq_true hfr.2) hcl.1 hcl.2 hdg ?_
  have e : (if jx_i a < jx_i b then jx_i b else jx_i a) = jx_i (max a b) := by
    by_cases h : a < b
    · rw [if_pos ((jx_lt ha hb).mpr h), Int.max_eq_right (by omega)]
    · rw [if_neg (fun q => h ((jx_lt ha hb).mp q)), Int.max_eq_left (by omega)]
  rw [e]
  exact kk
theorem jx_min {index : Nat} {a b : Int} (C : jx_C p s m args c cc own nL) (ha : jx_R a) (hb : jx_R b) (hl : Cond.methodLink own index Lib.Math.min.name ∈ jx_T) (hls : ls.size = nL) (hfr : (Nat.ble 1 R.frames && Nat.ble ((rest.map fun v => v.category).sum + 13) R.locals) = true) (hdg : decode cc pc = .ok (.invokestatic index, 3)) (hcl : cells ≤ R.cells ∧ slots ≤ R.slots)
    (hw : Cond.static Lib.Math.min.name ∈ jx_T ∧ Cond.initialized "java/lang/Math" ∈ jx_T ∧ Cond.code Lib.Math.min.name Lib.Math.min.code 2 (some .int) ∈ jx_T)
    (kk : W p l e R s m args below meth c H locs cells slots Q (F0 m (pc + 3) ls (.int (jx_i (min a b)) :: rest))) : W p l e R s m args below meth c H locs cells slots Q (F0 m pc ls (.int (jx_i b) :: .int (jx_i a) :: rest)) := by
  simp only [Bool.and_eq_true] at hfr
  have hts := C.2.2.2.2
  refine va_mmin C.1 C.2.1 (C.2.2.1.trans hls.symm) C.2.2.2.1 (hts _ hl) (hts _ hw.1) (hts _ hw.2.1) (hts _ hw.2.2) (Nat.le_of_ble_eq_true hfr.1) (Nat.le_of_ble_eq_true hfr.2) hcl.1 hcl.2 hdg ?_
  have e : (if jx_i b < jx_i a then jx_i b else jx_i a) = jx_i (min a b) := by
    by_cases h : b < a
    · rw [if_pos ((jx_lt hb ha).mpr h), Int.min_eq_right (by omega)]
    · rw [if_neg (fun q => h ((jx_lt hb ha).mp q)), Int.min_eq_left (by omega)]
  rw [e]
  exact kk
theorem jx_wMax : Cond.static Lib.Math.max.name ∈ jx_T ∧ Cond.initialized "java/lang/Math" ∈ jx_T ∧ Cond.code Lib.Math.max.name Lib.Math.max.code 2 (some .int) ∈ jx_T := ⟨by decide +kernel, by decide +kernel, by decide +kernel⟩
theorem jx_wMin : Cond.static Lib.Math.min.name ∈ jx_T ∧ Cond.initialized "java/lang/Math" ∈ jx_T ∧ Cond.code Lib.Math.min.name Lib.Math.min.code 2 (some .int) ∈ jx_T := ⟨by decide +kernel, by decide +kernel, by decide +kernel⟩
theorem jx_wCopy : Cond.native arraycopyName ∈ jx_T ∧ Cond.static arraycopyName ∈ jx_T ∧ Cond.initialized "java/lang/System" ∈ jx_T := ⟨by decide +kernel, by decide +kernel, by decide +kernel⟩
end JX6
end
section
/-! ===== loops, entry, returns, more calls ===== -/
def jx_it {α : Type} (F : (α → Prop) → α → Prop) : Nat → α → Prop
  | 0, _ => False
  | n + 1, a => F (jx_it F n) a
def jx_lp {α : Type} (F : (α → Prop) → α → Prop) (a : α) : Prop := ∃ n, jx_it F n a
theorem jx_loop {α : Type} {F : (α → Prop) → α → Prop} (I : α → Prop) (μ : α → Nat) (hs : ∀ (B : α → Prop) (a : α), I a → (∀ b, I b → μ b < μ a → B b) → F B a) {a : α} (h : I a) : jx_lp F a := by
  have key : ∀ (n : Nat) (a : α), I a → μ a < n → jx_it F n a := by
    intro n
    induction n with
    | zero => intro a _ h; omega
    | succ n ih => intro a hI hm; exact hs _ a hI (fun b hb hlt => ih b hb (by omega))
  exact ⟨μ a + 1, key _ a h (by omega)⟩
def jx_area (f : Int → Int) : Int := (f 2 - f 0) * (f 3 - f 1)
theorem jx_nz {v : Int} (h : v = 0 ∨ v = 1) : narrow .boolean (.int (jx_i v)) = .int (jx_i v) ∧ fits .boolean (.int (jx_i v)) = true := by rcases h with rfl | rfl <;> exact ⟨by decide, by decide⟩
section JX7
variable {p : Program} {l : Launch} {e : Env} {R : Room} {s : State} {m : MethodId} {args : Array Value} {below : List Frame} {meth : Method} {c : Code} {H : Heap} {locs : List Loc} {cells slots : Nat} {Q : State → Prop}
variable {cc : ByteArray} {own : String} {nL pc : Nat} {ls : Array Slot} {rest : List Value} {D : va_G} {cI cT : ClassId} {cs : List jx_Cp} {A : Nat → Prop} {H0 : Heap} {QQ : State → Prop}
theorem jx_ent {y : MethodName} {b : ByteArray} {ret : Option FieldType} {fr lo : Nat} {av : List Value} {Qc : Nat → Array Value → State → Outcome → State → Prop} (hy : plainName y.cls = true) (ho : y.cls = own) (hle : (lg_sl av).length ≤ nL)
    (body : ∀ (p : Program) (e : Env) (s : State) (m : MethodId) (args : Array Value) (below : List Frame) (meth : Method) (c : Code) (A : Nat → Prop) (QQ : State → Prop), jx_C p s m args c b own nL → meth.sig.returnType = ret → meth.locks = false → jx_K D cI cT s → A = va_A (jx_ws cI cT cs) s.heap.size → (∀ q : Nat, s.heap.size ≤ q → A q) → va_P D vwCl (jx_ws cI cT cs) s.heap → va_D A (jx_ws cI cT cs) → va_S A s.heap s.heap [] → ∀ ls : Array Slot, lv_has ls nL (lv_args 0 av) → MQ below (Qc s.heap.size) args s 0 0 A = QQ → W p l e (jx_rm fr lo) s m args below meth c s.heap [] 0 0 QQ (F0 m 0 ls [])) (sz : Nat) :
    Met l y (.code y b nL ret :: jx_T) (jx_rm fr lo) (jx_Pre D cI cT av cs sz) (Qc sz) 0 0 (va_A (jx_ws cI cT cs) sz) :=
  jx_entry hy ho hle (fun p e s m args below meth c A C hr hlk hK hAe hA hP hD hS ls hl => body p e s m args below meth c A _ C hr hlk hK hAe hA hP hD hS ls hl rfl) sz
theorem jx_rI {S : Type} {f : S → List jx_Cp} {Q : Int → S → Prop} {cs0 : List jx_Cp} (C : jx_C p s m args c cc own nL) (hr : meth.sig.returnType = some .int) (hlk : meth.locks = false) (hA : A = va_A (jx_ws cI cT cs0) s.heap.size) (hS : va_S A s.heap H locs) (hQQ : MQ below (jx_QI S D cI cT cs0 f Q s.heap.size) args s 0 0 A = QQ) {x : Int} (u : S) (hP : va_P D vwCl (jx_ws cI cT (f u)) H) (hq : Q x u) (hdg : decode cc pc = .ok (.ireturn, 1)) :
    W p l e R s m args below meth c H locs 0 0 QQ (F0 m pc ls [.int (jx_i x)]) := by
  rw [← hQQ]
  exact jx_retI C hr hlk hA hS u hP hq hdg
theorem jx_rZ {S : Type} {f : S → List jx_Cp} {Q : Int → S → Prop} {cs0 : List jx_Cp} (C : jx_C p s m args c cc own nL) (hr : meth.sig.returnType = some .boolean) (hlk : meth.locks = false) (hA : A = va_A (jx_ws cI cT cs0) s.heap.size) (hS : va_S A s.heap H locs) (hQQ : MQ below (jx_QI S D cI cT cs0 f Q s.heap.size) args s 0 0 A = QQ) {x : Int} (hx : x = 0 ∨ x = 1) (u : S) (hP : va_P D vwCl (jx_ws cI cT (f u)) H) (hq : Q x u) (hdg : decode cc pc = .ok (.ireturn, 1)) :
    W p l e R s m args below meth c H locs 0 0 QQ (F0 m pc ls [.int (jx_i x)]) := by
  rw [← hQQ]
  exact jx_retZ C hr hlk hA hS hx u hP hq hdg
theorem jx_rV {S : Type} {f : S → List jx_Cp} {Q : S → Prop} {cs0 : List jx_Cp} (C : jx_C p s m args c cc own nL) (hr : meth.sig.returnType = none) (hlk : meth.locks = false) (hA : A = va_A (jx_ws cI cT cs0) s.heap.size) (hS : va_S A s.heap H locs) (hQQ : MQ below (jx_QV S D cI cT cs0 f Q s.heap.size) args s 0 0 A = QQ) (u : S) (hP : va_P D vwCl (jx_ws cI cT (f u)) H) (hq : Q u) (hdg : decode cc pc = .ok (.return_, 1)) :
    W p l e R s m args below meth c H locs 0 0 QQ (F0 m pc ls []) := by
  rw [← hQQ]
  exact jx_retV C hr hlk hA hS u hP hq hdg
theorem jx_tswIn (C : jx_C p s m args c cc own nL) {dflt lo hi : Int} {offs : Array Int} {len : Nat} {v k : Int} {off : Int} {tgt : Nat} (hv : v = k) (hR : jx_R k) (hdg : decode cc pc = .ok (.tableswitch dflt lo hi offs, len)) (h1 : ¬ k < lo) (h2 : ¬ hi < k) (ho : offs[(k - lo).toNat]? = some off) (ht : (pc : Int) + off = (tgt : Int))
    (kk : W p l e R s m args below meth c H locs cells slots Q (F0 m tgt ls rest)) : W p l e R s m args below meth c H locs cells slots Q (F0 m pc ls (.int (jx_i v) :: rest)) := by
  subst hv
  exact lv_tableIn C.1 C.2.1 hdg (by rw [jx_toInt hR]; exact h1) (by rw [jx_toInt hR]; exact h2) (by rw [jx_toInt hR]; exact ho) ht kk
theorem jx_tswOut (C : jx_C p s m args c cc own nL) {dflt lo hi : Int} {offs : Array Int} {len : Nat} {v : Int} {tgt : Nat} (hR : jx_R v) (hdg : decode cc pc = .ok (.tableswitch dflt lo hi offs, len)) (h1 : v < lo ∨ hi < v) (ht : (pc : Int) + dflt = (tgt : Int))
    (kk : W p l e R s m args below meth c H locs cells slots Q (F0 m tgt ls rest)) : W p l e R s m args below meth c H locs cells slots Q (F0 m pc ls (.int (jx_i v) :: rest)) :=
  lv_tableOut C.1 C.2.1 hdg (by rw [jx_toInt hR]; exact h1) ht kk
set_option maxRecDepth 100000 in
theorem ct_area (l : Launch) (D : va_G) (cI cT : ClassId) (a : Nat) (σ : jx_St) : jx_KI Unit l D cI cT yX8_area cX8_area 1 .int 0 0 [.ref a] [jx_one a 4 σ] (fun _ => [jx_one a 4 σ]) (fun x _ => x = jx_area (σ 0)) := by
  refine jx_entry (own := RX8) (by decide) rfl (Nat.le_of_ble_eq_true rfl) ?_
  intro p e s m args below meth c A C hr hlk hK hAe hA hP hD hS ls hl
  have hl : lv_has ls 1 [(0, .ref a)] := hl
  have hx := C.1
  have hb := C.2.1
  refine lv_aload_n hx hb dX8_area_0 rfl (lv_at hl 0 rfl) ?_
  refine jx_iconst C dX8_area_1 ?_
  refine jx_iald C hK hP 0 0 rfl rfl rfl ⟨by decide, by decide⟩ dX8_area_2 ?_
  refine lv_aload_n hx hb dX8_area_3 rfl (lv_at hl 0 rfl) ?_
  refine jx_iconst C dX8_area_4 ?_
  refine jx_iald C hK hP 0 0 rfl rfl rfl ⟨by decide, by decide⟩ dX8_area_5 ?_
  refine jx_isub C dX8_area_6 ?_
  refine lv_aload_n hx hb dX8_area_7 rfl (lv_at hl 0 rfl) ?_
  refine jx_iconst C dX8_area_8 ?_
  refine jx_iald C hK hP 0 0 rfl rfl rfl ⟨by decide, by decide⟩ dX8_area_9 ?_
  refine lv_aload_n hx hb dX8_area_10 rfl (lv_at hl 0 rfl) ?_
  refine jx_iconst C dX8_area_11 ?_
  refine jx_iald C hK hP 0 0 rfl rfl rfl ⟨by decide, by decide⟩ dX8_area_12 ?_
  refine jx_isub C dX8_area_13 ?_
  refine jx_imul C dX8_area_14 ?_
  exact jx_retI C hr hlk hAe hS () hP rfl dX8_area_15
theorem jx_callArea {index : Nat} (C : jx_C p s m args c cc own nL) (hK : jx_K D cI cT s) (hP : va_P D vwCl (jx_ws cI cT cs) H) (hD : va_D A (jx_ws cI cT cs)) (hS : va_S A H0 H locs) (hA : ∀ q : Nat, H0.size ≤ q → A q)
    (i q : Nat) {a k : Nat} {ce : List (Nat × jx_Sh)} {σ : jx_St} (hi : cs[i]? = some (ce, σ)) (hq : ce[q]? = some (a, .inl (k, 4))) (hs : jx_sole k q ce = true) (hl : Cond.methodLink own index yX8_area ∈ jx_T)
    (hls : ls.size = nL) (hfr : (Nat.ble 1 R.frames && Nat.ble 20 R.locals) = true) (hrest : Nat.ble (rest.map fun v => v.category).sum 8 = true) (hdg : decode cc pc = .ok (.invokestatic index, 3)) (hcl : cells ≤ R.cells ∧ slots ≤ R.slots)
    (kk : ∀ (H1 : Heap) (locs1 : List Loc), va_P D vwCl (jx_ws cI cT cs) H1 → va_S A H0 H1 locs1 → W p l e R s m args below meth c H1 locs1 cells slots Q (F0 m (pc + 3) ls (.int (jx_i (jx_area (σ k))) :: rest))) : W p l e R s m args below meth c H locs cells slots Q (F0 m pc ls (.ref a :: rest)) :=
  jx_callAI C hK hP hD hS hA i q hi hq hs (ct_area l D cI cT a (fun _ => σ k)) jx_mT_X8_area hl rfl rfl hls hfr hrest hdg hcl (fun x H1 locs1 hx hP1 hS1 => by subst hx; exact kk H1 locs1 hP1 hS1)
end JX7
end
section
theorem jx_inX1 : ∀ w ∈ wsX10, w ∈ jx_T := by decide +kernel
theorem jx_inX2 : ∀ w ∈ wsX20, w ∈ jx_T := by decide +kernel
theorem jx_inX3 : ∀ w ∈ wsX30, w ∈ jx_T := by decide +kernel
theorem jx_inX5 : ∀ w ∈ wsX50, w ∈ jx_T := by decide +kernel
theorem jx_inX6 : ∀ w ∈ wsX60, w ∈ jx_T := by decide +kernel
theorem jx_inX7 : ∀ w ∈ wsX70, w ∈ jx_T := by decide +kernel
theorem jx_inX8 : ∀ w ∈ wsX80, w ∈ jx_T := by decide +kernel
theorem ms_X0_side : jx_MS yX0_side cX0_side 2 (some .int) 2 := ⟨jx_mT 391 (by decide +kernel) (by decide +kernel), jx_mT 80 (by decide +kernel) (by decide +kernel), jx_mT 390 (by decide +kernel) (by decide +kernel), by decide +kernel⟩
theorem lk_X0_9 : Cond.methodLink RX0 9 yX0_side ∈ jx_T := jx_mT 389 (by decide +kernel) (by decide +kernel)
theorem lk_X0_15 : Cond.methodLink RX0 15 Lib.Math.min.name ∈ jx_T := jx_mT 395 (by decide +kernel) (by decide +kernel)
theorem lk_X0_20 : Cond.methodLink RX0 20 Lib.Math.max.name ∈ jx_T := jx_mT 398 (by decide +kernel) (by decide +kernel)
theorem ms_X0_of : jx_MS yX0_of cX0_of 4 (some .int) 4 := ⟨jx_mT 347 (by decide +kernel) (by decide +kernel), jx_mT 80 (by decide +kernel) (by decide +kernel), jx_mT 346 (by decide +kernel) (by decide +kernel), by decide +kernel⟩
theorem lk_X0_23 : Cond.methodLink RX0 23 yX0_of ∈ jx_T := jx_mT 401 (by decide +kernel) (by decide +kernel)
theorem ms_X0_touch : jx_MS yX0_touch cX0_touch 2 (some .boolean) 2 := ⟨jx_mT 499 (by decide +kernel) (by decide +kernel), jx_mT 80 (by decide +kernel) (by decide +kernel), jx_mT 498 (by decide +kernel) (by decide +kernel), by decide +kernel⟩
theorem lk_X0_27 : Cond.methodLink RX0 27 yX0_touch ∈ jx_T := jx_mT 497 (by decide +kernel) (by decide +kernel)
theorem fl_X6_18 : jx_FL RX6 18 4 2 := ⟨RX6, TX6, 11, rfl, jx_inX6, by decide, rfl, jx_mT 116 (by decide +kernel) (by decide +kernel)⟩
theorem lk_X6_62 : Cond.methodLink RX6 62 yX4_at ∈ jx_T := jx_mT 108 (by decide +kernel) (by decide +kernel)
theorem fl_X6_30 : jx_FL RX6 30 4 6 := ⟨RX6, TX6, 11, rfl, jx_inX6, by decide, rfl, jx_mT 122 (by decide +kernel) (by decide +kernel)⟩
theorem fl_X6_24 : jx_FL RX6 24 4 4 := ⟨RX6, TX6, 11, rfl, jx_inX6, by decide, rfl, jx_mT 118 (by decide +kernel) (by decide +kernel)⟩
theorem fl_X6_9 : jx_FL RX6 9 4 0 := ⟨RX6, TX6, 11, rfl, jx_inX6, by decide, rfl, jx_mT 114 (by decide +kernel) (by decide +kernel)⟩
theorem fl_X1_33 : jx_FL RX1 33 0 0 := ⟨RX1, TX1, 12, rfl, jx_inX1, by decide, rfl, jx_mT 181 (by decide +kernel) (by decide +kernel)⟩
theorem ms_X6_levelOf : jx_MV yX6_levelOf cX6_levelOf 2 (some .int) 1 := ⟨jx_mT 107 (by decide +kernel) (by decide +kernel), jx_mT 71 (by decide +kernel) (by decide +kernel), jx_mT 105 (by decide +kernel) (by decide +kernel), jx_mT 106 (by decide +kernel) (by decide +kernel), by decide +kernel⟩
theorem lk_X1_98 : Cond.methodLink RX1 98 yX6_levelOf ∈ jx_T := jx_mT 420 (by decide +kernel) (by decide +kernel)
theorem ms_X6_thingAt : jx_MV yX6_thingAt cX6_thingAt 3 (some .int) 2 := ⟨jx_mT 385 (by decide +kernel) (by decide +kernel), jx_mT 71 (by decide +kernel) (by decide +kernel), jx_mT 383 (by decide +kernel) (by decide +kernel), jx_mT 384 (by decide +kernel) (by decide +kernel), by decide +kernel⟩
theorem lk_X1_101 : Cond.methodLink RX1 101 yX6_thingAt ∈ jx_T := jx_mT 429 (by decide +kernel) (by decide +kernel)
theorem ms_X6_hull : jx_MV yX6_hull cX6_hull 3 (some .int) 2 := ⟨jx_mT 369 (by decide +kernel) (by decide +kernel), jx_mT 71 (by decide +kernel) (by decide +kernel), jx_mT 367 (by decide +kernel) (by decide +kernel), jx_mT 368 (by decide +kernel) (by decide +kernel), by decide +kernel⟩
theorem lk_X1_120 : Cond.methodLink RX1 120 yX6_hull ∈ jx_T := jx_mT 366 (by decide +kernel) (by decide +kernel)
theorem fl_X1_30 : jx_FL RX1 30 0 11 := ⟨RX1, TX1, 12, rfl, jx_inX1, by decide, rfl, jx_mT 193 (by decide +kernel) (by decide +kernel)⟩
theorem lk_X1_41 : Cond.methodLink RX1 41 yX4_at ∈ jx_T := jx_mT 365 (by decide +kernel) (by decide +kernel)
theorem ms_X0_key : jx_MS yX0_key cX0_key 2 (some .int) 2 := ⟨jx_mT 485 (by decide +kernel) (by decide +kernel), jx_mT 80 (by decide +kernel) (by decide +kernel), jx_mT 484 (by decide +kernel) (by decide +kernel), by decide +kernel⟩
theorem lk_X1_202 : Cond.methodLink RX1 202 yX0_key ∈ jx_T := jx_mT 483 (by decide +kernel) (by decide +kernel)
theorem fl_X1_27 : jx_FL RX1 27 0 10 := ⟨RX1, TX1, 12, rfl, jx_inX1, by decide, rfl, jx_mT 192 (by decide +kernel) (by decide +kernel)⟩
theorem lk_X1_104 : Cond.methodLink RX1 104 yX4_set ∈ jx_T := jx_mT 364 (by decide +kernel) (by decide +kernel)
theorem fl_X1_114 : jx_FL RX1 114 0 4 := ⟨RX1, TX1, 12, rfl, jx_inX1, by decide, rfl, jx_mT 185 (by decide +kernel) (by decide +kernel)⟩
theorem fl_X1_9 : jx_FL RX1 9 0 2 := ⟨RX1, TX1, 12, rfl, jx_inX1, by decide, rfl, jx_mT 183 (by decide +kernel) (by decide +kernel)⟩
theorem fl_X1_15 : jx_FL RX1 15 0 3 := ⟨RX1, TX1, 12, rfl, jx_inX1, by decide, rfl, jx_mT 184 (by decide +kernel) (by decide +kernel)⟩
theorem fw_X1_4 : jx_FW 0 4 .int := ⟨RX1, TX1, 12, tyX1, rfl, tyX1_ok, nmX1, rfl, rfl⟩
theorem ms_X0_around : jx_MS yX0_around cX0_around 2 (some .int) 2 := ⟨jx_mT 394 (by decide +kernel) (by decide +kernel), jx_mT 80 (by decide +kernel) (by decide +kernel), jx_mT 393 (by decide +kernel) (by decide +kernel), by decide +kernel⟩
theorem lk_X1_199 : Cond.methodLink RX1 199 yX0_around ∈ jx_T := jx_mT 493 (by decide +kernel) (by decide +kernel)
theorem ms_X1_axisOf : jx_MS yX1_axisOf cX1_axisOf 1 (some .int) 1 := ⟨jx_mT 478 (by decide +kernel) (by decide +kernel), jx_mT 75 (by decide +kernel) (by decide +kernel), jx_mT 477 (by decide +kernel) (by decide +kernel), by decide +kernel⟩
theorem lk_X1_172 : Cond.methodLink RX1 172 yX1_axisOf ∈ jx_T := jx_mT 476 (by decide +kernel) (by decide +kernel)
theorem ms_X1_arrange : jx_MV yX1_arrange cX1_arrange 8 none 2 := ⟨jx_mT 482 (by decide +kernel) (by decide +kernel), jx_mT 75 (by decide +kernel) (by decide +kernel), jx_mT 481 (by decide +kernel) (by decide +kernel), jx_mT 14 (by decide +kernel) (by decide +kernel), by decide +kernel⟩
theorem lk_X1_175 : Cond.methodLink RX1 175 yX1_arrange ∈ jx_T := jx_mT 479 (by decide +kernel) (by decide +kernel)
theorem ms_X1_cutOf : jx_MS yX1_cutOf cX1_cutOf 1 (some .int) 1 := ⟨jx_mT 488 (by decide +kernel) (by decide +kernel), jx_mT 75 (by decide +kernel) (by decide +kernel), jx_mT 487 (by decide +kernel) (by decide +kernel), by decide +kernel⟩
theorem lk_X1_169 : Cond.methodLink RX1 169 yX1_cutOf ∈ jx_T := jx_mT 486 (by decide +kernel) (by decide +kernel)
theorem ms_X1_hullOfPart : jx_MV yX1_hullOfPart cX1_hullOfPart 5 (some .int) 2 := ⟨jx_mT 492 (by decide +kernel) (by decide +kernel), jx_mT 75 (by decide +kernel) (by decide +kernel), jx_mT 491 (by decide +kernel) (by decide +kernel), jx_mT 15 (by decide +kernel) (by decide +kernel), by decide +kernel⟩
theorem lk_X1_190 : Cond.methodLink RX1 190 yX1_hullOfPart ∈ jx_T := jx_mT 489 (by decide +kernel) (by decide +kernel)
theorem ms_X0_common : jx_MS yX0_common cX0_common 4 (some .int) 2 := ⟨jx_mT 496 (by decide +kernel) (by decide +kernel), jx_mT 80 (by decide +kernel) (by decide +kernel), jx_mT 495 (by decide +kernel) (by decide +kernel), by decide +kernel⟩
theorem lk_X1_193 : Cond.methodLink RX1 193 yX0_common ∈ jx_T := jx_mT 494 (by decide +kernel) (by decide +kernel)
theorem ms_X0_area : jx_MS yX0_area cX0_area 1 (some .int) 1 := ⟨jx_mT 388 (by decide +kernel) (by decide +kernel), jx_mT 80 (by decide +kernel) (by decide +kernel), jx_mT 387 (by decide +kernel) (by decide +kernel), by decide +kernel⟩
theorem lk_X1_196 : Cond.methodLink RX1 196 yX0_area ∈ jx_T := jx_mT 500 (by decide +kernel) (by decide +kernel)
theorem lk_X6_100 : Cond.methodLink RX6 100 yX4_set ∈ jx_T := jx_mT 111 (by decide +kernel) (by decide +kernel)
theorem fl_X6_21 : jx_FL RX6 21 4 3 := ⟨RX6, TX6, 11, rfl, jx_inX6, by decide, rfl, jx_mT 117 (by decide +kernel) (by decide +kernel)⟩
theorem ms_X6_sizeOf : jx_MV yX6_sizeOf cX6_sizeOf 2 (some .int) 1 := ⟨jx_mT 381 (by decide +kernel) (by decide +kernel), jx_mT 71 (by decide +kernel) (by decide +kernel), jx_mT 379 (by decide +kernel) (by decide +kernel), jx_mT 380 (by decide +kernel) (by decide +kernel), by decide +kernel⟩
theorem lk_X6_71 : Cond.methodLink RX6 71 yX6_sizeOf ∈ jx_T := jx_mT 378 (by decide +kernel) (by decide +kernel)
theorem lk_X6_74 : Cond.methodLink RX6 74 yX6_thingAt ∈ jx_T := jx_mT 382 (by decide +kernel) (by decide +kernel)
theorem lk_X6_94 : Cond.methodLink RX6 94 yX0_area ∈ jx_T := jx_mT 386 (by decide +kernel) (by decide +kernel)
theorem lk_X6_97 : Cond.methodLink RX6 97 yX0_around ∈ jx_T := jx_mT 392 (by decide +kernel) (by decide +kernel)
theorem fl_X6_43 : jx_FL RX6 43 4 7 := ⟨RX6, TX6, 11, rfl, jx_inX6, by decide, rfl, jx_mT 123 (by decide +kernel) (by decide +kernel)⟩
theorem lk_X6_68 : Cond.methodLink RX6 68 yX6_levelOf ∈ jx_T := jx_mT 104 (by decide +kernel) (by decide +kernel)
theorem ms_X6_leastGreater : jx_MV yX6_leastGreater cX6_leastGreater 11 (some .int) 2 := ⟨jx_mT 377 (by decide +kernel) (by decide +kernel), jx_mT 71 (by decide +kernel) (by decide +kernel), jx_mT 376 (by decide +kernel) (by decide +kernel), jx_mT 3 (by decide +kernel) (by decide +kernel), by decide +kernel⟩
theorem lk_X6_91 : Cond.methodLink RX6 91 yX6_leastGreater ∈ jx_T := jx_mT 374 (by decide +kernel) (by decide +kernel)
theorem fl_X6_27 : jx_FL RX6 27 4 5 := ⟨RX6, TX6, 11, rfl, jx_inX6, by decide, rfl, jx_mT 121 (by decide +kernel) (by decide +kernel)⟩
theorem fl_X6_15 : jx_FL RX6 15 4 1 := ⟨RX6, TX6, 11, rfl, jx_inX6, by decide, rfl, jx_mT 115 (by decide +kernel) (by decide +kernel)⟩
theorem lk_X6_82 : Cond.methodLink RX6 82 yX6_hull ∈ jx_T := jx_mT 411 (by decide +kernel) (by decide +kernel)
theorem ms_X6_aboveOf : jx_MV yX6_aboveOf cX6_aboveOf 2 (some .int) 1 := ⟨jx_mT 415 (by decide +kernel) (by decide +kernel), jx_mT 71 (by decide +kernel) (by decide +kernel), jx_mT 413 (by decide +kernel) (by decide +kernel), jx_mT 414 (by decide +kernel) (by decide +kernel), by decide +kernel⟩
theorem lk_X6_104 : Cond.methodLink RX6 104 yX6_aboveOf ∈ jx_T := jx_mT 412 (by decide +kernel) (by decide +kernel)
theorem fn_X1_89 : jx_FN RX1 89 4 7 := ⟨RX6, TX6, 11, rfl, jx_inX6, by decide, rfl, jx_mN 124 (by decide +kernel) (by decide +kernel)⟩
theorem fl_X1_111 : jx_FL RX1 111 0 5 := ⟨RX1, TX1, 12, rfl, jx_inX1, by decide, rfl, jx_mT 186 (by decide +kernel) (by decide +kernel)⟩
theorem ms_X6_remove : jx_MV yX6_remove cX6_remove 6 none 2 := ⟨jx_mT 466 (by decide +kernel) (by decide +kernel), jx_mT 71 (by decide +kernel) (by decide +kernel), jx_mT 464 (by decide +kernel) (by decide +kernel), jx_mT 465 (by decide +kernel) (by decide +kernel), by decide +kernel⟩
theorem lk_X6_107 : Cond.methodLink RX6 107 yX6_remove ∈ jx_T := jx_mT 506 (by decide +kernel) (by decide +kernel)
theorem ms_X6_newNode : jx_MV yX6_newNode cX6_newNode 3 (some .int) 1 := ⟨jx_mT 103 (by decide +kernel) (by decide +kernel), jx_mT 71 (by decide +kernel) (by decide +kernel), jx_mT 101 (by decide +kernel) (by decide +kernel), jx_mT 102 (by decide +kernel) (by decide +kernel), by decide +kernel⟩
theorem lk_X6_39 : Cond.methodLink RX6 39 yX6_newNode ∈ jx_T := jx_mT 100 (by decide +kernel) (by decide +kernel)
theorem fw_X6_7 : jx_FW 4 7 .int := ⟨RX6, TX6, 11, tyX6, rfl, tyX6_ok, nmX6, rfl, rfl⟩
theorem ms_X6_add : jx_MV yX6_add cX6_add 7 none 3 := ⟨jx_mT 406 (by decide +kernel) (by decide +kernel), jx_mT 71 (by decide +kernel) (by decide +kernel), jx_mT 404 (by decide +kernel) (by decide +kernel), jx_mT 405 (by decide +kernel) (by decide +kernel), by decide +kernel⟩
theorem lk_X6_115 : Cond.methodLink RX6 115 yX6_add ∈ jx_T := jx_mT 511 (by decide +kernel) (by decide +kernel)
theorem ms_X1_bestWay : jx_MV yX1_bestWay cX1_bestWay 10 (some .int) 1 := ⟨jx_mT 475 (by decide +kernel) (by decide +kernel), jx_mT 75 (by decide +kernel) (by decide +kernel), jx_mT 474 (by decide +kernel) (by decide +kernel), jx_mT 13 (by decide +kernel) (by decide +kernel), by decide +kernel⟩
theorem lk_X1_166 : Cond.methodLink RX1 166 yX1_bestWay ∈ jx_T := jx_mT 472 (by decide +kernel) (by decide +kernel)
theorem lk_X1_178 : Cond.methodLink RX1 178 yX6_newNode ∈ jx_T := jx_mT 501 (by decide +kernel) (by decide +kernel)
theorem ms_X6_clearRow : jx_MV yX6_clearRow cX6_clearRow 3 none 1 := ⟨jx_mT 505 (by decide +kernel) (by decide +kernel), jx_mT 71 (by decide +kernel) (by decide +kernel), jx_mT 503 (by decide +kernel) (by decide +kernel), jx_mT 504 (by decide +kernel) (by decide +kernel), by decide +kernel⟩
theorem lk_X1_181 : Cond.methodLink RX1 181 yX6_clearRow ∈ jx_T := jx_mT 502 (by decide +kernel) (by decide +kernel)
theorem lk_X1_95 : Cond.methodLink RX1 95 yX6_sizeOf ∈ jx_T := jx_mT 402 (by decide +kernel) (by decide +kernel)
theorem lk_X1_126 : Cond.methodLink RX1 126 yX6_add ∈ jx_T := jx_mT 403 (by decide +kernel) (by decide +kernel)
theorem lk_X1_92 : Cond.methodLink RX1 92 yX6_aboveOf ∈ jx_T := jx_mT 512 (by decide +kernel) (by decide +kernel)
theorem ms_X6_placeIn : jx_MV yX6_placeIn cX6_placeIn 4 (some .int) 2 := ⟨jx_mT 516 (by decide +kernel) (by decide +kernel), jx_mT 71 (by decide +kernel) (by decide +kernel), jx_mT 514 (by decide +kernel) (by decide +kernel), jx_mT 515 (by decide +kernel) (by decide +kernel), by decide +kernel⟩
theorem lk_X1_64 : Cond.methodLink RX1 64 yX6_placeIn ∈ jx_T := jx_mT 513 (by decide +kernel) (by decide +kernel)
theorem ms_X6_refresh : jx_MV yX6_refresh cX6_refresh 7 none 1 := ⟨jx_mT 410 (by decide +kernel) (by decide +kernel), jx_mT 71 (by decide +kernel) (by decide +kernel), jx_mT 408 (by decide +kernel) (by decide +kernel), jx_mT 409 (by decide +kernel) (by decide +kernel), by decide +kernel⟩
theorem lk_X1_71 : Cond.methodLink RX1 71 yX6_refresh ∈ jx_T := jx_mT 407 (by decide +kernel) (by decide +kernel)
theorem fn_X1_187 : jx_FN RX1 187 4 9 := ⟨RX6, TX6, 11, rfl, jx_inX6, by decide, rfl, jx_mN 131 (by decide +kernel) (by decide +kernel)⟩
theorem fw_X6_9 : jx_FW 4 9 .int := ⟨RX6, TX6, 11, tyX6, rfl, tyX6_ok, nmX6, rfl, rfl⟩
theorem ms_X6_raiseRoot : jx_MV yX6_raiseRoot cX6_raiseRoot 2 none 0 := ⟨jx_mT 510 (by decide +kernel) (by decide +kernel), jx_mT 71 (by decide +kernel) (by decide +kernel), jx_mT 508 (by decide +kernel) (by decide +kernel), jx_mT 509 (by decide +kernel) (by decide +kernel), by decide +kernel⟩
theorem lk_X1_184 : Cond.methodLink RX1 184 yX6_raiseRoot ∈ jx_T := jx_mT 507 (by decide +kernel) (by decide +kernel)
theorem fn_X1_159 : jx_FN RX1 159 4 4 := ⟨RX6, TX6, 11, rfl, jx_inX6, by decide, rfl, jx_mN 120 (by decide +kernel) (by decide +kernel)⟩
theorem ms_X0_apart : jx_MS yX0_apart cX0_apart 4 (some .int) 2 := ⟨jx_mT 432 (by decide +kernel) (by decide +kernel), jx_mT 80 (by decide +kernel) (by decide +kernel), jx_mT 431 (by decide +kernel) (by decide +kernel), by decide +kernel⟩
theorem lk_X1_160 : Cond.methodLink RX1 160 yX0_apart ∈ jx_T := jx_mT 430 (by decide +kernel) (by decide +kernel)
theorem fl_X5_19 : jx_FL RX5 19 3 2 := ⟨RX5, TX5, 3, rfl, jx_inX5, by decide, rfl, jx_mT 167 (by decide +kernel) (by decide +kernel)⟩
theorem fl_X5_9 : jx_FL RX5 9 3 1 := ⟨RX5, TX5, 3, rfl, jx_inX5, by decide, rfl, jx_mT 166 (by decide +kernel) (by decide +kernel)⟩
theorem lk_X5_46 : Cond.methodLink RX5 46 yX4_set ∈ jx_T := jx_mT 445 (by decide +kernel) (by decide +kernel)
theorem fw_X5_2 : jx_FW 3 2 .int := ⟨RX5, TX5, 3, tyX5, rfl, tyX5_ok, nmX5, rfl, rfl⟩
theorem ms_X5_note : jx_MV yX5_note cX5_note 2 none 1 := ⟨jx_mT 444 (by decide +kernel) (by decide +kernel), jx_mT 74 (by decide +kernel) (by decide +kernel), jx_mT 443 (by decide +kernel) (by decide +kernel), jx_mT 8 (by decide +kernel) (by decide +kernel), by decide +kernel⟩
theorem lk_X5_23 : Cond.methodLink RX5 23 yX5_note ∈ jx_T := jx_mT 441 (by decide +kernel) (by decide +kernel)
theorem lk_X5_27 : Cond.methodLink RX5 27 yX4_at ∈ jx_T := jx_mT 446 (by decide +kernel) (by decide +kernel)
theorem fl_X5_15 : jx_FL RX5 15 3 0 := ⟨RX5, TX5, 3, rfl, jx_inX5, by decide, rfl, jx_mT 165 (by decide +kernel) (by decide +kernel)⟩
theorem lk_X5_33 : Cond.methodLink RX5 33 yX6_levelOf ∈ jx_T := jx_mT 447 (by decide +kernel) (by decide +kernel)
theorem lk_X5_42 : Cond.methodLink RX5 42 yX6_thingAt ∈ jx_T := jx_mT 449 (by decide +kernel) (by decide +kernel)
theorem lk_X5_39 : Cond.methodLink RX5 39 yX6_sizeOf ∈ jx_T := jx_mT 448 (by decide +kernel) (by decide +kernel)
theorem ms_X5_nodeSeen : jx_MV yX5_nodeSeen cX5_nodeSeen 2 (some .int) 1 := ⟨jx_mT 457 (by decide +kernel) (by decide +kernel), jx_mT 74 (by decide +kernel) (by decide +kernel), jx_mT 456 (by decide +kernel) (by decide +kernel), jx_mT 10 (by decide +kernel) (by decide +kernel), by decide +kernel⟩
theorem lk_X5_53 : Cond.methodLink RX5 53 yX5_nodeSeen ∈ jx_T := jx_mT 454 (by decide +kernel) (by decide +kernel)
theorem ms_X5_lookFrom : jx_MV yX5_lookFrom cX5_lookFrom 6 none 1 := ⟨jx_mT 440 (by decide +kernel) (by decide +kernel), jx_mT 74 (by decide +kernel) (by decide +kernel), jx_mT 439 (by decide +kernel) (by decide +kernel), jx_mT 7 (by decide +kernel) (by decide +kernel), by decide +kernel⟩
theorem lk_X5_59 : Cond.methodLink RX5 59 yX5_lookFrom ∈ jx_T := jx_mT 437 (by decide +kernel) (by decide +kernel)
theorem ms_X5_levelSeen : jx_MV yX5_levelSeen cX5_levelSeen 2 (some .int) 1 := ⟨jx_mT 453 (by decide +kernel) (by decide +kernel), jx_mT 74 (by decide +kernel) (by decide +kernel), jx_mT 452 (by decide +kernel) (by decide +kernel), jx_mT 9 (by decide +kernel) (by decide +kernel), by decide +kernel⟩
theorem lk_X5_62 : Cond.methodLink RX5 62 yX5_levelSeen ∈ jx_T := jx_mT 450 (by decide +kernel) (by decide +kernel)
theorem fn_X1_165 : jx_FN RX1 165 4 8 := ⟨RX6, TX6, 11, rfl, jx_inX6, by decide, rfl, jx_mN 127 (by decide +kernel) (by decide +kernel)⟩
theorem fw_X6_8 : jx_FW 4 8 .int := ⟨RX6, TX6, 11, tyX6, rfl, tyX6_ok, nmX6, rfl, rfl⟩
theorem fl_X1_47 : jx_FL RX1 47 0 8 := ⟨RX1, TX1, 12, rfl, jx_inX1, by decide, rfl, jx_mT 189 (by decide +kernel) (by decide +kernel)⟩
theorem fl_X1_18 : jx_FL RX1 18 0 6 := ⟨RX1, TX1, 12, rfl, jx_inX1, by decide, rfl, jx_mT 187 (by decide +kernel) (by decide +kernel)⟩
theorem fl_X1_21 : jx_FL RX1 21 0 7 := ⟨RX1, TX1, 12, rfl, jx_inX1, by decide, rfl, jx_mT 188 (by decide +kernel) (by decide +kernel)⟩
theorem fw_X1_8 : jx_FW 0 8 .int := ⟨RX1, TX1, 12, tyX1, rfl, tyX1_ok, nmX1, rfl, rfl⟩
theorem ms_X1_farthest : jx_MV yX1_farthest cX1_farthest 9 (some .int) 2 := ⟨jx_mT 428 (by decide +kernel) (by decide +kernel), jx_mT 75 (by decide +kernel) (by decide +kernel), jx_mT 427 (by decide +kernel) (by decide +kernel), jx_mT 6 (by decide +kernel) (by decide +kernel), by decide +kernel⟩
theorem lk_X1_140 : Cond.methodLink RX1 140 yX1_farthest ∈ jx_T := jx_mT 425 (by decide +kernel) (by decide +kernel)
theorem fw_X1_5 : jx_FW 0 5 .int := ⟨RX1, TX1, 12, tyX1, rfl, tyX1_ok, nmX1, rfl, rfl⟩
theorem fl_X1_37 : jx_FL RX1 37 0 1 := ⟨RX1, TX1, 12, rfl, jx_inX1, by decide, rfl, jx_mT 182 (by decide +kernel) (by decide +kernel)⟩
theorem ms_X5_boxesBelow : jx_MV yX5_boxesBelow cX5_boxesBelow 4 (some .int) 1 := ⟨jx_mT 436 (by decide +kernel) (by decide +kernel), jx_mT 74 (by decide +kernel) (by decide +kernel), jx_mT 434 (by decide +kernel) (by decide +kernel), jx_mT 435 (by decide +kernel) (by decide +kernel), by decide +kernel⟩
theorem lk_X1_143 : Cond.methodLink RX1 143 yX5_boxesBelow ∈ jx_T := jx_mT 433 (by decide +kernel) (by decide +kernel)
theorem ms_X1_noteCourt : jx_MV yX1_noteCourt cX1_noteCourt 3 none 2 := ⟨jx_mT 461 (by decide +kernel) (by decide +kernel), jx_mT 75 (by decide +kernel) (by decide +kernel), jx_mT 460 (by decide +kernel) (by decide +kernel), jx_mT 11 (by decide +kernel) (by decide +kernel), by decide +kernel⟩
theorem lk_X1_148 : Cond.methodLink RX1 148 yX1_noteCourt ∈ jx_T := jx_mT 458 (by decide +kernel) (by decide +kernel)
theorem lk_X1_151 : Cond.methodLink RX1 151 Lib.Math.max.name ∈ jx_T := jx_mT 462 (by decide +kernel) (by decide +kernel)
theorem lk_X1_68 : Cond.methodLink RX1 68 yX6_remove ∈ jx_T := jx_mT 463 (by decide +kernel) (by decide +kernel)
theorem lk_X1_156 : Cond.methodLink RX1 156 Lib.Math.min.name ∈ jx_T := jx_mT 467 (by decide +kernel) (by decide +kernel)
theorem ms_X1_await : jx_MV yX1_await cX1_await 3 none 2 := ⟨jx_mT 363 (by decide +kernel) (by decide +kernel), jx_mT 75 (by decide +kernel) (by decide +kernel), jx_mT 362 (by decide +kernel) (by decide +kernel), jx_mT 2 (by decide +kernel) (by decide +kernel), by decide +kernel⟩
theorem lk_X1_117 : Cond.methodLink RX1 117 yX1_await ∈ jx_T := jx_mT 360 (by decide +kernel) (by decide +kernel)
theorem ms_X6_nodeFor : jx_MV yX6_nodeFor cX6_nodeFor 5 (some .int) 2 := ⟨jx_mT 373 (by decide +kernel) (by decide +kernel), jx_mT 71 (by decide +kernel) (by decide +kernel), jx_mT 371 (by decide +kernel) (by decide +kernel), jx_mT 372 (by decide +kernel) (by decide +kernel), by decide +kernel⟩
theorem lk_X1_123 : Cond.methodLink RX1 123 yX6_nodeFor ∈ jx_T := jx_mT 370 (by decide +kernel) (by decide +kernel)
theorem ms_X1_courtIsDue : jx_MV yX1_courtIsDue cX1_courtIsDue 2 (some .boolean) 1 := ⟨jx_mT 419 (by decide +kernel) (by decide +kernel), jx_mT 75 (by decide +kernel) (by decide +kernel), jx_mT 418 (by decide +kernel) (by decide +kernel), jx_mT 4 (by decide +kernel) (by decide +kernel), by decide +kernel⟩
theorem lk_X1_130 : Cond.methodLink RX1 130 yX1_courtIsDue ∈ jx_T := jx_mT 416 (by decide +kernel) (by decide +kernel)
theorem ms_X1_split : jx_MV yX1_split cX1_split 7 (some .int) 1 := ⟨jx_mT 471 (by decide +kernel) (by decide +kernel), jx_mT 75 (by decide +kernel) (by decide +kernel), jx_mT 470 (by decide +kernel) (by decide +kernel), jx_mT 12 (by decide +kernel) (by decide +kernel), by decide +kernel⟩
theorem lk_X1_137 : Cond.methodLink RX1 137 yX1_split ∈ jx_T := jx_mT 468 (by decide +kernel) (by decide +kernel)
theorem ms_X1_holdCourt : jx_MV yX1_holdCourt cX1_holdCourt 7 (some .int) 1 := ⟨jx_mT 424 (by decide +kernel) (by decide +kernel), jx_mT 75 (by decide +kernel) (by decide +kernel), jx_mT 423 (by decide +kernel) (by decide +kernel), jx_mT 5 (by decide +kernel) (by decide +kernel), by decide +kernel⟩
theorem lk_X1_134 : Cond.methodLink RX1 134 yX1_holdCourt ∈ jx_T := jx_mT 421 (by decide +kernel) (by decide +kernel)
theorem ms_X6_setBox : jx_MV yX6_setBox cX6_setBox 3 none 2 := ⟨jx_mT 355 (by decide +kernel) (by decide +kernel), jx_mT 71 (by decide +kernel) (by decide +kernel), jx_mT 353 (by decide +kernel) (by decide +kernel), jx_mT 354 (by decide +kernel) (by decide +kernel), by decide +kernel⟩
theorem lk_X1_51 : Cond.methodLink RX1 51 yX6_setBox ∈ jx_T := jx_mT 352 (by decide +kernel) (by decide +kernel)
theorem ms_X1_insert : jx_MV yX1_insert cX1_insert 8 none 2 := ⟨jx_mT 359 (by decide +kernel) (by decide +kernel), jx_mT 75 (by decide +kernel) (by decide +kernel), jx_mT 358 (by decide +kernel) (by decide +kernel), jx_mT 1 (by decide +kernel) (by decide +kernel), by decide +kernel⟩
theorem lk_X1_57 : Cond.methodLink RX1 57 yX1_insert ∈ jx_T := jx_mT 356 (by decide +kernel) (by decide +kernel)
theorem lk_X6_111 : Cond.methodLink RX6 111 yX6_clearRow ∈ jx_T := jx_mT 542 (by decide +kernel) (by decide +kernel)
theorem fl_X1_24 : jx_FL RX1 24 0 9 := ⟨RX1, TX1, 12, rfl, jx_inX1, by decide, rfl, jx_mT 191 (by decide +kernel) (by decide +kernel)⟩
theorem lk_X1_83 : Cond.methodLink RX1 83 yJ7_fill_53178 ∈ jx_T := jx_mT 537 (by decide +kernel) (by decide +kernel)
theorem ms_X6_drop : jx_MV yX6_drop cX6_drop 2 none 1 := ⟨jx_mT 541 (by decide +kernel) (by decide +kernel), jx_mT 71 (by decide +kernel) (by decide +kernel), jx_mT 539 (by decide +kernel) (by decide +kernel), jx_mT 540 (by decide +kernel) (by decide +kernel), by decide +kernel⟩
theorem lk_X1_108 : Cond.methodLink RX1 108 yX6_drop ∈ jx_T := jx_mT 538 (by decide +kernel) (by decide +kernel)
theorem lk_X6_119 : Cond.methodLink RX6 119 yX6_drop ∈ jx_T := jx_mT 547 (by decide +kernel) (by decide +kernel)
theorem ms_X6_homeOf : jx_MV yX6_homeOf cX6_homeOf 2 (some .int) 1 := ⟨jx_mT 532 (by decide +kernel) (by decide +kernel), jx_mT 71 (by decide +kernel) (by decide +kernel), jx_mT 530 (by decide +kernel) (by decide +kernel), jx_mT 531 (by decide +kernel) (by decide +kernel), by decide +kernel⟩
theorem lk_X1_60 : Cond.methodLink RX1 60 yX6_homeOf ∈ jx_T := jx_mT 529 (by decide +kernel) (by decide +kernel)
theorem ms_X1_dissolveFrom : jx_MV yX1_dissolveFrom cX1_dissolveFrom 5 none 1 := ⟨jx_mT 536 (by decide +kernel) (by decide +kernel), jx_mT 75 (by decide +kernel) (by decide +kernel), jx_mT 535 (by decide +kernel) (by decide +kernel), jx_mT 16 (by decide +kernel) (by decide +kernel), by decide +kernel⟩
theorem lk_X1_75 : Cond.methodLink RX1 75 yX1_dissolveFrom ∈ jx_T := jx_mT 533 (by decide +kernel) (by decide +kernel)
theorem fn_X1_78 : jx_FN RX1 78 4 10 := ⟨RX6, TX6, 11, rfl, jx_inX6, by decide, rfl, jx_mN 133 (by decide +kernel) (by decide +kernel)⟩
theorem fw_X6_10 : jx_FW 4 10 .int := ⟨RX6, TX6, 11, tyX6, rfl, tyX6_ok, nmX6, rfl, rfl⟩
theorem ms_X6_lowerRoot : jx_MV yX6_lowerRoot cX6_lowerRoot 3 none 0 := ⟨jx_mT 546 (by decide +kernel) (by decide +kernel), jx_mT 71 (by decide +kernel) (by decide +kernel), jx_mT 544 (by decide +kernel) (by decide +kernel), jx_mT 545 (by decide +kernel) (by decide +kernel), by decide +kernel⟩
theorem lk_X1_80 : Cond.methodLink RX1 80 yX6_lowerRoot ∈ jx_T := jx_mT 543 (by decide +kernel) (by decide +kernel)
theorem fl_X3_18 : jx_FL RX3 18 2 1 := ⟨RX3, TX3, 9, rfl, jx_inX3, by decide, rfl, jx_mT 246 (by decide +kernel) (by decide +kernel)⟩
theorem fl_X3_9 : jx_FL RX3 9 2 0 := ⟨RX3, TX3, 9, rfl, jx_inX3, by decide, rfl, jx_mT 245 (by decide +kernel) (by decide +kernel)⟩
theorem lk_X3_22 : Cond.methodLink RX3 22 yX4_set ∈ jx_T := jx_mT 700 (by decide +kernel) (by decide +kernel)
theorem fw_X3_1 : jx_FW 2 1 .int := ⟨RX3, TX3, 9, tyX3, rfl, tyX3_ok, nmX3, rfl, rfl⟩
theorem fl_X3_49 : jx_FL RX3 49 2 4 := ⟨RX3, TX3, 9, rfl, jx_inX3, by decide, rfl, jx_mT 251 (by decide +kernel) (by decide +kernel)⟩
theorem lk_X3_28 : Cond.methodLink RX3 28 yX4_at ∈ jx_T := jx_mT 725 (by decide +kernel) (by decide +kernel)
theorem ms_X3_signIsDigit : jx_MV yX3_signIsDigit cX3_signIsDigit 1 (some .boolean) 0 := ⟨jx_mT 733 (by decide +kernel) (by decide +kernel), jx_mT 77 (by decide +kernel) (by decide +kernel), jx_mT 732 (by decide +kernel) (by decide +kernel), jx_mT 23 (by decide +kernel) (by decide +kernel), by decide +kernel⟩
theorem lk_X3_72 : Cond.methodLink RX3 72 yX3_signIsDigit ∈ jx_T := jx_mT 730 (by decide +kernel) (by decide +kernel)
theorem fw_X3_4 : jx_FW 2 4 .int := ⟨RX3, TX3, 9, tyX3, rfl, tyX3_ok, nmX3, rfl, rfl⟩
theorem fl_X3_15 : jx_FL RX3 15 2 2 := ⟨RX3, TX3, 9, rfl, jx_inX3, by decide, rfl, jx_mT 248 (by decide +kernel) (by decide +kernel)⟩
theorem ms_X3_signIs : jx_MV yX3_signIs cX3_signIs 2 (some .boolean) 1 := ⟨jx_mT 724 (by decide +kernel) (by decide +kernel), jx_mT 77 (by decide +kernel) (by decide +kernel), jx_mT 723 (by decide +kernel) (by decide +kernel), jx_mT 21 (by decide +kernel) (by decide +kernel), by decide +kernel⟩
theorem lk_X3_66 : Cond.methodLink RX3 66 yX3_signIs ∈ jx_T := jx_mT 721 (by decide +kernel) (by decide +kernel)
theorem fl_X3_62 : jx_FL RX3 62 2 3 := ⟨RX3, TX3, 9, rfl, jx_inX3, by decide, rfl, jx_mT 249 (by decide +kernel) (by decide +kernel)⟩
theorem fw_X3_3 : jx_FW 2 3 .boolean := ⟨RX3, TX3, 9, tyX3, rfl, tyX3_ok, nmX3, rfl, rfl⟩
theorem ms_X3_readNumber : jx_MV yX3_readNumber cX3_readNumber 3 (some .boolean) 1 := ⟨jx_mT 729 (by decide +kernel) (by decide +kernel), jx_mT 77 (by decide +kernel) (by decide +kernel), jx_mT 728 (by decide +kernel) (by decide +kernel), jx_mT 22 (by decide +kernel) (by decide +kernel), by decide +kernel⟩
theorem lk_X3_69 : Cond.methodLink RX3 69 yX3_readNumber ∈ jx_T := jx_mT 726 (by decide +kernel) (by decide +kernel)
theorem ms_X3_number : jx_MV yX3_number cX3_number 2 (some .int) 1 := ⟨jx_mT 741 (by decide +kernel) (by decide +kernel), jx_mT 77 (by decide +kernel) (by decide +kernel), jx_mT 739 (by decide +kernel) (by decide +kernel), jx_mT 740 (by decide +kernel) (by decide +kernel), by decide +kernel⟩
theorem lk_X3_45 : Cond.methodLink RX3 45 yX3_number ∈ jx_T := jx_mT 738 (by decide +kernel) (by decide +kernel)
theorem ms_X3_read : jx_MV yX3_read cX3_read 4 (some .boolean) 1 := ⟨jx_mT 720 (by decide +kernel) (by decide +kernel), jx_mT 77 (by decide +kernel) (by decide +kernel), jx_mT 718 (by decide +kernel) (by decide +kernel), jx_mT 719 (by decide +kernel) (by decide +kernel), by decide +kernel⟩
theorem lk_X3_51 : Cond.methodLink RX3 51 yX3_read ∈ jx_T := jx_mT 717 (by decide +kernel) (by decide +kernel)
theorem ms_X3_wrongNumber : jx_MV yX3_wrongNumber cX3_wrongNumber 1 (some .int) 0 := ⟨jx_mT 737 (by decide +kernel) (by decide +kernel), jx_mT 77 (by decide +kernel) (by decide +kernel), jx_mT 736 (by decide +kernel) (by decide +kernel), jx_mT 24 (by decide +kernel) (by decide +kernel), by decide +kernel⟩
theorem lk_X3_58 : Cond.methodLink RX3 58 yX3_wrongNumber ∈ jx_T := jx_mT 734 (by decide +kernel) (by decide +kernel)
theorem fl_X3_55 : jx_FL RX3 55 2 8 := ⟨RX3, TX3, 9, rfl, jx_inX3, by decide, rfl, jx_mT 259 (by decide +kernel) (by decide +kernel)⟩
theorem fw_X3_8 : jx_FW 2 8 .int := ⟨RX3, TX3, 9, tyX3, rfl, tyX3_ok, nmX3, rfl, rfl⟩
theorem fl_X3_32 : jx_FL RX3 32 2 5 := ⟨RX3, TX3, 9, rfl, jx_inX3, by decide, rfl, jx_mT 253 (by decide +kernel) (by decide +kernel)⟩
theorem fw_X3_5 : jx_FW 2 5 .int := ⟨RX3, TX3, 9, tyX3, rfl, tyX3_ok, nmX3, rfl, rfl⟩
theorem fl_X3_35 : jx_FL RX3 35 2 6 := ⟨RX3, TX3, 9, rfl, jx_inX3, by decide, rfl, jx_mT 255 (by decide +kernel) (by decide +kernel)⟩
theorem fw_X3_6 : jx_FW 2 6 .int := ⟨RX3, TX3, 9, tyX3, rfl, tyX3_ok, nmX3, rfl, rfl⟩
theorem fl_X3_38 : jx_FL RX3 38 2 7 := ⟨RX3, TX3, 9, rfl, jx_inX3, by decide, rfl, jx_mT 257 (by decide +kernel) (by decide +kernel)⟩
theorem fw_X3_7 : jx_FW 2 7 .int := ⟨RX3, TX3, 9, tyX3, rfl, tyX3_ok, nmX3, rfl, rfl⟩
theorem ms_X3_reasonAgainst : jx_MV yX3_reasonAgainst cX3_reasonAgainst 4 (some .int) 2 := ⟨jx_mT 716 (by decide +kernel) (by decide +kernel), jx_mT 77 (by decide +kernel) (by decide +kernel), jx_mT 715 (by decide +kernel) (by decide +kernel), jx_mT 20 (by decide +kernel) (by decide +kernel), by decide +kernel⟩
theorem lk_X3_41 : Cond.methodLink RX3 41 yX3_reasonAgainst ∈ jx_T := jx_mT 713 (by decide +kernel) (by decide +kernel)
theorem fn_X5_50 : jx_FN RX5 50 4 4 := ⟨RX6, TX6, 11, rfl, jx_inX6, by decide, rfl, jx_mN 119 (by decide +kernel) (by decide +kernel)⟩
theorem fn_X5_56 : jx_FN RX5 56 4 7 := ⟨RX6, TX6, 11, rfl, jx_inX6, by decide, rfl, jx_mN 125 (by decide +kernel) (by decide +kernel)⟩
theorem ms_X5_hullSeen : jx_MV yX5_hullSeen cX5_hullSeen 2 (some .int) 1 := ⟨jx_mT 586 (by decide +kernel) (by decide +kernel), jx_mT 74 (by decide +kernel) (by decide +kernel), jx_mT 585 (by decide +kernel) (by decide +kernel), jx_mT 17 (by decide +kernel) (by decide +kernel), by decide +kernel⟩
theorem lk_X5_65 : Cond.methodLink RX5 65 yX5_hullSeen ∈ jx_T := jx_mT 583 (by decide +kernel) (by decide +kernel)
theorem lk_X5_73 : Cond.methodLink RX5 73 yX0_area ∈ jx_T := jx_mT 682 (by decide +kernel) (by decide +kernel)
theorem lk_X5_76 : Cond.methodLink RX5 76 yX0_touch ∈ jx_T := jx_mT 618 (by decide +kernel) (by decide +kernel)
theorem ms_X0_distance : jx_MS yX0_distance cX0_distance 5 (some .int) 3 := ⟨jx_mT 629 (by decide +kernel) (by decide +kernel), jx_mT 80 (by decide +kernel) (by decide +kernel), jx_mT 628 (by decide +kernel) (by decide +kernel), by decide +kernel⟩
theorem lk_X5_80 : Cond.methodLink RX5 80 yX0_distance ∈ jx_T := jx_mT 640 (by decide +kernel) (by decide +kernel)
theorem lk_X5_68 : Cond.methodLink RX5 68 yX0_common ∈ jx_T := jx_mT 587 (by decide +kernel) (by decide +kernel)
theorem ms_X6_has : jx_MV yX6_has cX6_has 2 (some .boolean) 1 := ⟨jx_mT 328 (by decide +kernel) (by decide +kernel), jx_mT 71 (by decide +kernel) (by decide +kernel), jx_mT 326 (by decide +kernel) (by decide +kernel), jx_mT 327 (by decide +kernel) (by decide +kernel), by decide +kernel⟩
theorem lk_X6_78 : Cond.methodLink RX6 78 yX6_has ∈ jx_T := jx_mT 649 (by decide +kernel) (by decide +kernel)
theorem lk_X6_85 : Cond.methodLink RX6 85 yX0_touch ∈ jx_T := jx_mT 613 (by decide +kernel) (by decide +kernel)
theorem lk_X6_47 : Cond.methodLink RX6 47 arraycopyName ∈ jx_T := jx_mT 342 (by decide +kernel) (by decide +kernel)
theorem fl_X6_53 : jx_FL RX6 53 4 8 := ⟨RX6, TX6, 11, rfl, jx_inX6, by decide, rfl, jx_mT 126 (by decide +kernel) (by decide +kernel)⟩
theorem fl_X6_56 : jx_FL RX6 56 4 9 := ⟨RX6, TX6, 11, rfl, jx_inX6, by decide, rfl, jx_mT 129 (by decide +kernel) (by decide +kernel)⟩
theorem fl_X6_59 : jx_FL RX6 59 4 10 := ⟨RX6, TX6, 11, rfl, jx_inX6, by decide, rfl, jx_mT 132 (by decide +kernel) (by decide +kernel)⟩
theorem ms_X7_isUpTo : jx_MS yX7_isUpTo cX7_isUpTo 2 (some .boolean) 2 := ⟨jx_mT 317 (by decide +kernel) (by decide +kernel), jx_mT 70 (by decide +kernel) (by decide +kernel), jx_mT 316 (by decide +kernel) (by decide +kernel), by decide +kernel⟩
theorem lk_X7_95 : Cond.methodLink RX7 95 yX7_isUpTo ∈ jx_T := jx_mT 315 (by decide +kernel) (by decide +kernel)
theorem ms_X7_isBox : jx_MS yX7_isBox cX7_isBox 1 (some .boolean) 1 := ⟨jx_mT 314 (by decide +kernel) (by decide +kernel), jx_mT 70 (by decide +kernel) (by decide +kernel), jx_mT 313 (by decide +kernel) (by decide +kernel), by decide +kernel⟩
theorem lk_X7_61 : Cond.methodLink RX7 61 yX7_isBox ∈ jx_T := jx_mT 312 (by decide +kernel) (by decide +kernel)
theorem kc_X7_69 : Cond.constant RX7 69 (jx_i (-1000001)) ∈ jx_T := jx_mT 324 (by decide +kernel) (by decide +kernel)
theorem fl_X7_12 : jx_FL RX7 12 5 0 := ⟨RX7, TX7, 9, rfl, jx_inX7, by decide, rfl, jx_mT 280 (by decide +kernel) (by decide +kernel)⟩
theorem lk_X7_70 : Cond.methodLink RX7 70 yX6_has ∈ jx_T := jx_mT 325 (by decide +kernel) (by decide +kernel)
theorem lk_X7_100 : Cond.methodLink RX7 100 yX6_homeOf ∈ jx_T := jx_mT 553 (by decide +kernel) (by decide +kernel)
theorem lk_X7_111 : Cond.methodLink RX7 111 yX6_hull ∈ jx_T := jx_mT 559 (by decide +kernel) (by decide +kernel)
theorem lk_X7_114 : Cond.methodLink RX7 114 yX0_side ∈ jx_T := jx_mT 560 (by decide +kernel) (by decide +kernel)
theorem lk_X7_107 : Cond.methodLink RX7 107 yX6_placeIn ∈ jx_T := jx_mT 558 (by decide +kernel) (by decide +kernel)
theorem fl_X7_21 : jx_FL RX7 21 5 1 := ⟨RX7, TX7, 9, rfl, jx_inX7, by decide, rfl, jx_mT 281 (by decide +kernel) (by decide +kernel)⟩
theorem ms_X5_placeOf : jx_MV yX5_placeOf cX5_placeOf 5 (some .int) 1 := ⟨jx_mT 557 (by decide +kernel) (by decide +kernel), jx_mT 74 (by decide +kernel) (by decide +kernel), jx_mT 555 (by decide +kernel) (by decide +kernel), jx_mT 556 (by decide +kernel) (by decide +kernel), by decide +kernel⟩
theorem lk_X7_104 : Cond.methodLink RX7 104 yX5_placeOf ∈ jx_T := jx_mT 554 (by decide +kernel) (by decide +kernel)
theorem kc_X7_99 : Cond.constant RX7 99 (jx_i (-1000004)) ∈ jx_T := jx_mT 552 (by decide +kernel) (by decide +kernel)
theorem fl_X7_57 : jx_FL RX7 57 5 8 := ⟨RX7, TX7, 9, rfl, jx_inX7, by decide, rfl, jx_mT 288 (by decide +kernel) (by decide +kernel)⟩
theorem lk_X7_238 : Cond.methodLink RX7 238 yX4_set ∈ jx_T := jx_mT 630 (by decide +kernel) (by decide +kernel)
theorem lk_X7_158 : Cond.methodLink RX7 158 yX0_distance ∈ jx_T := jx_mT 627 (by decide +kernel) (by decide +kernel)
theorem lk_X7_244 : Cond.methodLink RX7 244 yX4_at ∈ jx_T := jx_mT 631 (by decide +kernel) (by decide +kernel)
theorem ms_X7_ranksAhead : jx_MV yX7_ranksAhead cX7_ranksAhead 7 (some .int) 1 := ⟨jx_mT 635 (by decide +kernel) (by decide +kernel), jx_mT 70 (by decide +kernel) (by decide +kernel), jx_mT 634 (by decide +kernel) (by decide +kernel), jx_mT 19 (by decide +kernel) (by decide +kernel), by decide +kernel⟩
theorem lk_X7_247 : Cond.methodLink RX7 247 yX7_ranksAhead ∈ jx_T := jx_mT 632 (by decide +kernel) (by decide +kernel)
theorem fl_X7_53 : jx_FL RX7 53 5 7 := ⟨RX7, TX7, 9, rfl, jx_inX7, by decide, rfl, jx_mT 287 (by decide +kernel) (by decide +kernel)⟩
theorem fn_X7_197 : jx_FN RX7 197 2 1 := ⟨RX3, TX3, 9, rfl, jx_inX3, by decide, rfl, jx_mN 247 (by decide +kernel) (by decide +kernel)⟩
theorem ms_X6_boxSet : jx_MV yX6_boxSet cX6_boxSet 3 (some .int) 0 := ⟨jx_mT 663 (by decide +kernel) (by decide +kernel), jx_mT 71 (by decide +kernel) (by decide +kernel), jx_mT 661 (by decide +kernel) (by decide +kernel), jx_mT 662 (by decide +kernel) (by decide +kernel), by decide +kernel⟩
theorem lk_X7_176 : Cond.methodLink RX7 176 yX6_boxSet ∈ jx_T := jx_mT 660 (by decide +kernel) (by decide +kernel)
theorem lk_X7_179 : Cond.methodLink RX7 179 yJ6_bitCount_0f7a4 ∈ jx_T := jx_mT 664 (by decide +kernel) (by decide +kernel)
theorem ms_X6_height : jx_MV yX6_height cX6_height 1 (some .int) 0 := ⟨jx_mT 520 (by decide +kernel) (by decide +kernel), jx_mT 71 (by decide +kernel) (by decide +kernel), jx_mT 518 (by decide +kernel) (by decide +kernel), jx_mT 519 (by decide +kernel) (by decide +kernel), by decide +kernel⟩
theorem lk_X7_87 : Cond.methodLink RX7 87 yX6_height ∈ jx_T := jx_mT 517 (by decide +kernel) (by decide +kernel)
theorem ms_X5_nodes : jx_MV yX5_nodes cX5_nodes 1 (some .int) 0 := ⟨jx_mT 673 (by decide +kernel) (by decide +kernel), jx_mT 74 (by decide +kernel) (by decide +kernel), jx_mT 671 (by decide +kernel) (by decide +kernel), jx_mT 672 (by decide +kernel) (by decide +kernel), by decide +kernel⟩
theorem lk_X7_184 : Cond.methodLink RX7 184 yX5_nodes ∈ jx_T := jx_mT 670 (by decide +kernel) (by decide +kernel)
theorem ms_X5_leaves : jx_MV yX5_leaves cX5_leaves 3 (some .int) 0 := ⟨jx_mT 677 (by decide +kernel) (by decide +kernel), jx_mT 74 (by decide +kernel) (by decide +kernel), jx_mT 675 (by decide +kernel) (by decide +kernel), jx_mT 676 (by decide +kernel) (by decide +kernel), by decide +kernel⟩
theorem lk_X7_187 : Cond.methodLink RX7 187 yX5_leaves ∈ jx_T := jx_mT 674 (by decide +kernel) (by decide +kernel)
theorem fl_X7_30 : jx_FL RX7 30 5 2 := ⟨RX7, TX7, 9, rfl, jx_inX7, by decide, rfl, jx_mT 282 (by decide +kernel) (by decide +kernel)⟩
theorem fn_X7_135 : jx_FN RX7 135 0 8 := ⟨RX1, TX1, 12, rfl, jx_inX1, by decide, rfl, jx_mN 190 (by decide +kernel) (by decide +kernel)⟩
theorem fn_X7_190 : jx_FN RX7 190 4 8 := ⟨RX6, TX6, 11, rfl, jx_inX6, by decide, rfl, jx_mN 128 (by decide +kernel) (by decide +kernel)⟩
theorem fn_X7_191 : jx_FN RX7 191 4 9 := ⟨RX6, TX6, 11, rfl, jx_inX6, by decide, rfl, jx_mN 130 (by decide +kernel) (by decide +kernel)⟩
theorem fn_X7_173 : jx_FN RX7 173 4 10 := ⟨RX6, TX6, 11, rfl, jx_inX6, by decide, rfl, jx_mN 134 (by decide +kernel) (by decide +kernel)⟩
theorem fl_X7_46 : jx_FL RX7 46 5 6 := ⟨RX7, TX7, 9, rfl, jx_inX7, by decide, rfl, jx_mT 286 (by decide +kernel) (by decide +kernel)⟩
theorem fn_X7_194 : jx_FN RX7 194 1 2 := ⟨RX2, TX2, 3, rfl, jx_inX2, by decide, rfl, jx_mN 231 (by decide +kernel) (by decide +kernel)⟩
theorem ms_X5_areaOfLeaves : jx_MV yX5_areaOfLeaves cX5_areaOfLeaves 3 (some .int) 0 := ⟨jx_mT 681 (by decide +kernel) (by decide +kernel), jx_mT 74 (by decide +kernel) (by decide +kernel), jx_mT 679 (by decide +kernel) (by decide +kernel), jx_mT 680 (by decide +kernel) (by decide +kernel), by decide +kernel⟩
theorem lk_X7_200 : Cond.methodLink RX7 200 yX5_areaOfLeaves ∈ jx_T := jx_mT 678 (by decide +kernel) (by decide +kernel)
theorem ms_X1_courtBoxes : jx_MV yX1_courtBoxes cX1_courtBoxes 2 (some .int) 1 := ⟨jx_mT 604 (by decide +kernel) (by decide +kernel), jx_mT 75 (by decide +kernel) (by decide +kernel), jx_mT 602 (by decide +kernel) (by decide +kernel), jx_mT 603 (by decide +kernel) (by decide +kernel), by decide +kernel⟩
theorem lk_X7_142 : Cond.methodLink RX7 142 yX1_courtBoxes ∈ jx_T := jx_mT 601 (by decide +kernel) (by decide +kernel)
theorem ms_X1_courtLevel : jx_MV yX1_courtLevel cX1_courtLevel 2 (some .int) 1 := ⟨jx_mT 600 (by decide +kernel) (by decide +kernel), jx_mT 75 (by decide +kernel) (by decide +kernel), jx_mT 598 (by decide +kernel) (by decide +kernel), jx_mT 599 (by decide +kernel) (by decide +kernel), by decide +kernel⟩
theorem lk_X7_139 : Cond.methodLink RX7 139 yX1_courtLevel ∈ jx_T := jx_mT 597 (by decide +kernel) (by decide +kernel)
theorem ms_X3_examine : jx_MV yX3_examine cX3_examine 4 none 1 := ⟨jx_mT 712 (by decide +kernel) (by decide +kernel), jx_mT 77 (by decide +kernel) (by decide +kernel), jx_mT 710 (by decide +kernel) (by decide +kernel), jx_mT 711 (by decide +kernel) (by decide +kernel), by decide +kernel⟩
theorem lk_X7_210 : Cond.methodLink RX7 210 yX3_examine ∈ jx_T := jx_mT 709 (by decide +kernel) (by decide +kernel)
theorem fn_X7_213 : jx_FN RX7 213 2 7 := ⟨RX3, TX3, 9, rfl, jx_inX3, by decide, rfl, jx_mN 258 (by decide +kernel) (by decide +kernel)⟩
theorem fn_X7_219 : jx_FN RX7 219 2 8 := ⟨RX3, TX3, 9, rfl, jx_inX3, by decide, rfl, jx_mN 260 (by decide +kernel) (by decide +kernel)⟩
theorem fn_X7_216 : jx_FN RX7 216 2 6 := ⟨RX3, TX3, 9, rfl, jx_inX3, by decide, rfl, jx_mN 256 (by decide +kernel) (by decide +kernel)⟩
theorem ms_X7_isPoint : jx_MS yX7_isPoint cX7_isPoint 1 (some .boolean) 1 := ⟨jx_mT 323 (by decide +kernel) (by decide +kernel), jx_mT 70 (by decide +kernel) (by decide +kernel), jx_mT 322 (by decide +kernel) (by decide +kernel), by decide +kernel⟩
theorem lk_X7_151 : Cond.methodLink RX7 151 yX7_isPoint ∈ jx_T := jx_mT 321 (by decide +kernel) (by decide +kernel)
theorem ms_X7_boxOfRank : jx_MV yX7_boxOfRank cX7_boxOfRank 6 (some .int) 3 := ⟨jx_mT 626 (by decide +kernel) (by decide +kernel), jx_mT 70 (by decide +kernel) (by decide +kernel), jx_mT 625 (by decide +kernel) (by decide +kernel), jx_mT 18 (by decide +kernel) (by decide +kernel), by decide +kernel⟩
theorem lk_X7_154 : Cond.methodLink RX7 154 yX7_boxOfRank ∈ jx_T := jx_mT 623 (by decide +kernel) (by decide +kernel)
theorem ms_X5_nodesWithin : jx_MV yX5_nodesWithin cX5_nodesWithin 6 (some .int) 3 := ⟨jx_mT 639 (by decide +kernel) (by decide +kernel), jx_mT 74 (by decide +kernel) (by decide +kernel), jx_mT 637 (by decide +kernel) (by decide +kernel), jx_mT 638 (by decide +kernel) (by decide +kernel), by decide +kernel⟩
theorem lk_X7_161 : Cond.methodLink RX7 161 yX5_nodesWithin ∈ jx_T := jx_mT 636 (by decide +kernel) (by decide +kernel)
theorem ms_X5_nodeAt : jx_MV yX5_nodeAt cX5_nodeAt 5 (some .int) 2 := ⟨jx_mT 568 (by decide +kernel) (by decide +kernel), jx_mT 74 (by decide +kernel) (by decide +kernel), jx_mT 566 (by decide +kernel) (by decide +kernel), jx_mT 567 (by decide +kernel) (by decide +kernel), by decide +kernel⟩
theorem lk_X7_117 : Cond.methodLink RX7 117 yX5_nodeAt ∈ jx_T := jx_mT 565 (by decide +kernel) (by decide +kernel)
theorem lk_X7_120 : Cond.methodLink RX7 120 yX6_sizeOf ∈ jx_T := jx_mT 569 (by decide +kernel) (by decide +kernel)
theorem lk_X7_126 : Cond.methodLink RX7 126 yX6_thingAt ∈ jx_T := jx_mT 574 (by decide +kernel) (by decide +kernel)
theorem ms_X6_boxesOfLeaf : jx_MV yX6_boxesOfLeaf cX6_boxesOfLeaf 4 (some .int) 1 := ⟨jx_mT 573 (by decide +kernel) (by decide +kernel), jx_mT 71 (by decide +kernel) (by decide +kernel), jx_mT 571 (by decide +kernel) (by decide +kernel), jx_mT 572 (by decide +kernel) (by decide +kernel), by decide +kernel⟩
theorem lk_X7_123 : Cond.methodLink RX7 123 yX6_boxesOfLeaf ∈ jx_T := jx_mT 570 (by decide +kernel) (by decide +kernel)
theorem lk_X7_132 : Cond.methodLink RX7 132 yX0_common ∈ jx_T := jx_mT 592 (by decide +kernel) (by decide +kernel)
theorem ms_X5_overlapsOf : jx_MV yX5_overlapsOf cX5_overlapsOf 5 (some .int) 1 := ⟨jx_mT 582 (by decide +kernel) (by decide +kernel), jx_mT 74 (by decide +kernel) (by decide +kernel), jx_mT 580 (by decide +kernel) (by decide +kernel), jx_mT 581 (by decide +kernel) (by decide +kernel), by decide +kernel⟩
theorem lk_X7_129 : Cond.methodLink RX7 129 yX5_overlapsOf ∈ jx_T := jx_mT 579 (by decide +kernel) (by decide +kernel)
theorem fl_X2_22 : jx_FL RX2 22 1 1 := ⟨RX2, TX2, 3, rfl, jx_inX2, by decide, rfl, jx_mT 229 (by decide +kernel) (by decide +kernel)⟩
theorem ms_X3_append : jx_MV yX3_append cX3_append 2 none 1 := ⟨jx_mT 699 (by decide +kernel) (by decide +kernel), jx_mT 77 (by decide +kernel) (by decide +kernel), jx_mT 697 (by decide +kernel) (by decide +kernel), jx_mT 698 (by decide +kernel) (by decide +kernel), by decide +kernel⟩
theorem lk_X7_207 : Cond.methodLink RX7 207 yX3_append ∈ jx_T := jx_mT 696 (by decide +kernel) (by decide +kernel)
theorem kc_X7_206 : Cond.constant RX7 206 (jx_i (-1000003)) ∈ jx_T := jx_mT 695 (by decide +kernel) (by decide +kernel)
theorem fl_X2_18 : jx_FL RX2 18 1 2 := ⟨RX2, TX2, 3, rfl, jx_inX2, by decide, rfl, jx_mT 230 (by decide +kernel) (by decide +kernel)⟩
theorem ms_X7_isWindow : jx_MS yX7_isWindow cX7_isWindow 4 (some .boolean) 4 := ⟨jx_mT 320 (by decide +kernel) (by decide +kernel), jx_mT 70 (by decide +kernel) (by decide +kernel), jx_mT 319 (by decide +kernel) (by decide +kernel), by decide +kernel⟩
theorem lk_X7_65 : Cond.methodLink RX7 65 yX7_isWindow ∈ jx_T := jx_mT 318 (by decide +kernel) (by decide +kernel)
theorem lk_X7_77 : Cond.methodLink RX7 77 yX0_of ∈ jx_T := jx_mT 345 (by decide +kernel) (by decide +kernel)
theorem ms_X5_nodesTouching : jx_MV yX5_nodesTouching cX5_nodesTouching 4 (some .int) 1 := ⟨jx_mT 617 (by decide +kernel) (by decide +kernel), jx_mT 74 (by decide +kernel) (by decide +kernel), jx_mT 615 (by decide +kernel) (by decide +kernel), jx_mT 616 (by decide +kernel) (by decide +kernel), by decide +kernel⟩
theorem lk_X7_148 : Cond.methodLink RX7 148 yX5_nodesTouching ∈ jx_T := jx_mT 614 (by decide +kernel) (by decide +kernel)
theorem ms_X6_boxesTouching : jx_MV yX6_boxesTouching cX6_boxesTouching 4 (some .int) 1 := ⟨jx_mT 612 (by decide +kernel) (by decide +kernel), jx_mT 71 (by decide +kernel) (by decide +kernel), jx_mT 610 (by decide +kernel) (by decide +kernel), jx_mT 611 (by decide +kernel) (by decide +kernel), by decide +kernel⟩
theorem lk_X7_145 : Cond.methodLink RX7 145 yX6_boxesTouching ∈ jx_T := jx_mT 609 (by decide +kernel) (by decide +kernel)
theorem ms_X6_freeNumber : jx_MV yX6_freeNumber cX6_freeNumber 2 (some .int) 0 := ⟨jx_mT 648 (by decide +kernel) (by decide +kernel), jx_mT 71 (by decide +kernel) (by decide +kernel), jx_mT 646 (by decide +kernel) (by decide +kernel), jx_mT 647 (by decide +kernel) (by decide +kernel), by decide +kernel⟩
theorem lk_X7_164 : Cond.methodLink RX7 164 yX6_freeNumber ∈ jx_T := jx_mT 645 (by decide +kernel) (by decide +kernel)
theorem lk_X7_167 : Cond.methodLink RX7 167 yX6_nodeFor ∈ jx_T := jx_mT 650 (by decide +kernel) (by decide +kernel)
theorem fl_X7_34 : jx_FL RX7 34 5 3 := ⟨RX7, TX7, 9, rfl, jx_inX7, by decide, rfl, jx_mT 283 (by decide +kernel) (by decide +kernel)⟩
theorem ms_X6_copy : jx_MV yX6_copy cX6_copy 2 none 1 := ⟨jx_mT 341 (by decide +kernel) (by decide +kernel), jx_mT 71 (by decide +kernel) (by decide +kernel), jx_mT 339 (by decide +kernel) (by decide +kernel), jx_mT 340 (by decide +kernel) (by decide +kernel), by decide +kernel⟩
theorem lk_X7_170 : Cond.methodLink RX7 170 yX6_copy ∈ jx_T := jx_mT 651 (by decide +kernel) (by decide +kernel)
theorem fl_X7_40 : jx_FL RX7 40 5 5 := ⟨RX7, TX7, 9, rfl, jx_inX7, by decide, rfl, jx_mT 285 (by decide +kernel) (by decide +kernel)⟩
theorem ms_X1_bringIn : jx_MV yX1_bringIn cX1_bringIn 3 none 2 := ⟨jx_mT 351 (by decide +kernel) (by decide +kernel), jx_mT 75 (by decide +kernel) (by decide +kernel), jx_mT 349 (by decide +kernel) (by decide +kernel), jx_mT 350 (by decide +kernel) (by decide +kernel), by decide +kernel⟩
theorem lk_X7_83 : Cond.methodLink RX7 83 yX1_bringIn ∈ jx_T := jx_mT 348 (by decide +kernel) (by decide +kernel)
theorem fl_X7_37 : jx_FL RX7 37 5 4 := ⟨RX7, TX7, 9, rfl, jx_inX7, by decide, rfl, jx_mT 284 (by decide +kernel) (by decide +kernel)⟩
theorem kc_X7_73 : Cond.constant RX7 73 (jx_i (-1000002)) ∈ jx_T := jx_mT 329 (by decide +kernel) (by decide +kernel)
theorem ms_X1_takeOut : jx_MV yX1_takeOut cX1_takeOut 5 none 1 := ⟨jx_mT 528 (by decide +kernel) (by decide +kernel), jx_mT 75 (by decide +kernel) (by decide +kernel), jx_mT 526 (by decide +kernel) (by decide +kernel), jx_mT 527 (by decide +kernel) (by decide +kernel), by decide +kernel⟩
theorem lk_X7_91 : Cond.methodLink RX7 91 yX1_takeOut ∈ jx_T := jx_mT 525 (by decide +kernel) (by decide +kernel)
theorem ms_X8_in : jx_MS yX8_in cX8_in 3 (some .boolean) 3 := ⟨jx_mT 871 (by decide +kernel) (by decide +kernel), jx_mT 78 (by decide +kernel) (by decide +kernel), jx_mT 870 (by decide +kernel) (by decide +kernel), by decide +kernel⟩
theorem lk_X8_180 : Cond.methodLink RX8 180 yX8_in ∈ jx_T := jx_mT 869 (by decide +kernel) (by decide +kernel)
theorem fl_X8_7 : jx_FL RX8 7 6 0 := ⟨RX8, TX8, 34, rfl, jx_inX8, by decide, rfl, jx_mT 754 (by decide +kernel) (by decide +kernel)⟩
theorem fl_X8_22 : jx_FL RX8 22 6 7 := ⟨RX8, TX8, 34, rfl, jx_inX8, by decide, rfl, jx_mT 761 (by decide +kernel) (by decide +kernel)⟩
theorem ms_X8_levelOf : jx_MV yX8_levelOf cX8_levelOf 2 (some .int) 1 := ⟨jx_mT 911 (by decide +kernel) (by decide +kernel), jx_mT 78 (by decide +kernel) (by decide +kernel), jx_mT 910 (by decide +kernel) (by decide +kernel), jx_mT 33 (by decide +kernel) (by decide +kernel), by decide +kernel⟩
theorem lk_X8_81 : Cond.methodLink RX8 81 yX8_levelOf ∈ jx_T := jx_mT 908 (by decide +kernel) (by decide +kernel)
theorem fl_X8_25 : jx_FL RX8 25 6 8 := ⟨RX8, TX8, 34, rfl, jx_inX8, by decide, rfl, jx_mT 762 (by decide +kernel) (by decide +kernel)⟩
theorem ms_X8_manyOf : jx_MV yX8_manyOf cX8_manyOf 2 (some .int) 1 := ⟨jx_mT 919 (by decide +kernel) (by decide +kernel), jx_mT 78 (by decide +kernel) (by decide +kernel), jx_mT 918 (by decide +kernel) (by decide +kernel), jx_mT 35 (by decide +kernel) (by decide +kernel), by decide +kernel⟩
theorem lk_X8_85 : Cond.methodLink RX8 85 yX8_manyOf ∈ jx_T := jx_mT 916 (by decide +kernel) (by decide +kernel)
theorem ms_X8_thing : jx_MV yX8_thing cX8_thing 3 (some .int) 2 := ⟨jx_mT 923 (by decide +kernel) (by decide +kernel), jx_mT 78 (by decide +kernel) (by decide +kernel), jx_mT 922 (by decide +kernel) (by decide +kernel), jx_mT 36 (by decide +kernel) (by decide +kernel), by decide +kernel⟩
theorem lk_X8_88 : Cond.methodLink RX8 88 yX8_thing ∈ jx_T := jx_mT 920 (by decide +kernel) (by decide +kernel)
theorem ms_X8_side : jx_MV yX8_side cX8_side 4 (some .int) 3 := ⟨jx_mT 927 (by decide +kernel) (by decide +kernel), jx_mT 78 (by decide +kernel) (by decide +kernel), jx_mT 926 (by decide +kernel) (by decide +kernel), jx_mT 37 (by decide +kernel) (by decide +kernel), by decide +kernel⟩
theorem lk_X8_92 : Cond.methodLink RX8 92 yX8_side ∈ jx_T := jx_mT 924 (by decide +kernel) (by decide +kernel)
theorem ms_X8_most : jx_MS yX8_most cX8_most 2 (some .int) 2 := ⟨jx_mT 933 (by decide +kernel) (by decide +kernel), jx_mT 78 (by decide +kernel) (by decide +kernel), jx_mT 932 (by decide +kernel) (by decide +kernel), by decide +kernel⟩
theorem lk_X8_99 : Cond.methodLink RX8 99 yX8_most ∈ jx_T := jx_mT 931 (by decide +kernel) (by decide +kernel)
theorem ms_X8_least : jx_MS yX8_least cX8_least 2 (some .int) 2 := ⟨jx_mT 930 (by decide +kernel) (by decide +kernel), jx_mT 78 (by decide +kernel) (by decide +kernel), jx_mT 929 (by decide +kernel) (by decide +kernel), by decide +kernel⟩
theorem lk_X8_96 : Cond.methodLink RX8 96 yX8_least ∈ jx_T := jx_mT 928 (by decide +kernel) (by decide +kernel)
theorem ms_X8_layNode : jx_MV yX8_layNode cX8_layNode 8 none 1 := ⟨jx_mT 915 (by decide +kernel) (by decide +kernel), jx_mT 78 (by decide +kernel) (by decide +kernel), jx_mT 914 (by decide +kernel) (by decide +kernel), jx_mT 34 (by decide +kernel) (by decide +kernel), by decide +kernel⟩
theorem lk_X8_102 : Cond.methodLink RX8 102 yX8_layNode ∈ jx_T := jx_mT 912 (by decide +kernel) (by decide +kernel)
theorem ms_X8_lay : jx_MV yX8_lay cX8_lay 3 none 0 := ⟨jx_mT 907 (by decide +kernel) (by decide +kernel), jx_mT 78 (by decide +kernel) (by decide +kernel), jx_mT 906 (by decide +kernel) (by decide +kernel), jx_mT 32 (by decide +kernel) (by decide +kernel), by decide +kernel⟩
theorem lk_X8_126 : Cond.methodLink RX8 126 yX8_lay ∈ jx_T := jx_mT 904 (by decide +kernel) (by decide +kernel)
theorem fl_X8_28 : jx_FL RX8 28 6 9 := ⟨RX8, TX8, 34, rfl, jx_inX8, by decide, rfl, jx_mT 763 (by decide +kernel) (by decide +kernel)⟩
theorem ms_X8_takes : jx_MV yX8_takes cX8_takes 5 none 3 := ⟨jx_mT 941 (by decide +kernel) (by decide +kernel), jx_mT 78 (by decide +kernel) (by decide +kernel), jx_mT 940 (by decide +kernel) (by decide +kernel), jx_mT 39 (by decide +kernel) (by decide +kernel), by decide +kernel⟩
theorem lk_X8_112 : Cond.methodLink RX8 112 yX8_takes ∈ jx_T := jx_mT 938 (by decide +kernel) (by decide +kernel)
theorem lk_X8_116 : Cond.methodLink RX8 116 yX8_area ∈ jx_T := jx_mT 942 (by decide +kernel) (by decide +kernel)
theorem fl_X8_13 : jx_FL RX8 13 6 1 := ⟨RX8, TX8, 34, rfl, jx_inX8, by decide, rfl, jx_mT 755 (by decide +kernel) (by decide +kernel)⟩
theorem ms_X8_placeIn : jx_MV yX8_placeIn cX8_placeIn 4 (some .int) 2 := ⟨jx_mT 988 (by decide +kernel) (by decide +kernel), jx_mT 78 (by decide +kernel) (by decide +kernel), jx_mT 987 (by decide +kernel) (by decide +kernel), jx_mT 50 (by decide +kernel) (by decide +kernel), by decide +kernel⟩
theorem lk_X8_106 : Cond.methodLink RX8 106 yX8_placeIn ∈ jx_T := jx_mT 985 (by decide +kernel) (by decide +kernel)
theorem fl_X8_64 : jx_FL RX8 64 6 25 := ⟨RX8, TX8, 34, rfl, jx_inX8, by decide, rfl, jx_mT 779 (by decide +kernel) (by decide +kernel)⟩
theorem fl_X8_215 : jx_FL RX8 215 6 27 := ⟨RX8, TX8, 34, rfl, jx_inX8, by decide, rfl, jx_mT 781 (by decide +kernel) (by decide +kernel)⟩
theorem fw_X8_27 : jx_FW 6 27 .int := ⟨RX8, TX8, 34, tyX8, rfl, tyX8_ok, nmX8, rfl, rfl⟩
theorem fl_X8_67 : jx_FL RX8 67 6 26 := ⟨RX8, TX8, 34, rfl, jx_inX8, by decide, rfl, jx_mT 780 (by decide +kernel) (by decide +kernel)⟩
theorem ms_X8_layRow : jx_MV yX8_layRow cX8_layRow 6 none 1 := ⟨jx_mT 1021 (by decide +kernel) (by decide +kernel), jx_mT 78 (by decide +kernel) (by decide +kernel), jx_mT 1020 (by decide +kernel) (by decide +kernel), jx_mT 56 (by decide +kernel) (by decide +kernel), by decide +kernel⟩
theorem lk_X8_218 : Cond.methodLink RX8 218 yX8_layRow ∈ jx_T := jx_mT 1018 (by decide +kernel) (by decide +kernel)
theorem ms_X8_isBox : jx_MS yX8_isBox cX8_isBox 1 (some .boolean) 1 := ⟨jx_mT 868 (by decide +kernel) (by decide +kernel), jx_mT 78 (by decide +kernel) (by decide +kernel), jx_mT 867 (by decide +kernel) (by decide +kernel), by decide +kernel⟩
theorem lk_X8_184 : Cond.methodLink RX8 184 yX8_isBox ∈ jx_T := jx_mT 866 (by decide +kernel) (by decide +kernel)
theorem kc_X8_192 : Cond.constant RX8 192 (jx_i (-1000001)) ∈ jx_T := jx_mT 875 (by decide +kernel) (by decide +kernel)
theorem ms_X8_isThere : jx_MV yX8_isThere cX8_isThere 2 (some .boolean) 1 := ⟨jx_mT 879 (by decide +kernel) (by decide +kernel), jx_mT 78 (by decide +kernel) (by decide +kernel), jx_mT 878 (by decide +kernel) (by decide +kernel), jx_mT 25 (by decide +kernel) (by decide +kernel), by decide +kernel⟩
theorem lk_X8_193 : Cond.methodLink RX8 193 yX8_isThere ∈ jx_T := jx_mT 876 (by decide +kernel) (by decide +kernel)
theorem ms_X8_holder : jx_MV yX8_holder cX8_holder 4 (some .int) 2 := ⟨jx_mT 1008 (by decide +kernel) (by decide +kernel), jx_mT 78 (by decide +kernel) (by decide +kernel), jx_mT 1007 (by decide +kernel) (by decide +kernel), jx_mT 54 (by decide +kernel) (by decide +kernel), by decide +kernel⟩
theorem lk_X8_174 : Cond.methodLink RX8 174 yX8_holder ∈ jx_T := jx_mT 1005 (by decide +kernel) (by decide +kernel)
theorem ms_X8_placeOf : jx_MV yX8_placeOf cX8_placeOf 3 (some .int) 1 := ⟨jx_mT 1017 (by decide +kernel) (by decide +kernel), jx_mT 78 (by decide +kernel) (by decide +kernel), jx_mT 1016 (by decide +kernel) (by decide +kernel), jx_mT 55 (by decide +kernel) (by decide +kernel), by decide +kernel⟩
theorem lk_X8_222 : Cond.methodLink RX8 222 yX8_placeOf ∈ jx_T := jx_mT 1014 (by decide +kernel) (by decide +kernel)
theorem kc_X8_221 : Cond.constant RX8 221 (jx_i (-1000004)) ∈ jx_T := jx_mT 1013 (by decide +kernel) (by decide +kernel)
theorem fl_X8_245 : jx_FL RX8 245 6 6 := ⟨RX8, TX8, 34, rfl, jx_inX8, by decide, rfl, jx_mT 760 (by decide +kernel) (by decide +kernel)⟩
theorem fw_X8_6 : jx_FW 6 6 .int := ⟨RX8, TX8, 34, tyX8, rfl, tyX8_ok, nmX8, rfl, rfl⟩
theorem fl_X8_52 : jx_FL RX8 52 6 21 := ⟨RX8, TX8, 34, rfl, jx_inX8, by decide, rfl, jx_mT 775 (by decide +kernel) (by decide +kernel)⟩
theorem fl_X8_31 : jx_FL RX8 31 6 10 := ⟨RX8, TX8, 34, rfl, jx_inX8, by decide, rfl, jx_mT 764 (by decide +kernel) (by decide +kernel)⟩
theorem ms_X8_sorts : jx_MV yX8_sorts cX8_sorts 7 none 2 := ⟨jx_mT 976 (by decide +kernel) (by decide +kernel), jx_mT 78 (by decide +kernel) (by decide +kernel), jx_mT 975 (by decide +kernel) (by decide +kernel), jx_mT 47 (by decide +kernel) (by decide +kernel), by decide +kernel⟩
theorem lk_X8_145 : Cond.methodLink RX8 145 yX8_sorts ∈ jx_T := jx_mT 973 (by decide +kernel) (by decide +kernel)
theorem ms_X8_widens : jx_MV yX8_widens cX8_widens 6 none 3 := ⟨jx_mT 948 (by decide +kernel) (by decide +kernel), jx_mT 78 (by decide +kernel) (by decide +kernel), jx_mT 947 (by decide +kernel) (by decide +kernel), jx_mT 40 (by decide +kernel) (by decide +kernel), by decide +kernel⟩
theorem lk_X8_120 : Cond.methodLink RX8 120 yX8_widens ∈ jx_T := jx_mT 945 (by decide +kernel) (by decide +kernel)
theorem ms_X8_common : jx_MV yX8_common cX8_common 3 (some .int) 0 := ⟨jx_mT 980 (by decide +kernel) (by decide +kernel), jx_mT 78 (by decide +kernel) (by decide +kernel), jx_mT 979 (by decide +kernel) (by decide +kernel), jx_mT 48 (by decide +kernel) (by decide +kernel), by decide +kernel⟩
theorem lk_X8_148 : Cond.methodLink RX8 148 yX8_common ∈ jx_T := jx_mT 977 (by decide +kernel) (by decide +kernel)
theorem fl_X8_55 : jx_FL RX8 55 6 22 := ⟨RX8, TX8, 34, rfl, jx_inX8, by decide, rfl, jx_mT 776 (by decide +kernel) (by decide +kernel)⟩
theorem ms_X8_newNode : jx_MV yX8_newNode cX8_newNode 3 (some .int) 1 := ⟨jx_mT 984 (by decide +kernel) (by decide +kernel), jx_mT 78 (by decide +kernel) (by decide +kernel), jx_mT 983 (by decide +kernel) (by decide +kernel), jx_mT 49 (by decide +kernel) (by decide +kernel), by decide +kernel⟩
theorem lk_X8_152 : Cond.methodLink RX8 152 yX8_newNode ∈ jx_T := jx_mT 981 (by decide +kernel) (by decide +kernel)
theorem ms_X8_puts : jx_MV yX8_puts cX8_puts 5 none 3 := ⟨jx_mT 952 (by decide +kernel) (by decide +kernel), jx_mT 78 (by decide +kernel) (by decide +kernel), jx_mT 951 (by decide +kernel) (by decide +kernel), jx_mT 41 (by decide +kernel) (by decide +kernel), by decide +kernel⟩
theorem lk_X8_155 : Cond.methodLink RX8 155 yX8_puts ∈ jx_T := jx_mT 949 (by decide +kernel) (by decide +kernel)
theorem ms_X8_farOf : jx_MV yX8_farOf cX8_farOf 7 (some .int) 2 := ⟨jx_mT 964 (by decide +kernel) (by decide +kernel), jx_mT 78 (by decide +kernel) (by decide +kernel), jx_mT 963 (by decide +kernel) (by decide +kernel), jx_mT 44 (by decide +kernel) (by decide +kernel), by decide +kernel⟩
theorem lk_X8_123 : Cond.methodLink RX8 123 yX8_farOf ∈ jx_T := jx_mT 961 (by decide +kernel) (by decide +kernel)
theorem fl_X8_34 : jx_FL RX8 34 6 11 := ⟨RX8, TX8, 34, rfl, jx_inX8, by decide, rfl, jx_mT 765 (by decide +kernel) (by decide +kernel)⟩
theorem fl_X8_109 : jx_FL RX8 109 6 13 := ⟨RX8, TX8, 34, rfl, jx_inX8, by decide, rfl, jx_mT 767 (by decide +kernel) (by decide +kernel)⟩
theorem fl_X8_37 : jx_FL RX8 37 6 12 := ⟨RX8, TX8, 34, rfl, jx_inX8, by decide, rfl, jx_mT 766 (by decide +kernel) (by decide +kernel)⟩
theorem fw_X8_13 : jx_FW 6 13 .int := ⟨RX8, TX8, 34, tyX8, rfl, tyX8_ok, nmX8, rfl, rfl⟩
theorem ms_X8_farthest : jx_MV yX8_farthest cX8_farthest 5 (some .int) 2 := ⟨jx_mT 960 (by decide +kernel) (by decide +kernel), jx_mT 78 (by decide +kernel) (by decide +kernel), jx_mT 959 (by decide +kernel) (by decide +kernel), jx_mT 43 (by decide +kernel) (by decide +kernel), by decide +kernel⟩
theorem lk_X8_129 : Cond.methodLink RX8 129 yX8_farthest ∈ jx_T := jx_mT 957 (by decide +kernel) (by decide +kernel)
theorem fl_X8_132 : jx_FL RX8 132 6 14 := ⟨RX8, TX8, 34, rfl, jx_inX8, by decide, rfl, jx_mT 768 (by decide +kernel) (by decide +kernel)⟩
theorem fw_X8_14 : jx_FW 6 14 .int := ⟨RX8, TX8, 34, tyX8, rfl, tyX8_ok, nmX8, rfl, rfl⟩
theorem fl_X8_40 : jx_FL RX8 40 6 15 := ⟨RX8, TX8, 34, rfl, jx_inX8, by decide, rfl, jx_mT 769 (by decide +kernel) (by decide +kernel)⟩
theorem fl_X8_135 : jx_FL RX8 135 6 17 := ⟨RX8, TX8, 34, rfl, jx_inX8, by decide, rfl, jx_mT 771 (by decide +kernel) (by decide +kernel)⟩
theorem fl_X8_43 : jx_FL RX8 43 6 16 := ⟨RX8, TX8, 34, rfl, jx_inX8, by decide, rfl, jx_mT 770 (by decide +kernel) (by decide +kernel)⟩
theorem fw_X8_17 : jx_FW 6 17 .int := ⟨RX8, TX8, 34, tyX8, rfl, tyX8_ok, nmX8, rfl, rfl⟩
theorem ms_X8_drops : jx_MV yX8_drops cX8_drops 4 none 2 := ⟨jx_mT 968 (by decide +kernel) (by decide +kernel), jx_mT 78 (by decide +kernel) (by decide +kernel), jx_mT 967 (by decide +kernel) (by decide +kernel), jx_mT 45 (by decide +kernel) (by decide +kernel), by decide +kernel⟩
theorem lk_X8_138 : Cond.methodLink RX8 138 yX8_drops ∈ jx_T := jx_mT 965 (by decide +kernel) (by decide +kernel)
theorem ms_X8_waits : jx_MV yX8_waits cX8_waits 3 none 2 := ⟨jx_mT 899 (by decide +kernel) (by decide +kernel), jx_mT 78 (by decide +kernel) (by decide +kernel), jx_mT 898 (by decide +kernel) (by decide +kernel), jx_mT 30 (by decide +kernel) (by decide +kernel), by decide +kernel⟩
theorem lk_X8_142 : Cond.methodLink RX8 142 yX8_waits ∈ jx_T := jx_mT 896 (by decide +kernel) (by decide +kernel)
theorem fl_X8_58 : jx_FL RX8 58 6 23 := ⟨RX8, TX8, 34, rfl, jx_inX8, by decide, rfl, jx_mT 777 (by decide +kernel) (by decide +kernel)⟩
theorem ms_X8_wayOn : jx_MV yX8_wayOn cX8_wayOn 10 (some .int) 3 := ⟨jx_mT 937 (by decide +kernel) (by decide +kernel), jx_mT 78 (by decide +kernel) (by decide +kernel), jx_mT 936 (by decide +kernel) (by decide +kernel), jx_mT 38 (by decide +kernel) (by decide +kernel), by decide +kernel⟩
theorem lk_X8_159 : Cond.methodLink RX8 159 yX8_wayOn ∈ jx_T := jx_mT 934 (by decide +kernel) (by decide +kernel)
theorem ms_X8_splits : jx_MV yX8_splits cX8_splits 11 (some .int) 1 := ⟨jx_mT 972 (by decide +kernel) (by decide +kernel), jx_mT 78 (by decide +kernel) (by decide +kernel), jx_mT 971 (by decide +kernel) (by decide +kernel), jx_mT 46 (by decide +kernel) (by decide +kernel), by decide +kernel⟩
theorem lk_X8_165 : Cond.methodLink RX8 165 yX8_splits ∈ jx_T := jx_mT 969 (by decide +kernel) (by decide +kernel)
theorem ms_X8_court : jx_MV yX8_court cX8_court 8 none 1 := ⟨jx_mT 956 (by decide +kernel) (by decide +kernel), jx_mT 78 (by decide +kernel) (by decide +kernel), jx_mT 955 (by decide +kernel) (by decide +kernel), jx_mT 42 (by decide +kernel) (by decide +kernel), by decide +kernel⟩
theorem lk_X8_162 : Cond.methodLink RX8 162 yX8_court ∈ jx_T := jx_mT 953 (by decide +kernel) (by decide +kernel)
theorem ms_X8_boxMany : jx_MV yX8_boxMany cX8_boxMany 3 (some .int) 0 := ⟨jx_mT 1077 (by decide +kernel) (by decide +kernel), jx_mT 78 (by decide +kernel) (by decide +kernel), jx_mT 1076 (by decide +kernel) (by decide +kernel), jx_mT 61 (by decide +kernel) (by decide +kernel), by decide +kernel⟩
theorem lk_X8_239 : Cond.methodLink RX8 239 yX8_boxMany ∈ jx_T := jx_mT 1074 (by decide +kernel) (by decide +kernel)
theorem ms_X8_levels : jx_MV yX8_levels cX8_levels 1 (some .int) 0 := ⟨jx_mT 996 (by decide +kernel) (by decide +kernel), jx_mT 78 (by decide +kernel) (by decide +kernel), jx_mT 995 (by decide +kernel) (by decide +kernel), jx_mT 52 (by decide +kernel) (by decide +kernel), by decide +kernel⟩
theorem lk_X8_209 : Cond.methodLink RX8 209 yX8_levels ∈ jx_T := jx_mT 993 (by decide +kernel) (by decide +kernel)
theorem ms_X8_nodeMany : jx_MV yX8_nodeMany cX8_nodeMany 4 (some .int) 1 := ⟨jx_mT 1081 (by decide +kernel) (by decide +kernel), jx_mT 78 (by decide +kernel) (by decide +kernel), jx_mT 1080 (by decide +kernel) (by decide +kernel), jx_mT 62 (by decide +kernel) (by decide +kernel), by decide +kernel⟩
theorem lk_X8_242 : Cond.methodLink RX8 242 yX8_nodeMany ∈ jx_T := jx_mT 1078 (by decide +kernel) (by decide +kernel)
theorem fl_X8_177 : jx_FL RX8 177 6 20 := ⟨RX8, TX8, 34, rfl, jx_inX8, by decide, rfl, jx_mT 774 (by decide +kernel) (by decide +kernel)⟩
theorem fl_X8_77 : jx_FL RX8 77 6 4 := ⟨RX8, TX8, 34, rfl, jx_inX8, by decide, rfl, jx_mT 758 (by decide +kernel) (by decide +kernel)⟩
theorem ms_X8_areas : jx_MV yX8_areas cX8_areas 3 (some .int) 0 := ⟨jx_mT 1085 (by decide +kernel) (by decide +kernel), jx_mT 78 (by decide +kernel) (by decide +kernel), jx_mT 1084 (by decide +kernel) (by decide +kernel), jx_mT 63 (by decide +kernel) (by decide +kernel), by decide +kernel⟩
theorem lk_X8_248 : Cond.methodLink RX8 248 yX8_areas ∈ jx_T := jx_mT 1082 (by decide +kernel) (by decide +kernel)
theorem fl_X8_49 : jx_FL RX8 49 6 19 := ⟨RX8, TX8, 34, rfl, jx_inX8, by decide, rfl, jx_mT 773 (by decide +kernel) (by decide +kernel)⟩
theorem fl_X8_46 : jx_FL RX8 46 6 18 := ⟨RX8, TX8, 34, rfl, jx_inX8, by decide, rfl, jx_mT 772 (by decide +kernel) (by decide +kernel)⟩
theorem fl_X8_252 : jx_FL RX8 252 6 28 := ⟨RX8, TX8, 34, rfl, jx_inX8, by decide, rfl, jx_mT 782 (by decide +kernel) (by decide +kernel)⟩
theorem fl_X8_19 : jx_FL RX8 19 6 3 := ⟨RX8, TX8, 34, rfl, jx_inX8, by decide, rfl, jx_mT 757 (by decide +kernel) (by decide +kernel)⟩
theorem ms_X8_here : jx_MV yX8_here cX8_here 1 (some .int) 0 := ⟨jx_mT 1110 (by decide +kernel) (by decide +kernel), jx_mT 78 (by decide +kernel) (by decide +kernel), jx_mT 1109 (by decide +kernel) (by decide +kernel), jx_mT 66 (by decide +kernel) (by decide +kernel), by decide +kernel⟩
theorem lk_X8_255 : Cond.methodLink RX8 255 yX8_here ∈ jx_T := jx_mT 1107 (by decide +kernel) (by decide +kernel)
theorem fl_X8_70 : jx_FL RX8 70 6 29 := ⟨RX8, TX8, 34, rfl, jx_inX8, by decide, rfl, jx_mT 783 (by decide +kernel) (by decide +kernel)⟩
theorem fw_X8_28 : jx_FW 6 28 .int := ⟨RX8, TX8, 34, tyX8, rfl, tyX8_ok, nmX8, rfl, rfl⟩
theorem ms_X8_comes : jx_MV yX8_comes cX8_comes 8 none 2 := ⟨jx_mT 903 (by decide +kernel) (by decide +kernel), jx_mT 78 (by decide +kernel) (by decide +kernel), jx_mT 902 (by decide +kernel) (by decide +kernel), jx_mT 31 (by decide +kernel) (by decide +kernel), by decide +kernel⟩
theorem lk_X8_168 : Cond.methodLink RX8 168 yX8_comes ∈ jx_T := jx_mT 900 (by decide +kernel) (by decide +kernel)
theorem fl_X8_61 : jx_FL RX8 61 6 24 := ⟨RX8, TX8, 34, rfl, jx_inX8, by decide, rfl, jx_mT 778 (by decide +kernel) (by decide +kernel)⟩
theorem ms_X8_insertion : jx_MV yX8_insertion cX8_insertion 3 none 2 := ⟨jx_mT 895 (by decide +kernel) (by decide +kernel), jx_mT 78 (by decide +kernel) (by decide +kernel), jx_mT 894 (by decide +kernel) (by decide +kernel), jx_mT 29 (by decide +kernel) (by decide +kernel), by decide +kernel⟩
theorem lk_X8_171 : Cond.methodLink RX8 171 yX8_insertion ∈ jx_T := jx_mT 892 (by decide +kernel) (by decide +kernel)
theorem fl_X8_258 : jx_FL RX8 258 6 30 := ⟨RX8, TX8, 34, rfl, jx_inX8, by decide, rfl, jx_mT 784 (by decide +kernel) (by decide +kernel)⟩
theorem fw_X8_30 : jx_FW 6 30 .int := ⟨RX8, TX8, 34, tyX8, rfl, tyX8_ok, nmX8, rfl, rfl⟩
theorem fl_X8_261 : jx_FL RX8 261 6 31 := ⟨RX8, TX8, 34, rfl, jx_inX8, by decide, rfl, jx_mT 785 (by decide +kernel) (by decide +kernel)⟩
theorem fw_X8_31 : jx_FW 6 31 .int := ⟨RX8, TX8, 34, tyX8, rfl, tyX8_ok, nmX8, rfl, rfl⟩
theorem fl_X8_264 : jx_FL RX8 264 6 32 := ⟨RX8, TX8, 34, rfl, jx_inX8, by decide, rfl, jx_mT 786 (by decide +kernel) (by decide +kernel)⟩
theorem fw_X8_32 : jx_FW 6 32 .int := ⟨RX8, TX8, 34, tyX8, rfl, tyX8_ok, nmX8, rfl, rfl⟩
theorem ms_X8_reads : jx_MV yX8_reads cX8_reads 3 (some .boolean) 1 := ⟨jx_mT 1118 (by decide +kernel) (by decide +kernel), jx_mT 78 (by decide +kernel) (by decide +kernel), jx_mT 1117 (by decide +kernel) (by decide +kernel), jx_mT 68 (by decide +kernel) (by decide +kernel), by decide +kernel⟩
theorem lk_X8_270 : Cond.methodLink RX8 270 yX8_reads ∈ jx_T := jx_mT 1115 (by decide +kernel) (by decide +kernel)
theorem ms_X8_wrong : jx_MV yX8_wrong cX8_wrong 3 none 2 := ⟨jx_mT 1114 (by decide +kernel) (by decide +kernel), jx_mT 78 (by decide +kernel) (by decide +kernel), jx_mT 1113 (by decide +kernel) (by decide +kernel), jx_mT 67 (by decide +kernel) (by decide +kernel), by decide +kernel⟩
theorem lk_X8_267 : Cond.methodLink RX8 267 yX8_wrong ∈ jx_T := jx_mT 1111 (by decide +kernel) (by decide +kernel)
theorem ms_X8_takesBox : jx_MV yX8_takesBox cX8_takesBox 7 none 1 := ⟨jx_mT 1004 (by decide +kernel) (by decide +kernel), jx_mT 78 (by decide +kernel) (by decide +kernel), jx_mT 1003 (by decide +kernel) (by decide +kernel), jx_mT 53 (by decide +kernel) (by decide +kernel), by decide +kernel⟩
theorem lk_X8_212 : Cond.methodLink RX8 212 yX8_takesBox ∈ jx_T := jx_mT 1001 (by decide +kernel) (by decide +kernel)
theorem ms_X8_putsBox : jx_MV yX8_putsBox cX8_putsBox 6 none 5 := ⟨jx_mT 891 (by decide +kernel) (by decide +kernel), jx_mT 78 (by decide +kernel) (by decide +kernel), jx_mT 890 (by decide +kernel) (by decide +kernel), jx_mT 28 (by decide +kernel) (by decide +kernel), by decide +kernel⟩
theorem lk_X8_202 : Cond.methodLink RX8 202 yX8_putsBox ∈ jx_T := jx_mT 888 (by decide +kernel) (by decide +kernel)
theorem fl_X8_273 : jx_FL RX8 273 6 33 := ⟨RX8, TX8, 34, rfl, jx_inX8, by decide, rfl, jx_mT 787 (by decide +kernel) (by decide +kernel)⟩
theorem fw_X8_33 : jx_FW 6 33 .int := ⟨RX8, TX8, 34, tyX8, rfl, tyX8_ok, nmX8, rfl, rfl⟩
theorem ms_X8_order : jx_MV yX8_order cX8_order 4 none 0 := ⟨jx_mT 1106 (by decide +kernel) (by decide +kernel), jx_mT 78 (by decide +kernel) (by decide +kernel), jx_mT 1105 (by decide +kernel) (by decide +kernel), jx_mT 65 (by decide +kernel) (by decide +kernel), by decide +kernel⟩
theorem lk_X8_276 : Cond.methodLink RX8 276 yX8_order ∈ jx_T := jx_mT 1103 (by decide +kernel) (by decide +kernel)
theorem ms_X8_copy : jx_MV yX8_copy cX8_copy 2 none 0 := ⟨jx_mT 883 (by decide +kernel) (by decide +kernel), jx_mT 78 (by decide +kernel) (by decide +kernel), jx_mT 882 (by decide +kernel) (by decide +kernel), jx_mT 26 (by decide +kernel) (by decide +kernel), by decide +kernel⟩
theorem lk_X8_196 : Cond.methodLink RX8 196 yX8_copy ∈ jx_T := jx_mT 880 (by decide +kernel) (by decide +kernel)
theorem ms_X8_tries : jx_MV yX8_tries cX8_tries 1 none 0 := ⟨jx_mT 1102 (by decide +kernel) (by decide +kernel), jx_mT 78 (by decide +kernel) (by decide +kernel), jx_mT 1101 (by decide +kernel) (by decide +kernel), jx_mT 64 (by decide +kernel) (by decide +kernel), by decide +kernel⟩
theorem lk_X8_279 : Cond.methodLink RX8 279 yX8_tries ∈ jx_T := jx_mT 1099 (by decide +kernel) (by decide +kernel)
theorem ms_X8_back : jx_MV yX8_back cX8_back 2 none 0 := ⟨jx_mT 1065 (by decide +kernel) (by decide +kernel), jx_mT 78 (by decide +kernel) (by decide +kernel), jx_mT 1064 (by decide +kernel) (by decide +kernel), jx_mT 60 (by decide +kernel) (by decide +kernel), by decide +kernel⟩
theorem lk_X8_236 : Cond.methodLink RX8 236 yX8_back ∈ jx_T := jx_mT 1062 (by decide +kernel) (by decide +kernel)
theorem ms_X8_distance : jx_MV yX8_distance cX8_distance 7 (some .int) 4 := ⟨jx_mT 1057 (by decide +kernel) (by decide +kernel), jx_mT 78 (by decide +kernel) (by decide +kernel), jx_mT 1056 (by decide +kernel) (by decide +kernel), jx_mT 59 (by decide +kernel) (by decide +kernel), by decide +kernel⟩
theorem lk_X8_232 : Cond.methodLink RX8 232 yX8_distance ∈ jx_T := jx_mT 1054 (by decide +kernel) (by decide +kernel)
theorem ms_X8_overlapsOf : jx_MV yX8_overlapsOf cX8_overlapsOf 5 (some .int) 1 := ⟨jx_mT 1033 (by decide +kernel) (by decide +kernel), jx_mT 78 (by decide +kernel) (by decide +kernel), jx_mT 1032 (by decide +kernel) (by decide +kernel), jx_mT 57 (by decide +kernel) (by decide +kernel), by decide +kernel⟩
theorem lk_X8_225 : Cond.methodLink RX8 225 yX8_overlapsOf ∈ jx_T := jx_mT 1030 (by decide +kernel) (by decide +kernel)
theorem fl_X8_16 : jx_FL RX8 16 6 2 := ⟨RX8, TX8, 34, rfl, jx_inX8, by decide, rfl, jx_mT 756 (by decide +kernel) (by decide +kernel)⟩
theorem fl_X8_73 : jx_FL RX8 73 6 5 := ⟨RX8, TX8, 34, rfl, jx_inX8, by decide, rfl, jx_mT 759 (by decide +kernel) (by decide +kernel)⟩
theorem fw_X8_5 : jx_FW 6 5 .int := ⟨RX8, TX8, 34, tyX8, rfl, tyX8_ok, nmX8, rfl, rfl⟩
theorem fw_X8_4 : jx_FW 6 4 .int := ⟨RX8, TX8, 34, tyX8, rfl, tyX8_ok, nmX8, rfl, rfl⟩
theorem fw_X8_20 : jx_FW 6 20 .int := ⟨RX8, TX8, 34, tyX8, rfl, tyX8_ok, nmX8, rfl, rfl⟩
theorem ms_X8_record : jx_MV yX8_record cX8_record 2 none 0 := ⟨jx_mT 887 (by decide +kernel) (by decide +kernel), jx_mT 78 (by decide +kernel) (by decide +kernel), jx_mT 886 (by decide +kernel) (by decide +kernel), jx_mT 27 (by decide +kernel) (by decide +kernel), by decide +kernel⟩
theorem lk_X8_199 : Cond.methodLink RX8 199 yX8_record ∈ jx_T := jx_mT 884 (by decide +kernel) (by decide +kernel)
theorem ms_X8_tells : jx_MV yX8_tells cX8_tells 2 none 0 := ⟨jx_mT 992 (by decide +kernel) (by decide +kernel), jx_mT 78 (by decide +kernel) (by decide +kernel), jx_mT 991 (by decide +kernel) (by decide +kernel), jx_mT 51 (by decide +kernel) (by decide +kernel), by decide +kernel⟩
theorem lk_X8_206 : Cond.methodLink RX8 206 yX8_tells ∈ jx_T := jx_mT 989 (by decide +kernel) (by decide +kernel)
theorem kc_X8_80 : Cond.constant RX8 80 (jx_i (-1000002)) ∈ jx_T := jx_mT 861 (by decide +kernel) (by decide +kernel)
theorem ms_X8_areSides : jx_MS yX8_areSides cX8_areSides 4 (some .boolean) 4 := ⟨jx_mT 874 (by decide +kernel) (by decide +kernel), jx_mT 78 (by decide +kernel) (by decide +kernel), jx_mT 873 (by decide +kernel) (by decide +kernel), by decide +kernel⟩
theorem lk_X8_188 : Cond.methodLink RX8 188 yX8_areSides ∈ jx_T := jx_mT 872 (by decide +kernel) (by decide +kernel)
theorem kc_X8_251 : Cond.constant RX8 251 (jx_i (-1000003)) ∈ jx_T := jx_mT 1090 (by decide +kernel) (by decide +kernel)
theorem ms_X8_meets : jx_MV yX8_meets cX8_meets 7 (some .boolean) 6 := ⟨jx_mT 1049 (by decide +kernel) (by decide +kernel), jx_mT 78 (by decide +kernel) (by decide +kernel), jx_mT 1048 (by decide +kernel) (by decide +kernel), jx_mT 58 (by decide +kernel) (by decide +kernel), by decide +kernel⟩
theorem lk_X8_228 : Cond.methodLink RX8 228 yX8_meets ∈ jx_T := jx_mT 1046 (by decide +kernel) (by decide +kernel)
end
