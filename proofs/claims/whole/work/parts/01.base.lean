-- ===== PART A: goes FIRST, ahead of the names: the tables' words, and 'selects' of the private methods out of them =====
/-- a private method of a class that the tables say can be made, by its rows of tables_1 -/
def lw_okq (q : MethodName × Nat) : Prop := (q.1.cls ≠ "java/lang/invoke/MethodHandle" ∧ q.1.cls ≠ "java/lang/invoke/VarHandle") ∧ Cond.instantiable q.1.cls q.2 ∈ tables_1 ∧ Cond.privateMethod q.1 ∈ tables_1 ∧ Cond.instanceMethod q.1 ∈ tables_1
theorem lw_p0 : lw_okq (⟨"HuntedScent$Reader", "append", "(J)I"⟩, 12) := ⟨⟨by decide +kernel, by decide +kernel⟩, List.mem_of_getElem? (i := 124) (by decide +kernel), List.mem_of_getElem? (i := 445) (by decide +kernel), List.mem_of_getElem? (i := 446) (by decide +kernel)⟩
theorem lw_p1 : lw_okq (⟨"HuntedScent$Reader", "shorten", "(I)I"⟩, 12) := ⟨⟨by decide +kernel, by decide +kernel⟩, List.mem_of_getElem? (i := 124) (by decide +kernel), List.mem_of_getElem? (i := 453) (by decide +kernel), List.mem_of_getElem? (i := 454) (by decide +kernel)⟩
theorem lw_p2 : lw_okq (⟨"HuntedScent$Reader", "readAll", "()I"⟩, 12) := ⟨⟨by decide +kernel, by decide +kernel⟩, List.mem_of_getElem? (i := 124) (by decide +kernel), List.mem_of_getElem? (i := 461) (by decide +kernel), List.mem_of_getElem? (i := 462) (by decide +kernel)⟩
theorem lw_p3 : lw_okq (⟨"HuntedScent$Net", "clear", "()V"⟩, 7) := ⟨⟨by decide +kernel, by decide +kernel⟩, List.mem_of_getElem? (i := 29) (by decide +kernel), List.mem_of_getElem? (i := 465) (by decide +kernel), List.mem_of_getElem? (i := 466) (by decide +kernel)⟩
theorem lw_p4 : lw_okq (⟨"HuntedScent$Notes", "cut", "(I)V"⟩, 5) := ⟨⟨by decide +kernel, by decide +kernel⟩, List.mem_of_getElem? (i := 98) (by decide +kernel), List.mem_of_getElem? (i := 469) (by decide +kernel), List.mem_of_getElem? (i := 470) (by decide +kernel)⟩
theorem lw_p5 : lw_okq (⟨"HuntedScent$Reader", "takeLine", "()Z"⟩, 12) := ⟨⟨by decide +kernel, by decide +kernel⟩, List.mem_of_getElem? (i := 124) (by decide +kernel), List.mem_of_getElem? (i := 473) (by decide +kernel), List.mem_of_getElem? (i := 474) (by decide +kernel)⟩
theorem lw_p6 : lw_okq (⟨"HuntedScent$Reader", "takeToken", "()Z"⟩, 12) := ⟨⟨by decide +kernel, by decide +kernel⟩, List.mem_of_getElem? (i := 124) (by decide +kernel), List.mem_of_getElem? (i := 477) (by decide +kernel), List.mem_of_getElem? (i := 478) (by decide +kernel)⟩
theorem lw_p7 : lw_okq (⟨"HuntedScent$Reader", "kindAt", "(I)I"⟩, 12) := ⟨⟨by decide +kernel, by decide +kernel⟩, List.mem_of_getElem? (i := 124) (by decide +kernel), List.mem_of_getElem? (i := 481) (by decide +kernel), List.mem_of_getElem? (i := 482) (by decide +kernel)⟩
theorem lw_p8 : lw_okq (⟨"HuntedScent$Reader", "fail", "(II)Z"⟩, 12) := ⟨⟨by decide +kernel, by decide +kernel⟩, List.mem_of_getElem? (i := 124) (by decide +kernel), List.mem_of_getElem? (i := 485) (by decide +kernel), List.mem_of_getElem? (i := 486) (by decide +kernel)⟩
theorem lw_p9 : lw_okq (⟨"HuntedScent$Reader", "figuresTaken", "()I"⟩, 12) := ⟨⟨by decide +kernel, by decide +kernel⟩, List.mem_of_getElem? (i := 124) (by decide +kernel), List.mem_of_getElem? (i := 489) (by decide +kernel), List.mem_of_getElem? (i := 490) (by decide +kernel)⟩
theorem lw_p10 : lw_okq (⟨"HuntedScent$Reader", "says", "(Ljava/lang/String;)Z"⟩, 12) := ⟨⟨by decide +kernel, by decide +kernel⟩, List.mem_of_getElem? (i := 124) (by decide +kernel), List.mem_of_getElem? (i := 494) (by decide +kernel), List.mem_of_getElem? (i := 495) (by decide +kernel)⟩
theorem lw_p11 : lw_okq (⟨"HuntedScent$Reader", "takeNodes", "()Z"⟩, 12) := ⟨⟨by decide +kernel, by decide +kernel⟩, List.mem_of_getElem? (i := 124) (by decide +kernel), List.mem_of_getElem? (i := 546) (by decide +kernel), List.mem_of_getElem? (i := 547) (by decide +kernel)⟩
theorem lw_p12 : lw_okq (⟨"HuntedScent$Reader", "isFirst", "(I)Z"⟩, 12) := ⟨⟨by decide +kernel, by decide +kernel⟩, List.mem_of_getElem? (i := 124) (by decide +kernel), List.mem_of_getElem? (i := 550) (by decide +kernel), List.mem_of_getElem? (i := 551) (by decide +kernel)⟩
theorem lw_p13 : lw_okq (⟨"HuntedScent$Reader", "takeNumber", "(II)Z"⟩, 12) := ⟨⟨by decide +kernel, by decide +kernel⟩, List.mem_of_getElem? (i := 124) (by decide +kernel), List.mem_of_getElem? (i := 554) (by decide +kernel), List.mem_of_getElem? (i := 555) (by decide +kernel)⟩
theorem lw_p14 : lw_okq (⟨"HuntedScent$Reader", "isNumber", "(II)Z"⟩, 12) := ⟨⟨by decide +kernel, by decide +kernel⟩, List.mem_of_getElem? (i := 124) (by decide +kernel), List.mem_of_getElem? (i := 558) (by decide +kernel), List.mem_of_getElem? (i := 559) (by decide +kernel)⟩
theorem lw_p15 : lw_okq (⟨"HuntedScent$Reader", "takeSign", "()Z"⟩, 12) := ⟨⟨by decide +kernel, by decide +kernel⟩, List.mem_of_getElem? (i := 124) (by decide +kernel), List.mem_of_getElem? (i := 562) (by decide +kernel), List.mem_of_getElem? (i := 563) (by decide +kernel)⟩
def lw_privs_1 : List (MethodName × Nat) := [(⟨"HuntedScent$Reader", "append", "(J)I"⟩, 12), (⟨"HuntedScent$Reader", "shorten", "(I)I"⟩, 12), (⟨"HuntedScent$Reader", "readAll", "()I"⟩, 12), (⟨"HuntedScent$Net", "clear", "()V"⟩, 7), (⟨"HuntedScent$Notes", "cut", "(I)V"⟩, 5), (⟨"HuntedScent$Reader", "takeLine", "()Z"⟩, 12), (⟨"HuntedScent$Reader", "takeToken", "()Z"⟩, 12), (⟨"HuntedScent$Reader", "kindAt", "(I)I"⟩, 12), (⟨"HuntedScent$Reader", "fail", "(II)Z"⟩, 12), (⟨"HuntedScent$Reader", "figuresTaken", "()I"⟩, 12), (⟨"HuntedScent$Reader", "says", "(Ljava/lang/String;)Z"⟩, 12), (⟨"HuntedScent$Reader", "takeNodes", "()Z"⟩, 12), (⟨"HuntedScent$Reader", "isFirst", "(I)Z"⟩, 12), (⟨"HuntedScent$Reader", "takeNumber", "(II)Z"⟩, 12), (⟨"HuntedScent$Reader", "isNumber", "(II)Z"⟩, 12), (⟨"HuntedScent$Reader", "takeSign", "()Z"⟩, 12)]
theorem lw_r1 : ∀ q ∈ lw_privs_1, lw_okq q := List.forall_mem_cons.mpr ⟨lw_p0, List.forall_mem_cons.mpr ⟨lw_p1, List.forall_mem_cons.mpr ⟨lw_p2, List.forall_mem_cons.mpr ⟨lw_p3, List.forall_mem_cons.mpr ⟨lw_p4, List.forall_mem_cons.mpr ⟨lw_p5, List.forall_mem_cons.mpr ⟨lw_p6, List.forall_mem_cons.mpr ⟨lw_p7, List.forall_mem_cons.mpr ⟨lw_p8, List.forall_mem_cons.mpr ⟨lw_p9, List.forall_mem_cons.mpr ⟨lw_p10, List.forall_mem_cons.mpr ⟨lw_p11, List.forall_mem_cons.mpr ⟨lw_p12, List.forall_mem_cons.mpr ⟨lw_p13, List.forall_mem_cons.mpr ⟨lw_p14, List.forall_mem_cons.mpr ⟨lw_p15, fun _ h => absurd h List.not_mem_nil⟩⟩⟩⟩⟩⟩⟩⟩⟩⟩⟩⟩⟩⟩⟩⟩
theorem lw_p16 : lw_okq (⟨"HuntedScent$Reader", "takeRest", "()Z"⟩, 12) := ⟨⟨by decide +kernel, by decide +kernel⟩, List.mem_of_getElem? (i := 124) (by decide +kernel), List.mem_of_getElem? (i := 567) (by decide +kernel), List.mem_of_getElem? (i := 568) (by decide +kernel)⟩
theorem lw_p17 : lw_okq (⟨"HuntedScent$Reader", "takeStart", "()Z"⟩, 12) := ⟨⟨by decide +kernel, by decide +kernel⟩, List.mem_of_getElem? (i := 124) (by decide +kernel), List.mem_of_getElem? (i := 572) (by decide +kernel), List.mem_of_getElem? (i := 573) (by decide +kernel)⟩
theorem lw_p18 : lw_okq (⟨"HuntedScent$Reader", "takeNode", "()Z"⟩, 12) := ⟨⟨by decide +kernel, by decide +kernel⟩, List.mem_of_getElem? (i := 124) (by decide +kernel), List.mem_of_getElem? (i := 576) (by decide +kernel), List.mem_of_getElem? (i := 577) (by decide +kernel)⟩
theorem lw_p19 : lw_okq (⟨"HuntedScent$Reader", "isNode", "()Z"⟩, 12) := ⟨⟨by decide +kernel, by decide +kernel⟩, List.mem_of_getElem? (i := 124) (by decide +kernel), List.mem_of_getElem? (i := 580) (by decide +kernel), List.mem_of_getElem? (i := 581) (by decide +kernel)⟩
theorem lw_p20 : lw_okq (⟨"HuntedScent$Reader", "takeLane", "()Z"⟩, 12) := ⟨⟨by decide +kernel, by decide +kernel⟩, List.mem_of_getElem? (i := 124) (by decide +kernel), List.mem_of_getElem? (i := 585) (by decide +kernel), List.mem_of_getElem? (i := 586) (by decide +kernel)⟩
theorem lw_p21 : lw_okq (⟨"HuntedScent$Net", "areJoined", "(II)Z"⟩, 7) := ⟨⟨by decide +kernel, by decide +kernel⟩, List.mem_of_getElem? (i := 29) (by decide +kernel), List.mem_of_getElem? (i := 589) (by decide +kernel), List.mem_of_getElem? (i := 590) (by decide +kernel)⟩
theorem lw_p22 : lw_okq (⟨"HuntedScent$Net", "joinedTo", "(I)I"⟩, 7) := ⟨⟨by decide +kernel, by decide +kernel⟩, List.mem_of_getElem? (i := 29) (by decide +kernel), List.mem_of_getElem? (i := 593) (by decide +kernel), List.mem_of_getElem? (i := 594) (by decide +kernel)⟩
theorem lw_p23 : lw_okq (⟨"HuntedScent$Net", "tie", "(IIZ)V"⟩, 7) := ⟨⟨by decide +kernel, by decide +kernel⟩, List.mem_of_getElem? (i := 29) (by decide +kernel), List.mem_of_getElem? (i := 600) (by decide +kernel), List.mem_of_getElem? (i := 601) (by decide +kernel)⟩
theorem lw_p24 : lw_okq (⟨"HuntedScent$Reader", "takeWater", "()Z"⟩, 12) := ⟨⟨by decide +kernel, by decide +kernel⟩, List.mem_of_getElem? (i := 124) (by decide +kernel), List.mem_of_getElem? (i := 605) (by decide +kernel), List.mem_of_getElem? (i := 606) (by decide +kernel)⟩
theorem lw_p25 : lw_okq (⟨"HuntedScent$Reader", "takeHole", "()Z"⟩, 12) := ⟨⟨by decide +kernel, by decide +kernel⟩, List.mem_of_getElem? (i := 124) (by decide +kernel), List.mem_of_getElem? (i := 611) (by decide +kernel), List.mem_of_getElem? (i := 612) (by decide +kernel)⟩
theorem lw_p26 : lw_okq (⟨"HuntedScent$Reader", "takeSmelt", "()Z"⟩, 12) := ⟨⟨by decide +kernel, by decide +kernel⟩, List.mem_of_getElem? (i := 124) (by decide +kernel), List.mem_of_getElem? (i := 616) (by decide +kernel), List.mem_of_getElem? (i := 617) (by decide +kernel)⟩
theorem lw_p27 : lw_okq (⟨"HuntedScent$Notes", "add", "(III)Z"⟩, 5) := ⟨⟨by decide +kernel, by decide +kernel⟩, List.mem_of_getElem? (i := 98) (by decide +kernel), List.mem_of_getElem? (i := 620) (by decide +kernel), List.mem_of_getElem? (i := 621) (by decide +kernel)⟩
theorem lw_p28 : lw_okq (⟨"HuntedScent$Net", "hasAll", "(I)Z"⟩, 7) := ⟨⟨by decide +kernel, by decide +kernel⟩, List.mem_of_getElem? (i := 29) (by decide +kernel), List.mem_of_getElem? (i := 624) (by decide +kernel), List.mem_of_getElem? (i := 625) (by decide +kernel)⟩
theorem lw_p29 : lw_okq (⟨"HuntedScent$Net", "all", "()I"⟩, 7) := ⟨⟨by decide +kernel, by decide +kernel⟩, List.mem_of_getElem? (i := 29) (by decide +kernel), List.mem_of_getElem? (i := 628) (by decide +kernel), List.mem_of_getElem? (i := 629) (by decide +kernel)⟩
theorem lw_p30 : lw_okq (⟨"HuntedScent$Net", "copyFrom", "(LHuntedScent$Net;)V"⟩, 7) := ⟨⟨by decide +kernel, by decide +kernel⟩, List.mem_of_getElem? (i := 29) (by decide +kernel), List.mem_of_getElem? (i := 632) (by decide +kernel), List.mem_of_getElem? (i := 633) (by decide +kernel)⟩
theorem lw_p31 : lw_okq (⟨"HuntedScent$Notes", "copyFrom", "(LHuntedScent$Notes;)V"⟩, 5) := ⟨⟨by decide +kernel, by decide +kernel⟩, List.mem_of_getElem? (i := 98) (by decide +kernel), List.mem_of_getElem? (i := 636) (by decide +kernel), List.mem_of_getElem? (i := 637) (by decide +kernel)⟩
def lw_privs_2 : List (MethodName × Nat) := [(⟨"HuntedScent$Reader", "takeRest", "()Z"⟩, 12), (⟨"HuntedScent$Reader", "takeStart", "()Z"⟩, 12), (⟨"HuntedScent$Reader", "takeNode", "()Z"⟩, 12), (⟨"HuntedScent$Reader", "isNode", "()Z"⟩, 12), (⟨"HuntedScent$Reader", "takeLane", "()Z"⟩, 12), (⟨"HuntedScent$Net", "areJoined", "(II)Z"⟩, 7), (⟨"HuntedScent$Net", "joinedTo", "(I)I"⟩, 7), (⟨"HuntedScent$Net", "tie", "(IIZ)V"⟩, 7), (⟨"HuntedScent$Reader", "takeWater", "()Z"⟩, 12), (⟨"HuntedScent$Reader", "takeHole", "()Z"⟩, 12), (⟨"HuntedScent$Reader", "takeSmelt", "()Z"⟩, 12), (⟨"HuntedScent$Notes", "add", "(III)Z"⟩, 5), (⟨"HuntedScent$Net", "hasAll", "(I)Z"⟩, 7), (⟨"HuntedScent$Net", "all", "()I"⟩, 7), (⟨"HuntedScent$Net", "copyFrom", "(LHuntedScent$Net;)V"⟩, 7), (⟨"HuntedScent$Notes", "copyFrom", "(LHuntedScent$Notes;)V"⟩, 5)]
theorem lw_r2 : ∀ q ∈ lw_privs_2, lw_okq q := List.forall_mem_cons.mpr ⟨lw_p16, List.forall_mem_cons.mpr ⟨lw_p17, List.forall_mem_cons.mpr ⟨lw_p18, List.forall_mem_cons.mpr ⟨lw_p19, List.forall_mem_cons.mpr ⟨lw_p20, List.forall_mem_cons.mpr ⟨lw_p21, List.forall_mem_cons.mpr ⟨lw_p22, List.forall_mem_cons.mpr ⟨lw_p23, List.forall_mem_cons.mpr ⟨lw_p24, List.forall_mem_cons.mpr ⟨lw_p25, List.forall_mem_cons.mpr ⟨lw_p26, List.forall_mem_cons.mpr ⟨lw_p27, List.forall_mem_cons.mpr ⟨lw_p28, List.forall_mem_cons.mpr ⟨lw_p29, List.forall_mem_cons.mpr ⟨lw_p30, List.forall_mem_cons.mpr ⟨lw_p31, fun _ h => absurd h List.not_mem_nil⟩⟩⟩⟩⟩⟩⟩⟩⟩⟩⟩⟩⟩⟩⟩⟩
theorem lw_p32 : lw_okq (⟨"HuntedScent$Trail", "clear", "()V"⟩, 3) := ⟨⟨by decide +kernel, by decide +kernel⟩, List.mem_of_getElem? (i := 79) (by decide +kernel), List.mem_of_getElem? (i := 640) (by decide +kernel), List.mem_of_getElem? (i := 641) (by decide +kernel)⟩
theorem lw_p33 : lw_okq (⟨"HuntedScent$Net", "laneCount", "()I"⟩, 7) := ⟨⟨by decide +kernel, by decide +kernel⟩, List.mem_of_getElem? (i := 29) (by decide +kernel), List.mem_of_getElem? (i := 653) (by decide +kernel), List.mem_of_getElem? (i := 654) (by decide +kernel)⟩
theorem lw_p34 : lw_okq (⟨"HuntedScent$Net", "has", "(I)Z"⟩, 7) := ⟨⟨by decide +kernel, by decide +kernel⟩, List.mem_of_getElem? (i := 29) (by decide +kernel), List.mem_of_getElem? (i := 667) (by decide +kernel), List.mem_of_getElem? (i := 668) (by decide +kernel)⟩
theorem lw_p35 : lw_okq (⟨"HuntedScent$Net", "tellStart", "(I)V"⟩, 7) := ⟨⟨by decide +kernel, by decide +kernel⟩, List.mem_of_getElem? (i := 29) (by decide +kernel), List.mem_of_getElem? (i := 682) (by decide +kernel), List.mem_of_getElem? (i := 683) (by decide +kernel)⟩
theorem lw_p36 : lw_okq (⟨"HuntedScent$Net", "stepsBetween", "(II)I"⟩, 7) := ⟨⟨by decide +kernel, by decide +kernel⟩, List.mem_of_getElem? (i := 29) (by decide +kernel), List.mem_of_getElem? (i := 690) (by decide +kernel), List.mem_of_getElem? (i := 691) (by decide +kernel)⟩
theorem lw_p37 : lw_okq (⟨"HuntedScent$Net", "neighboursOfAll", "(I)I"⟩, 7) := ⟨⟨by decide +kernel, by decide +kernel⟩, List.mem_of_getElem? (i := 29) (by decide +kernel), List.mem_of_getElem? (i := 694) (by decide +kernel), List.mem_of_getElem? (i := 695) (by decide +kernel)⟩
theorem lw_p38 : lw_okq (⟨"HuntedScent$Trail", "begin", "(II)V"⟩, 3) := ⟨⟨by decide +kernel, by decide +kernel⟩, List.mem_of_getElem? (i := 79) (by decide +kernel), List.mem_of_getElem? (i := 702) (by decide +kernel), List.mem_of_getElem? (i := 703) (by decide +kernel)⟩
theorem lw_p39 : lw_okq (⟨"HuntedScent$Trail", "smellOf", "(I)I"⟩, 3) := ⟨⟨by decide +kernel, by decide +kernel⟩, List.mem_of_getElem? (i := 79) (by decide +kernel), List.mem_of_getElem? (i := 720) (by decide +kernel), List.mem_of_getElem? (i := 721) (by decide +kernel)⟩
theorem lw_p40 : lw_okq (⟨"HuntedScent$Net", "movesOf", "(I)I"⟩, 7) := ⟨⟨by decide +kernel, by decide +kernel⟩, List.mem_of_getElem? (i := 29) (by decide +kernel), List.mem_of_getElem? (i := 728) (by decide +kernel), List.mem_of_getElem? (i := 729) (by decide +kernel)⟩
theorem lw_p41 : lw_okq (⟨"HuntedScent$Trail", "move", "(II)V"⟩, 3) := ⟨⟨by decide +kernel, by decide +kernel⟩, List.mem_of_getElem? (i := 79) (by decide +kernel), List.mem_of_getElem? (i := 734) (by decide +kernel), List.mem_of_getElem? (i := 735) (by decide +kernel)⟩
theorem lw_p42 : lw_okq (⟨"HuntedScent$Trail", "strongestOf", "(I)I"⟩, 3) := ⟨⟨by decide +kernel, by decide +kernel⟩, List.mem_of_getElem? (i := 79) (by decide +kernel), List.mem_of_getElem? (i := 746) (by decide +kernel), List.mem_of_getElem? (i := 747) (by decide +kernel)⟩
theorem lw_p43 : lw_okq (⟨"HuntedScent$Trail", "sum", "()I"⟩, 3) := ⟨⟨by decide +kernel, by decide +kernel⟩, List.mem_of_getElem? (i := 79) (by decide +kernel), List.mem_of_getElem? (i := 750) (by decide +kernel), List.mem_of_getElem? (i := 751) (by decide +kernel)⟩
theorem lw_p44 : lw_okq (⟨"HuntedScent$Wayfinder", "search", "(I)V"⟩, 17) := ⟨⟨by decide +kernel, by decide +kernel⟩, List.mem_of_getElem? (i := 175) (by decide +kernel), List.mem_of_getElem? (i := 771) (by decide +kernel), List.mem_of_getElem? (i := 772) (by decide +kernel)⟩
theorem lw_p45 : lw_okq (⟨"HuntedScent$Wayfinder", "run", "(IIZ)V"⟩, 17) := ⟨⟨by decide +kernel, by decide +kernel⟩, List.mem_of_getElem? (i := 175) (by decide +kernel), List.mem_of_getElem? (i := 775) (by decide +kernel), List.mem_of_getElem? (i := 776) (by decide +kernel)⟩
theorem lw_p46 : lw_okq (⟨"HuntedScent$Notes", "latestTurn", "(II)I"⟩, 5) := ⟨⟨by decide +kernel, by decide +kernel⟩, List.mem_of_getElem? (i := 98) (by decide +kernel), List.mem_of_getElem? (i := 779) (by decide +kernel), List.mem_of_getElem? (i := 780) (by decide +kernel)⟩
theorem lw_p47 : lw_okq (⟨"HuntedScent$Wayfinder", "countWalks", "()V"⟩, 17) := ⟨⟨by decide +kernel, by decide +kernel⟩, List.mem_of_getElem? (i := 175) (by decide +kernel), List.mem_of_getElem? (i := 783) (by decide +kernel), List.mem_of_getElem? (i := 784) (by decide +kernel)⟩
def lw_privs_3 : List (MethodName × Nat) := [(⟨"HuntedScent$Trail", "clear", "()V"⟩, 3), (⟨"HuntedScent$Net", "laneCount", "()I"⟩, 7), (⟨"HuntedScent$Net", "has", "(I)Z"⟩, 7), (⟨"HuntedScent$Net", "tellStart", "(I)V"⟩, 7), (⟨"HuntedScent$Net", "stepsBetween", "(II)I"⟩, 7), (⟨"HuntedScent$Net", "neighboursOfAll", "(I)I"⟩, 7), (⟨"HuntedScent$Trail", "begin", "(II)V"⟩, 3), (⟨"HuntedScent$Trail", "smellOf", "(I)I"⟩, 3), (⟨"HuntedScent$Net", "movesOf", "(I)I"⟩, 7), (⟨"HuntedScent$Trail", "move", "(II)V"⟩, 3), (⟨"HuntedScent$Trail", "strongestOf", "(I)I"⟩, 3), (⟨"HuntedScent$Trail", "sum", "()I"⟩, 3), (⟨"HuntedScent$Wayfinder", "search", "(I)V"⟩, 17), (⟨"HuntedScent$Wayfinder", "run", "(IIZ)V"⟩, 17), (⟨"HuntedScent$Notes", "latestTurn", "(II)I"⟩, 5), (⟨"HuntedScent$Wayfinder", "countWalks", "()V"⟩, 17)]
theorem lw_r3 : ∀ q ∈ lw_privs_3, lw_okq q := List.forall_mem_cons.mpr ⟨lw_p32, List.forall_mem_cons.mpr ⟨lw_p33, List.forall_mem_cons.mpr ⟨lw_p34, List.forall_mem_cons.mpr ⟨lw_p35, List.forall_mem_cons.mpr ⟨lw_p36, List.forall_mem_cons.mpr ⟨lw_p37, List.forall_mem_cons.mpr ⟨lw_p38, List.forall_mem_cons.mpr ⟨lw_p39, List.forall_mem_cons.mpr ⟨lw_p40, List.forall_mem_cons.mpr ⟨lw_p41, List.forall_mem_cons.mpr ⟨lw_p42, List.forall_mem_cons.mpr ⟨lw_p43, List.forall_mem_cons.mpr ⟨lw_p44, List.forall_mem_cons.mpr ⟨lw_p45, List.forall_mem_cons.mpr ⟨lw_p46, List.forall_mem_cons.mpr ⟨lw_p47, fun _ h => absurd h List.not_mem_nil⟩⟩⟩⟩⟩⟩⟩⟩⟩⟩⟩⟩⟩⟩⟩⟩
theorem lw_p48 : lw_okq (⟨"HuntedScent$Wayfinder", "walksFrom", "(II)I"⟩, 17) := ⟨⟨by decide +kernel, by decide +kernel⟩, List.mem_of_getElem? (i := 175) (by decide +kernel), List.mem_of_getElem? (i := 789) (by decide +kernel), List.mem_of_getElem? (i := 790) (by decide +kernel)⟩
theorem lw_p49 : lw_okq (⟨"HuntedScent$Wayfinder", "explore", "(I)I"⟩, 17) := ⟨⟨by decide +kernel, by decide +kernel⟩, List.mem_of_getElem? (i := 175) (by decide +kernel), List.mem_of_getElem? (i := 794) (by decide +kernel), List.mem_of_getElem? (i := 795) (by decide +kernel)⟩
theorem lw_p50 : lw_okq (⟨"HuntedScent$Wayfinder", "nodesFor", "(I)I"⟩, 17) := ⟨⟨by decide +kernel, by decide +kernel⟩, List.mem_of_getElem? (i := 175) (by decide +kernel), List.mem_of_getElem? (i := 798) (by decide +kernel), List.mem_of_getElem? (i := 799) (by decide +kernel)⟩
theorem lw_p51 : lw_okq (⟨"HuntedScent$Net", "beginnings", "()I"⟩, 7) := ⟨⟨by decide +kernel, by decide +kernel⟩, List.mem_of_getElem? (i := 29) (by decide +kernel), List.mem_of_getElem? (i := 802) (by decide +kernel), List.mem_of_getElem? (i := 803) (by decide +kernel)⟩
theorem lw_p52 : lw_okq (⟨"HuntedScent$Wayfinder", "onwardOf", "(I)I"⟩, 17) := ⟨⟨by decide +kernel, by decide +kernel⟩, List.mem_of_getElem? (i := 175) (by decide +kernel), List.mem_of_getElem? (i := 806) (by decide +kernel), List.mem_of_getElem? (i := 807) (by decide +kernel)⟩
theorem lw_p53 : lw_okq (⟨"HuntedScent$Notes", "allowedIn", "(II[II)I"⟩, 5) := ⟨⟨by decide +kernel, by decide +kernel⟩, List.mem_of_getElem? (i := 98) (by decide +kernel), List.mem_of_getElem? (i := 810) (by decide +kernel), List.mem_of_getElem? (i := 811) (by decide +kernel)⟩
theorem lw_p54 : lw_okq (⟨"HuntedScent$Wayfinder", "finish", "(II)I"⟩, 17) := ⟨⟨by decide +kernel, by decide +kernel⟩, List.mem_of_getElem? (i := 175) (by decide +kernel), List.mem_of_getElem? (i := 817) (by decide +kernel), List.mem_of_getElem? (i := 818) (by decide +kernel)⟩
theorem lw_p55 : lw_okq (⟨"HuntedScent$Wayfinder", "noteFirst", "(II)V"⟩, 17) := ⟨⟨by decide +kernel, by decide +kernel⟩, List.mem_of_getElem? (i := 175) (by decide +kernel), List.mem_of_getElem? (i := 821) (by decide +kernel), List.mem_of_getElem? (i := 822) (by decide +kernel)⟩
theorem lw_p56 : lw_okq (⟨"HuntedScent$Net", "movesOfAll", "(I)I"⟩, 7) := ⟨⟨by decide +kernel, by decide +kernel⟩, List.mem_of_getElem? (i := 29) (by decide +kernel), List.mem_of_getElem? (i := 829) (by decide +kernel), List.mem_of_getElem? (i := 830) (by decide +kernel)⟩
theorem lw_p57 : lw_okq (⟨"HuntedScent$Wayfinder", "firstImpossible", "()I"⟩, 17) := ⟨⟨by decide +kernel, by decide +kernel⟩, List.mem_of_getElem? (i := 175) (by decide +kernel), List.mem_of_getElem? (i := 852) (by decide +kernel), List.mem_of_getElem? (i := 853) (by decide +kernel)⟩
theorem lw_p58 : lw_okq (⟨"HuntedScent", "isDoubtAsked", "(III)Z"⟩, 12) := ⟨⟨by decide +kernel, by decide +kernel⟩, List.mem_of_getElem? (i := 21) (by decide +kernel), List.mem_of_getElem? (i := 860) (by decide +kernel), List.mem_of_getElem? (i := 861) (by decide +kernel)⟩
theorem lw_p59 : lw_okq (⟨"HuntedScent$Doubter", "search", "(III)V"⟩, 5) := ⟨⟨by decide +kernel, by decide +kernel⟩, List.mem_of_getElem? (i := 238) (by decide +kernel), List.mem_of_getElem? (i := 866) (by decide +kernel), List.mem_of_getElem? (i := 867) (by decide +kernel)⟩
theorem lw_p60 : lw_okq (⟨"HuntedScent$Doubter", "explore", "(IIII)V"⟩, 5) := ⟨⟨by decide +kernel, by decide +kernel⟩, List.mem_of_getElem? (i := 238) (by decide +kernel), List.mem_of_getElem? (i := 870) (by decide +kernel), List.mem_of_getElem? (i := 871) (by decide +kernel)⟩
theorem lw_p61 : lw_okq (⟨"HuntedScent$Doubter", "noteWay", "(II)V"⟩, 5) := ⟨⟨by decide +kernel, by decide +kernel⟩, List.mem_of_getElem? (i := 238) (by decide +kernel), List.mem_of_getElem? (i := 874) (by decide +kernel), List.mem_of_getElem? (i := 875) (by decide +kernel)⟩
theorem lw_p62 : lw_okq (⟨"HuntedScent$Doubter", "nodeOfTurn", "(I)I"⟩, 5) := ⟨⟨by decide +kernel, by decide +kernel⟩, List.mem_of_getElem? (i := 238) (by decide +kernel), List.mem_of_getElem? (i := 882) (by decide +kernel), List.mem_of_getElem? (i := 883) (by decide +kernel)⟩
theorem lw_p63 : lw_okq (⟨"HuntedScent$Caster", "search", "(II)V"⟩, 12) := ⟨⟨by decide +kernel, by decide +kernel⟩, List.mem_of_getElem? (i := 261) (by decide +kernel), List.mem_of_getElem? (i := 894) (by decide +kernel), List.mem_of_getElem? (i := 895) (by decide +kernel)⟩
def lw_privs_4 : List (MethodName × Nat) := [(⟨"HuntedScent$Wayfinder", "walksFrom", "(II)I"⟩, 17), (⟨"HuntedScent$Wayfinder", "explore", "(I)I"⟩, 17), (⟨"HuntedScent$Wayfinder", "nodesFor", "(I)I"⟩, 17), (⟨"HuntedScent$Net", "beginnings", "()I"⟩, 7), (⟨"HuntedScent$Wayfinder", "onwardOf", "(I)I"⟩, 17), (⟨"HuntedScent$Notes", "allowedIn", "(II[II)I"⟩, 5), (⟨"HuntedScent$Wayfinder", "finish", "(II)I"⟩, 17), (⟨"HuntedScent$Wayfinder", "noteFirst", "(II)V"⟩, 17), (⟨"HuntedScent$Net", "movesOfAll", "(I)I"⟩, 7), (⟨"HuntedScent$Wayfinder", "firstImpossible", "()I"⟩, 17), (⟨"HuntedScent", "isDoubtAsked", "(III)Z"⟩, 12), (⟨"HuntedScent$Doubter", "search", "(III)V"⟩, 5), (⟨"HuntedScent$Doubter", "explore", "(IIII)V"⟩, 5), (⟨"HuntedScent$Doubter", "noteWay", "(II)V"⟩, 5), (⟨"HuntedScent$Doubter", "nodeOfTurn", "(I)I"⟩, 5), (⟨"HuntedScent$Caster", "search", "(II)V"⟩, 12)]
theorem lw_r4 : ∀ q ∈ lw_privs_4, lw_okq q := List.forall_mem_cons.mpr ⟨lw_p48, List.forall_mem_cons.mpr ⟨lw_p49, List.forall_mem_cons.mpr ⟨lw_p50, List.forall_mem_cons.mpr ⟨lw_p51, List.forall_mem_cons.mpr ⟨lw_p52, List.forall_mem_cons.mpr ⟨lw_p53, List.forall_mem_cons.mpr ⟨lw_p54, List.forall_mem_cons.mpr ⟨lw_p55, List.forall_mem_cons.mpr ⟨lw_p56, List.forall_mem_cons.mpr ⟨lw_p57, List.forall_mem_cons.mpr ⟨lw_p58, List.forall_mem_cons.mpr ⟨lw_p59, List.forall_mem_cons.mpr ⟨lw_p60, List.forall_mem_cons.mpr ⟨lw_p61, List.forall_mem_cons.mpr ⟨lw_p62, List.forall_mem_cons.mpr ⟨lw_p63, fun _ h => absurd h List.not_mem_nil⟩⟩⟩⟩⟩⟩⟩⟩⟩⟩⟩⟩⟩⟩⟩⟩
theorem lw_p64 : lw_okq (⟨"HuntedScent$Caster", "tellCasts", "()V"⟩, 12) := ⟨⟨by decide +kernel, by decide +kernel⟩, List.mem_of_getElem? (i := 261) (by decide +kernel), List.mem_of_getElem? (i := 899) (by decide +kernel), List.mem_of_getElem? (i := 900) (by decide +kernel)⟩
theorem lw_p65 : lw_okq (⟨"HuntedScent$Caster", "tellLater", "()V"⟩, 12) := ⟨⟨by decide +kernel, by decide +kernel⟩, List.mem_of_getElem? (i := 261) (by decide +kernel), List.mem_of_getElem? (i := 905) (by decide +kernel), List.mem_of_getElem? (i := 906) (by decide +kernel)⟩
theorem lw_p66 : lw_okq (⟨"HuntedScent$Net", "stepsOf", "(I)I"⟩, 7) := ⟨⟨by decide +kernel, by decide +kernel⟩, List.mem_of_getElem? (i := 29) (by decide +kernel), List.mem_of_getElem? (i := 910) (by decide +kernel), List.mem_of_getElem? (i := 911) (by decide +kernel)⟩
theorem lw_p67 : lw_okq (⟨"HuntedScent$Caster", "run", "(I)V"⟩, 12) := ⟨⟨by decide +kernel, by decide +kernel⟩, List.mem_of_getElem? (i := 261) (by decide +kernel), List.mem_of_getElem? (i := 914) (by decide +kernel), List.mem_of_getElem? (i := 915) (by decide +kernel)⟩
theorem lw_p68 : lw_okq (⟨"HuntedScent$Caster", "turnsTo", "(I)I"⟩, 12) := ⟨⟨by decide +kernel, by decide +kernel⟩, List.mem_of_getElem? (i := 261) (by decide +kernel), List.mem_of_getElem? (i := 918) (by decide +kernel), List.mem_of_getElem? (i := 919) (by decide +kernel)⟩
theorem lw_p69 : lw_okq (⟨"HuntedScent$Caster", "originOf", "(I)I"⟩, 12) := ⟨⟨by decide +kernel, by decide +kernel⟩, List.mem_of_getElem? (i := 261) (by decide +kernel), List.mem_of_getElem? (i := 922) (by decide +kernel), List.mem_of_getElem? (i := 923) (by decide +kernel)⟩
theorem lw_p70 : lw_okq (⟨"HuntedScent$Caster", "meetFrom", "(II)I"⟩, 12) := ⟨⟨by decide +kernel, by decide +kernel⟩, List.mem_of_getElem? (i := 261) (by decide +kernel), List.mem_of_getElem? (i := 926) (by decide +kernel), List.mem_of_getElem? (i := 927) (by decide +kernel)⟩
theorem lw_p71 : lw_okq (⟨"HuntedScent$Caster", "laterOf", "(I)I"⟩, 12) := ⟨⟨by decide +kernel, by decide +kernel⟩, List.mem_of_getElem? (i := 261) (by decide +kernel), List.mem_of_getElem? (i := 930) (by decide +kernel), List.mem_of_getElem? (i := 931) (by decide +kernel)⟩
theorem lw_p72 : lw_okq (⟨"HuntedScent$Caster", "castOfTurn", "(I)I"⟩, 12) := ⟨⟨by decide +kernel, by decide +kernel⟩, List.mem_of_getElem? (i := 261) (by decide +kernel), List.mem_of_getElem? (i := 934) (by decide +kernel), List.mem_of_getElem? (i := 935) (by decide +kernel)⟩
theorem lw_p73 : lw_okq (⟨"HuntedScent$Caster", "covering", "(I)I"⟩, 12) := ⟨⟨by decide +kernel, by decide +kernel⟩, List.mem_of_getElem? (i := 261) (by decide +kernel), List.mem_of_getElem? (i := 938) (by decide +kernel), List.mem_of_getElem? (i := 939) (by decide +kernel)⟩
theorem lw_p74 : lw_okq (⟨"HuntedScent$Net", "stepsOfAll", "(I)I"⟩, 7) := ⟨⟨by decide +kernel, by decide +kernel⟩, List.mem_of_getElem? (i := 29) (by decide +kernel), List.mem_of_getElem? (i := 951) (by decide +kernel), List.mem_of_getElem? (i := 952) (by decide +kernel)⟩
theorem lw_p75 : lw_okq (⟨"HuntedScent$Chase", "solve", "()V"⟩, 6) := ⟨⟨by decide +kernel, by decide +kernel⟩, List.mem_of_getElem? (i := 305) (by decide +kernel), List.mem_of_getElem? (i := 960) (by decide +kernel), List.mem_of_getElem? (i := 961) (by decide +kernel)⟩
theorem lw_p76 : lw_okq (⟨"HuntedScent$Chase", "setOut", "()V"⟩, 6) := ⟨⟨by decide +kernel, by decide +kernel⟩, List.mem_of_getElem? (i := 305) (by decide +kernel), List.mem_of_getElem? (i := 964) (by decide +kernel), List.mem_of_getElem? (i := 965) (by decide +kernel)⟩
theorem lw_p77 : lw_okq (⟨"HuntedScent$Chase", "playRound", "(I)Z"⟩, 6) := ⟨⟨by decide +kernel, by decide +kernel⟩, List.mem_of_getElem? (i := 305) (by decide +kernel), List.mem_of_getElem? (i := 978) (by decide +kernel), List.mem_of_getElem? (i := 979) (by decide +kernel)⟩
theorem lw_p78 : lw_okq (⟨"HuntedScent$Chase", "newlyLost", "(III)I"⟩, 6) := ⟨⟨by decide +kernel, by decide +kernel⟩, List.mem_of_getElem? (i := 305) (by decide +kernel), List.mem_of_getElem? (i := 982) (by decide +kernel), List.mem_of_getElem? (i := 983) (by decide +kernel)⟩
theorem lw_p79 : lw_okq (⟨"HuntedScent$Chase", "deadlyBy", "(II)I"⟩, 6) := ⟨⟨by decide +kernel, by decide +kernel⟩, List.mem_of_getElem? (i := 305) (by decide +kernel), List.mem_of_getElem? (i := 986) (by decide +kernel), List.mem_of_getElem? (i := 987) (by decide +kernel)⟩
def lw_privs_5 : List (MethodName × Nat) := [(⟨"HuntedScent$Caster", "tellCasts", "()V"⟩, 12), (⟨"HuntedScent$Caster", "tellLater", "()V"⟩, 12), (⟨"HuntedScent$Net", "stepsOf", "(I)I"⟩, 7), (⟨"HuntedScent$Caster", "run", "(I)V"⟩, 12), (⟨"HuntedScent$Caster", "turnsTo", "(I)I"⟩, 12), (⟨"HuntedScent$Caster", "originOf", "(I)I"⟩, 12), (⟨"HuntedScent$Caster", "meetFrom", "(II)I"⟩, 12), (⟨"HuntedScent$Caster", "laterOf", "(I)I"⟩, 12), (⟨"HuntedScent$Caster", "castOfTurn", "(I)I"⟩, 12), (⟨"HuntedScent$Caster", "covering", "(I)I"⟩, 12), (⟨"HuntedScent$Net", "stepsOfAll", "(I)I"⟩, 7), (⟨"HuntedScent$Chase", "solve", "()V"⟩, 6), (⟨"HuntedScent$Chase", "setOut", "()V"⟩, 6), (⟨"HuntedScent$Chase", "playRound", "(I)Z"⟩, 6), (⟨"HuntedScent$Chase", "newlyLost", "(III)I"⟩, 6), (⟨"HuntedScent$Chase", "deadlyBy", "(II)I"⟩, 6)]
theorem lw_r5 : ∀ q ∈ lw_privs_5, lw_okq q := List.forall_mem_cons.mpr ⟨lw_p64, List.forall_mem_cons.mpr ⟨lw_p65, List.forall_mem_cons.mpr ⟨lw_p66, List.forall_mem_cons.mpr ⟨lw_p67, List.forall_mem_cons.mpr ⟨lw_p68, List.forall_mem_cons.mpr ⟨lw_p69, List.forall_mem_cons.mpr ⟨lw_p70, List.forall_mem_cons.mpr ⟨lw_p71, List.forall_mem_cons.mpr ⟨lw_p72, List.forall_mem_cons.mpr ⟨lw_p73, List.forall_mem_cons.mpr ⟨lw_p74, List.forall_mem_cons.mpr ⟨lw_p75, List.forall_mem_cons.mpr ⟨lw_p76, List.forall_mem_cons.mpr ⟨lw_p77, List.forall_mem_cons.mpr ⟨lw_p78, List.forall_mem_cons.mpr ⟨lw_p79, fun _ h => absurd h List.not_mem_nil⟩⟩⟩⟩⟩⟩⟩⟩⟩⟩⟩⟩⟩⟩⟩⟩
theorem lw_p80 : lw_okq (⟨"HuntedScent$Chase", "reachOf", "(I)I"⟩, 6) := ⟨⟨by decide +kernel, by decide +kernel⟩, List.mem_of_getElem? (i := 305) (by decide +kernel), List.mem_of_getElem? (i := 990) (by decide +kernel), List.mem_of_getElem? (i := 991) (by decide +kernel)⟩
theorem lw_p81 : lw_okq (⟨"HuntedScent$Chase", "noteTurns", "(IIII)V"⟩, 6) := ⟨⟨by decide +kernel, by decide +kernel⟩, List.mem_of_getElem? (i := 305) (by decide +kernel), List.mem_of_getElem? (i := 997) (by decide +kernel), List.mem_of_getElem? (i := 998) (by decide +kernel)⟩
theorem lw_p82 : lw_okq (⟨"HuntedScent$Chase", "turnsOf", "(III)I"⟩, 6) := ⟨⟨by decide +kernel, by decide +kernel⟩, List.mem_of_getElem? (i := 305) (by decide +kernel), List.mem_of_getElem? (i := 1001) (by decide +kernel), List.mem_of_getElem? (i := 1002) (by decide +kernel)⟩
theorem lw_p83 : lw_okq (⟨"HuntedScent$Chase", "bestMove", "(III)I"⟩, 6) := ⟨⟨by decide +kernel, by decide +kernel⟩, List.mem_of_getElem? (i := 305) (by decide +kernel), List.mem_of_getElem? (i := 1009) (by decide +kernel), List.mem_of_getElem? (i := 1010) (by decide +kernel)⟩
theorem lw_p84 : lw_okq (⟨"HuntedScent$Chase", "lastsAt", "(III)I"⟩, 6) := ⟨⟨by decide +kernel, by decide +kernel⟩, List.mem_of_getElem? (i := 305) (by decide +kernel), List.mem_of_getElem? (i := 1013) (by decide +kernel), List.mem_of_getElem? (i := 1014) (by decide +kernel)⟩
theorem lw_p85 : lw_okq (⟨"HuntedScent$Chase", "worstFrom", "(II)I"⟩, 6) := ⟨⟨by decide +kernel, by decide +kernel⟩, List.mem_of_getElem? (i := 305) (by decide +kernel), List.mem_of_getElem? (i := 1022) (by decide +kernel), List.mem_of_getElem? (i := 1023) (by decide +kernel)⟩
theorem lw_p86 : lw_okq (⟨"HuntedScent$Net", "openTo", "(II)I"⟩, 7) := ⟨⟨by decide +kernel, by decide +kernel⟩, List.mem_of_getElem? (i := 29) (by decide +kernel), List.mem_of_getElem? (i := 1036) (by decide +kernel), List.mem_of_getElem? (i := 1037) (by decide +kernel)⟩
theorem lw_p87 : lw_okq (⟨"HuntedScent$Net", "openWithout", "(IIII)I"⟩, 7) := ⟨⟨by decide +kernel, by decide +kernel⟩, List.mem_of_getElem? (i := 29) (by decide +kernel), List.mem_of_getElem? (i := 1044) (by decide +kernel), List.mem_of_getElem? (i := 1045) (by decide +kernel)⟩
theorem lw_p88 : lw_okq (⟨"HuntedScent$Seasons", "run", "(II)V"⟩, 5) := ⟨⟨by decide +kernel, by decide +kernel⟩, List.mem_of_getElem? (i := 330) (by decide +kernel), List.mem_of_getElem? (i := 1054) (by decide +kernel), List.mem_of_getElem? (i := 1055) (by decide +kernel)⟩
theorem lw_p89 : lw_okq (⟨"HuntedScent$Seasons", "hunt", "()V"⟩, 5) := ⟨⟨by decide +kernel, by decide +kernel⟩, List.mem_of_getElem? (i := 330) (by decide +kernel), List.mem_of_getElem? (i := 1058) (by decide +kernel), List.mem_of_getElem? (i := 1059) (by decide +kernel)⟩
theorem lw_p90 : lw_okq (⟨"HuntedScent$Seasons", "draw", "(I)I"⟩, 5) := ⟨⟨by decide +kernel, by decide +kernel⟩, List.mem_of_getElem? (i := 330) (by decide +kernel), List.mem_of_getElem? (i := 1062) (by decide +kernel), List.mem_of_getElem? (i := 1063) (by decide +kernel)⟩
theorem lw_p91 : lw_okq (⟨"HuntedScent$Seasons", "drawNode", "(I)I"⟩, 5) := ⟨⟨by decide +kernel, by decide +kernel⟩, List.mem_of_getElem? (i := 330) (by decide +kernel), List.mem_of_getElem? (i := 1069) (by decide +kernel), List.mem_of_getElem? (i := 1070) (by decide +kernel)⟩
theorem lw_p92 : lw_okq (⟨"HuntedScent$Seasons", "follow", "(I)I"⟩, 5) := ⟨⟨by decide +kernel, by decide +kernel⟩, List.mem_of_getElem? (i := 330) (by decide +kernel), List.mem_of_getElem? (i := 1076) (by decide +kernel), List.mem_of_getElem? (i := 1077) (by decide +kernel)⟩
theorem lw_p93 : lw_okq (⟨"HuntedScent$Trail", "copyFrom", "(LHuntedScent$Trail;)V"⟩, 3) := ⟨⟨by decide +kernel, by decide +kernel⟩, List.mem_of_getElem? (i := 79) (by decide +kernel), List.mem_of_getElem? (i := 1086) (by decide +kernel), List.mem_of_getElem? (i := 1087) (by decide +kernel)⟩
theorem lw_p94 : lw_okq (⟨"HuntedScent$Sheet", "make", "(II)V"⟩, 3) := ⟨⟨by decide +kernel, by decide +kernel⟩, List.mem_of_getElem? (i := 387) (by decide +kernel), List.mem_of_getElem? (i := 1101) (by decide +kernel), List.mem_of_getElem? (i := 1102) (by decide +kernel)⟩
theorem lw_p95 : lw_okq (⟨"HuntedScent$Sheet", "faultOf", "(II)I"⟩, 3) := ⟨⟨by decide +kernel, by decide +kernel⟩, List.mem_of_getElem? (i := 387) (by decide +kernel), List.mem_of_getElem? (i := 1109) (by decide +kernel), List.mem_of_getElem? (i := 1110) (by decide +kernel)⟩
def lw_privs_6 : List (MethodName × Nat) := [(⟨"HuntedScent$Chase", "reachOf", "(I)I"⟩, 6), (⟨"HuntedScent$Chase", "noteTurns", "(IIII)V"⟩, 6), (⟨"HuntedScent$Chase", "turnsOf", "(III)I"⟩, 6), (⟨"HuntedScent$Chase", "bestMove", "(III)I"⟩, 6), (⟨"HuntedScent$Chase", "lastsAt", "(III)I"⟩, 6), (⟨"HuntedScent$Chase", "worstFrom", "(II)I"⟩, 6), (⟨"HuntedScent$Net", "openTo", "(II)I"⟩, 7), (⟨"HuntedScent$Net", "openWithout", "(IIII)I"⟩, 7), (⟨"HuntedScent$Seasons", "run", "(II)V"⟩, 5), (⟨"HuntedScent$Seasons", "hunt", "()V"⟩, 5), (⟨"HuntedScent$Seasons", "draw", "(I)I"⟩, 5), (⟨"HuntedScent$Seasons", "drawNode", "(I)I"⟩, 5), (⟨"HuntedScent$Seasons", "follow", "(I)I"⟩, 5), (⟨"HuntedScent$Trail", "copyFrom", "(LHuntedScent$Trail;)V"⟩, 3), (⟨"HuntedScent$Sheet", "make", "(II)V"⟩, 3), (⟨"HuntedScent$Sheet", "faultOf", "(II)I"⟩, 3)]
theorem lw_r6 : ∀ q ∈ lw_privs_6, lw_okq q := List.forall_mem_cons.mpr ⟨lw_p80, List.forall_mem_cons.mpr ⟨lw_p81, List.forall_mem_cons.mpr ⟨lw_p82, List.forall_mem_cons.mpr ⟨lw_p83, List.forall_mem_cons.mpr ⟨lw_p84, List.forall_mem_cons.mpr ⟨lw_p85, List.forall_mem_cons.mpr ⟨lw_p86, List.forall_mem_cons.mpr ⟨lw_p87, List.forall_mem_cons.mpr ⟨lw_p88, List.forall_mem_cons.mpr ⟨lw_p89, List.forall_mem_cons.mpr ⟨lw_p90, List.forall_mem_cons.mpr ⟨lw_p91, List.forall_mem_cons.mpr ⟨lw_p92, List.forall_mem_cons.mpr ⟨lw_p93, List.forall_mem_cons.mpr ⟨lw_p94, List.forall_mem_cons.mpr ⟨lw_p95, fun _ h => absurd h List.not_mem_nil⟩⟩⟩⟩⟩⟩⟩⟩⟩⟩⟩⟩⟩⟩⟩⟩
theorem lw_p96 : lw_okq (⟨"HuntedScent$Sheet", "put", "(II)V"⟩, 3) := ⟨⟨by decide +kernel, by decide +kernel⟩, List.mem_of_getElem? (i := 387) (by decide +kernel), List.mem_of_getElem? (i := 1113) (by decide +kernel), List.mem_of_getElem? (i := 1114) (by decide +kernel)⟩
theorem lw_p97 : lw_okq (⟨"HuntedScent$Sheet", "narrowed", "(I)I"⟩, 3) := ⟨⟨by decide +kernel, by decide +kernel⟩, List.mem_of_getElem? (i := 387) (by decide +kernel), List.mem_of_getElem? (i := 1117) (by decide +kernel), List.mem_of_getElem? (i := 1118) (by decide +kernel)⟩
theorem lw_p98 : lw_okq (⟨"HuntedScent$Sheet", "faultAs", "(III)I"⟩, 3) := ⟨⟨by decide +kernel, by decide +kernel⟩, List.mem_of_getElem? (i := 387) (by decide +kernel), List.mem_of_getElem? (i := 1125) (by decide +kernel), List.mem_of_getElem? (i := 1126) (by decide +kernel)⟩
theorem lw_p99 : lw_okq (⟨"HuntedScent$Sheet", "valueOf", "(I)I"⟩, 3) := ⟨⟨by decide +kernel, by decide +kernel⟩, List.mem_of_getElem? (i := 387) (by decide +kernel), List.mem_of_getElem? (i := 1130) (by decide +kernel), List.mem_of_getElem? (i := 1131) (by decide +kernel)⟩
theorem lw_p100 : lw_okq (⟨"HuntedScent$Trail", "smelling", "()I"⟩, 3) := ⟨⟨by decide +kernel, by decide +kernel⟩, List.mem_of_getElem? (i := 79) (by decide +kernel), List.mem_of_getElem? (i := 1143) (by decide +kernel), List.mem_of_getElem? (i := 1144) (by decide +kernel)⟩
theorem lw_p101 : lw_okq (⟨"HuntedScent", "imagesThere", "()I"⟩, 12) := ⟨⟨by decide +kernel, by decide +kernel⟩, List.mem_of_getElem? (i := 21) (by decide +kernel), List.mem_of_getElem? (i := 1147) (by decide +kernel), List.mem_of_getElem? (i := 1148) (by decide +kernel)⟩
theorem lw_p102 : lw_okq (⟨"HuntedScentModel", "firstDraft", "()V"⟩, 42) := ⟨⟨by decide +kernel, by decide +kernel⟩, List.mem_of_getElem? (i := 1151) (by decide +kernel), List.mem_of_getElem? (i := 1157) (by decide +kernel), List.mem_of_getElem? (i := 1158) (by decide +kernel)⟩
theorem lw_p103 : lw_okq (⟨"HuntedScentModel", "keepDraft", "()V"⟩, 42) := ⟨⟨by decide +kernel, by decide +kernel⟩, List.mem_of_getElem? (i := 1151) (by decide +kernel), List.mem_of_getElem? (i := 1161) (by decide +kernel), List.mem_of_getElem? (i := 1162) (by decide +kernel)⟩
theorem lw_p104 : lw_okq (⟨"HuntedScentModel", "next", "()V"⟩, 42) := ⟨⟨by decide +kernel, by decide +kernel⟩, List.mem_of_getElem? (i := 1151) (by decide +kernel), List.mem_of_getElem? (i := 1310) (by decide +kernel), List.mem_of_getElem? (i := 1311) (by decide +kernel)⟩
theorem lw_p105 : lw_okq (⟨"HuntedScentModel", "look", "(I)I"⟩, 42) := ⟨⟨by decide +kernel, by decide +kernel⟩, List.mem_of_getElem? (i := 1151) (by decide +kernel), List.mem_of_getElem? (i := 1314) (by decide +kernel), List.mem_of_getElem? (i := 1315) (by decide +kernel)⟩
theorem lw_p106 : lw_okq (⟨"HuntedScentModel", "needs", "(ZI)V"⟩, 42) := ⟨⟨by decide +kernel, by decide +kernel⟩, List.mem_of_getElem? (i := 1151) (by decide +kernel), List.mem_of_getElem? (i := 1322) (by decide +kernel), List.mem_of_getElem? (i := 1323) (by decide +kernel)⟩
theorem lw_p107 : lw_okq (⟨"HuntedScentModel", "readLine", "()V"⟩, 42) := ⟨⟨by decide +kernel, by decide +kernel⟩, List.mem_of_getElem? (i := 1151) (by decide +kernel), List.mem_of_getElem? (i := 1326) (by decide +kernel), List.mem_of_getElem? (i := 1327) (by decide +kernel)⟩
theorem lw_p108 : lw_okq (⟨"HuntedScentModel", "lineNow", "()I"⟩, 42) := ⟨⟨by decide +kernel, by decide +kernel⟩, List.mem_of_getElem? (i := 1151) (by decide +kernel), List.mem_of_getElem? (i := 1330) (by decide +kernel), List.mem_of_getElem? (i := 1331) (by decide +kernel)⟩
theorem lw_p109 : lw_okq (⟨"HuntedScentModel", "is", "(IIIIII)Z"⟩, 42) := ⟨⟨by decide +kernel, by decide +kernel⟩, List.mem_of_getElem? (i := 1151) (by decide +kernel), List.mem_of_getElem? (i := 1334) (by decide +kernel), List.mem_of_getElem? (i := 1335) (by decide +kernel)⟩
theorem lw_p110 : lw_okq (⟨"HuntedScentModel", "readLineOf", "(I)V"⟩, 42) := ⟨⟨by decide +kernel, by decide +kernel⟩, List.mem_of_getElem? (i := 1151) (by decide +kernel), List.mem_of_getElem? (i := 1338) (by decide +kernel), List.mem_of_getElem? (i := 1339) (by decide +kernel)⟩
theorem lw_p111 : lw_okq (⟨"HuntedScentModel", "readNumber", "(II)I"⟩, 42) := ⟨⟨by decide +kernel, by decide +kernel⟩, List.mem_of_getElem? (i := 1151) (by decide +kernel), List.mem_of_getElem? (i := 1342) (by decide +kernel), List.mem_of_getElem? (i := 1343) (by decide +kernel)⟩
def lw_privs_7 : List (MethodName × Nat) := [(⟨"HuntedScent$Sheet", "put", "(II)V"⟩, 3), (⟨"HuntedScent$Sheet", "narrowed", "(I)I"⟩, 3), (⟨"HuntedScent$Sheet", "faultAs", "(III)I"⟩, 3), (⟨"HuntedScent$Sheet", "valueOf", "(I)I"⟩, 3), (⟨"HuntedScent$Trail", "smelling", "()I"⟩, 3), (⟨"HuntedScent", "imagesThere", "()I"⟩, 12), (⟨"HuntedScentModel", "firstDraft", "()V"⟩, 42), (⟨"HuntedScentModel", "keepDraft", "()V"⟩, 42), (⟨"HuntedScentModel", "next", "()V"⟩, 42), (⟨"HuntedScentModel", "look", "(I)I"⟩, 42), (⟨"HuntedScentModel", "needs", "(ZI)V"⟩, 42), (⟨"HuntedScentModel", "readLine", "()V"⟩, 42), (⟨"HuntedScentModel", "lineNow", "()I"⟩, 42), (⟨"HuntedScentModel", "is", "(IIIIII)Z"⟩, 42), (⟨"HuntedScentModel", "readLineOf", "(I)V"⟩, 42), (⟨"HuntedScentModel", "readNumber", "(II)I"⟩, 42)]
theorem lw_r7 : ∀ q ∈ lw_privs_7, lw_okq q := List.forall_mem_cons.mpr ⟨lw_p96, List.forall_mem_cons.mpr ⟨lw_p97, List.forall_mem_cons.mpr ⟨lw_p98, List.forall_mem_cons.mpr ⟨lw_p99, List.forall_mem_cons.mpr ⟨lw_p100, List.forall_mem_cons.mpr ⟨lw_p101, List.forall_mem_cons.mpr ⟨lw_p102, List.forall_mem_cons.mpr ⟨lw_p103, List.forall_mem_cons.mpr ⟨lw_p104, List.forall_mem_cons.mpr ⟨lw_p105, List.forall_mem_cons.mpr ⟨lw_p106, List.forall_mem_cons.mpr ⟨lw_p107, List.forall_mem_cons.mpr ⟨lw_p108, List.forall_mem_cons.mpr ⟨lw_p109, List.forall_mem_cons.mpr ⟨lw_p110, List.forall_mem_cons.mpr ⟨lw_p111, fun _ h => absurd h List.not_mem_nil⟩⟩⟩⟩⟩⟩⟩⟩⟩⟩⟩⟩⟩⟩⟩⟩
theorem lw_p112 : lw_okq (⟨"HuntedScentModel", "looked", "(II)I"⟩, 42) := ⟨⟨by decide +kernel, by decide +kernel⟩, List.mem_of_getElem? (i := 1151) (by decide +kernel), List.mem_of_getElem? (i := 1346) (by decide +kernel), List.mem_of_getElem? (i := 1347) (by decide +kernel)⟩
theorem lw_p113 : lw_okq (⟨"HuntedScentModel", "readNode", "(I)I"⟩, 42) := ⟨⟨by decide +kernel, by decide +kernel⟩, List.mem_of_getElem? (i := 1151) (by decide +kernel), List.mem_of_getElem? (i := 1350) (by decide +kernel), List.mem_of_getElem? (i := 1351) (by decide +kernel)⟩
theorem lw_p114 : lw_okq (⟨"HuntedScentModel", "readLane", "()V"⟩, 42) := ⟨⟨by decide +kernel, by decide +kernel⟩, List.mem_of_getElem? (i := 1151) (by decide +kernel), List.mem_of_getElem? (i := 1354) (by decide +kernel), List.mem_of_getElem? (i := 1355) (by decide +kernel)⟩
theorem lw_p115 : lw_okq (⟨"HuntedScentModel", "readSmelt", "()V"⟩, 42) := ⟨⟨by decide +kernel, by decide +kernel⟩, List.mem_of_getElem? (i := 1151) (by decide +kernel), List.mem_of_getElem? (i := 1358) (by decide +kernel), List.mem_of_getElem? (i := 1359) (by decide +kernel)⟩
theorem lw_p116 : lw_okq (⟨"HuntedScentModel", "isNode", "(I)Z"⟩, 42) := ⟨⟨by decide +kernel, by decide +kernel⟩, List.mem_of_getElem? (i := 1151) (by decide +kernel), List.mem_of_getElem? (i := 1377) (by decide +kernel), List.mem_of_getElem? (i := 1378) (by decide +kernel)⟩
theorem lw_p117 : lw_okq (⟨"HuntedScentModel", "isJoined", "(II)Z"⟩, 42) := ⟨⟨by decide +kernel, by decide +kernel⟩, List.mem_of_getElem? (i := 1151) (by decide +kernel), List.mem_of_getElem? (i := 1385) (by decide +kernel), List.mem_of_getElem? (i := 1386) (by decide +kernel)⟩
theorem lw_p118 : lw_okq (⟨"HuntedScentModel", "joins", "(IIZ)V"⟩, 42) := ⟨⟨by decide +kernel, by decide +kernel⟩, List.mem_of_getElem? (i := 1151) (by decide +kernel), List.mem_of_getElem? (i := 1392) (by decide +kernel), List.mem_of_getElem? (i := 1393) (by decide +kernel)⟩
theorem lw_p119 : lw_okq (⟨"HuntedScentModel", "findSteps", "(I)V"⟩, 42) := ⟨⟨by decide +kernel, by decide +kernel⟩, List.mem_of_getElem? (i := 1151) (by decide +kernel), List.mem_of_getElem? (i := 1404) (by decide +kernel), List.mem_of_getElem? (i := 1405) (by decide +kernel)⟩
theorem lw_p120 : lw_okq (⟨"HuntedScentModel", "isWater", "(I)Z"⟩, 42) := ⟨⟨by decide +kernel, by decide +kernel⟩, List.mem_of_getElem? (i := 1151) (by decide +kernel), List.mem_of_getElem? (i := 1413) (by decide +kernel), List.mem_of_getElem? (i := 1414) (by decide +kernel)⟩
theorem lw_p121 : lw_okq (⟨"HuntedScentModel", "isMove", "(II)Z"⟩, 42) := ⟨⟨by decide +kernel, by decide +kernel⟩, List.mem_of_getElem? (i := 1151) (by decide +kernel), List.mem_of_getElem? (i := 1421) (by decide +kernel), List.mem_of_getElem? (i := 1422) (by decide +kernel)⟩
theorem lw_p122 : lw_okq (⟨"HuntedScentModel", "smellThen", "(III)I"⟩, 42) := ⟨⟨by decide +kernel, by decide +kernel⟩, List.mem_of_getElem? (i := 1151) (by decide +kernel), List.mem_of_getElem? (i := 1425) (by decide +kernel), List.mem_of_getElem? (i := 1426) (by decide +kernel)⟩
theorem lw_p123 : lw_okq (⟨"HuntedScentModel", "findWays", "(IIZ)V"⟩, 42) := ⟨⟨by decide +kernel, by decide +kernel⟩, List.mem_of_getElem? (i := 1151) (by decide +kernel), List.mem_of_getElem? (i := 1454) (by decide +kernel), List.mem_of_getElem? (i := 1455) (by decide +kernel)⟩
theorem lw_p124 : lw_okq (⟨"HuntedScentModel", "isStart", "(I)Z"⟩, 42) := ⟨⟨by decide +kernel, by decide +kernel⟩, List.mem_of_getElem? (i := 1151) (by decide +kernel), List.mem_of_getElem? (i := 1458) (by decide +kernel), List.mem_of_getElem? (i := 1459) (by decide +kernel)⟩
theorem lw_p125 : lw_okq (⟨"HuntedScentModel", "stepsTo", "(II)V"⟩, 42) := ⟨⟨by decide +kernel, by decide +kernel⟩, List.mem_of_getElem? (i := 1151) (by decide +kernel), List.mem_of_getElem? (i := 1462) (by decide +kernel), List.mem_of_getElem? (i := 1463) (by decide +kernel)⟩
theorem lw_p126 : lw_okq (⟨"HuntedScentModel", "isSmelt", "(II)Z"⟩, 42) := ⟨⟨by decide +kernel, by decide +kernel⟩, List.mem_of_getElem? (i := 1151) (by decide +kernel), List.mem_of_getElem? (i := 1466) (by decide +kernel), List.mem_of_getElem? (i := 1467) (by decide +kernel)⟩
theorem lw_p127 : lw_okq (⟨"HuntedScentModel", "takesWay", "(I)V"⟩, 42) := ⟨⟨by decide +kernel, by decide +kernel⟩, List.mem_of_getElem? (i := 1151) (by decide +kernel), List.mem_of_getElem? (i := 1470) (by decide +kernel), List.mem_of_getElem? (i := 1471) (by decide +kernel)⟩
def lw_privs_8 : List (MethodName × Nat) := [(⟨"HuntedScentModel", "looked", "(II)I"⟩, 42), (⟨"HuntedScentModel", "readNode", "(I)I"⟩, 42), (⟨"HuntedScentModel", "readLane", "()V"⟩, 42), (⟨"HuntedScentModel", "readSmelt", "()V"⟩, 42), (⟨"HuntedScentModel", "isNode", "(I)Z"⟩, 42), (⟨"HuntedScentModel", "isJoined", "(II)Z"⟩, 42), (⟨"HuntedScentModel", "joins", "(IIZ)V"⟩, 42), (⟨"HuntedScentModel", "findSteps", "(I)V"⟩, 42), (⟨"HuntedScentModel", "isWater", "(I)Z"⟩, 42), (⟨"HuntedScentModel", "isMove", "(II)Z"⟩, 42), (⟨"HuntedScentModel", "smellThen", "(III)I"⟩, 42), (⟨"HuntedScentModel", "findWays", "(IIZ)V"⟩, 42), (⟨"HuntedScentModel", "isStart", "(I)Z"⟩, 42), (⟨"HuntedScentModel", "stepsTo", "(II)V"⟩, 42), (⟨"HuntedScentModel", "isSmelt", "(II)Z"⟩, 42), (⟨"HuntedScentModel", "takesWay", "(I)V"⟩, 42)]
theorem lw_r8 : ∀ q ∈ lw_privs_8, lw_okq q := List.forall_mem_cons.mpr ⟨lw_p112, List.forall_mem_cons.mpr ⟨lw_p113, List.forall_mem_cons.mpr ⟨lw_p114, List.forall_mem_cons.mpr ⟨lw_p115, List.forall_mem_cons.mpr ⟨lw_p116, List.forall_mem_cons.mpr ⟨lw_p117, List.forall_mem_cons.mpr ⟨lw_p118, List.forall_mem_cons.mpr ⟨lw_p119, List.forall_mem_cons.mpr ⟨lw_p120, List.forall_mem_cons.mpr ⟨lw_p121, List.forall_mem_cons.mpr ⟨lw_p122, List.forall_mem_cons.mpr ⟨lw_p123, List.forall_mem_cons.mpr ⟨lw_p124, List.forall_mem_cons.mpr ⟨lw_p125, List.forall_mem_cons.mpr ⟨lw_p126, List.forall_mem_cons.mpr ⟨lw_p127, fun _ h => absurd h List.not_mem_nil⟩⟩⟩⟩⟩⟩⟩⟩⟩⟩⟩⟩⟩⟩⟩⟩
theorem lw_p128 : lw_okq (⟨"HuntedScentModel", "areNodes", "(I)Z"⟩, 42) := ⟨⟨by decide +kernel, by decide +kernel⟩, List.mem_of_getElem? (i := 1151) (by decide +kernel), List.mem_of_getElem? (i := 1495) (by decide +kernel), List.mem_of_getElem? (i := 1496) (by decide +kernel)⟩
theorem lw_p129 : lw_okq (⟨"HuntedScentModel", "findDoubt", "(III)I"⟩, 42) := ⟨⟨by decide +kernel, by decide +kernel⟩, List.mem_of_getElem? (i := 1151) (by decide +kernel), List.mem_of_getElem? (i := 1500) (by decide +kernel), List.mem_of_getElem? (i := 1501) (by decide +kernel)⟩
theorem lw_p130 : lw_okq (⟨"HuntedScentModel", "takesDoubt", "(II)V"⟩, 42) := ⟨⟨by decide +kernel, by decide +kernel⟩, List.mem_of_getElem? (i := 1151) (by decide +kernel), List.mem_of_getElem? (i := 1504) (by decide +kernel), List.mem_of_getElem? (i := 1505) (by decide +kernel)⟩
theorem lw_p131 : lw_okq (⟨"HuntedScentModel", "smeltAt", "(II)J"⟩, 42) := ⟨⟨by decide +kernel, by decide +kernel⟩, List.mem_of_getElem? (i := 1151) (by decide +kernel), List.mem_of_getElem? (i := 1508) (by decide +kernel), List.mem_of_getElem? (i := 1509) (by decide +kernel)⟩
theorem lw_p132 : lw_okq (⟨"HuntedScentModel", "slotOf", "(JJJ)I"⟩, 42) := ⟨⟨by decide +kernel, by decide +kernel⟩, List.mem_of_getElem? (i := 1151) (by decide +kernel), List.mem_of_getElem? (i := 1513) (by decide +kernel), List.mem_of_getElem? (i := 1514) (by decide +kernel)⟩
theorem lw_p133 : lw_okq (⟨"HuntedScentModel", "findFewest", "(I)V"⟩, 42) := ⟨⟨by decide +kernel, by decide +kernel⟩, List.mem_of_getElem? (i := 1151) (by decide +kernel), List.mem_of_getElem? (i := 1529) (by decide +kernel), List.mem_of_getElem? (i := 1530) (by decide +kernel)⟩
theorem lw_p134 : lw_okq (⟨"HuntedScentModel", "findNextSets", "()V"⟩, 42) := ⟨⟨by decide +kernel, by decide +kernel⟩, List.mem_of_getElem? (i := 1151) (by decide +kernel), List.mem_of_getElem? (i := 1533) (by decide +kernel), List.mem_of_getElem? (i := 1534) (by decide +kernel)⟩
theorem lw_p135 : lw_okq (⟨"HuntedScentModel", "canBy", "(III)Z"⟩, 42) := ⟨⟨by decide +kernel, by decide +kernel⟩, List.mem_of_getElem? (i := 1151) (by decide +kernel), List.mem_of_getElem? (i := 1537) (by decide +kernel), List.mem_of_getElem? (i := 1538) (by decide +kernel)⟩
theorem lw_p136 : lw_okq (⟨"HuntedScentModel", "areThere", "(III)Z"⟩, 42) := ⟨⟨by decide +kernel, by decide +kernel⟩, List.mem_of_getElem? (i := 1151) (by decide +kernel), List.mem_of_getElem? (i := 1553) (by decide +kernel), List.mem_of_getElem? (i := 1554) (by decide +kernel)⟩
theorem lw_p137 : lw_okq (⟨"HuntedScentModel", "findCaught", "()V"⟩, 42) := ⟨⟨by decide +kernel, by decide +kernel⟩, List.mem_of_getElem? (i := 1151) (by decide +kernel), List.mem_of_getElem? (i := 1557) (by decide +kernel), List.mem_of_getElem? (i := 1558) (by decide +kernel)⟩
theorem lw_p138 : lw_okq (⟨"HuntedScentModel", "huntedBy", "(III)I"⟩, 42) := ⟨⟨by decide +kernel, by decide +kernel⟩, List.mem_of_getElem? (i := 1151) (by decide +kernel), List.mem_of_getElem? (i := 1561) (by decide +kernel), List.mem_of_getElem? (i := 1562) (by decide +kernel)⟩
theorem lw_p139 : lw_okq (⟨"HuntedScentModel", "mostBy", "(III)I"⟩, 42) := ⟨⟨by decide +kernel, by decide +kernel⟩, List.mem_of_getElem? (i := 1151) (by decide +kernel), List.mem_of_getElem? (i := 1568) (by decide +kernel), List.mem_of_getElem? (i := 1569) (by decide +kernel)⟩
theorem lw_p140 : lw_okq (⟨"HuntedScentModel", "mayMove", "(II)Z"⟩, 42) := ⟨⟨by decide +kernel, by decide +kernel⟩, List.mem_of_getElem? (i := 1151) (by decide +kernel), List.mem_of_getElem? (i := 1572) (by decide +kernel), List.mem_of_getElem? (i := 1573) (by decide +kernel)⟩
theorem lw_p141 : lw_okq (⟨"HuntedScentModel", "byMove", "(III)I"⟩, 42) := ⟨⟨by decide +kernel, by decide +kernel⟩, List.mem_of_getElem? (i := 1151) (by decide +kernel), List.mem_of_getElem? (i := 1576) (by decide +kernel), List.mem_of_getElem? (i := 1577) (by decide +kernel)⟩
theorem lw_p142 : lw_okq (⟨"HuntedScentModel", "openTo", "(II)I"⟩, 42) := ⟨⟨by decide +kernel, by decide +kernel⟩, List.mem_of_getElem? (i := 1151) (by decide +kernel), List.mem_of_getElem? (i := 1592) (by decide +kernel), List.mem_of_getElem? (i := 1593) (by decide +kernel)⟩
theorem lw_p143 : lw_okq (⟨"HuntedScentModel", "hunt", "()Z"⟩, 42) := ⟨⟨by decide +kernel, by decide +kernel⟩, List.mem_of_getElem? (i := 1151) (by decide +kernel), List.mem_of_getElem? (i := 1605) (by decide +kernel), List.mem_of_getElem? (i := 1606) (by decide +kernel)⟩
def lw_privs_9 : List (MethodName × Nat) := [(⟨"HuntedScentModel", "areNodes", "(I)Z"⟩, 42), (⟨"HuntedScentModel", "findDoubt", "(III)I"⟩, 42), (⟨"HuntedScentModel", "takesDoubt", "(II)V"⟩, 42), (⟨"HuntedScentModel", "smeltAt", "(II)J"⟩, 42), (⟨"HuntedScentModel", "slotOf", "(JJJ)I"⟩, 42), (⟨"HuntedScentModel", "findFewest", "(I)V"⟩, 42), (⟨"HuntedScentModel", "findNextSets", "()V"⟩, 42), (⟨"HuntedScentModel", "canBy", "(III)Z"⟩, 42), (⟨"HuntedScentModel", "areThere", "(III)Z"⟩, 42), (⟨"HuntedScentModel", "findCaught", "()V"⟩, 42), (⟨"HuntedScentModel", "huntedBy", "(III)I"⟩, 42), (⟨"HuntedScentModel", "mostBy", "(III)I"⟩, 42), (⟨"HuntedScentModel", "mayMove", "(II)Z"⟩, 42), (⟨"HuntedScentModel", "byMove", "(III)I"⟩, 42), (⟨"HuntedScentModel", "openTo", "(II)I"⟩, 42), (⟨"HuntedScentModel", "hunt", "()Z"⟩, 42)]
theorem lw_r9 : ∀ q ∈ lw_privs_9, lw_okq q := List.forall_mem_cons.mpr ⟨lw_p128, List.forall_mem_cons.mpr ⟨lw_p129, List.forall_mem_cons.mpr ⟨lw_p130, List.forall_mem_cons.mpr ⟨lw_p131, List.forall_mem_cons.mpr ⟨lw_p132, List.forall_mem_cons.mpr ⟨lw_p133, List.forall_mem_cons.mpr ⟨lw_p134, List.forall_mem_cons.mpr ⟨lw_p135, List.forall_mem_cons.mpr ⟨lw_p136, List.forall_mem_cons.mpr ⟨lw_p137, List.forall_mem_cons.mpr ⟨lw_p138, List.forall_mem_cons.mpr ⟨lw_p139, List.forall_mem_cons.mpr ⟨lw_p140, List.forall_mem_cons.mpr ⟨lw_p141, List.forall_mem_cons.mpr ⟨lw_p142, List.forall_mem_cons.mpr ⟨lw_p143, fun _ h => absurd h List.not_mem_nil⟩⟩⟩⟩⟩⟩⟩⟩⟩⟩⟩⟩⟩⟩⟩⟩
theorem lw_p144 : lw_okq (⟨"HuntedScentModel", "draw", "(I)I"⟩, 42) := ⟨⟨by decide +kernel, by decide +kernel⟩, List.mem_of_getElem? (i := 1151) (by decide +kernel), List.mem_of_getElem? (i := 1609) (by decide +kernel), List.mem_of_getElem? (i := 1610) (by decide +kernel)⟩
theorem lw_p145 : lw_okq (⟨"HuntedScentModel", "drawOf", "(I)I"⟩, 42) := ⟨⟨by decide +kernel, by decide +kernel⟩, List.mem_of_getElem? (i := 1151) (by decide +kernel), List.mem_of_getElem? (i := 1614) (by decide +kernel), List.mem_of_getElem? (i := 1615) (by decide +kernel)⟩
theorem lw_p146 : lw_okq (⟨"HuntedScentModel", "strongest", "(I)I"⟩, 42) := ⟨⟨by decide +kernel, by decide +kernel⟩, List.mem_of_getElem? (i := 1151) (by decide +kernel), List.mem_of_getElem? (i := 1618) (by decide +kernel), List.mem_of_getElem? (i := 1619) (by decide +kernel)⟩
theorem lw_p147 : lw_okq (⟨"HuntedScentModel", "copies", "(II)V"⟩, 42) := ⟨⟨by decide +kernel, by decide +kernel⟩, List.mem_of_getElem? (i := 1151) (by decide +kernel), List.mem_of_getElem? (i := 1626) (by decide +kernel), List.mem_of_getElem? (i := 1627) (by decide +kernel)⟩
def lw_privs_10 : List (MethodName × Nat) := [(⟨"HuntedScentModel", "draw", "(I)I"⟩, 42), (⟨"HuntedScentModel", "drawOf", "(I)I"⟩, 42), (⟨"HuntedScentModel", "strongest", "(I)I"⟩, 42), (⟨"HuntedScentModel", "copies", "(II)V"⟩, 42)]
theorem lw_r10 : ∀ q ∈ lw_privs_10, lw_okq q := List.forall_mem_cons.mpr ⟨lw_p144, List.forall_mem_cons.mpr ⟨lw_p145, List.forall_mem_cons.mpr ⟨lw_p146, List.forall_mem_cons.mpr ⟨lw_p147, fun _ h => absurd h List.not_mem_nil⟩⟩⟩⟩
def lw_privs : List (MethodName × Nat) := lw_privs_1 ++ (lw_privs_2 ++ (lw_privs_3 ++ (lw_privs_4 ++ (lw_privs_5 ++ (lw_privs_6 ++ (lw_privs_7 ++ (lw_privs_8 ++ (lw_privs_9 ++ (lw_privs_10)))))))))
def lw_tbl : List Cond := k2_sels lw_privs ++ tables_1
theorem lw_privs_ok : ∀ q ∈ lw_privs, lw_okq q := by
  show ∀ q ∈ lw_privs_1 ++ (lw_privs_2 ++ (lw_privs_3 ++ (lw_privs_4 ++ (lw_privs_5 ++ (lw_privs_6 ++ (lw_privs_7 ++ (lw_privs_8 ++ (lw_privs_9 ++ (lw_privs_10))))))))), lw_okq q
  exact List.forall_mem_append.mpr ⟨lw_r1, List.forall_mem_append.mpr ⟨lw_r2, List.forall_mem_append.mpr ⟨lw_r3, List.forall_mem_append.mpr ⟨lw_r4, List.forall_mem_append.mpr ⟨lw_r5, List.forall_mem_append.mpr ⟨lw_r6, List.forall_mem_append.mpr ⟨lw_r7, List.forall_mem_append.mpr ⟨lw_r8, List.forall_mem_append.mpr ⟨lw_r9, lw_r10⟩⟩⟩⟩⟩⟩⟩⟩⟩
-- ===== end of PART A; then your names; then what follows =====
def RX0 : String := "HuntedScent$Caster"
def TX0 : u_T := fun k => match k with
  | 0 => ("HuntedScent$Caster", "net", "LHuntedScent$Net;", true)
  | 1 => ("HuntedScent$Caster", "later", "[I", true)
  | 2 => ("HuntedScent$Caster", "origin", "[I", true)
  | 3 => ("HuntedScent$Caster", "queue", "[I", true)
  | 4 => ("HuntedScent$Caster", "throwable", "[I", true)
  | 5 => ("HuntedScent$Caster", "throwables", "I", false)
  | 6 => ("HuntedScent$Caster", "hounds", "I", false)
  | 7 => ("HuntedScent$Caster", "turns", "I", false)
  | 8 => ("HuntedScent$Caster", "lastSet", "I", false)
  | 9 => ("HuntedScent$Caster", "knownHounds", "I", false)
  | 10 => ("HuntedScent$Caster", "knownSome", "I", false)
  | _ => ("HuntedScent$Caster", "knownNet", "I", false)
def tyX0 : Nat → FieldType := fun k => match k with
  | 0 => .object "HuntedScent$Net"
  | 1 => .array .int
  | 2 => .array .int
  | 3 => .array .int
  | 4 => .array .int
  | 5 => .int
  | 6 => .int
  | 7 => .int
  | 8 => .int
  | 9 => .int
  | 10 => .int
  | _ => .int
abbrev wsX00 : List Cond := u_ws RX0 TX0 12
theorem nmX0 : ∀ a, a < 12 → ∀ b, b < 12 → a ≠ b → (TX0 a).2.1 ≠ (TX0 b).2.1 := by decide +kernel
theorem tyX0_ok : ∀ k, k < 12 → parseFieldDescriptor (TX0 k).2.2.1 = some (tyX0 k) := by decide +kernel
def RX1 : String := "HuntedScent$Chase"
def TX1 : u_T := fun k => match k with
  | 0 => ("HuntedScent$Chase", "net", "LHuntedScent$Net;", true)
  | 1 => ("HuntedScent$Chase", "turns", "[I", true)
  | 2 => ("HuntedScent$Chase", "lost", "[I", true)
  | 3 => ("HuntedScent$Chase", "lostNext", "[I", true)
  | 4 => ("HuntedScent$Chase", "known", "Z", false)
  | _ => ("HuntedScent$Chase", "knownNet", "I", false)
def tyX1 : Nat → FieldType := fun k => match k with
  | 0 => .object "HuntedScent$Net"
  | 1 => .array .int
  | 2 => .array .int
  | 3 => .array .int
  | 4 => .boolean
  | _ => .int
abbrev wsX10 : List Cond := u_ws RX1 TX1 6
theorem nmX1 : ∀ a, a < 6 → ∀ b, b < 6 → a ≠ b → (TX1 a).2.1 ≠ (TX1 b).2.1 := by decide +kernel
theorem tyX1_ok : ∀ k, k < 6 → parseFieldDescriptor (TX1 k).2.2.1 = some (tyX1 k) := by decide +kernel
def RX2 : String := "HuntedScent$Doubter"
def TX2 : u_T := fun k => match k with
  | 0 => ("HuntedScent$Doubter", "net", "LHuntedScent$Net;", true)
  | 1 => ("HuntedScent$Doubter", "most", "I", false)
  | 2 => ("HuntedScent$Doubter", "turns", "I", false)
  | 3 => ("HuntedScent$Doubter", "telling", "I", false)
  | _ => ("HuntedScent$Doubter", "route", "I", false)
def tyX2 : Nat → FieldType := fun k => match k with
  | 0 => .object "HuntedScent$Net"
  | 1 => .int
  | 2 => .int
  | 3 => .int
  | _ => .int
abbrev wsX20 : List Cond := u_ws RX2 TX2 5
theorem nmX2 : ∀ a, a < 5 → ∀ b, b < 5 → a ≠ b → (TX2 a).2.1 ≠ (TX2 b).2.1 := by decide +kernel
theorem tyX2_ok : ∀ k, k < 5 → parseFieldDescriptor (TX2 k).2.2.1 = some (tyX2 k) := by decide +kernel
def RX3 : String := "HuntedScent$Image"
def TX3 : u_T := fun k => match k with
  | 0 => ("HuntedScent$Image", "net", "LHuntedScent$Net;", true)
  | 1 => ("HuntedScent$Image", "trail", "LHuntedScent$Trail;", true)
  | 2 => ("HuntedScent$Image", "notes", "LHuntedScent$Notes;", true)
  | _ => ("HuntedScent$Image", "there", "Z", false)
def tyX3 : Nat → FieldType := fun k => match k with
  | 0 => .object "HuntedScent$Net"
  | 1 => .object "HuntedScent$Trail"
  | 2 => .object "HuntedScent$Notes"
  | _ => .boolean
abbrev wsX30 : List Cond := u_ws RX3 TX3 4
theorem nmX3 : ∀ a, a < 4 → ∀ b, b < 4 → a ≠ b → (TX3 a).2.1 ≠ (TX3 b).2.1 := by decide +kernel
theorem tyX3_ok : ∀ k, k < 4 → parseFieldDescriptor (TX3 k).2.2.1 = some (tyX3 k) := by decide +kernel
def RX4 : String := "HuntedScent$Net"
def TX4 : u_T := fun k => match k with
  | 0 => ("HuntedScent$Net", "joined", "[I", true)
  | 1 => ("HuntedScent$Net", "nodes", "I", false)
  | 2 => ("HuntedScent$Net", "rest", "I", false)
  | 3 => ("HuntedScent$Net", "startsAt", "I", false)
  | 4 => ("HuntedScent$Net", "water", "I", false)
  | 5 => ("HuntedScent$Net", "holes", "I", false)
  | _ => ("HuntedScent$Net", "changes", "I", false)
def tyX4 : Nat → FieldType := fun k => match k with
  | 0 => .array .int
  | 1 => .int
  | 2 => .int
  | 3 => .int
  | 4 => .int
  | 5 => .int
  | _ => .int
abbrev wsX40 : List Cond := u_ws RX4 TX4 7
theorem nmX4 : ∀ a, a < 7 → ∀ b, b < 7 → a ≠ b → (TX4 a).2.1 ≠ (TX4 b).2.1 := by decide +kernel
theorem tyX4_ok : ∀ k, k < 7 → parseFieldDescriptor (TX4 k).2.2.1 = some (tyX4 k) := by decide +kernel
def RX5 : String := "HuntedScent$Notes"
def TX5 : u_T := fun k => match k with
  | 0 => ("HuntedScent$Notes", "turns", "[I", true)
  | 1 => ("HuntedScent$Notes", "nodes", "[I", true)
  | 2 => ("HuntedScent$Notes", "strengths", "[I", true)
  | 3 => ("HuntedScent$Notes", "size", "I", false)
  | _ => ("HuntedScent$Notes", "changes", "I", false)
def tyX5 : Nat → FieldType := fun k => match k with
  | 0 => .array .int
  | 1 => .array .int
  | 2 => .array .int
  | 3 => .int
  | _ => .int
abbrev wsX50 : List Cond := u_ws RX5 TX5 5
theorem nmX5 : ∀ a, a < 5 → ∀ b, b < 5 → a ≠ b → (TX5 a).2.1 ≠ (TX5 b).2.1 := by decide +kernel
theorem tyX5_ok : ∀ k, k < 5 → parseFieldDescriptor (TX5 k).2.2.1 = some (tyX5 k) := by decide +kernel
def RX6 : String := "HuntedScent$Reader"
def TX6 : u_T := fun k => match k with
  | 0 => ("HuntedScent$Reader", "tape", "[I", true)
  | 1 => ("HuntedScent$Reader", "net", "LHuntedScent$Net;", true)
  | 2 => ("HuntedScent$Reader", "notes", "LHuntedScent$Notes;", true)
  | 3 => ("HuntedScent$Reader", "size", "I", false)
  | 4 => ("HuntedScent$Reader", "at", "I", false)
  | 5 => ("HuntedScent$Reader", "kind", "I", false)
  | 6 => ("HuntedScent$Reader", "from", "I", false)
  | 7 => ("HuntedScent$Reader", "value", "I", false)
  | 8 => ("HuntedScent$Reader", "told", "I", false)
  | 9 => ("HuntedScent$Reader", "named", "I", false)
  | 10 => ("HuntedScent$Reader", "fault", "I", false)
  | _ => ("HuntedScent$Reader", "place", "I", false)
def tyX6 : Nat → FieldType := fun k => match k with
  | 0 => .array .int
  | 1 => .object "HuntedScent$Net"
  | 2 => .object "HuntedScent$Notes"
  | 3 => .int
  | 4 => .int
  | 5 => .int
  | 6 => .int
  | 7 => .int
  | 8 => .int
  | 9 => .int
  | 10 => .int
  | _ => .int
abbrev wsX60 : List Cond := u_ws RX6 TX6 12
theorem nmX6 : ∀ a, a < 12 → ∀ b, b < 12 → a ≠ b → (TX6 a).2.1 ≠ (TX6 b).2.1 := by decide +kernel
theorem tyX6_ok : ∀ k, k < 12 → parseFieldDescriptor (TX6 k).2.2.1 = some (tyX6 k) := by decide +kernel
def RX7 : String := "HuntedScent$Seasons"
def TX7 : u_T := fun k => match k with
  | 0 => ("HuntedScent$Seasons", "net", "LHuntedScent$Net;", true)
  | 1 => ("HuntedScent$Seasons", "trail", "LHuntedScent$Trail;", true)
  | 2 => ("HuntedScent$Seasons", "seed", "I", false)
  | 3 => ("HuntedScent$Seasons", "caughtFoxes", "I", false)
  | _ => ("HuntedScent$Seasons", "turns", "I", false)
def tyX7 : Nat → FieldType := fun k => match k with
  | 0 => .object "HuntedScent$Net"
  | 1 => .object "HuntedScent$Trail"
  | 2 => .int
  | 3 => .int
  | _ => .int
abbrev wsX70 : List Cond := u_ws RX7 TX7 5
theorem nmX7 : ∀ a, a < 5 → ∀ b, b < 5 → a ≠ b → (TX7 a).2.1 ≠ (TX7 b).2.1 := by decide +kernel
theorem tyX7_ok : ∀ k, k < 5 → parseFieldDescriptor (TX7 k).2.2.1 = some (tyX7 k) := by decide +kernel
def RX8 : String := "HuntedScent$Sheet"
def TX8 : u_T := fun k => match k with
  | 0 => ("HuntedScent$Sheet", "cells", "[I", true)
  | 1 => ("HuntedScent$Sheet", "lane", "I", false)
  | _ => ("HuntedScent$Sheet", "size", "I", false)
def tyX8 : Nat → FieldType := fun k => match k with
  | 0 => .array .int
  | 1 => .int
  | _ => .int
abbrev wsX80 : List Cond := u_ws RX8 TX8 3
theorem nmX8 : ∀ a, a < 3 → ∀ b, b < 3 → a ≠ b → (TX8 a).2.1 ≠ (TX8 b).2.1 := by decide +kernel
theorem tyX8_ok : ∀ k, k < 3 → parseFieldDescriptor (TX8 k).2.2.1 = some (tyX8 k) := by decide +kernel
def RX9 : String := "HuntedScent$Trail"
def TX9 : u_T := fun k => match k with
  | 0 => ("HuntedScent$Trail", "smells", "[I", true)
  | 1 => ("HuntedScent$Trail", "place", "I", false)
  | _ => ("HuntedScent$Trail", "moves", "I", false)
def tyX9 : Nat → FieldType := fun k => match k with
  | 0 => .array .int
  | 1 => .int
  | _ => .int
abbrev wsX90 : List Cond := u_ws RX9 TX9 3
theorem nmX9 : ∀ a, a < 3 → ∀ b, b < 3 → a ≠ b → (TX9 a).2.1 ≠ (TX9 b).2.1 := by decide +kernel
theorem tyX9_ok : ∀ k, k < 3 → parseFieldDescriptor (TX9 k).2.2.1 = some (tyX9 k) := by decide +kernel
def RX10 : String := "HuntedScent$Wayfinder"
def TX10 : u_T := fun k => match k with
  | 0 => ("HuntedScent$Wayfinder", "net", "LHuntedScent$Net;", true)
  | 1 => ("HuntedScent$Wayfinder", "notes", "LHuntedScent$Notes;", true)
  | 2 => ("HuntedScent$Wayfinder", "smells", "[[I", true)
  | 3 => ("HuntedScent$Wayfinder", "walks", "[[I", true)
  | 4 => ("HuntedScent$Wayfinder", "onward", "[I", true)
  | 5 => ("HuntedScent$Wayfinder", "path", "[I", true)
  | 6 => ("HuntedScent$Wayfinder", "reached", "[I", true)
  | 7 => ("HuntedScent$Wayfinder", "first", "[I", true)
  | 8 => ("HuntedScent$Wayfinder", "total", "I", false)
  | 9 => ("HuntedScent$Wayfinder", "turns", "I", false)
  | 10 => ("HuntedScent$Wayfinder", "heeded", "I", false)
  | 11 => ("HuntedScent$Wayfinder", "lastSmelt", "I", false)
  | 12 => ("HuntedScent$Wayfinder", "justOne", "Z", false)
  | 13 => ("HuntedScent$Wayfinder", "found", "Z", false)
  | 14 => ("HuntedScent$Wayfinder", "knownTurns", "I", false)
  | 15 => ("HuntedScent$Wayfinder", "knownNet", "I", false)
  | _ => ("HuntedScent$Wayfinder", "knownNotes", "I", false)
def tyX10 : Nat → FieldType := fun k => match k with
  | 0 => .object "HuntedScent$Net"
  | 1 => .object "HuntedScent$Notes"
  | 2 => .array (.array .int)
  | 3 => .array (.array .int)
  | 4 => .array .int
  | 5 => .array .int
  | 6 => .array .int
  | 7 => .array .int
  | 8 => .int
  | 9 => .int
  | 10 => .int
  | 11 => .int
  | 12 => .boolean
  | 13 => .boolean
  | 14 => .int
  | 15 => .int
  | _ => .int
abbrev wsX100 : List Cond := u_ws RX10 TX10 17
theorem nmX10 : ∀ a, a < 17 → ∀ b, b < 17 → a ≠ b → (TX10 a).2.1 ≠ (TX10 b).2.1 := by decide +kernel
theorem tyX10_ok : ∀ k, k < 17 → parseFieldDescriptor (TX10 k).2.2.1 = some (tyX10 k) := by decide +kernel
def RX11 : String := "HuntedScent"
def TX11 : u_T := fun k => match k with
  | 0 => ("HuntedScent", "net", "LHuntedScent$Net;", true)
  | 1 => ("HuntedScent", "trail", "LHuntedScent$Trail;", true)
  | 2 => ("HuntedScent", "notes", "LHuntedScent$Notes;", true)
  | 3 => ("HuntedScent", "reader", "LHuntedScent$Reader;", true)
  | 4 => ("HuntedScent", "wayfinder", "LHuntedScent$Wayfinder;", true)
  | 5 => ("HuntedScent", "doubter", "LHuntedScent$Doubter;", true)
  | 6 => ("HuntedScent", "caster", "LHuntedScent$Caster;", true)
  | 7 => ("HuntedScent", "chase", "LHuntedScent$Chase;", true)
  | 8 => ("HuntedScent", "seasons", "LHuntedScent$Seasons;", true)
  | 9 => ("HuntedScent", "images", "[LHuntedScent$Image;", true)
  | 10 => ("HuntedScent", "sheets", "[LHuntedScent$Sheet;", true)
  | _ => ("HuntedScent", "torn", "I", false)
def tyX11 : Nat → FieldType := fun k => match k with
  | 0 => .object "HuntedScent$Net"
  | 1 => .object "HuntedScent$Trail"
  | 2 => .object "HuntedScent$Notes"
  | 3 => .object "HuntedScent$Reader"
  | 4 => .object "HuntedScent$Wayfinder"
  | 5 => .object "HuntedScent$Doubter"
  | 6 => .object "HuntedScent$Caster"
  | 7 => .object "HuntedScent$Chase"
  | 8 => .object "HuntedScent$Seasons"
  | 9 => .array (.object "HuntedScent$Image")
  | 10 => .array (.object "HuntedScent$Sheet")
  | _ => .int
abbrev wsX110 : List Cond := u_ws RX11 TX11 12
theorem nmX11 : ∀ a, a < 12 → ∀ b, b < 12 → a ≠ b → (TX11 a).2.1 ≠ (TX11 b).2.1 := by decide +kernel
theorem tyX11_ok : ∀ k, k < 12 → parseFieldDescriptor (TX11 k).2.2.1 = some (tyX11 k) := by decide +kernel
def RX12 : String := "HuntedScentModel"
def TX12 : u_T := fun k => match k with
  | 0 => ("HuntedScentModel", "st", "[I", true)
  | 1 => ("HuntedScentModel", "isKept", "[Z", true)
  | 2 => ("HuntedScentModel", "nodes", "I", false)
  | 3 => ("HuntedScentModel", "rest", "I", false)
  | 4 => ("HuntedScentModel", "water", "I", false)
  | 5 => ("HuntedScentModel", "holes", "I", false)
  | 6 => ("HuntedScentModel", "draft", "[I", true)
  | 7 => ("HuntedScentModel", "dNodes", "I", false)
  | 8 => ("HuntedScentModel", "dRest", "I", false)
  | 9 => ("HuntedScentModel", "dWater", "I", false)
  | 10 => ("HuntedScentModel", "dHoles", "I", false)
  | 11 => ("HuntedScentModel", "highest", "I", false)
  | 12 => ("HuntedScentModel", "toldLines", "I", false)
  | 13 => ("HuntedScentModel", "tape", "[I", true)
  | 14 => ("HuntedScentModel", "taped", "I", false)
  | 15 => ("HuntedScentModel", "pos", "I", false)
  | 16 => ("HuntedScentModel", "from", "I", false)
  | 17 => ("HuntedScentModel", "sort", "I", false)
  | 18 => ("HuntedScentModel", "value", "I", false)
  | 19 => ("HuntedScentModel", "fault", "I", false)
  | 20 => ("HuntedScentModel", "wrongAt", "I", false)
  | 21 => ("HuntedScentModel", "steps", "[I", true)
  | 22 => ("HuntedScentModel", "path", "[I", true)
  | 23 => ("HuntedScentModel", "smells", "[I", true)
  | 24 => ("HuntedScentModel", "wayMany", "I", false)
  | 25 => ("HuntedScentModel", "canBe", "[I", true)
  | 26 => ("HuntedScentModel", "firstWay", "[I", true)
  | 27 => ("HuntedScentModel", "keys", "[J", true)
  | 28 => ("HuntedScentModel", "ends", "[I", true)
  | 29 => ("HuntedScentModel", "slots", "[I", true)
  | 30 => ("HuntedScentModel", "nodesOf", "[I", true)
  | 31 => ("HuntedScentModel", "doubtWays", "I", false)
  | 32 => ("HuntedScentModel", "nextSet", "[I", true)
  | 33 => ("HuntedScentModel", "fewest", "[I", true)
  | 34 => ("HuntedScentModel", "caughtIn", "[I", true)
  | 35 => ("HuntedScentModel", "hunted", "[I", true)
  | 36 => ("HuntedScentModel", "drawn", "I", false)
  | 37 => ("HuntedScentModel", "hunts", "I", false)
  | 38 => ("HuntedScentModel", "lanes", "[I", true)
  | 39 => ("HuntedScentModel", "sizes", "[I", true)
  | 40 => ("HuntedScentModel", "cells", "[I", true)
  | _ => ("HuntedScentModel", "torn", "I", false)
def tyX12 : Nat → FieldType := fun k => match k with
  | 0 => .array .int
  | 1 => .array .boolean
  | 2 => .int
  | 3 => .int
  | 4 => .int
  | 5 => .int
  | 6 => .array .int
  | 7 => .int
  | 8 => .int
  | 9 => .int
  | 10 => .int
  | 11 => .int
  | 12 => .int
  | 13 => .array .int
  | 14 => .int
  | 15 => .int
  | 16 => .int
  | 17 => .int
  | 18 => .int
  | 19 => .int
  | 20 => .int
  | 21 => .array .int
  | 22 => .array .int
  | 23 => .array .int
  | 24 => .int
  | 25 => .array .int
  | 26 => .array .int
  | 27 => .array .long
  | 28 => .array .int
  | 29 => .array .int
  | 30 => .array .int
  | 31 => .int
  | 32 => .array .int
  | 33 => .array .int
  | 34 => .array .int
  | 35 => .array .int
  | 36 => .int
  | 37 => .int
  | 38 => .array .int
  | 39 => .array .int
  | 40 => .array .int
  | _ => .int
abbrev wsX120 : List Cond := u_ws RX12 TX12 42
theorem nmX12 : ∀ a, a < 42 → ∀ b, b < 42 → a ≠ b → (TX12 a).2.1 ≠ (TX12 b).2.1 := by decide +kernel
theorem tyX12_ok : ∀ k, k < 42 → parseFieldDescriptor (TX12 k).2.2.1 = some (tyX12 k) := by decide +kernel
def RJ6 : String := "java/lang/Integer"
def RJ9 : String := "java/lang/Math"
def RJ0 : String := "java/lang/String"
def RJ1 : String := "java/lang/StringLatin1"
def RJ2 : String := "java/lang/StringUTF16"
def RJ3 : String := "jdk/internal/util/Preconditions"
abbrev vwCl : List vw_C := [(RX0, TX0, 12), (RX1, TX1, 6), (RX2, TX2, 5), (RX3, TX3, 4), (RX4, TX4, 7), (RX5, TX5, 5), (RX6, TX6, 12), (RX7, TX7, 5), (RX8, TX8, 3), (RX9, TX9, 3), (RX10, TX10, 17), (RX11, TX11, 12), (RX12, TX12, 42)]
