section
-- ===== PART A: goes FIRST, ahead of the names: the tables' words, and 'selects' of the private methods out of them =====
/-- a private method of a class that the tables say can be made, by its rows of tables_1 -/
def lw_okq (q : MethodName × Nat) : Prop := (q.1.cls ≠ "java/lang/invoke/MethodHandle" ∧ q.1.cls ≠ "java/lang/invoke/VarHandle") ∧ Cond.instantiable q.1.cls q.2 ∈ tables_1 ∧ Cond.privateMethod q.1 ∈ tables_1 ∧ Cond.instanceMethod q.1 ∈ tables_1
theorem lw_p0 : lw_okq (⟨"PeerMarks$Sharing", "findAnyPlan", "()Z"⟩, 7) := ⟨⟨by decide +kernel, by decide +kernel⟩, List.mem_of_getElem? (i := 77) (by decide +kernel), List.mem_of_getElem? (i := 283) (by decide +kernel), List.mem_of_getElem? (i := 284) (by decide +kernel)⟩
theorem lw_p1 : lw_okq (⟨"PeerMarks$Sharing", "findMarker", "(I)Z"⟩, 7) := ⟨⟨by decide +kernel, by decide +kernel⟩, List.mem_of_getElem? (i := 77) (by decide +kernel), List.mem_of_getElem? (i := 288) (by decide +kernel), List.mem_of_getElem? (i := 289) (by decide +kernel)⟩
theorem lw_p2 : lw_okq (⟨"PeerMarks$Sharing", "take", "(II)V"⟩, 7) := ⟨⟨by decide +kernel, by decide +kernel⟩, List.mem_of_getElem? (i := 77) (by decide +kernel), List.mem_of_getElem? (i := 294) (by decide +kernel), List.mem_of_getElem? (i := 295) (by decide +kernel)⟩
theorem lw_p3 : lw_okq (⟨"PeerMarks$Sharing", "passOn", "(II)Z"⟩, 7) := ⟨⟨by decide +kernel, by decide +kernel⟩, List.mem_of_getElem? (i := 77) (by decide +kernel), List.mem_of_getElem? (i := 298) (by decide +kernel), List.mem_of_getElem? (i := 299) (by decide +kernel)⟩
theorem lw_p4 : lw_okq (⟨"PeerMarks$Sharing", "leastOf", "(I)I"⟩, 7) := ⟨⟨by decide +kernel, by decide +kernel⟩, List.mem_of_getElem? (i := 77) (by decide +kernel), List.mem_of_getElem? (i := 302) (by decide +kernel), List.mem_of_getElem? (i := 303) (by decide +kernel)⟩
theorem lw_p5 : lw_okq (⟨"PeerMarks$Sharing", "reach", "(III)I"⟩, 7) := ⟨⟨by decide +kernel, by decide +kernel⟩, List.mem_of_getElem? (i := 77) (by decide +kernel), List.mem_of_getElem? (i := 306) (by decide +kernel), List.mem_of_getElem? (i := 307) (by decide +kernel)⟩
theorem lw_p6 : lw_okq (⟨"PeerMarks$Sharing", "withRoom", "(I)I"⟩, 7) := ⟨⟨by decide +kernel, by decide +kernel⟩, List.mem_of_getElem? (i := 77) (by decide +kernel), List.mem_of_getElem? (i := 310) (by decide +kernel), List.mem_of_getElem? (i := 311) (by decide +kernel)⟩
theorem lw_p7 : lw_okq (⟨"PeerMarks$Sharing", "handDown", "(II)V"⟩, 7) := ⟨⟨by decide +kernel, by decide +kernel⟩, List.mem_of_getElem? (i := 77) (by decide +kernel), List.mem_of_getElem? (i := 314) (by decide +kernel), List.mem_of_getElem? (i := 315) (by decide +kernel)⟩
theorem lw_p8 : lw_okq (⟨"PeerMarks$Sharing", "drop", "(II)V"⟩, 7) := ⟨⟨by decide +kernel, by decide +kernel⟩, List.mem_of_getElem? (i := 77) (by decide +kernel), List.mem_of_getElem? (i := 318) (by decide +kernel), List.mem_of_getElem? (i := 319) (by decide +kernel)⟩
theorem lw_p9 : lw_okq (⟨"PeerMarks$Sharing", "makeFirst", "()V"⟩, 7) := ⟨⟨by decide +kernel, by decide +kernel⟩, List.mem_of_getElem? (i := 77) (by decide +kernel), List.mem_of_getElem? (i := 322) (by decide +kernel), List.mem_of_getElem? (i := 323) (by decide +kernel)⟩
theorem lw_p10 : lw_okq (⟨"PeerMarks$Sharing", "bringIn", "(II)V"⟩, 7) := ⟨⟨by decide +kernel, by decide +kernel⟩, List.mem_of_getElem? (i := 77) (by decide +kernel), List.mem_of_getElem? (i := 326) (by decide +kernel), List.mem_of_getElem? (i := 327) (by decide +kernel)⟩
theorem lw_p11 : lw_okq (⟨"PeerMarks$Sharing", "roomFor", "(I)I"⟩, 7) := ⟨⟨by decide +kernel, by decide +kernel⟩, List.mem_of_getElem? (i := 77) (by decide +kernel), List.mem_of_getElem? (i := 348) (by decide +kernel), List.mem_of_getElem? (i := 349) (by decide +kernel)⟩
theorem lw_p12 : lw_okq (⟨"PeerMarks$Pieces", "refresh", "()V"⟩, 13) := ⟨⟨by decide +kernel, by decide +kernel⟩, List.mem_of_getElem? (i := 107) (by decide +kernel), List.mem_of_getElem? (i := 400) (by decide +kernel), List.mem_of_getElem? (i := 401) (by decide +kernel)⟩
theorem lw_p13 : lw_okq (⟨"PeerMarks$Pieces", "isLarge", "(I)Z"⟩, 13) := ⟨⟨by decide +kernel, by decide +kernel⟩, List.mem_of_getElem? (i := 107) (by decide +kernel), List.mem_of_getElem? (i := 415) (by decide +kernel), List.mem_of_getElem? (i := 416) (by decide +kernel)⟩
theorem lw_p14 : lw_okq (⟨"PeerMarks$Pieces", "whichHas", "([II)I"⟩, 13) := ⟨⟨by decide +kernel, by decide +kernel⟩, List.mem_of_getElem? (i := 107) (by decide +kernel), List.mem_of_getElem? (i := 445) (by decide +kernel), List.mem_of_getElem? (i := 446) (by decide +kernel)⟩
theorem lw_p15 : lw_okq (⟨"PeerMarks$Pieces", "workOut", "(I)V"⟩, 13) := ⟨⟨by decide +kernel, by decide +kernel⟩, List.mem_of_getElem? (i := 107) (by decide +kernel), List.mem_of_getElem? (i := 473) (by decide +kernel), List.mem_of_getElem? (i := 474) (by decide +kernel)⟩
def lw_privs_1 : List (MethodName × Nat) := [(⟨"PeerMarks$Sharing", "findAnyPlan", "()Z"⟩, 7), (⟨"PeerMarks$Sharing", "findMarker", "(I)Z"⟩, 7), (⟨"PeerMarks$Sharing", "take", "(II)V"⟩, 7), (⟨"PeerMarks$Sharing", "passOn", "(II)Z"⟩, 7), (⟨"PeerMarks$Sharing", "leastOf", "(I)I"⟩, 7), (⟨"PeerMarks$Sharing", "reach", "(III)I"⟩, 7), (⟨"PeerMarks$Sharing", "withRoom", "(I)I"⟩, 7), (⟨"PeerMarks$Sharing", "handDown", "(II)V"⟩, 7), (⟨"PeerMarks$Sharing", "drop", "(II)V"⟩, 7), (⟨"PeerMarks$Sharing", "makeFirst", "()V"⟩, 7), (⟨"PeerMarks$Sharing", "bringIn", "(II)V"⟩, 7), (⟨"PeerMarks$Sharing", "roomFor", "(I)I"⟩, 7), (⟨"PeerMarks$Pieces", "refresh", "()V"⟩, 13), (⟨"PeerMarks$Pieces", "isLarge", "(I)Z"⟩, 13), (⟨"PeerMarks$Pieces", "whichHas", "([II)I"⟩, 13), (⟨"PeerMarks$Pieces", "workOut", "(I)V"⟩, 13)]
theorem lw_r1 : ∀ q ∈ lw_privs_1, lw_okq q := List.forall_mem_cons.mpr ⟨lw_p0, List.forall_mem_cons.mpr ⟨lw_p1, List.forall_mem_cons.mpr ⟨lw_p2, List.forall_mem_cons.mpr ⟨lw_p3, List.forall_mem_cons.mpr ⟨lw_p4, List.forall_mem_cons.mpr ⟨lw_p5, List.forall_mem_cons.mpr ⟨lw_p6, List.forall_mem_cons.mpr ⟨lw_p7, List.forall_mem_cons.mpr ⟨lw_p8, List.forall_mem_cons.mpr ⟨lw_p9, List.forall_mem_cons.mpr ⟨lw_p10, List.forall_mem_cons.mpr ⟨lw_p11, List.forall_mem_cons.mpr ⟨lw_p12, List.forall_mem_cons.mpr ⟨lw_p13, List.forall_mem_cons.mpr ⟨lw_p14, List.forall_mem_cons.mpr ⟨lw_p15, fun _ h => absurd h List.not_mem_nil⟩⟩⟩⟩⟩⟩⟩⟩⟩⟩⟩⟩⟩⟩⟩⟩
theorem lw_p16 : lw_okq (⟨"PeerMarks$Pieces", "giveSlots", "(I)I"⟩, 13) := ⟨⟨by decide +kernel, by decide +kernel⟩, List.mem_of_getElem? (i := 107) (by decide +kernel), List.mem_of_getElem? (i := 477) (by decide +kernel), List.mem_of_getElem? (i := 478) (by decide +kernel)⟩
theorem lw_p17 : lw_okq (⟨"PeerMarks$Pieces", "writeMarksOf", "(I)V"⟩, 13) := ⟨⟨by decide +kernel, by decide +kernel⟩, List.mem_of_getElem? (i := 107) (by decide +kernel), List.mem_of_getElem? (i := 490) (by decide +kernel), List.mem_of_getElem? (i := 491) (by decide +kernel)⟩
theorem lw_p18 : lw_okq (⟨"PeerMarks$Equations", "holds", "(I)Z"⟩, 2) := ⟨⟨by decide +kernel, by decide +kernel⟩, List.mem_of_getElem? (i := 113) (by decide +kernel), List.mem_of_getElem? (i := 498) (by decide +kernel), List.mem_of_getElem? (i := 499) (by decide +kernel)⟩
theorem lw_p19 : lw_okq (⟨"PeerMarks$Pieces", "hasStaffMark", "(I)Z"⟩, 13) := ⟨⟨by decide +kernel, by decide +kernel⟩, List.mem_of_getElem? (i := 107) (by decide +kernel), List.mem_of_getElem? (i := 511) (by decide +kernel), List.mem_of_getElem? (i := 512) (by decide +kernel)⟩
theorem lw_p20 : lw_okq (⟨"PeerMarks$Pieces", "writeLeansAreNothingInAll", "(I)V"⟩, 13) := ⟨⟨by decide +kernel, by decide +kernel⟩, List.mem_of_getElem? (i := 107) (by decide +kernel), List.mem_of_getElem? (i := 515) (by decide +kernel), List.mem_of_getElem? (i := 516) (by decide +kernel)⟩
theorem lw_p21 : lw_okq (⟨"PeerMarks$Equations", "clearFactor", "(IIJ)V"⟩, 2) := ⟨⟨by decide +kernel, by decide +kernel⟩, List.mem_of_getElem? (i := 113) (by decide +kernel), List.mem_of_getElem? (i := 524) (by decide +kernel), List.mem_of_getElem? (i := 525) (by decide +kernel)⟩
theorem lw_p22 : lw_okq (⟨"PeerMarks$Pieces", "readTops", "(I)V"⟩, 13) := ⟨⟨by decide +kernel, by decide +kernel⟩, List.mem_of_getElem? (i := 107) (by decide +kernel), List.mem_of_getElem? (i := 528) (by decide +kernel), List.mem_of_getElem? (i := 529) (by decide +kernel)⟩
theorem lw_p23 : lw_okq (⟨"PeerMarks$Orders", "refresh", "()V"⟩, 9) := ⟨⟨by decide +kernel, by decide +kernel⟩, List.mem_of_getElem? (i := 172) (by decide +kernel), List.mem_of_getElem? (i := 552) (by decide +kernel), List.mem_of_getElem? (i := 553) (by decide +kernel)⟩
theorem lw_p24 : lw_okq (⟨"PeerMarks$Orders", "findOrder", "(I[I)I"⟩, 9) := ⟨⟨by decide +kernel, by decide +kernel⟩, List.mem_of_getElem? (i := 172) (by decide +kernel), List.mem_of_getElem? (i := 557) (by decide +kernel), List.mem_of_getElem? (i := 558) (by decide +kernel)⟩
theorem lw_p25 : lw_okq (⟨"PeerMarks$Orders", "countTolls", "(I)V"⟩, 9) := ⟨⟨by decide +kernel, by decide +kernel⟩, List.mem_of_getElem? (i := 172) (by decide +kernel), List.mem_of_getElem? (i := 561) (by decide +kernel), List.mem_of_getElem? (i := 562) (by decide +kernel)⟩
theorem lw_p26 : lw_okq (⟨"PeerMarks$Orders", "tollsWith", "(II)J"⟩, 9) := ⟨⟨by decide +kernel, by decide +kernel⟩, List.mem_of_getElem? (i := 172) (by decide +kernel), List.mem_of_getElem? (i := 565) (by decide +kernel), List.mem_of_getElem? (i := 566) (by decide +kernel)⟩
theorem lw_p27 : lw_okq (⟨"PeerMarks$Orders", "turnsTwo", "(III)Z"⟩, 9) := ⟨⟨by decide +kernel, by decide +kernel⟩, List.mem_of_getElem? (i := 172) (by decide +kernel), List.mem_of_getElem? (i := 569) (by decide +kernel), List.mem_of_getElem? (i := 570) (by decide +kernel)⟩
theorem lw_p28 : lw_okq (⟨"PeerMarks$Orders", "findLeast", "()V"⟩, 9) := ⟨⟨by decide +kernel, by decide +kernel⟩, List.mem_of_getElem? (i := 172) (by decide +kernel), List.mem_of_getElem? (i := 573) (by decide +kernel), List.mem_of_getElem? (i := 574) (by decide +kernel)⟩
theorem lw_p29 : lw_okq (⟨"PeerMarks$Orders", "quarrelIfAhead", "(II)I"⟩, 9) := ⟨⟨by decide +kernel, by decide +kernel⟩, List.mem_of_getElem? (i := 172) (by decide +kernel), List.mem_of_getElem? (i := 579) (by decide +kernel), List.mem_of_getElem? (i := 580) (by decide +kernel)⟩
theorem lw_p30 : lw_okq (⟨"PeerMarks$Orders", "bestAhead", "(I)I"⟩, 9) := ⟨⟨by decide +kernel, by decide +kernel⟩, List.mem_of_getElem? (i := 172) (by decide +kernel), List.mem_of_getElem? (i := 585) (by decide +kernel), List.mem_of_getElem? (i := 586) (by decide +kernel)⟩
theorem lw_p31 : lw_okq (⟨"PeerMarks$Orders", "farthest", "()I"⟩, 9) := ⟨⟨by decide +kernel, by decide +kernel⟩, List.mem_of_getElem? (i := 172) (by decide +kernel), List.mem_of_getElem? (i := 613) (by decide +kernel), List.mem_of_getElem? (i := 614) (by decide +kernel)⟩
def lw_privs_2 : List (MethodName × Nat) := [(⟨"PeerMarks$Pieces", "giveSlots", "(I)I"⟩, 13), (⟨"PeerMarks$Pieces", "writeMarksOf", "(I)V"⟩, 13), (⟨"PeerMarks$Equations", "holds", "(I)Z"⟩, 2), (⟨"PeerMarks$Pieces", "hasStaffMark", "(I)Z"⟩, 13), (⟨"PeerMarks$Pieces", "writeLeansAreNothingInAll", "(I)V"⟩, 13), (⟨"PeerMarks$Equations", "clearFactor", "(IIJ)V"⟩, 2), (⟨"PeerMarks$Pieces", "readTops", "(I)V"⟩, 13), (⟨"PeerMarks$Orders", "refresh", "()V"⟩, 9), (⟨"PeerMarks$Orders", "findOrder", "(I[I)I"⟩, 9), (⟨"PeerMarks$Orders", "countTolls", "(I)V"⟩, 9), (⟨"PeerMarks$Orders", "tollsWith", "(II)J"⟩, 9), (⟨"PeerMarks$Orders", "turnsTwo", "(III)Z"⟩, 9), (⟨"PeerMarks$Orders", "findLeast", "()V"⟩, 9), (⟨"PeerMarks$Orders", "quarrelIfAhead", "(II)I"⟩, 9), (⟨"PeerMarks$Orders", "bestAhead", "(I)I"⟩, 9), (⟨"PeerMarks$Orders", "farthest", "()I"⟩, 9)]
theorem lw_r2 : ∀ q ∈ lw_privs_2, lw_okq q := List.forall_mem_cons.mpr ⟨lw_p16, List.forall_mem_cons.mpr ⟨lw_p17, List.forall_mem_cons.mpr ⟨lw_p18, List.forall_mem_cons.mpr ⟨lw_p19, List.forall_mem_cons.mpr ⟨lw_p20, List.forall_mem_cons.mpr ⟨lw_p21, List.forall_mem_cons.mpr ⟨lw_p22, List.forall_mem_cons.mpr ⟨lw_p23, List.forall_mem_cons.mpr ⟨lw_p24, List.forall_mem_cons.mpr ⟨lw_p25, List.forall_mem_cons.mpr ⟨lw_p26, List.forall_mem_cons.mpr ⟨lw_p27, List.forall_mem_cons.mpr ⟨lw_p28, List.forall_mem_cons.mpr ⟨lw_p29, List.forall_mem_cons.mpr ⟨lw_p30, List.forall_mem_cons.mpr ⟨lw_p31, fun _ h => absurd h List.not_mem_nil⟩⟩⟩⟩⟩⟩⟩⟩⟩⟩⟩⟩⟩⟩⟩⟩
theorem lw_p32 : lw_okq (⟨"PeerMarksModel", "clear", "()V"⟩, 17) := ⟨⟨by decide +kernel, by decide +kernel⟩, List.mem_of_getElem? (i := 645) (by decide +kernel), List.mem_of_getElem? (i := 651) (by decide +kernel), List.mem_of_getElem? (i := 652) (by decide +kernel)⟩
theorem lw_p33 : lw_okq (⟨"PeerMarksModel", "is", "(I)Z"⟩, 17) := ⟨⟨by decide +kernel, by decide +kernel⟩, List.mem_of_getElem? (i := 645) (by decide +kernel), List.mem_of_getElem? (i := 721) (by decide +kernel), List.mem_of_getElem? (i := 722) (by decide +kernel)⟩
theorem lw_p34 : lw_okq (⟨"PeerMarksModel", "canMark", "(II)Z"⟩, 17) := ⟨⟨by decide +kernel, by decide +kernel⟩, List.mem_of_getElem? (i := 645) (by decide +kernel), List.mem_of_getElem? (i := 735) (by decide +kernel), List.mem_of_getElem? (i := 736) (by decide +kernel)⟩
theorem lw_p35 : lw_okq (⟨"PeerMarksModel", "findPlan", "()Z"⟩, 17) := ⟨⟨by decide +kernel, by decide +kernel⟩, List.mem_of_getElem? (i := 645) (by decide +kernel), List.mem_of_getElem? (i := 743) (by decide +kernel), List.mem_of_getElem? (i := 744) (by decide +kernel)⟩
theorem lw_p36 : lw_okq (⟨"PeerMarksModel", "lackFrom", "(I)I"⟩, 17) := ⟨⟨by decide +kernel, by decide +kernel⟩, List.mem_of_getElem? (i := 645) (by decide +kernel), List.mem_of_getElem? (i := 747) (by decide +kernel), List.mem_of_getElem? (i := 748) (by decide +kernel)⟩
theorem lw_p37 : lw_okq (⟨"PeerMarksModel", "mayBe", "(II)Z"⟩, 17) := ⟨⟨by decide +kernel, by decide +kernel⟩, List.mem_of_getElem? (i := 645) (by decide +kernel), List.mem_of_getElem? (i := 755) (by decide +kernel), List.mem_of_getElem? (i := 756) (by decide +kernel)⟩
theorem lw_p38 : lw_okq (⟨"PeerMarksModel", "use", "(II)V"⟩, 17) := ⟨⟨by decide +kernel, by decide +kernel⟩, List.mem_of_getElem? (i := 645) (by decide +kernel), List.mem_of_getElem? (i := 762) (by decide +kernel), List.mem_of_getElem? (i := 763) (by decide +kernel)⟩
theorem lw_p39 : lw_okq (⟨"PeerMarksModel", "join", "(II)V"⟩, 17) := ⟨⟨by decide +kernel, by decide +kernel⟩, List.mem_of_getElem? (i := 645) (by decide +kernel), List.mem_of_getElem? (i := 778) (by decide +kernel), List.mem_of_getElem? (i := 779) (by decide +kernel)⟩
theorem lw_p40 : lw_okq (⟨"PeerMarksModel", "spread", "(II)V"⟩, 17) := ⟨⟨by decide +kernel, by decide +kernel⟩, List.mem_of_getElem? (i := 645) (by decide +kernel), List.mem_of_getElem? (i := 782) (by decide +kernel), List.mem_of_getElem? (i := 783) (by decide +kernel)⟩
theorem lw_p41 : lw_okq (⟨"PeerMarksModel", "findParts", "()V"⟩, 17) := ⟨⟨by decide +kernel, by decide +kernel⟩, List.mem_of_getElem? (i := 645) (by decide +kernel), List.mem_of_getElem? (i := 799) (by decide +kernel), List.mem_of_getElem? (i := 800) (by decide +kernel)⟩
theorem lw_p42 : lw_okq (⟨"PeerMarksModel", "spreadOf", "(I)I"⟩, 17) := ⟨⟨by decide +kernel, by decide +kernel⟩, List.mem_of_getElem? (i := 645) (by decide +kernel), List.mem_of_getElem? (i := 803) (by decide +kernel), List.mem_of_getElem? (i := 804) (by decide +kernel)⟩
theorem lw_p43 : lw_okq (⟨"PeerMarksModel", "pieces", "(I)I"⟩, 17) := ⟨⟨by decide +kernel, by decide +kernel⟩, List.mem_of_getElem? (i := 645) (by decide +kernel), List.mem_of_getElem? (i := 807) (by decide +kernel), List.mem_of_getElem? (i := 808) (by decide +kernel)⟩
theorem lw_p44 : lw_okq (⟨"PeerMarksModel", "sizeOf", "(I)I"⟩, 17) := ⟨⟨by decide +kernel, by decide +kernel⟩, List.mem_of_getElem? (i := 645) (by decide +kernel), List.mem_of_getElem? (i := 811) (by decide +kernel), List.mem_of_getElem? (i := 812) (by decide +kernel)⟩
theorem lw_p45 : lw_okq (⟨"PeerMarksModel", "numberOf", "(I)I"⟩, 17) := ⟨⟨by decide +kernel, by decide +kernel⟩, List.mem_of_getElem? (i := 645) (by decide +kernel), List.mem_of_getElem? (i := 819) (by decide +kernel), List.mem_of_getElem? (i := 820) (by decide +kernel)⟩
theorem lw_p46 : lw_okq (⟨"PeerMarksModel", "solve", "(I)Z"⟩, 17) := ⟨⟨by decide +kernel, by decide +kernel⟩, List.mem_of_getElem? (i := 645) (by decide +kernel), List.mem_of_getElem? (i := 830) (by decide +kernel), List.mem_of_getElem? (i := 831) (by decide +kernel)⟩
theorem lw_p47 : lw_okq (⟨"PeerMarksModel", "place", "(I)V"⟩, 17) := ⟨⟨by decide +kernel, by decide +kernel⟩, List.mem_of_getElem? (i := 645) (by decide +kernel), List.mem_of_getElem? (i := 834) (by decide +kernel), List.mem_of_getElem? (i := 835) (by decide +kernel)⟩
def lw_privs_3 : List (MethodName × Nat) := [(⟨"PeerMarksModel", "clear", "()V"⟩, 17), (⟨"PeerMarksModel", "is", "(I)Z"⟩, 17), (⟨"PeerMarksModel", "canMark", "(II)Z"⟩, 17), (⟨"PeerMarksModel", "findPlan", "()Z"⟩, 17), (⟨"PeerMarksModel", "lackFrom", "(I)I"⟩, 17), (⟨"PeerMarksModel", "mayBe", "(II)Z"⟩, 17), (⟨"PeerMarksModel", "use", "(II)V"⟩, 17), (⟨"PeerMarksModel", "join", "(II)V"⟩, 17), (⟨"PeerMarksModel", "spread", "(II)V"⟩, 17), (⟨"PeerMarksModel", "findParts", "()V"⟩, 17), (⟨"PeerMarksModel", "spreadOf", "(I)I"⟩, 17), (⟨"PeerMarksModel", "pieces", "(I)I"⟩, 17), (⟨"PeerMarksModel", "sizeOf", "(I)I"⟩, 17), (⟨"PeerMarksModel", "numberOf", "(I)I"⟩, 17), (⟨"PeerMarksModel", "solve", "(I)Z"⟩, 17), (⟨"PeerMarksModel", "place", "(I)V"⟩, 17)]
theorem lw_r3 : ∀ q ∈ lw_privs_3, lw_okq q := List.forall_mem_cons.mpr ⟨lw_p32, List.forall_mem_cons.mpr ⟨lw_p33, List.forall_mem_cons.mpr ⟨lw_p34, List.forall_mem_cons.mpr ⟨lw_p35, List.forall_mem_cons.mpr ⟨lw_p36, List.forall_mem_cons.mpr ⟨lw_p37, List.forall_mem_cons.mpr ⟨lw_p38, List.forall_mem_cons.mpr ⟨lw_p39, List.forall_mem_cons.mpr ⟨lw_p40, List.forall_mem_cons.mpr ⟨lw_p41, List.forall_mem_cons.mpr ⟨lw_p42, List.forall_mem_cons.mpr ⟨lw_p43, List.forall_mem_cons.mpr ⟨lw_p44, List.forall_mem_cons.mpr ⟨lw_p45, List.forall_mem_cons.mpr ⟨lw_p46, List.forall_mem_cons.mpr ⟨lw_p47, fun _ h => absurd h List.not_mem_nil⟩⟩⟩⟩⟩⟩⟩⟩⟩⟩⟩⟩⟩⟩⟩⟩
theorem lw_p48 : lw_okq (⟨"PeerMarksModel", "setUp", "(I)V"⟩, 17) := ⟨⟨by decide +kernel, by decide +kernel⟩, List.mem_of_getElem? (i := 645) (by decide +kernel), List.mem_of_getElem? (i := 838) (by decide +kernel), List.mem_of_getElem? (i := 839) (by decide +kernel)⟩
theorem lw_p49 : lw_okq (⟨"PeerMarksModel", "add", "(IIJ)V"⟩, 17) := ⟨⟨by decide +kernel, by decide +kernel⟩, List.mem_of_getElem? (i := 645) (by decide +kernel), List.mem_of_getElem? (i := 842) (by decide +kernel), List.mem_of_getElem? (i := 843) (by decide +kernel)⟩
theorem lw_p50 : lw_okq (⟨"PeerMarksModel", "solveCells", "()V"⟩, 17) := ⟨⟨by decide +kernel, by decide +kernel⟩, List.mem_of_getElem? (i := 645) (by decide +kernel), List.mem_of_getElem? (i := 846) (by decide +kernel), List.mem_of_getElem? (i := 847) (by decide +kernel)⟩
theorem lw_p51 : lw_okq (⟨"PeerMarksModel", "told", "(JI)J"⟩, 17) := ⟨⟨by decide +kernel, by decide +kernel⟩, List.mem_of_getElem? (i := 645) (by decide +kernel), List.mem_of_getElem? (i := 850) (by decide +kernel), List.mem_of_getElem? (i := 851) (by decide +kernel)⟩
theorem lw_p52 : lw_okq (⟨"PeerMarksModel", "findOrder", "(I)V"⟩, 17) := ⟨⟨by decide +kernel, by decide +kernel⟩, List.mem_of_getElem? (i := 645) (by decide +kernel), List.mem_of_getElem? (i := 869) (by decide +kernel), List.mem_of_getElem? (i := 870) (by decide +kernel)⟩
theorem lw_p53 : lw_okq (⟨"PeerMarksModel", "turns", "(III)Z"⟩, 17) := ⟨⟨by decide +kernel, by decide +kernel⟩, List.mem_of_getElem? (i := 645) (by decide +kernel), List.mem_of_getElem? (i := 873) (by decide +kernel), List.mem_of_getElem? (i := 874) (by decide +kernel)⟩
theorem lw_p54 : lw_okq (⟨"PeerMarksModel", "cost", "(II)I"⟩, 17) := ⟨⟨by decide +kernel, by decide +kernel⟩, List.mem_of_getElem? (i := 645) (by decide +kernel), List.mem_of_getElem? (i := 878) (by decide +kernel), List.mem_of_getElem? (i := 879) (by decide +kernel)⟩
theorem lw_p55 : lw_okq (⟨"PeerMarksModel", "marksOf", "(I)I"⟩, 17) := ⟨⟨by decide +kernel, by decide +kernel⟩, List.mem_of_getElem? (i := 645) (by decide +kernel), List.mem_of_getElem? (i := 902) (by decide +kernel), List.mem_of_getElem? (i := 903) (by decide +kernel)⟩
def lw_privs_4 : List (MethodName × Nat) := [(⟨"PeerMarksModel", "setUp", "(I)V"⟩, 17), (⟨"PeerMarksModel", "add", "(IIJ)V"⟩, 17), (⟨"PeerMarksModel", "solveCells", "()V"⟩, 17), (⟨"PeerMarksModel", "told", "(JI)J"⟩, 17), (⟨"PeerMarksModel", "findOrder", "(I)V"⟩, 17), (⟨"PeerMarksModel", "turns", "(III)Z"⟩, 17), (⟨"PeerMarksModel", "cost", "(II)I"⟩, 17), (⟨"PeerMarksModel", "marksOf", "(I)I"⟩, 17)]
theorem lw_r4 : ∀ q ∈ lw_privs_4, lw_okq q := List.forall_mem_cons.mpr ⟨lw_p48, List.forall_mem_cons.mpr ⟨lw_p49, List.forall_mem_cons.mpr ⟨lw_p50, List.forall_mem_cons.mpr ⟨lw_p51, List.forall_mem_cons.mpr ⟨lw_p52, List.forall_mem_cons.mpr ⟨lw_p53, List.forall_mem_cons.mpr ⟨lw_p54, List.forall_mem_cons.mpr ⟨lw_p55, fun _ h => absurd h List.not_mem_nil⟩⟩⟩⟩⟩⟩⟩⟩
def lw_privs : List (MethodName × Nat) := lw_privs_1 ++ (lw_privs_2 ++ (lw_privs_3 ++ (lw_privs_4)))
def lw_tbl : List Cond := k2_sels lw_privs ++ tables_1
theorem lw_privs_ok : ∀ q ∈ lw_privs, lw_okq q := by
  show ∀ q ∈ lw_privs_1 ++ (lw_privs_2 ++ (lw_privs_3 ++ (lw_privs_4))), lw_okq q
  exact List.forall_mem_append.mpr ⟨lw_r1, List.forall_mem_append.mpr ⟨lw_r2, List.forall_mem_append.mpr ⟨lw_r3, lw_r4⟩⟩⟩
end
section
def va_AOA (t : FieldType) (U : State) : Prop := (Cond.arrayOver (.array t)).before #[] U = true
theorem va_AOA.use {t : FieldType} {A : Array Value} {U : State} (h : va_AOA t U) : (Cond.arrayOver (.array t)).before A U = true := h
/-- f, but v at every address of l -/
def vr_up {α : Type} (f : Nat → α) (l : List Nat) (v : α) : Nat → α := fun a => if a ∈ l then v else f a
theorem vr_up_in {α : Type} {f : Nat → α} {l : List Nat} {v : α} {a : Nat} (h : a ∈ l) : vr_up f l v a = v := if_pos h
theorem vr_up_ne {α : Type} {f : Nat → α} {l : List Nat} {v : α} {a : Nat} (h : a ∉ l) : vr_up f l v a = f a := if_neg h
theorem vr_rows {L l : List Nat} {f : Nat → va_E} {e : va_E} (h : ∀ a, a ∈ l → a ∉ L) : va_pl L f ++ l.map (fun a => (a, e)) = va_pl (L ++ l) (vr_up f l e) := by
  unfold va_pl
  rw [List.map_append]
  congr 1
  · apply List.map_congr_left
    intro a ha
    rw [vr_up_ne (fun q => h a q ha)]
  · apply List.map_congr_left
    intro a ha
    rw [vr_up_in ha]
theorem vr_lay {X rows : va_W} {x : Nat × va_E} {pl : va_W} {D : va_G} {cl : List vw_C} {H : Heap} (hP : va_P D cl (((X ++ pl) ++ [x]) ++ rows) H) : va_P D cl ((X ++ [x]) ++ (pl ++ rows)) H := by
  rw [List.append_assoc (X ++ pl)] at hP
  have h := va_P.swap hP
  rw [← List.append_assoc X] at h
  have h2 := va_P.swap h
  rw [List.append_assoc (X ++ [x])] at h2
  exact h2
theorem vr_layD {X rows : va_W} {x : Nat × va_E} {pl : va_W} {A : Nat → Prop} (hD : va_D A (((X ++ pl) ++ [x]) ++ rows)) : va_D A ((X ++ [x]) ++ (pl ++ rows)) := by
  rw [List.append_assoc (X ++ pl)] at hD
  have h := va_D.swap hD
  rw [← List.append_assoc X] at h
  have h2 := va_D.swap h
  rw [List.append_assoc (X ++ [x])] at h2
  exact h2
theorem vr_outer (c : ClassId) (N h0 : Nat) : ∀ i : Nat, Jvm.Free.Multi.outerC c N h0 i = arrV c N (fun j => va_rf (if j < i then some (h0 + 1 + j) else none))
  | 0 => by
    show ({ cls := c, slots := Array.replicate N .null, vm := .none } : Cell) = _
    rw [arrV_new]
    refine congrArg (arrV c N) (funext fun j => ?_)
    simp [va_rf]
  | i + 1 => by
    show (Jvm.Free.Multi.outerC c N h0 i).setSlot i (.ref (h0 + 1 + i)) = _
    rw [vr_outer c N h0 i, arrV_store]
    refine congrArg (arrV c N) (funext fun j => ?_)
    by_cases e : j = i
    · subst e
      simp [updV, va_rf]
    · by_cases h : j < i
      · simp [updV, e, h, Nat.lt_succ_of_lt h]
      · simp [updV, e, h, show ¬ j < i + 1 by omega]
section VGM
variable {p : Program} {l : Launch} {e : Env} {R : Room} {s : State} {m : MethodId} {args : Array Value} {below : List Frame} {meth : Method} {c : Code} {H : Heap} {locs : List Loc} {cells slots : Nat} {Q : State → Prop}
variable {cc : ByteArray} {pc : Nat} {ls : Array Slot} {rest : List Value} {D : va_G} {cl : List vw_C} {A : Nat → Prop} {a : Nat} {tys : List (ClassId × FieldType)} {ws : va_W} {H0 : Heap}
theorem va_mna {X : va_W} {L : List Nat} {f : Nat → va_E} {cc : ByteArray} (hexec : p.tables.exec = Jvm.exec) (hb : c.code = cc) {own : String} {index : Nat} {ty : FieldType} {cy : ClassId} (hown : s.vm.findClass own = some m.cls) (hclink : (Cond.classLink own index ("[" ++ (FieldType.array ty).toString)).before args s = true) (hover : va_AOA ty s) (harr : (Cond.arrayClass ty).before args s = true) (hcy : s.vm.findClass (FieldType.array ty).toString = some cy)
    (hK : va_K D cl tys s) (hP : va_P D cl (X ++ va_pl L f) H) (hD : va_D A (X ++ va_pl L f)) (hS : va_S A H0 H locs) (hA : ∀ q, H0.size ≤ q → A q) {n k : Int32} {N' K' : Nat} {z : vp_A} (hn : ¬ n < 0) (hk : ¬ k < 0) (hN : n.toNatClampNeg = N') (hM : k.toNatClampNeg = K')
    (hb1 : N' * 4 ≤ 536870912) (hb2 : K' * componentBytes ty ≤ 536870912) (hb3 : K' ≤ 536870912) (hdf : fits ty (defaultValue ty) = true) (hdd : (defaultValue ty).isDefault = true) (hcells : cells + (1 + N') ≤ R.cells) (hslots : slots + (N' + N' * K') ≤ R.slots) (hz : ∀ c : ClassId, Jvm.Free.Multi.innerC c K' (defaultValue ty) = vp_cell c z) (hdg : decode cc pc = .ok (.multianewarray index 2, 4))
    (kk : ∀ (q : Nat) (r : Nat → Nat) (cA : ClassId) (H1 : Heap), (∀ i j : Nat, i < N' → j < N' → r i = r j → i = j) → (∀ i : Nat, i < N' → r i ∉ L) → va_K D cl (tys ++ [(cA, .array ty)]) s →
      va_P D cl ((X ++ [(q, .inl (cA, N', .inr (.inr (.inr (.inr (fun i => if i < N' then some (r i) else none))))))]) ++ va_pl (L ++ (List.range N').map r) (vr_up f ((List.range N').map r) (.inl (cy, z)))) H1 → va_D A ((X ++ [(q, .inl (cA, N', .inr (.inr (.inr (.inr (fun i => if i < N' then some (r i) else none))))))]) ++ va_pl (L ++ (List.range N').map r) (vr_up f ((List.range N').map r) (.inl (cy, z)))) → va_S A H0 H1 locs →
      W p l e R s m args below meth c H1 locs (cells + 1 + N') (slots + N' + N' * K') Q (F0 m (pc + 4) ls (.ref q :: rest))) : W p l e R s m args below meth c H locs cells slots Q (F0 m pc ls (.int k :: .int n :: rest)) := by
  subst hN
  subst hM
  intro T hT Xs
  obtain ⟨vm₁, cA, comp, -, fA, fC, hO, -, X', step⟩ := Xs.multianewarray2F hexec hown hclink (va_AOA.use hover) harr (g := F0 m pc ls (.int k :: .int n :: rest)) rfl (by rw [hb]; exact hdg) rfl hn hk hb1 hb2 hb3 hdf hdd hcells hslots
  have ec : some cy = some comp := hcy.symm.trans fC
  cases ec
  generalize hF : Jvm.Free.Multi.fill (T.setVm vm₁) cA cy n.toNatClampNeg k.toNatClampNeg (defaultValue ty) n.toNatClampNeg = F at X' step
  have hTh : (T.setVm vm₁).heap = H := hT
  obtain ⟨f1, f2, -, -⟩ := Jvm.Free.Multi.fill_facts (T.setVm vm₁) cA cy n.toNatClampNeg k.toNatClampNeg (defaultValue ty) n.toNatClampNeg
  rw [hF, hTh] at f1 f2
  have hold : ∀ x : Nat, x < H.size → F.heap[x]? = H[x]? := fun x hx => by
    have := Jvm.Free.Multi.fill_old (T.setVm vm₁) cA cy n.toNatClampNeg k.toNatClampNeg (defaultValue ty) (a := x) (by rw [hTh]; exact hx) n.toNatClampNeg
    rw [hF, hTh] at this
    exact this
  have hrow : ∀ j : Nat, j < n.toNatClampNeg → F.heap[H.size + 1 + j]? = some (vp_cell cy z) := fun j hj => by
    have := Jvm.Free.Multi.fill_inner (T.setVm vm₁) cA cy n.toNatClampNeg k.toNatClampNeg (defaultValue ty) n.toNatClampNeg j hj
    rw [hF, hTh, hz] at this
    exact this
  have hout : Jvm.Free.Multi.outerC cA n.toNatClampNeg H.size n.toNatClampNeg = vp_cell cA (n.toNatClampNeg, .inr (.inr (.inr (.inr (fun i => if i < n.toNatClampNeg then some (H.size + 1 + i) else none))))) := by
    rw [vp_cell_q]
    exact vr_outer cA n.toNatClampNeg H.size n.toNatClampNeg
  rw [hout] at f2
  have hlt : ∀ a, a ∈ L → a < H.size := fun a ha => by
    obtain ⟨k9, hk9⟩ := va_pl_get (X := X) (f := f) ha
    exact (hP k9 _ hk9).lt
  have hnl : ∀ i : Nat, i < n.toNatClampNeg → H.size + 1 + i ∉ L := fun i _ h => by
    have := hlt _ h
    omega
  have hnm : ∀ a, a ∈ (List.range n.toNatClampNeg).map (fun i => H.size + 1 + i) → a ∉ L := fun a ha h => by
    obtain ⟨i, -, rfl⟩ := List.mem_map.mp ha
    have := hlt _ h
    omega
  have hP0 : va_P D cl (X ++ va_pl L f) F.heap := hP.kept (fun k9 x hx => hold x.1 ((hP k9 x hx).lt))
  have hP1 : va_P D cl ((X ++ va_pl L f) ++ [(H.size, .inl (cA, n.toNatClampNeg, .inr (.inr (.inr (.inr (fun i => if i < n.toNatClampNeg then some (H.size + 1 + i) else none))))))]) F.heap := hP0.app (fun k9 x hx => by
    have h0 : k9 < 1 := (List.getElem?_eq_some_iff.mp hx).1
    rw [show k9 = 0 by omega] at hx
    cases hx
    exact f2)
  have hP2 : va_P D cl (((X ++ va_pl L f) ++ [(H.size, .inl (cA, n.toNatClampNeg, .inr (.inr (.inr (.inr (fun i => if i < n.toNatClampNeg then some (H.size + 1 + i) else none))))))]) ++ ((List.range n.toNatClampNeg).map (fun i => H.size + 1 + i)).map (fun a => (a, .inl (cy, z)))) F.heap := hP1.app (fun k9 x hx => by
    obtain ⟨a, ha, rfl⟩ := List.mem_map.mp (List.mem_of_getElem? hx)
    obtain ⟨i, hi, rfl⟩ := List.mem_map.mp ha
    exact hrow i (List.mem_range.mp hi))
  have hD2 : va_D A (((X ++ va_pl L f) ++ [(H.size, .inl (cA, n.toNatClampNeg, .inr (.inr (.inr (.inr (fun i => if i < n.toNatClampNeg then some (H.size + 1 + i) else none))))))]) ++ ((List.range n.toNatClampNeg).map (fun i => H.size + 1 + i)).map (fun a => (a, .inl (cy, z)))) := by
    have hD1 := hD.push (e := .inl (cA, n.toNatClampNeg, .inr (.inr (.inr (.inr (fun i => if i < n.toNatClampNeg then some (H.size + 1 + i) else none)))))) hP rfl (hA _ hS.1)
    generalize hW1 : (X ++ va_pl L f) ++ [(H.size, .inl (cA, n.toNatClampNeg, .inr (.inr (.inr (.inr (fun i => if i < n.toNatClampNeg then some (H.size + 1 + i) else none))))))] = W1 at hD1 hP1 ⊢
    have hle : ∀ (k9 : Nat) (x : Nat × va_E), W1[k9]? = some x → x.1 ≤ H.size := fun k9 x hx => by
      rw [← hW1] at hx
      by_cases hl : k9 < (X ++ va_pl L f).length
      · rw [List.getElem?_append_left hl] at hx
        exact Nat.le_of_lt ((hP k9 x hx).lt)
      · rw [List.getElem?_append_right (by omega)] at hx
        have h0 : k9 - (X ++ va_pl L f).length < 1 := (List.getElem?_eq_some_iff.mp hx).1
        rw [show k9 - (X ++ va_pl L f).length = 0 by omega] at hx
        cases hx
        exact Nat.le_refl _
    have hr : ∀ (k9 : Nat) (x : Nat × va_E), (((List.range n.toNatClampNeg).map (fun i => H.size + 1 + i)).map (fun a => ((a, .inl (cy, z)) : Nat × va_E)))[k9]? = some x → x.1 = H.size + 1 + k9 := fun k9 x hx => by
      rw [List.getElem?_map, List.getElem?_map] at hx
      by_cases h9 : k9 < n.toNatClampNeg
      · rw [List.getElem?_range h9] at hx
        cases hx
        rfl
      · have hn0 : (List.range n.toNatClampNeg)[k9]? = none := List.getElem?_eq_none (by rw [List.length_range]; omega)
        rw [hn0] at hx
        cases hx
    refine ⟨fun i j x y hi hj hxy => ?_, fun k9 x hx => ?_⟩
    · by_cases h1 : i < W1.length <;> by_cases h2 : j < W1.length
      · rw [List.getElem?_append_left h1] at hi
        rw [List.getElem?_append_left h2] at hj
        exact hD1.1 i j x y hi hj hxy
      · rw [List.getElem?_append_left h1] at hi
        rw [List.getElem?_append_right (by omega)] at hj
        have := hle _ _ hi
        have := hr _ _ hj
        omega
      · rw [List.getElem?_append_right (by omega)] at hi
        rw [List.getElem?_append_left h2] at hj
        have := hle _ _ hj
        have := hr _ _ hi
        omega
      · rw [List.getElem?_append_right (by omega)] at hi hj
        have := hr _ _ hi
        have := hr _ _ hj
        omega
    · by_cases h1 : k9 < W1.length
      · rw [List.getElem?_append_left h1] at hx
        exact hD1.2 k9 x hx
      · rw [List.getElem?_append_right (by omega)] at hx
        have := hr _ _ hx
        exact hA _ (by have := hS.1; omega)
  have hAr : ArrOfT s cA (.array ty) := fun N9 z9 => by
    obtain ⟨-, k9, hk9, cm9, hkk9⟩ := (hO 0 0 0).1
    exact ⟨(fun q hq => by cases hq), k9, hk9, cm9, hkk9⟩
  have hK2 : va_K D cl (tys ++ [(cA, .array ty)]) s := ⟨hK.1, fun k9 x hx => by
    by_cases hl : k9 < tys.length
    · rw [List.getElem?_append_left hl] at hx
      exact hK.2 k9 x hx
    · rw [List.getElem?_append_right (by omega)] at hx
      have h0 : k9 - tys.length < 1 := (List.getElem?_eq_some_iff.mp hx).1
      rw [show k9 - tys.length = 0 by omega] at hx
      cases hx
      exact ⟨hAr, fA⟩⟩
  obtain ⟨t, a1, b1⟩ := kk H.size (fun i => H.size + 1 + i) cA F.heap (fun i j _ _ h => by have h9 : H.size + 1 + i = H.size + 1 + j := h; omega) hnl hK2 (by rw [← vr_rows hnm]; exact vr_lay hP2) (by rw [← vr_rows hnm]; exact vr_layD hD2) ⟨by rw [f1]; have := hS.1; omega, fun x h1 h2 => (hold x (Nat.lt_of_lt_of_le h1 hS.1)).trans (hS.2.1 x h1 h2), hS.2.2⟩ F rfl X'
  refine ⟨t, step t ?_, b1⟩
  have e : T.heap.size = H.size := by rw [hT]
  rw [e]
  exact a1
end VGM
def RX0 : String := "PeerMarks$Equations"
def TX0 : u_T := fun k => match k with
  | 0 => ("PeerMarks$Equations", "rows", "[[J", true)
  | _ => ("PeerMarks$Equations", "size", "I", false)
def tyX0 : Nat → FieldType := fun k => match k with
  | 0 => .array (.array .long)
  | _ => .int
theorem nmX0 : ∀ a, a < 2 → ∀ b, b < 2 → a ≠ b → (TX0 a).2.1 ≠ (TX0 b).2.1 := by decide +kernel
theorem tyX0_ok : ∀ k, k < 2 → parseFieldDescriptor (TX0 k).2.2.1 = some (tyX0 k) := by decide +kernel
abbrev cX0_init : ByteArray := prog_2_method_1_code
def yX0_init : MethodName := ⟨RX0, "<init>", "()V"⟩
abbrev cX0_start : ByteArray := prog_2_method_2_code
def yX0_start : MethodName := ⟨RX0, "start", "(I)V"⟩
abbrev cX0_holds : ByteArray := prog_2_method_3_code
def yX0_holds : MethodName := ⟨RX0, "holds", "(I)Z"⟩
abbrev cX0_addSquare : ByteArray := prog_2_method_4_code
def yX0_addSquare : MethodName := ⟨RX0, "addSquare", "(II)V"⟩
abbrev cX0_addSquareOfSum : ByteArray := prog_2_method_5_code
def yX0_addSquareOfSum : MethodName := ⟨RX0, "addSquareOfSum", "(III)V"⟩
abbrev cX0_addFactor : ByteArray := prog_2_method_6_code
def yX0_addFactor : MethodName := ⟨RX0, "addFactor", "(II)V"⟩
abbrev cX0_solve : ByteArray := prog_2_method_7_code
def yX0_solve : MethodName := ⟨RX0, "solve", "()J"⟩
abbrev cX0_clearFactor : ByteArray := prog_2_method_8_code
def yX0_clearFactor : MethodName := ⟨RX0, "clearFactor", "(IIJ)V"⟩
abbrev cX0_topOf : ByteArray := prog_2_method_9_code
def yX0_topOf : MethodName := ⟨RX0, "topOf", "(I)J"⟩
def RX1 : String := "PeerMarks$House"
def TX1 : u_T := fun k => match k with
  | 0 => ("PeerMarks$House", "size", "I", false)
  | 1 => ("PeerMarks$House", "friendsOf", "[I", true)
  | _ => ("PeerMarks$House", "rules", "[I", true)
def tyX1 : Nat → FieldType := fun k => match k with
  | 0 => .int
  | 1 => .array .int
  | _ => .array .int
theorem nmX1 : ∀ a, a < 3 → ∀ b, b < 3 → a ≠ b → (TX1 a).2.1 ≠ (TX1 b).2.1 := by decide +kernel
theorem tyX1_ok : ∀ k, k < 3 → parseFieldDescriptor (TX1 k).2.2.1 = some (tyX1 k) := by decide +kernel
abbrev cX1_init : ByteArray := prog_3_method_1_code
def yX1_init : MethodName := ⟨RX1, "<init>", "()V"⟩
abbrev cX1_settle : ByteArray := prog_3_method_2_code
def yX1_settle : MethodName := ⟨RX1, "settle", "(I)V"⟩
abbrev cX1_holds : ByteArray := prog_3_method_3_code
def yX1_holds : MethodName := ⟨RX1, "holds", "(I)Z"⟩
abbrev cX1_befriend : ByteArray := prog_3_method_4_code
def yX1_befriend : MethodName := ⟨RX1, "befriend", "(IIZ)V"⟩
abbrev cX1_mayMark : ByteArray := prog_3_method_5_code
def yX1_mayMark : MethodName := ⟨RX1, "mayMark", "(I)I"⟩
abbrev cX1_pairsOfFriends : ByteArray := prog_3_method_6_code
def yX1_pairsOfFriends : MethodName := ⟨RX1, "pairsOfFriends", "()I"⟩
def RX2 : String := "PeerMarks$MarkBook"
def TX2 : u_T := fun k => match k with
  | 0 => ("PeerMarks$MarkBook", "house", "LPeerMarks$House;", true)
  | 1 => ("PeerMarks$MarkBook", "given", "[[I", true)
  | _ => ("PeerMarks$MarkBook", "byStaff", "[I", true)
def tyX2 : Nat → FieldType := fun k => match k with
  | 0 => .object "PeerMarks$House"
  | 1 => .array (.array .int)
  | _ => .array .int
theorem nmX2 : ∀ a, a < 3 → ∀ b, b < 3 → a ≠ b → (TX2 a).2.1 ≠ (TX2 b).2.1 := by decide +kernel
theorem tyX2_ok : ∀ k, k < 3 → parseFieldDescriptor (TX2 k).2.2.1 = some (tyX2 k) := by decide +kernel
abbrev cX2_init : ByteArray := prog_4_method_1_code
def yX2_init : MethodName := ⟨RX2, "<init>", "(LPeerMarks$House;)V"⟩
abbrev cX2_wipe : ByteArray := prog_4_method_2_code
def yX2_wipe : MethodName := ⟨RX2, "wipe", "()V"⟩
abbrev cX2_whoMarked : ByteArray := prog_4_method_3_code
def yX2_whoMarked : MethodName := ⟨RX2, "whoMarked", "(I)I"⟩
abbrev cX2_marksBy : ByteArray := prog_4_method_4_code
def yX2_marksBy : MethodName := ⟨RX2, "marksBy", "(I)I"⟩
abbrev cX2_howManyMarks : ByteArray := prog_4_method_5_code
def yX2_howManyMarks : MethodName := ⟨RX2, "howManyMarks", "()I"⟩
abbrev cX2_howManyByStaff : ByteArray := prog_4_method_6_code
def yX2_howManyByStaff : MethodName := ⟨RX2, "howManyByStaff", "()I"⟩
abbrev cX2_howManyAppealed : ByteArray := prog_4_method_7_code
def yX2_howManyAppealed : MethodName := ⟨RX2, "howManyAppealed", "()I"⟩
abbrev cX2_spreadOf : ByteArray := prog_4_method_8_code
def yX2_spreadOf : MethodName := ⟨RX2, "spreadOf", "(I)I"⟩
abbrev cX2_nextMarker : ByteArray := prog_4_method_9_code
def yX2_nextMarker : MethodName := ⟨RX2, "nextMarker", "(I)I"⟩
abbrev cX2_digestAll : ByteArray := prog_4_method_10_code
def yX2_digestAll : MethodName := ⟨RX2, "digestAll", "()I"⟩
def RX3 : String := "PeerMarks$Orders"
def TX3 : u_T := fun k => match k with
  | 0 => ("PeerMarks$Orders", "house", "LPeerMarks$House;", true)
  | 1 => ("PeerMarks$Orders", "book", "LPeerMarks$MarkBook;", true)
  | 2 => ("PeerMarks$Orders", "tolls", "[J", true)
  | 3 => ("PeerMarks$Orders", "least", "[I", true)
  | 4 => ("PeerMarks$Orders", "row", "[I", true)
  | 5 => ("PeerMarks$Orders", "rowWithout", "[I", true)
  | 6 => ("PeerMarks$Orders", "moved", "[I", true)
  | 7 => ("PeerMarks$Orders", "quarrelOfRow", "I", false)
  | _ => ("PeerMarks$Orders", "fresh", "Z", false)
def tyX3 : Nat → FieldType := fun k => match k with
  | 0 => .object "PeerMarks$House"
  | 1 => .object "PeerMarks$MarkBook"
  | 2 => .array .long
  | 3 => .array .int
  | 4 => .array .int
  | 5 => .array .int
  | 6 => .array .int
  | 7 => .int
  | _ => .boolean
theorem nmX3 : ∀ a, a < 9 → ∀ b, b < 9 → a ≠ b → (TX3 a).2.1 ≠ (TX3 b).2.1 := by decide +kernel
theorem tyX3_ok : ∀ k, k < 9 → parseFieldDescriptor (TX3 k).2.2.1 = some (tyX3 k) := by decide +kernel
abbrev cX3_init : ByteArray := prog_5_method_1_code
def yX3_init : MethodName := ⟨RX3, "<init>", "(LPeerMarks$House;LPeerMarks$MarkBook;)V"⟩
abbrev cX3_forget : ByteArray := prog_5_method_2_code
def yX3_forget : MethodName := ⟨RX3, "forget", "()V"⟩
abbrev cX3_workAt : ByteArray := prog_5_method_3_code
def yX3_workAt : MethodName := ⟨RX3, "workAt", "(I)I"⟩
abbrev cX3_leastQuarrel : ByteArray := prog_5_method_4_code
def yX3_leastQuarrel : MethodName := ⟨RX3, "leastQuarrel", "()I"⟩
abbrev cX3_turnedBy : ByteArray := prog_5_method_5_code
def yX3_turnedBy : MethodName := ⟨RX3, "turnedBy", "(I)I"⟩
abbrev cX3_farthestMove : ByteArray := prog_5_method_6_code
def yX3_farthestMove : MethodName := ⟨RX3, "farthestMove", "(I)I"⟩
abbrev cX3_refresh : ByteArray := prog_5_method_7_code
def yX3_refresh : MethodName := ⟨RX3, "refresh", "()V"⟩
abbrev cX3_turnsTwo : ByteArray := prog_5_method_8_code
def yX3_turnsTwo : MethodName := ⟨RX3, "turnsTwo", "(III)Z"⟩
abbrev cX3_farthest : ByteArray := prog_5_method_9_code
def yX3_farthest : MethodName := ⟨RX3, "farthest", "()I"⟩
abbrev cX3_findOrder : ByteArray := prog_5_method_10_code
def yX3_findOrder : MethodName := ⟨RX3, "findOrder", "(I[I)I"⟩
abbrev cX3_countTolls : ByteArray := prog_5_method_11_code
def yX3_countTolls : MethodName := ⟨RX3, "countTolls", "(I)V"⟩
abbrev cX3_tollsWith : ByteArray := prog_5_method_12_code
def yX3_tollsWith : MethodName := ⟨RX3, "tollsWith", "(II)J"⟩
abbrev cX3_findLeast : ByteArray := prog_5_method_13_code
def yX3_findLeast : MethodName := ⟨RX3, "findLeast", "()V"⟩
abbrev cX3_quarrelIfAhead : ByteArray := prog_5_method_14_code
def yX3_quarrelIfAhead : MethodName := ⟨RX3, "quarrelIfAhead", "(II)I"⟩
abbrev cX3_bestAhead : ByteArray := prog_5_method_15_code
def yX3_bestAhead : MethodName := ⟨RX3, "bestAhead", "(I)I"⟩
def RX4 : String := "PeerMarks$Pieces"
def TX4 : u_T := fun k => match k with
  | 0 => ("PeerMarks$Pieces", "house", "LPeerMarks$House;", true)
  | 1 => ("PeerMarks$Pieces", "book", "LPeerMarks$MarkBook;", true)
  | 2 => ("PeerMarks$Pieces", "equations", "LPeerMarks$Equations;", true)
  | 3 => ("PeerMarks$Pieces", "markers", "[I", true)
  | 4 => ("PeerMarks$Pieces", "worksIn", "[I", true)
  | 5 => ("PeerMarks$Pieces", "markersIn", "[I", true)
  | 6 => ("PeerMarks$Pieces", "lower", "[J", true)
  | 7 => ("PeerMarks$Pieces", "worthTop", "[J", true)
  | 8 => ("PeerMarks$Pieces", "leanTop", "[J", true)
  | 9 => ("PeerMarks$Pieces", "worthSlot", "[I", true)
  | 10 => ("PeerMarks$Pieces", "leanSlot", "[I", true)
  | 11 => ("PeerMarks$Pieces", "many", "I", false)
  | _ => ("PeerMarks$Pieces", "fresh", "Z", false)
def tyX4 : Nat → FieldType := fun k => match k with
  | 0 => .object "PeerMarks$House"
  | 1 => .object "PeerMarks$MarkBook"
  | 2 => .object "PeerMarks$Equations"
  | 3 => .array .int
  | 4 => .array .int
  | 5 => .array .int
  | 6 => .array .long
  | 7 => .array .long
  | 8 => .array .long
  | 9 => .array .int
  | 10 => .array .int
  | 11 => .int
  | _ => .boolean
theorem nmX4 : ∀ a, a < 13 → ∀ b, b < 13 → a ≠ b → (TX4 a).2.1 ≠ (TX4 b).2.1 := by decide +kernel
theorem tyX4_ok : ∀ k, k < 13 → parseFieldDescriptor (TX4 k).2.2.1 = some (tyX4 k) := by decide +kernel
abbrev cX4_init : ByteArray := prog_6_method_1_code
def yX4_init : MethodName := ⟨RX4, "<init>", "(LPeerMarks$House;LPeerMarks$MarkBook;)V"⟩
abbrev cX4_forget : ByteArray := prog_6_method_2_code
def yX4_forget : MethodName := ⟨RX4, "forget", "()V"⟩
abbrev cX4_howMany : ByteArray := prog_6_method_3_code
def yX4_howMany : MethodName := ⟨RX4, "howMany", "()I"⟩
abbrev cX4_howManyLarge : ByteArray := prog_6_method_4_code
def yX4_howManyLarge : MethodName := ⟨RX4, "howManyLarge", "()I"⟩
abbrev cX4_ofWork : ByteArray := prog_6_method_5_code
def yX4_ofWork : MethodName := ⟨RX4, "ofWork", "(I)I"⟩
abbrev cX4_ofMarker : ByteArray := prog_6_method_6_code
def yX4_ofMarker : MethodName := ⟨RX4, "ofMarker", "(I)I"⟩
abbrev cX4_whichHas : ByteArray := prog_6_method_7_code
def yX4_whichHas : MethodName := ⟨RX4, "whichHas", "([II)I"⟩
abbrev cX4_isTold : ByteArray := prog_6_method_8_code
def yX4_isTold : MethodName := ⟨RX4, "isTold", "(I)Z"⟩
abbrev cX4_isLarge : ByteArray := prog_6_method_9_code
def yX4_isLarge : MethodName := ⟨RX4, "isLarge", "(I)Z"⟩
abbrev cX4_refresh : ByteArray := prog_6_method_10_code
def yX4_refresh : MethodName := ⟨RX4, "refresh", "()V"⟩
abbrev cX4_workOut : ByteArray := prog_6_method_11_code
def yX4_workOut : MethodName := ⟨RX4, "workOut", "(I)V"⟩
abbrev cX4_giveSlots : ByteArray := prog_6_method_12_code
def yX4_giveSlots : MethodName := ⟨RX4, "giveSlots", "(I)I"⟩
abbrev cX4_hasStaffMark : ByteArray := prog_6_method_13_code
def yX4_hasStaffMark : MethodName := ⟨RX4, "hasStaffMark", "(I)Z"⟩
abbrev cX4_writeMarksOf : ByteArray := prog_6_method_14_code
def yX4_writeMarksOf : MethodName := ⟨RX4, "writeMarksOf", "(I)V"⟩
abbrev cX4_writeLeansAreNothingInAll : ByteArray := prog_6_method_15_code
def yX4_writeLeansAreNothingInAll : MethodName := ⟨RX4, "writeLeansAreNothingInAll", "(I)V"⟩
abbrev cX4_readTops : ByteArray := prog_6_method_16_code
def yX4_readTops : MethodName := ⟨RX4, "readTops", "(I)V"⟩
def RX5 : String := "PeerMarks$Sharing"
def TX5 : u_T := fun k => match k with
  | 0 => ("PeerMarks$Sharing", "house", "LPeerMarks$House;", true)
  | 1 => ("PeerMarks$Sharing", "markers", "[I", true)
  | 2 => ("PeerMarks$Sharing", "burden", "[I", true)
  | 3 => ("PeerMarks$Sharing", "giver", "[I", true)
  | 4 => ("PeerMarks$Sharing", "gift", "[I", true)
  | 5 => ("PeerMarks$Sharing", "fresh", "Z", false)
  | _ => ("PeerMarks$Sharing", "possible", "Z", false)
def tyX5 : Nat → FieldType := fun k => match k with
  | 0 => .object "PeerMarks$House"
  | 1 => .array .int
  | 2 => .array .int
  | 3 => .array .int
  | 4 => .array .int
  | 5 => .boolean
  | _ => .boolean
theorem nmX5 : ∀ a, a < 7 → ∀ b, b < 7 → a ≠ b → (TX5 a).2.1 ≠ (TX5 b).2.1 := by decide +kernel
theorem tyX5_ok : ∀ k, k < 7 → parseFieldDescriptor (TX5 k).2.2.1 = some (tyX5 k) := by decide +kernel
abbrev cX5_init : ByteArray := prog_7_method_1_code
def yX5_init : MethodName := ⟨RX5, "<init>", "(LPeerMarks$House;)V"⟩
abbrev cX5_forget : ByteArray := prog_7_method_2_code
def yX5_forget : MethodName := ⟨RX5, "forget", "()V"⟩
abbrev cX5_isPossible : ByteArray := prog_7_method_3_code
def yX5_isPossible : MethodName := ⟨RX5, "isPossible", "()Z"⟩
abbrev cX5_findAnyPlan : ByteArray := prog_7_method_4_code
def yX5_findAnyPlan : MethodName := ⟨RX5, "findAnyPlan", "()Z"⟩
abbrev cX5_findMarker : ByteArray := prog_7_method_5_code
def yX5_findMarker : MethodName := ⟨RX5, "findMarker", "(I)Z"⟩
abbrev cX5_makeFirst : ByteArray := prog_7_method_6_code
def yX5_makeFirst : MethodName := ⟨RX5, "makeFirst", "()V"⟩
abbrev cX5_bringIn : ByteArray := prog_7_method_7_code
def yX5_bringIn : MethodName := ⟨RX5, "bringIn", "(II)V"⟩
abbrev cX5_take : ByteArray := prog_7_method_8_code
def yX5_take : MethodName := ⟨RX5, "take", "(II)V"⟩
abbrev cX5_drop : ByteArray := prog_7_method_9_code
def yX5_drop : MethodName := ⟨RX5, "drop", "(II)V"⟩
abbrev cX5_passOn : ByteArray := prog_7_method_10_code
def yX5_passOn : MethodName := ⟨RX5, "passOn", "(II)Z"⟩
abbrev cX5_leastOf : ByteArray := prog_7_method_11_code
def yX5_leastOf : MethodName := ⟨RX5, "leastOf", "(I)I"⟩
abbrev cX5_reach : ByteArray := prog_7_method_12_code
def yX5_reach : MethodName := ⟨RX5, "reach", "(III)I"⟩
abbrev cX5_withRoom : ByteArray := prog_7_method_13_code
def yX5_withRoom : MethodName := ⟨RX5, "withRoom", "(I)I"⟩
abbrev cX5_handDown : ByteArray := prog_7_method_14_code
def yX5_handDown : MethodName := ⟨RX5, "handDown", "(II)V"⟩
abbrev cX5_leastLack : ByteArray := prog_7_method_15_code
def yX5_leastLack : MethodName := ⟨RX5, "leastLack", "()I"⟩
abbrev cX5_roomFor : ByteArray := prog_7_method_16_code
def yX5_roomFor : MethodName := ⟨RX5, "roomFor", "(I)I"⟩
abbrev cX5_countParts : ByteArray := prog_7_method_17_code
def yX5_countParts : MethodName := ⟨RX5, "countParts", "()I"⟩
def RX6 : String := "PeerMarks"
def TX6 : u_T := fun k => match k with
  | 0 => ("PeerMarks", "house", "LPeerMarks$House;", true)
  | 1 => ("PeerMarks", "book", "LPeerMarks$MarkBook;", true)
  | 2 => ("PeerMarks", "sharing", "LPeerMarks$Sharing;", true)
  | 3 => ("PeerMarks", "pieces", "LPeerMarks$Pieces;", true)
  | _ => ("PeerMarks", "orders", "LPeerMarks$Orders;", true)
def tyX6 : Nat → FieldType := fun k => match k with
  | 0 => .object "PeerMarks$House"
  | 1 => .object "PeerMarks$MarkBook"
  | 2 => .object "PeerMarks$Sharing"
  | 3 => .object "PeerMarks$Pieces"
  | _ => .object "PeerMarks$Orders"
theorem nmX6 : ∀ a, a < 5 → ∀ b, b < 5 → a ≠ b → (TX6 a).2.1 ≠ (TX6 b).2.1 := by decide +kernel
theorem tyX6_ok : ∀ k, k < 5 → parseFieldDescriptor (TX6 k).2.2.1 = some (tyX6 k) := by decide +kernel
abbrev cX6_init : ByteArray := prog_1_method_1_code
def yX6_init : MethodName := ⟨RX6, "<init>", "()V"⟩
abbrev cX6_pupils : ByteArray := prog_1_method_2_code
def yX6_pupils : MethodName := ⟨RX6, "pupils", "(I)I"⟩
abbrev cX6_friends : ByteArray := prog_1_method_3_code
def yX6_friends : MethodName := ⟨RX6, "friends", "(IIZ)I"⟩
abbrev cX6_rule : ByteArray := prog_1_method_4_code
def yX6_rule : MethodName := ⟨RX6, "rule", "(II)I"⟩
abbrev cX6_may : ByteArray := prog_1_method_5_code
def yX6_may : MethodName := ⟨RX6, "may", "(I)I"⟩
abbrev cX6_plan : ByteArray := prog_1_method_6_code
def yX6_plan : MethodName := ⟨RX6, "plan", "(I)I"⟩
abbrev cX6_shared : ByteArray := prog_1_method_7_code
def yX6_shared : MethodName := ⟨RX6, "shared", "(I)I"⟩
abbrev cX6_lack : ByteArray := prog_1_method_8_code
def yX6_lack : MethodName := ⟨RX6, "lack", "()I"⟩
abbrev cX6_parts : ByteArray := prog_1_method_9_code
def yX6_parts : MethodName := ⟨RX6, "parts", "()I"⟩
abbrev cX6_mark : ByteArray := prog_1_method_10_code
def yX6_mark : MethodName := ⟨RX6, "mark", "(III)I"⟩
abbrev cX6_staff : ByteArray := prog_1_method_11_code
def yX6_staff : MethodName := ⟨RX6, "staff", "(II)I"⟩
abbrev cX6_count : ByteArray := prog_1_method_12_code
def yX6_count : MethodName := ⟨RX6, "count", "(I)I"⟩
abbrev cX6_piece : ByteArray := prog_1_method_13_code
def yX6_piece : MethodName := ⟨RX6, "piece", "(II)I"⟩
abbrev cX6_worth : ByteArray := prog_1_method_14_code
def yX6_worth : MethodName := ⟨RX6, "worth", "(II)J"⟩
abbrev cX6_lean : ByteArray := prog_1_method_15_code
def yX6_lean : MethodName := ⟨RX6, "lean", "(II)J"⟩
abbrev cX6_left : ByteArray := prog_1_method_16_code
def yX6_left : MethodName := ⟨RX6, "left", "(III)J"⟩
abbrev cX6_order : ByteArray := prog_1_method_17_code
def yX6_order : MethodName := ⟨RX6, "order", "(I)I"⟩
abbrev cX6_quarrel : ByteArray := prog_1_method_18_code
def yX6_quarrel : MethodName := ⟨RX6, "quarrel", "()I"⟩
abbrev cX6_turned : ByteArray := prog_1_method_19_code
def yX6_turned : MethodName := ⟨RX6, "turned", "(I)I"⟩
abbrev cX6_moves : ByteArray := prog_1_method_20_code
def yX6_moves : MethodName := ⟨RX6, "moves", "(I)I"⟩
abbrev cX6_spread : ByteArray := prog_1_method_21_code
def yX6_spread : MethodName := ⟨RX6, "spread", "(I)I"⟩
abbrev cX6_next : ByteArray := prog_1_method_22_code
def yX6_next : MethodName := ⟨RX6, "next", "(I)I"⟩
abbrev cX6_digest : ByteArray := prog_1_method_23_code
def yX6_digest : MethodName := ⟨RX6, "digest", "()I"⟩
abbrev cX6_has : ByteArray := prog_1_method_24_code
def yX6_has : MethodName := ⟨RX6, "has", "(II)Z"⟩
abbrev cX6_tiedWorks : ByteArray := prog_1_method_25_code
def yX6_tiedWorks : MethodName := ⟨RX6, "tiedWorks", "([III)I"⟩
abbrev cX6_markersOf : ByteArray := prog_1_method_26_code
def yX6_markersOf : MethodName := ⟨RX6, "markersOf", "([III)I"⟩
abbrev cX6_worksOf : ByteArray := prog_1_method_27_code
def yX6_worksOf : MethodName := ⟨RX6, "worksOf", "([III)I"⟩
abbrev cX6_inLeastTerms : ByteArray := prog_1_method_28_code
def yX6_inLeastTerms : MethodName := ⟨RX6, "inLeastTerms", "(JJI)J"⟩
abbrev cX6_commonDivisor : ByteArray := prog_1_method_29_code
def yX6_commonDivisor : MethodName := ⟨RX6, "commonDivisor", "(JJ)J"⟩
def RX7 : String := "PeerMarksModel"
def TX7 : u_T := fun k => match k with
  | 0 => ("PeerMarksModel", "n", "I", false)
  | 1 => ("PeerMarksModel", "friends", "[Z", true)
  | 2 => ("PeerMarksModel", "rules", "[I", true)
  | 3 => ("PeerMarksModel", "marks", "[I", true)
  | 4 => ("PeerMarksModel", "staff", "[I", true)
  | 5 => ("PeerMarksModel", "room", "[I", true)
  | 6 => ("PeerMarksModel", "plans", "[I", true)
  | 7 => ("PeerMarksModel", "parts", "[I", true)
  | 8 => ("PeerMarksModel", "placeOf", "[I", true)
  | 9 => ("PeerMarksModel", "unknown", "I", false)
  | 10 => ("PeerMarksModel", "cells", "[J", true)
  | 11 => ("PeerMarksModel", "uppers", "[J", true)
  | 12 => ("PeerMarksModel", "below", "J", false)
  | 13 => ("PeerMarksModel", "quarrels", "[I", true)
  | 14 => ("PeerMarksModel", "least", "[I", true)
  | 15 => ("PeerMarksModel", "places", "[I", true)
  | _ => ("PeerMarksModel", "others", "[I", true)
def tyX7 : Nat → FieldType := fun k => match k with
  | 0 => .int
  | 1 => .array .boolean
  | 2 => .array .int
  | 3 => .array .int
  | 4 => .array .int
  | 5 => .array .int
  | 6 => .array .int
  | 7 => .array .int
  | 8 => .array .int
  | 9 => .int
  | 10 => .array .long
  | 11 => .array .long
  | 12 => .long
  | 13 => .array .int
  | 14 => .array .int
  | 15 => .array .int
  | _ => .array .int
theorem nmX7 : ∀ a, a < 17 → ∀ b, b < 17 → a ≠ b → (TX7 a).2.1 ≠ (TX7 b).2.1 := by decide +kernel
theorem tyX7_ok : ∀ k, k < 17 → parseFieldDescriptor (TX7 k).2.2.1 = some (tyX7 k) := by decide +kernel
abbrev cX7_init : ByteArray := prog_9_method_1_code
def yX7_init : MethodName := ⟨RX7, "<init>", "()V"⟩
abbrev cX7_in : ByteArray := prog_9_method_3_code
def yX7_in : MethodName := ⟨RX7, "in", "(JJJ)Z"⟩
abbrev cX7_clear : ByteArray := prog_9_method_4_code
def yX7_clear : MethodName := ⟨RX7, "clear", "()V"⟩
abbrev cX7_is : ByteArray := prog_9_method_5_code
def yX7_is : MethodName := ⟨RX7, "is", "(I)Z"⟩
abbrev cX7_pupils : ByteArray := prog_9_method_6_code
def yX7_pupils : MethodName := ⟨RX7, "pupils", "(I)I"⟩
abbrev cX7_friends : ByteArray := prog_9_method_7_code
def yX7_friends : MethodName := ⟨RX7, "friends", "(IIZ)I"⟩
abbrev cX7_rule : ByteArray := prog_9_method_8_code
def yX7_rule : MethodName := ⟨RX7, "rule", "(II)I"⟩
abbrev cX7_canMark : ByteArray := prog_9_method_9_code
def yX7_canMark : MethodName := ⟨RX7, "canMark", "(II)Z"⟩
abbrev cX7_may : ByteArray := prog_9_method_10_code
def yX7_may : MethodName := ⟨RX7, "may", "(I)I"⟩
abbrev cX7_bits : ByteArray := prog_9_method_11_code
def yX7_bits : MethodName := ⟨RX7, "bits", "(I)I"⟩
abbrev cX7_lackFrom : ByteArray := prog_9_method_12_code
def yX7_lackFrom : MethodName := ⟨RX7, "lackFrom", "(I)I"⟩
abbrev cX7_mayBe : ByteArray := prog_9_method_13_code
def yX7_mayBe : MethodName := ⟨RX7, "mayBe", "(II)Z"⟩
abbrev cX7_use : ByteArray := prog_9_method_14_code
def yX7_use : MethodName := ⟨RX7, "use", "(II)V"⟩
abbrev cX7_isAhead : ByteArray := prog_9_method_15_code
def yX7_isAhead : MethodName := ⟨RX7, "isAhead", "(II)Z"⟩
abbrev cX7_findPlan : ByteArray := prog_9_method_16_code
def yX7_findPlan : MethodName := ⟨RX7, "findPlan", "()Z"⟩
abbrev cX7_plan : ByteArray := prog_9_method_17_code
def yX7_plan : MethodName := ⟨RX7, "plan", "(I)I"⟩
abbrev cX7_shared : ByteArray := prog_9_method_18_code
def yX7_shared : MethodName := ⟨RX7, "shared", "(I)I"⟩
abbrev cX7_lack : ByteArray := prog_9_method_19_code
def yX7_lack : MethodName := ⟨RX7, "lack", "()I"⟩
abbrev cX7_spread : ByteArray := prog_9_method_20_code
def yX7_spread : MethodName := ⟨RX7, "spread", "(II)V"⟩
abbrev cX7_join : ByteArray := prog_9_method_21_code
def yX7_join : MethodName := ⟨RX7, "join", "(II)V"⟩
abbrev cX7_parts : ByteArray := prog_9_method_22_code
def yX7_parts : MethodName := ⟨RX7, "parts", "()I"⟩
abbrev cX7_mark : ByteArray := prog_9_method_23_code
def yX7_mark : MethodName := ⟨RX7, "mark", "(III)I"⟩
abbrev cX7_staff : ByteArray := prog_9_method_24_code
def yX7_staff : MethodName := ⟨RX7, "staff", "(II)I"⟩
abbrev cX7_findParts : ByteArray := prog_9_method_25_code
def yX7_findParts : MethodName := ⟨RX7, "findParts", "()V"⟩
abbrev cX7_sizeOf : ByteArray := prog_9_method_26_code
def yX7_sizeOf : MethodName := ⟨RX7, "sizeOf", "(I)I"⟩
abbrev cX7_numberOf : ByteArray := prog_9_method_27_code
def yX7_numberOf : MethodName := ⟨RX7, "numberOf", "(I)I"⟩
abbrev cX7_pieces : ByteArray := prog_9_method_28_code
def yX7_pieces : MethodName := ⟨RX7, "pieces", "(I)I"⟩
abbrev cX7_count : ByteArray := prog_9_method_29_code
def yX7_count : MethodName := ⟨RX7, "count", "(I)I"⟩
abbrev cX7_piece : ByteArray := prog_9_method_30_code
def yX7_piece : MethodName := ⟨RX7, "piece", "(II)I"⟩
abbrev cX7_place : ByteArray := prog_9_method_31_code
def yX7_place : MethodName := ⟨RX7, "place", "(I)V"⟩
abbrev cX7_add : ByteArray := prog_9_method_32_code
def yX7_add : MethodName := ⟨RX7, "add", "(IIJ)V"⟩
abbrev cX7_setUp : ByteArray := prog_9_method_33_code
def yX7_setUp : MethodName := ⟨RX7, "setUp", "(I)V"⟩
abbrev cX7_solveCells : ByteArray := prog_9_method_34_code
def yX7_solveCells : MethodName := ⟨RX7, "solveCells", "()V"⟩
abbrev cX7_solve : ByteArray := prog_9_method_35_code
def yX7_solve : MethodName := ⟨RX7, "solve", "(I)Z"⟩
abbrev cX7_common : ByteArray := prog_9_method_36_code
def yX7_common : MethodName := ⟨RX7, "common", "(JJ)J"⟩
abbrev cX7_told : ByteArray := prog_9_method_37_code
def yX7_told : MethodName := ⟨RX7, "told", "(JI)J"⟩
abbrev cX7_worth : ByteArray := prog_9_method_38_code
def yX7_worth : MethodName := ⟨RX7, "worth", "(II)J"⟩
abbrev cX7_lean : ByteArray := prog_9_method_39_code
def yX7_lean : MethodName := ⟨RX7, "lean", "(II)J"⟩
abbrev cX7_left : ByteArray := prog_9_method_40_code
def yX7_left : MethodName := ⟨RX7, "left", "(III)J"⟩
abbrev cX7_turns : ByteArray := prog_9_method_41_code
def yX7_turns : MethodName := ⟨RX7, "turns", "(III)Z"⟩
abbrev cX7_cost : ByteArray := prog_9_method_42_code
def yX7_cost : MethodName := ⟨RX7, "cost", "(II)I"⟩
abbrev cX7_findOrder : ByteArray := prog_9_method_43_code
def yX7_findOrder : MethodName := ⟨RX7, "findOrder", "(I)V"⟩
abbrev cX7_order : ByteArray := prog_9_method_44_code
def yX7_order : MethodName := ⟨RX7, "order", "(I)I"⟩
abbrev cX7_quarrel : ByteArray := prog_9_method_45_code
def yX7_quarrel : MethodName := ⟨RX7, "quarrel", "()I"⟩
abbrev cX7_turned : ByteArray := prog_9_method_46_code
def yX7_turned : MethodName := ⟨RX7, "turned", "(I)I"⟩
abbrev cX7_moves : ByteArray := prog_9_method_47_code
def yX7_moves : MethodName := ⟨RX7, "moves", "(I)I"⟩
abbrev cX7_spreadOf : ByteArray := prog_9_method_48_code
def yX7_spreadOf : MethodName := ⟨RX7, "spreadOf", "(I)I"⟩
abbrev cX7_spread_ : ByteArray := prog_9_method_49_code
def yX7_spread_ : MethodName := ⟨RX7, "spread", "(I)I"⟩
abbrev cX7_marksOf : ByteArray := prog_9_method_50_code
def yX7_marksOf : MethodName := ⟨RX7, "marksOf", "(I)I"⟩
abbrev cX7_next : ByteArray := prog_9_method_51_code
def yX7_next : MethodName := ⟨RX7, "next", "(I)I"⟩
abbrev cX7_digest : ByteArray := prog_9_method_52_code
def yX7_digest : MethodName := ⟨RX7, "digest", "()I"⟩
def RJ6 : String := "java/lang/Integer"
def TJ6 : u_T := fun k => match k with
  | _ => ("", "", "", false)
def tyJ6 : Nat → FieldType := fun k => match k with
  | _ => .int
theorem nmJ6 : ∀ a, a < 0 → ∀ b, b < 0 → a ≠ b → (TJ6 a).2.1 ≠ (TJ6 b).2.1 := by decide +kernel
theorem tyJ6_ok : ∀ k, k < 0 → parseFieldDescriptor (TJ6 k).2.2.1 = some (tyJ6 k) := by decide +kernel
abbrev cJ6_bitCount_0f7a4 : ByteArray := prog_10_method_49_code
def yJ6_bitCount_0f7a4 : MethodName := ⟨RJ6, "bitCount", "(I)I"⟩
def RJ9 : String := "java/lang/Math"
def TJ9 : u_T := fun k => match k with
  | _ => ("", "", "", false)
def tyJ9 : Nat → FieldType := fun k => match k with
  | _ => .int
theorem nmJ9 : ∀ a, a < 0 → ∀ b, b < 0 → a ≠ b → (TJ9 a).2.1 ≠ (TJ9 b).2.1 := by decide +kernel
theorem tyJ9_ok : ∀ k, k < 0 → parseFieldDescriptor (TJ9 k).2.2.1 = some (tyJ9 k) := by decide +kernel
abbrev cJ9_abs_0f7a4 : ByteArray := prog_11_method_59_code
def yJ9_abs_0f7a4 : MethodName := ⟨RJ9, "abs", "(I)I"⟩
abbrev cJ9_abs_067f4 : ByteArray := prog_11_method_61_code
def yJ9_abs_067f4 : MethodName := ⟨RJ9, "abs", "(J)J"⟩
abbrev cJ9_max_7cf53 : ByteArray := prog_11_method_65_code
def yJ9_max_7cf53 : MethodName := ⟨RJ9, "max", "(II)I"⟩
abbrev cJ9_min_7cf53 : ByteArray := prog_11_method_69_code
def yJ9_min_7cf53 : MethodName := ⟨RJ9, "min", "(II)I"⟩
def RJ7 : String := "java/util/Arrays"
def TJ7 : u_T := fun k => match k with
  | _ => ("", "", "", false)
def tyJ7 : Nat → FieldType := fun k => match k with
  | _ => .int
theorem nmJ7 : ∀ a, a < 0 → ∀ b, b < 0 → a ≠ b → (TJ7 a).2.1 ≠ (TJ7 b).2.1 := by decide +kernel
theorem tyJ7_ok : ∀ k, k < 0 → parseFieldDescriptor (TJ7 k).2.2.1 = some (tyJ7 k) := by decide +kernel
abbrev cJ7_fill_d0a16 : ByteArray := prog_12_method_101_code
def yJ7_fill_d0a16 : MethodName := ⟨RJ7, "fill", "([JJ)V"⟩
abbrev cJ7_fill_53178 : ByteArray := prog_12_method_103_code
def yJ7_fill_53178 : MethodName := ⟨RJ7, "fill", "([II)V"⟩
def RL : String := "PeerMarksLaw"
abbrev cL_law : ByteArray := code
def yL_law : MethodName := ⟨RL, "law", "([I)Z"⟩
theorem dX0_init_0 : decode cX0_init 0 = .ok (.aload_n 0, 1) := by decide +kernel
theorem dX0_init_1 : decode cX0_init 1 = .ok (.invokespecial 3, 3) := by decide +kernel
theorem dX0_init_4 : decode cX0_init 4 = .ok (.aload_n 0, 1) := by decide +kernel
theorem dX0_init_5 : decode cX0_init 5 = .ok (.bipush 10, 2) := by decide +kernel
theorem dX0_init_7 : decode cX0_init 7 = .ok (.bipush 11, 2) := by decide +kernel
theorem dX0_init_9 : decode cX0_init 9 = .ok (.multianewarray 9 2, 4) := by decide +kernel
theorem dX0_init_13 : decode cX0_init 13 = .ok (.putfield 11, 3) := by decide +kernel
theorem dX0_init_16 : decode cX0_init 16 = .ok (.aload_n 0, 1) := by decide +kernel
theorem dX0_init_17 : decode cX0_init 17 = .ok (.iconst 0, 1) := by decide +kernel
theorem dX0_init_18 : decode cX0_init 18 = .ok (.putfield 16, 3) := by decide +kernel
theorem dX0_init_21 : decode cX0_init 21 = .ok (.return_, 1) := by decide +kernel
theorem dX0_start_0 : decode cX0_start 0 = .ok (.aload_n 0, 1) := by decide +kernel
theorem dX0_start_1 : decode cX0_start 1 = .ok (.iconst 0, 1) := by decide +kernel
theorem dX0_start_2 : decode cX0_start 2 = .ok (.iload_n 1, 1) := by decide +kernel
theorem dX0_start_3 : decode cX0_start 3 = .ok (.bipush 10, 2) := by decide +kernel
theorem dX0_start_5 : decode cX0_start 5 = .ok (.invokestatic 20, 3) := by decide +kernel
theorem dX0_start_8 : decode cX0_start 8 = .ok (.invokestatic 26, 3) := by decide +kernel
theorem dX0_start_11 : decode cX0_start 11 = .ok (.putfield 16, 3) := by decide +kernel
theorem dX0_start_14 : decode cX0_start 14 = .ok (.iconst 0, 1) := by decide +kernel
theorem dX0_start_15 : decode cX0_start 15 = .ok (.istore_n 2, 1) := by decide +kernel
theorem dX0_start_16 : decode cX0_start 16 = .ok (.iload_n 2, 1) := by decide +kernel
theorem dX0_start_17 : decode cX0_start 17 = .ok (.aload_n 0, 1) := by decide +kernel
theorem dX0_start_18 : decode cX0_start 18 = .ok (.getfield 16, 3) := by decide +kernel
theorem dX0_start_21 : decode cX0_start 21 = .ok (.if_icmp .ge 19, 3) := by decide +kernel
theorem dX0_start_24 : decode cX0_start 24 = .ok (.aload_n 0, 1) := by decide +kernel
theorem dX0_start_25 : decode cX0_start 25 = .ok (.getfield 11, 3) := by decide +kernel
theorem dX0_start_28 : decode cX0_start 28 = .ok (.iload_n 2, 1) := by decide +kernel
theorem dX0_start_29 : decode cX0_start 29 = .ok (.aaload, 1) := by decide +kernel
theorem dX0_start_30 : decode cX0_start 30 = .ok (.lconst 0, 1) := by decide +kernel
theorem dX0_start_31 : decode cX0_start 31 = .ok (.invokestatic 29, 3) := by decide +kernel
theorem dX0_start_34 : decode cX0_start 34 = .ok (.iinc 2 1, 3) := by decide +kernel
theorem dX0_start_37 : decode cX0_start 37 = .ok (.goto (-21), 3) := by decide +kernel
theorem dX0_start_40 : decode cX0_start 40 = .ok (.return_, 1) := by decide +kernel
theorem dX0_holds_0 : decode cX0_holds 0 = .ok (.iload_n 1, 1) := by decide +kernel
theorem dX0_holds_1 : decode cX0_holds 1 = .ok (.ifCond .lt 15, 3) := by decide +kernel
theorem dX0_holds_4 : decode cX0_holds 4 = .ok (.iload_n 1, 1) := by decide +kernel
theorem dX0_holds_5 : decode cX0_holds 5 = .ok (.aload_n 0, 1) := by decide +kernel
theorem dX0_holds_6 : decode cX0_holds 6 = .ok (.getfield 16, 3) := by decide +kernel
theorem dX0_holds_9 : decode cX0_holds 9 = .ok (.if_icmp .ge 7, 3) := by decide +kernel
theorem dX0_holds_12 : decode cX0_holds 12 = .ok (.iconst 1, 1) := by decide +kernel
theorem dX0_holds_13 : decode cX0_holds 13 = .ok (.goto 4, 3) := by decide +kernel
theorem dX0_holds_16 : decode cX0_holds 16 = .ok (.iconst 0, 1) := by decide +kernel
theorem dX0_holds_17 : decode cX0_holds 17 = .ok (.ireturn, 1) := by decide +kernel
theorem dX0_addSquare_0 : decode cX0_addSquare 0 = .ok (.aload_n 0, 1) := by decide +kernel
theorem dX0_addSquare_1 : decode cX0_addSquare 1 = .ok (.iload_n 1, 1) := by decide +kernel
theorem dX0_addSquare_2 : decode cX0_addSquare 2 = .ok (.invokevirtual 35, 3) := by decide +kernel
theorem dX0_addSquare_5 : decode cX0_addSquare 5 = .ok (.ifCond .eq 31, 3) := by decide +kernel
theorem dX0_addSquare_8 : decode cX0_addSquare 8 = .ok (.aload_n 0, 1) := by decide +kernel
theorem dX0_addSquare_9 : decode cX0_addSquare 9 = .ok (.getfield 11, 3) := by decide +kernel
theorem dX0_addSquare_12 : decode cX0_addSquare 12 = .ok (.iload_n 1, 1) := by decide +kernel
theorem dX0_addSquare_13 : decode cX0_addSquare 13 = .ok (.aaload, 1) := by decide +kernel
theorem dX0_addSquare_14 : decode cX0_addSquare 14 = .ok (.iload_n 1, 1) := by decide +kernel
theorem dX0_addSquare_15 : decode cX0_addSquare 15 = .ok (.dup2, 1) := by decide +kernel
theorem dX0_addSquare_16 : decode cX0_addSquare 16 = .ok (.laload, 1) := by decide +kernel
theorem dX0_addSquare_17 : decode cX0_addSquare 17 = .ok (.lconst 1, 1) := by decide +kernel
theorem dX0_addSquare_18 : decode cX0_addSquare 18 = .ok (.ladd, 1) := by decide +kernel
theorem dX0_addSquare_19 : decode cX0_addSquare 19 = .ok (.lastore, 1) := by decide +kernel
theorem dX0_addSquare_20 : decode cX0_addSquare 20 = .ok (.aload_n 0, 1) := by decide +kernel
theorem dX0_addSquare_21 : decode cX0_addSquare 21 = .ok (.getfield 11, 3) := by decide +kernel
theorem dX0_addSquare_24 : decode cX0_addSquare 24 = .ok (.iload_n 1, 1) := by decide +kernel
theorem dX0_addSquare_25 : decode cX0_addSquare 25 = .ok (.aaload, 1) := by decide +kernel
theorem dX0_addSquare_26 : decode cX0_addSquare 26 = .ok (.aload_n 0, 1) := by decide +kernel
theorem dX0_addSquare_27 : decode cX0_addSquare 27 = .ok (.getfield 16, 3) := by decide +kernel
theorem dX0_addSquare_30 : decode cX0_addSquare 30 = .ok (.dup2, 1) := by decide +kernel
theorem dX0_addSquare_31 : decode cX0_addSquare 31 = .ok (.laload, 1) := by decide +kernel
theorem dX0_addSquare_32 : decode cX0_addSquare 32 = .ok (.iload_n 2, 1) := by decide +kernel
theorem dX0_addSquare_33 : decode cX0_addSquare 33 = .ok (.i2l, 1) := by decide +kernel
theorem dX0_addSquare_34 : decode cX0_addSquare 34 = .ok (.ladd, 1) := by decide +kernel
theorem dX0_addSquare_35 : decode cX0_addSquare 35 = .ok (.lastore, 1) := by decide +kernel
theorem dX0_addSquare_36 : decode cX0_addSquare 36 = .ok (.return_, 1) := by decide +kernel
theorem dX0_addSquareOfSum_0 : decode cX0_addSquareOfSum 0 = .ok (.aload_n 0, 1) := by decide +kernel
theorem dX0_addSquareOfSum_1 : decode cX0_addSquareOfSum 1 = .ok (.iload_n 1, 1) := by decide +kernel
theorem dX0_addSquareOfSum_2 : decode cX0_addSquareOfSum 2 = .ok (.iload_n 3, 1) := by decide +kernel
theorem dX0_addSquareOfSum_3 : decode cX0_addSquareOfSum 3 = .ok (.invokevirtual 39, 3) := by decide +kernel
theorem dX0_addSquareOfSum_6 : decode cX0_addSquareOfSum 6 = .ok (.aload_n 0, 1) := by decide +kernel
theorem dX0_addSquareOfSum_7 : decode cX0_addSquareOfSum 7 = .ok (.iload_n 2, 1) := by decide +kernel
theorem dX0_addSquareOfSum_8 : decode cX0_addSquareOfSum 8 = .ok (.iload_n 3, 1) := by decide +kernel
theorem dX0_addSquareOfSum_9 : decode cX0_addSquareOfSum 9 = .ok (.invokevirtual 39, 3) := by decide +kernel
theorem dX0_addSquareOfSum_12 : decode cX0_addSquareOfSum 12 = .ok (.aload_n 0, 1) := by decide +kernel
theorem dX0_addSquareOfSum_13 : decode cX0_addSquareOfSum 13 = .ok (.iload_n 1, 1) := by decide +kernel
theorem dX0_addSquareOfSum_14 : decode cX0_addSquareOfSum 14 = .ok (.iload_n 2, 1) := by decide +kernel
theorem dX0_addSquareOfSum_15 : decode cX0_addSquareOfSum 15 = .ok (.invokevirtual 43, 3) := by decide +kernel
theorem dX0_addSquareOfSum_18 : decode cX0_addSquareOfSum 18 = .ok (.aload_n 0, 1) := by decide +kernel
theorem dX0_addSquareOfSum_19 : decode cX0_addSquareOfSum 19 = .ok (.iload_n 2, 1) := by decide +kernel
theorem dX0_addSquareOfSum_20 : decode cX0_addSquareOfSum 20 = .ok (.iload_n 1, 1) := by decide +kernel
theorem dX0_addSquareOfSum_21 : decode cX0_addSquareOfSum 21 = .ok (.invokevirtual 43, 3) := by decide +kernel
theorem dX0_addSquareOfSum_24 : decode cX0_addSquareOfSum 24 = .ok (.return_, 1) := by decide +kernel
theorem dX0_addFactor_0 : decode cX0_addFactor 0 = .ok (.aload_n 0, 1) := by decide +kernel
theorem dX0_addFactor_1 : decode cX0_addFactor 1 = .ok (.iload_n 1, 1) := by decide +kernel
theorem dX0_addFactor_2 : decode cX0_addFactor 2 = .ok (.invokevirtual 35, 3) := by decide +kernel
theorem dX0_addFactor_5 : decode cX0_addFactor 5 = .ok (.ifCond .eq 23, 3) := by decide +kernel
theorem dX0_addFactor_8 : decode cX0_addFactor 8 = .ok (.aload_n 0, 1) := by decide +kernel
theorem dX0_addFactor_9 : decode cX0_addFactor 9 = .ok (.iload_n 2, 1) := by decide +kernel
theorem dX0_addFactor_10 : decode cX0_addFactor 10 = .ok (.invokevirtual 35, 3) := by decide +kernel
theorem dX0_addFactor_13 : decode cX0_addFactor 13 = .ok (.ifCond .eq 15, 3) := by decide +kernel
theorem dX0_addFactor_16 : decode cX0_addFactor 16 = .ok (.aload_n 0, 1) := by decide +kernel
theorem dX0_addFactor_17 : decode cX0_addFactor 17 = .ok (.getfield 11, 3) := by decide +kernel
theorem dX0_addFactor_20 : decode cX0_addFactor 20 = .ok (.iload_n 1, 1) := by decide +kernel
theorem dX0_addFactor_21 : decode cX0_addFactor 21 = .ok (.aaload, 1) := by decide +kernel
theorem dX0_addFactor_22 : decode cX0_addFactor 22 = .ok (.iload_n 2, 1) := by decide +kernel
theorem dX0_addFactor_23 : decode cX0_addFactor 23 = .ok (.dup2, 1) := by decide +kernel
theorem dX0_addFactor_24 : decode cX0_addFactor 24 = .ok (.laload, 1) := by decide +kernel
theorem dX0_addFactor_25 : decode cX0_addFactor 25 = .ok (.lconst 1, 1) := by decide +kernel
theorem dX0_addFactor_26 : decode cX0_addFactor 26 = .ok (.ladd, 1) := by decide +kernel
theorem dX0_addFactor_27 : decode cX0_addFactor 27 = .ok (.lastore, 1) := by decide +kernel
theorem dX0_addFactor_28 : decode cX0_addFactor 28 = .ok (.return_, 1) := by decide +kernel
theorem dX0_solve_0 : decode cX0_solve 0 = .ok (.lconst 1, 1) := by decide +kernel
theorem dX0_solve_1 : decode cX0_solve 1 = .ok (.lstore_n 1, 1) := by decide +kernel
theorem dX0_solve_2 : decode cX0_solve 2 = .ok (.iconst 0, 1) := by decide +kernel
theorem dX0_solve_3 : decode cX0_solve 3 = .ok (.istore_n 3, 1) := by decide +kernel
theorem dX0_solve_4 : decode cX0_solve 4 = .ok (.iload_n 3, 1) := by decide +kernel
theorem dX0_solve_5 : decode cX0_solve 5 = .ok (.aload_n 0, 1) := by decide +kernel
theorem dX0_solve_6 : decode cX0_solve 6 = .ok (.getfield 16, 3) := by decide +kernel
theorem dX0_solve_9 : decode cX0_solve 9 = .ok (.if_icmp .ge 63, 3) := by decide +kernel
theorem dX0_solve_12 : decode cX0_solve 12 = .ok (.aload_n 0, 1) := by decide +kernel
theorem dX0_solve_13 : decode cX0_solve 13 = .ok (.getfield 11, 3) := by decide +kernel
theorem dX0_solve_16 : decode cX0_solve 16 = .ok (.iload_n 3, 1) := by decide +kernel
theorem dX0_solve_17 : decode cX0_solve 17 = .ok (.aaload, 1) := by decide +kernel
theorem dX0_solve_18 : decode cX0_solve 18 = .ok (.iload_n 3, 1) := by decide +kernel
theorem dX0_solve_19 : decode cX0_solve 19 = .ok (.laload, 1) := by decide +kernel
theorem dX0_solve_20 : decode cX0_solve 20 = .ok (.lstore 4, 2) := by decide +kernel
theorem dX0_solve_22 : decode cX0_solve 22 = .ok (.lload 4, 2) := by decide +kernel
theorem dX0_solve_24 : decode cX0_solve 24 = .ok (.lconst 0, 1) := by decide +kernel
theorem dX0_solve_25 : decode cX0_solve 25 = .ok (.lcmp, 1) := by decide +kernel
theorem dX0_solve_26 : decode cX0_solve 26 = .ok (.ifCond .ne 5, 3) := by decide +kernel
theorem dX0_solve_29 : decode cX0_solve 29 = .ok (.lconst 0, 1) := by decide +kernel
theorem dX0_solve_30 : decode cX0_solve 30 = .ok (.lreturn, 1) := by decide +kernel
theorem dX0_solve_31 : decode cX0_solve 31 = .ok (.iconst 0, 1) := by decide +kernel
theorem dX0_solve_32 : decode cX0_solve 32 = .ok (.istore 6, 2) := by decide +kernel
theorem dX0_solve_34 : decode cX0_solve 34 = .ok (.iload 6, 2) := by decide +kernel
theorem dX0_solve_36 : decode cX0_solve 36 = .ok (.aload_n 0, 1) := by decide +kernel
theorem dX0_solve_37 : decode cX0_solve 37 = .ok (.getfield 16, 3) := by decide +kernel
theorem dX0_solve_40 : decode cX0_solve 40 = .ok (.if_icmp .ge 23, 3) := by decide +kernel
theorem dX0_solve_43 : decode cX0_solve 43 = .ok (.iload 6, 2) := by decide +kernel
theorem dX0_solve_45 : decode cX0_solve 45 = .ok (.iload_n 3, 1) := by decide +kernel
theorem dX0_solve_46 : decode cX0_solve 46 = .ok (.if_icmp .eq 11, 3) := by decide +kernel
theorem dX0_solve_49 : decode cX0_solve 49 = .ok (.aload_n 0, 1) := by decide +kernel
theorem dX0_solve_50 : decode cX0_solve 50 = .ok (.iload 6, 2) := by decide +kernel
theorem dX0_solve_52 : decode cX0_solve 52 = .ok (.iload_n 3, 1) := by decide +kernel
theorem dX0_solve_53 : decode cX0_solve 53 = .ok (.lload_n 1, 1) := by decide +kernel
theorem dX0_solve_54 : decode cX0_solve 54 = .ok (.invokevirtual 46, 3) := by decide +kernel
theorem dX0_solve_57 : decode cX0_solve 57 = .ok (.iinc 6 1, 3) := by decide +kernel
theorem dX0_solve_60 : decode cX0_solve 60 = .ok (.goto (-26), 3) := by decide +kernel
theorem dX0_solve_63 : decode cX0_solve 63 = .ok (.lload 4, 2) := by decide +kernel
theorem dX0_solve_65 : decode cX0_solve 65 = .ok (.lstore_n 1, 1) := by decide +kernel
theorem dX0_solve_66 : decode cX0_solve 66 = .ok (.iinc 3 1, 3) := by decide +kernel
theorem dX0_solve_69 : decode cX0_solve 69 = .ok (.goto (-65), 3) := by decide +kernel
theorem dX0_solve_72 : decode cX0_solve 72 = .ok (.lload_n 1, 1) := by decide +kernel
theorem dX0_solve_73 : decode cX0_solve 73 = .ok (.lreturn, 1) := by decide +kernel
theorem dX0_clearFactor_0 : decode cX0_clearFactor 0 = .ok (.lload_n 3, 1) := by decide +kernel
theorem dX0_clearFactor_1 : decode cX0_clearFactor 1 = .ok (.lconst 0, 1) := by decide +kernel
theorem dX0_clearFactor_2 : decode cX0_clearFactor 2 = .ok (.lcmp, 1) := by decide +kernel
theorem dX0_clearFactor_3 : decode cX0_clearFactor 3 = .ok (.ifCond .ne 4, 3) := by decide +kernel
theorem dX0_clearFactor_6 : decode cX0_clearFactor 6 = .ok (.return_, 1) := by decide +kernel
theorem dX0_clearFactor_7 : decode cX0_clearFactor 7 = .ok (.aload_n 0, 1) := by decide +kernel
theorem dX0_clearFactor_8 : decode cX0_clearFactor 8 = .ok (.getfield 11, 3) := by decide +kernel
theorem dX0_clearFactor_11 : decode cX0_clearFactor 11 = .ok (.iload_n 1, 1) := by decide +kernel
theorem dX0_clearFactor_12 : decode cX0_clearFactor 12 = .ok (.aaload, 1) := by decide +kernel
theorem dX0_clearFactor_13 : decode cX0_clearFactor 13 = .ok (.astore 5, 2) := by decide +kernel
theorem dX0_clearFactor_15 : decode cX0_clearFactor 15 = .ok (.aload_n 0, 1) := by decide +kernel
theorem dX0_clearFactor_16 : decode cX0_clearFactor 16 = .ok (.getfield 11, 3) := by decide +kernel
theorem dX0_clearFactor_19 : decode cX0_clearFactor 19 = .ok (.iload_n 2, 1) := by decide +kernel
theorem dX0_clearFactor_20 : decode cX0_clearFactor 20 = .ok (.aaload, 1) := by decide +kernel
theorem dX0_clearFactor_21 : decode cX0_clearFactor 21 = .ok (.astore 6, 2) := by decide +kernel
theorem dX0_clearFactor_23 : decode cX0_clearFactor 23 = .ok (.aload 6, 2) := by decide +kernel
theorem dX0_clearFactor_25 : decode cX0_clearFactor 25 = .ok (.iload_n 2, 1) := by decide +kernel
theorem dX0_clearFactor_26 : decode cX0_clearFactor 26 = .ok (.laload, 1) := by decide +kernel
theorem dX0_clearFactor_27 : decode cX0_clearFactor 27 = .ok (.lstore 7, 2) := by decide +kernel
theorem dX0_clearFactor_29 : decode cX0_clearFactor 29 = .ok (.aload 5, 2) := by decide +kernel
theorem dX0_clearFactor_31 : decode cX0_clearFactor 31 = .ok (.iload_n 2, 1) := by decide +kernel
theorem dX0_clearFactor_32 : decode cX0_clearFactor 32 = .ok (.laload, 1) := by decide +kernel
theorem dX0_clearFactor_33 : decode cX0_clearFactor 33 = .ok (.lstore 9, 2) := by decide +kernel
theorem dX0_clearFactor_35 : decode cX0_clearFactor 35 = .ok (.iload_n 2, 1) := by decide +kernel
theorem dX0_clearFactor_36 : decode cX0_clearFactor 36 = .ok (.istore 11, 2) := by decide +kernel
theorem dX0_clearFactor_38 : decode cX0_clearFactor 38 = .ok (.iload 11, 2) := by decide +kernel
theorem dX0_clearFactor_40 : decode cX0_clearFactor 40 = .ok (.aload_n 0, 1) := by decide +kernel
theorem dX0_clearFactor_41 : decode cX0_clearFactor 41 = .ok (.getfield 16, 3) := by decide +kernel
theorem dX0_clearFactor_44 : decode cX0_clearFactor 44 = .ok (.if_icmp .gt 33, 3) := by decide +kernel
theorem dX0_clearFactor_47 : decode cX0_clearFactor 47 = .ok (.aload 5, 2) := by decide +kernel
theorem dX0_clearFactor_49 : decode cX0_clearFactor 49 = .ok (.iload 11, 2) := by decide +kernel
theorem dX0_clearFactor_51 : decode cX0_clearFactor 51 = .ok (.aload 5, 2) := by decide +kernel
theorem dX0_clearFactor_53 : decode cX0_clearFactor 53 = .ok (.iload 11, 2) := by decide +kernel
theorem dX0_clearFactor_55 : decode cX0_clearFactor 55 = .ok (.laload, 1) := by decide +kernel
theorem dX0_clearFactor_56 : decode cX0_clearFactor 56 = .ok (.lload 7, 2) := by decide +kernel
theorem dX0_clearFactor_58 : decode cX0_clearFactor 58 = .ok (.lmul, 1) := by decide +kernel
theorem dX0_clearFactor_59 : decode cX0_clearFactor 59 = .ok (.lload 9, 2) := by decide +kernel
theorem dX0_clearFactor_61 : decode cX0_clearFactor 61 = .ok (.aload 6, 2) := by decide +kernel
theorem dX0_clearFactor_63 : decode cX0_clearFactor 63 = .ok (.iload 11, 2) := by decide +kernel
theorem dX0_clearFactor_65 : decode cX0_clearFactor 65 = .ok (.laload, 1) := by decide +kernel
theorem dX0_clearFactor_66 : decode cX0_clearFactor 66 = .ok (.lmul, 1) := by decide +kernel
theorem dX0_clearFactor_67 : decode cX0_clearFactor 67 = .ok (.lsub, 1) := by decide +kernel
theorem dX0_clearFactor_68 : decode cX0_clearFactor 68 = .ok (.lload_n 3, 1) := by decide +kernel
theorem dX0_clearFactor_69 : decode cX0_clearFactor 69 = .ok (.ldiv, 1) := by decide +kernel
theorem dX0_clearFactor_70 : decode cX0_clearFactor 70 = .ok (.lastore, 1) := by decide +kernel
theorem dX0_clearFactor_71 : decode cX0_clearFactor 71 = .ok (.iinc 11 1, 3) := by decide +kernel
theorem dX0_clearFactor_74 : decode cX0_clearFactor 74 = .ok (.goto (-36), 3) := by decide +kernel
theorem dX0_clearFactor_77 : decode cX0_clearFactor 77 = .ok (.return_, 1) := by decide +kernel
theorem dX0_topOf_0 : decode cX0_topOf 0 = .ok (.aload_n 0, 1) := by decide +kernel
theorem dX0_topOf_1 : decode cX0_topOf 1 = .ok (.iload_n 1, 1) := by decide +kernel
theorem dX0_topOf_2 : decode cX0_topOf 2 = .ok (.invokevirtual 35, 3) := by decide +kernel
theorem dX0_topOf_5 : decode cX0_topOf 5 = .ok (.ifCond .eq 17, 3) := by decide +kernel
theorem dX0_topOf_8 : decode cX0_topOf 8 = .ok (.aload_n 0, 1) := by decide +kernel
theorem dX0_topOf_9 : decode cX0_topOf 9 = .ok (.getfield 11, 3) := by decide +kernel
theorem dX0_topOf_12 : decode cX0_topOf 12 = .ok (.iload_n 1, 1) := by decide +kernel
theorem dX0_topOf_13 : decode cX0_topOf 13 = .ok (.aaload, 1) := by decide +kernel
theorem dX0_topOf_14 : decode cX0_topOf 14 = .ok (.aload_n 0, 1) := by decide +kernel
theorem dX0_topOf_15 : decode cX0_topOf 15 = .ok (.getfield 16, 3) := by decide +kernel
theorem dX0_topOf_18 : decode cX0_topOf 18 = .ok (.laload, 1) := by decide +kernel
theorem dX0_topOf_19 : decode cX0_topOf 19 = .ok (.goto 4, 3) := by decide +kernel
theorem dX0_topOf_22 : decode cX0_topOf 22 = .ok (.lconst 0, 1) := by decide +kernel
theorem dX0_topOf_23 : decode cX0_topOf 23 = .ok (.lreturn, 1) := by decide +kernel
theorem dX1_init_0 : decode cX1_init 0 = .ok (.aload_n 0, 1) := by decide +kernel
theorem dX1_init_1 : decode cX1_init 1 = .ok (.invokespecial 3, 3) := by decide +kernel
theorem dX1_init_4 : decode cX1_init 4 = .ok (.aload_n 0, 1) := by decide +kernel
theorem dX1_init_5 : decode cX1_init 5 = .ok (.iconst 2, 1) := by decide +kernel
theorem dX1_init_6 : decode cX1_init 6 = .ok (.putfield 9, 3) := by decide +kernel
theorem dX1_init_9 : decode cX1_init 9 = .ok (.aload_n 0, 1) := by decide +kernel
theorem dX1_init_10 : decode cX1_init 10 = .ok (.bipush 8, 2) := by decide +kernel
theorem dX1_init_12 : decode cX1_init 12 = .ok (.newarray .int, 2) := by decide +kernel
theorem dX1_init_14 : decode cX1_init 14 = .ok (.putfield 15, 3) := by decide +kernel
theorem dX1_init_17 : decode cX1_init 17 = .ok (.aload_n 0, 1) := by decide +kernel
theorem dX1_init_18 : decode cX1_init 18 = .ok (.iconst 3, 1) := by decide +kernel
theorem dX1_init_19 : decode cX1_init 19 = .ok (.newarray .int, 2) := by decide +kernel
theorem dX1_init_21 : decode cX1_init 21 = .ok (.dup, 1) := by decide +kernel
theorem dX1_init_22 : decode cX1_init 22 = .ok (.iconst 0, 1) := by decide +kernel
theorem dX1_init_23 : decode cX1_init 23 = .ok (.iconst 2, 1) := by decide +kernel
theorem dX1_init_24 : decode cX1_init 24 = .ok (.iastore, 1) := by decide +kernel
theorem dX1_init_25 : decode cX1_init 25 = .ok (.dup, 1) := by decide +kernel
theorem dX1_init_26 : decode cX1_init 26 = .ok (.iconst 1, 1) := by decide +kernel
theorem dX1_init_27 : decode cX1_init 27 = .ok (.iconst 4, 1) := by decide +kernel
theorem dX1_init_28 : decode cX1_init 28 = .ok (.iastore, 1) := by decide +kernel
theorem dX1_init_29 : decode cX1_init 29 = .ok (.dup, 1) := by decide +kernel
theorem dX1_init_30 : decode cX1_init 30 = .ok (.iconst 2, 1) := by decide +kernel
theorem dX1_init_31 : decode cX1_init 31 = .ok (.bipush 30, 2) := by decide +kernel
theorem dX1_init_33 : decode cX1_init 33 = .ok (.iastore, 1) := by decide +kernel
theorem dX1_init_34 : decode cX1_init 34 = .ok (.putfield 19, 3) := by decide +kernel
theorem dX1_init_37 : decode cX1_init 37 = .ok (.return_, 1) := by decide +kernel
theorem dX1_settle_0 : decode cX1_settle 0 = .ok (.aload_n 0, 1) := by decide +kernel
theorem dX1_settle_1 : decode cX1_settle 1 = .ok (.iload_n 1, 1) := by decide +kernel
theorem dX1_settle_2 : decode cX1_settle 2 = .ok (.putfield 9, 3) := by decide +kernel
theorem dX1_settle_5 : decode cX1_settle 5 = .ok (.aload_n 0, 1) := by decide +kernel
theorem dX1_settle_6 : decode cX1_settle 6 = .ok (.getfield 15, 3) := by decide +kernel
theorem dX1_settle_9 : decode cX1_settle 9 = .ok (.iconst 0, 1) := by decide +kernel
theorem dX1_settle_10 : decode cX1_settle 10 = .ok (.invokestatic 22, 3) := by decide +kernel
theorem dX1_settle_13 : decode cX1_settle 13 = .ok (.return_, 1) := by decide +kernel
theorem dX1_holds_0 : decode cX1_holds 0 = .ok (.iload_n 1, 1) := by decide +kernel
theorem dX1_holds_1 : decode cX1_holds 1 = .ok (.ifCond .lt 15, 3) := by decide +kernel
theorem dX1_holds_4 : decode cX1_holds 4 = .ok (.iload_n 1, 1) := by decide +kernel
theorem dX1_holds_5 : decode cX1_holds 5 = .ok (.aload_n 0, 1) := by decide +kernel
theorem dX1_holds_6 : decode cX1_holds 6 = .ok (.getfield 9, 3) := by decide +kernel
theorem dX1_holds_9 : decode cX1_holds 9 = .ok (.if_icmp .ge 7, 3) := by decide +kernel
theorem dX1_holds_12 : decode cX1_holds 12 = .ok (.iconst 1, 1) := by decide +kernel
theorem dX1_holds_13 : decode cX1_holds 13 = .ok (.goto 4, 3) := by decide +kernel
theorem dX1_holds_16 : decode cX1_holds 16 = .ok (.iconst 0, 1) := by decide +kernel
theorem dX1_holds_17 : decode cX1_holds 17 = .ok (.ireturn, 1) := by decide +kernel
theorem dX1_befriend_0 : decode cX1_befriend 0 = .ok (.iload_n 3, 1) := by decide +kernel
theorem dX1_befriend_1 : decode cX1_befriend 1 = .ok (.ifCond .eq 30, 3) := by decide +kernel
theorem dX1_befriend_4 : decode cX1_befriend 4 = .ok (.aload_n 0, 1) := by decide +kernel
theorem dX1_befriend_5 : decode cX1_befriend 5 = .ok (.getfield 15, 3) := by decide +kernel
theorem dX1_befriend_8 : decode cX1_befriend 8 = .ok (.iload_n 1, 1) := by decide +kernel
theorem dX1_befriend_9 : decode cX1_befriend 9 = .ok (.dup2, 1) := by decide +kernel
theorem dX1_befriend_10 : decode cX1_befriend 10 = .ok (.iaload, 1) := by decide +kernel
theorem dX1_befriend_11 : decode cX1_befriend 11 = .ok (.iconst 1, 1) := by decide +kernel
theorem dX1_befriend_12 : decode cX1_befriend 12 = .ok (.iload_n 2, 1) := by decide +kernel
theorem dX1_befriend_13 : decode cX1_befriend 13 = .ok (.ishl, 1) := by decide +kernel
theorem dX1_befriend_14 : decode cX1_befriend 14 = .ok (.ior, 1) := by decide +kernel
theorem dX1_befriend_15 : decode cX1_befriend 15 = .ok (.iastore, 1) := by decide +kernel
theorem dX1_befriend_16 : decode cX1_befriend 16 = .ok (.aload_n 0, 1) := by decide +kernel
theorem dX1_befriend_17 : decode cX1_befriend 17 = .ok (.getfield 15, 3) := by decide +kernel
theorem dX1_befriend_20 : decode cX1_befriend 20 = .ok (.iload_n 2, 1) := by decide +kernel
theorem dX1_befriend_21 : decode cX1_befriend 21 = .ok (.dup2, 1) := by decide +kernel
theorem dX1_befriend_22 : decode cX1_befriend 22 = .ok (.iaload, 1) := by decide +kernel
theorem dX1_befriend_23 : decode cX1_befriend 23 = .ok (.iconst 1, 1) := by decide +kernel
theorem dX1_befriend_24 : decode cX1_befriend 24 = .ok (.iload_n 1, 1) := by decide +kernel
theorem dX1_befriend_25 : decode cX1_befriend 25 = .ok (.ishl, 1) := by decide +kernel
theorem dX1_befriend_26 : decode cX1_befriend 26 = .ok (.ior, 1) := by decide +kernel
theorem dX1_befriend_27 : decode cX1_befriend 27 = .ok (.iastore, 1) := by decide +kernel
theorem dX1_befriend_28 : decode cX1_befriend 28 = .ok (.goto 31, 3) := by decide +kernel
theorem dX1_befriend_31 : decode cX1_befriend 31 = .ok (.aload_n 0, 1) := by decide +kernel
theorem dX1_befriend_32 : decode cX1_befriend 32 = .ok (.getfield 15, 3) := by decide +kernel
theorem dX1_befriend_35 : decode cX1_befriend 35 = .ok (.iload_n 1, 1) := by decide +kernel
theorem dX1_befriend_36 : decode cX1_befriend 36 = .ok (.dup2, 1) := by decide +kernel
theorem dX1_befriend_37 : decode cX1_befriend 37 = .ok (.iaload, 1) := by decide +kernel
theorem dX1_befriend_38 : decode cX1_befriend 38 = .ok (.iconst 1, 1) := by decide +kernel
theorem dX1_befriend_39 : decode cX1_befriend 39 = .ok (.iload_n 2, 1) := by decide +kernel
theorem dX1_befriend_40 : decode cX1_befriend 40 = .ok (.ishl, 1) := by decide +kernel
theorem dX1_befriend_41 : decode cX1_befriend 41 = .ok (.iconst (-1), 1) := by decide +kernel
theorem dX1_befriend_42 : decode cX1_befriend 42 = .ok (.ixor, 1) := by decide +kernel
theorem dX1_befriend_43 : decode cX1_befriend 43 = .ok (.iand, 1) := by decide +kernel
theorem dX1_befriend_44 : decode cX1_befriend 44 = .ok (.iastore, 1) := by decide +kernel
theorem dX1_befriend_45 : decode cX1_befriend 45 = .ok (.aload_n 0, 1) := by decide +kernel
theorem dX1_befriend_46 : decode cX1_befriend 46 = .ok (.getfield 15, 3) := by decide +kernel
theorem dX1_befriend_49 : decode cX1_befriend 49 = .ok (.iload_n 2, 1) := by decide +kernel
theorem dX1_befriend_50 : decode cX1_befriend 50 = .ok (.dup2, 1) := by decide +kernel
theorem dX1_befriend_51 : decode cX1_befriend 51 = .ok (.iaload, 1) := by decide +kernel
theorem dX1_befriend_52 : decode cX1_befriend 52 = .ok (.iconst 1, 1) := by decide +kernel
theorem dX1_befriend_53 : decode cX1_befriend 53 = .ok (.iload_n 1, 1) := by decide +kernel
theorem dX1_befriend_54 : decode cX1_befriend 54 = .ok (.ishl, 1) := by decide +kernel
theorem dX1_befriend_55 : decode cX1_befriend 55 = .ok (.iconst (-1), 1) := by decide +kernel
theorem dX1_befriend_56 : decode cX1_befriend 56 = .ok (.ixor, 1) := by decide +kernel
theorem dX1_befriend_57 : decode cX1_befriend 57 = .ok (.iand, 1) := by decide +kernel
theorem dX1_befriend_58 : decode cX1_befriend 58 = .ok (.iastore, 1) := by decide +kernel
theorem dX1_befriend_59 : decode cX1_befriend 59 = .ok (.return_, 1) := by decide +kernel
theorem dX1_mayMark_0 : decode cX1_mayMark 0 = .ok (.iconst 1, 1) := by decide +kernel
theorem dX1_mayMark_1 : decode cX1_mayMark 1 = .ok (.aload_n 0, 1) := by decide +kernel
theorem dX1_mayMark_2 : decode cX1_mayMark 2 = .ok (.getfield 9, 3) := by decide +kernel
theorem dX1_mayMark_5 : decode cX1_mayMark 5 = .ok (.ishl, 1) := by decide +kernel
theorem dX1_mayMark_6 : decode cX1_mayMark 6 = .ok (.iconst 1, 1) := by decide +kernel
theorem dX1_mayMark_7 : decode cX1_mayMark 7 = .ok (.isub, 1) := by decide +kernel
theorem dX1_mayMark_8 : decode cX1_mayMark 8 = .ok (.iconst 1, 1) := by decide +kernel
theorem dX1_mayMark_9 : decode cX1_mayMark 9 = .ok (.iload_n 1, 1) := by decide +kernel
theorem dX1_mayMark_10 : decode cX1_mayMark 10 = .ok (.ishl, 1) := by decide +kernel
theorem dX1_mayMark_11 : decode cX1_mayMark 11 = .ok (.iconst (-1), 1) := by decide +kernel
theorem dX1_mayMark_12 : decode cX1_mayMark 12 = .ok (.ixor, 1) := by decide +kernel
theorem dX1_mayMark_13 : decode cX1_mayMark 13 = .ok (.iand, 1) := by decide +kernel
theorem dX1_mayMark_14 : decode cX1_mayMark 14 = .ok (.aload_n 0, 1) := by decide +kernel
theorem dX1_mayMark_15 : decode cX1_mayMark 15 = .ok (.getfield 15, 3) := by decide +kernel
theorem dX1_mayMark_18 : decode cX1_mayMark 18 = .ok (.iload_n 1, 1) := by decide +kernel
theorem dX1_mayMark_19 : decode cX1_mayMark 19 = .ok (.iaload, 1) := by decide +kernel
theorem dX1_mayMark_20 : decode cX1_mayMark 20 = .ok (.iconst (-1), 1) := by decide +kernel
theorem dX1_mayMark_21 : decode cX1_mayMark 21 = .ok (.ixor, 1) := by decide +kernel
theorem dX1_mayMark_22 : decode cX1_mayMark 22 = .ok (.iand, 1) := by decide +kernel
theorem dX1_mayMark_23 : decode cX1_mayMark 23 = .ok (.ireturn, 1) := by decide +kernel
theorem dX1_pairsOfFriends_0 : decode cX1_pairsOfFriends 0 = .ok (.iconst 0, 1) := by decide +kernel
theorem dX1_pairsOfFriends_1 : decode cX1_pairsOfFriends 1 = .ok (.istore_n 1, 1) := by decide +kernel
theorem dX1_pairsOfFriends_2 : decode cX1_pairsOfFriends 2 = .ok (.iconst 0, 1) := by decide +kernel
theorem dX1_pairsOfFriends_3 : decode cX1_pairsOfFriends 3 = .ok (.istore_n 2, 1) := by decide +kernel
theorem dX1_pairsOfFriends_4 : decode cX1_pairsOfFriends 4 = .ok (.iload_n 2, 1) := by decide +kernel
theorem dX1_pairsOfFriends_5 : decode cX1_pairsOfFriends 5 = .ok (.aload_n 0, 1) := by decide +kernel
theorem dX1_pairsOfFriends_6 : decode cX1_pairsOfFriends 6 = .ok (.getfield 9, 3) := by decide +kernel
theorem dX1_pairsOfFriends_9 : decode cX1_pairsOfFriends 9 = .ok (.if_icmp .ge 21, 3) := by decide +kernel
theorem dX1_pairsOfFriends_12 : decode cX1_pairsOfFriends 12 = .ok (.iload_n 1, 1) := by decide +kernel
theorem dX1_pairsOfFriends_13 : decode cX1_pairsOfFriends 13 = .ok (.aload_n 0, 1) := by decide +kernel
theorem dX1_pairsOfFriends_14 : decode cX1_pairsOfFriends 14 = .ok (.getfield 15, 3) := by decide +kernel
theorem dX1_pairsOfFriends_17 : decode cX1_pairsOfFriends 17 = .ok (.iload_n 2, 1) := by decide +kernel
theorem dX1_pairsOfFriends_18 : decode cX1_pairsOfFriends 18 = .ok (.iaload, 1) := by decide +kernel
theorem dX1_pairsOfFriends_19 : decode cX1_pairsOfFriends 19 = .ok (.invokestatic 28, 3) := by decide +kernel
theorem dX1_pairsOfFriends_22 : decode cX1_pairsOfFriends 22 = .ok (.iadd, 1) := by decide +kernel
theorem dX1_pairsOfFriends_23 : decode cX1_pairsOfFriends 23 = .ok (.istore_n 1, 1) := by decide +kernel
theorem dX1_pairsOfFriends_24 : decode cX1_pairsOfFriends 24 = .ok (.iinc 2 1, 3) := by decide +kernel
theorem dX1_pairsOfFriends_27 : decode cX1_pairsOfFriends 27 = .ok (.goto (-23), 3) := by decide +kernel
theorem dX1_pairsOfFriends_30 : decode cX1_pairsOfFriends 30 = .ok (.iload_n 1, 1) := by decide +kernel
theorem dX1_pairsOfFriends_31 : decode cX1_pairsOfFriends 31 = .ok (.iconst 2, 1) := by decide +kernel
theorem dX1_pairsOfFriends_32 : decode cX1_pairsOfFriends 32 = .ok (.idiv, 1) := by decide +kernel
theorem dX1_pairsOfFriends_33 : decode cX1_pairsOfFriends 33 = .ok (.ireturn, 1) := by decide +kernel
theorem dX2_init_0 : decode cX2_init 0 = .ok (.aload_n 0, 1) := by decide +kernel
theorem dX2_init_1 : decode cX2_init 1 = .ok (.invokespecial 3, 3) := by decide +kernel
theorem dX2_init_4 : decode cX2_init 4 = .ok (.aload_n 0, 1) := by decide +kernel
theorem dX2_init_5 : decode cX2_init 5 = .ok (.bipush 8, 2) := by decide +kernel
theorem dX2_init_7 : decode cX2_init 7 = .ok (.bipush 8, 2) := by decide +kernel
theorem dX2_init_9 : decode cX2_init 9 = .ok (.multianewarray 9 2, 4) := by decide +kernel
theorem dX2_init_13 : decode cX2_init 13 = .ok (.putfield 11, 3) := by decide +kernel
theorem dX2_init_16 : decode cX2_init 16 = .ok (.aload_n 0, 1) := by decide +kernel
theorem dX2_init_17 : decode cX2_init 17 = .ok (.bipush 8, 2) := by decide +kernel
theorem dX2_init_19 : decode cX2_init 19 = .ok (.newarray .int, 2) := by decide +kernel
theorem dX2_init_21 : decode cX2_init 21 = .ok (.putfield 16, 3) := by decide +kernel
theorem dX2_init_24 : decode cX2_init 24 = .ok (.aload_n 0, 1) := by decide +kernel
theorem dX2_init_25 : decode cX2_init 25 = .ok (.aload_n 1, 1) := by decide +kernel
theorem dX2_init_26 : decode cX2_init 26 = .ok (.putfield 20, 3) := by decide +kernel
theorem dX2_init_29 : decode cX2_init 29 = .ok (.aload_n 0, 1) := by decide +kernel
theorem dX2_init_30 : decode cX2_init 30 = .ok (.invokevirtual 24, 3) := by decide +kernel
theorem dX2_init_33 : decode cX2_init 33 = .ok (.return_, 1) := by decide +kernel
theorem dX2_wipe_0 : decode cX2_wipe 0 = .ok (.iconst 0, 1) := by decide +kernel
theorem dX2_wipe_1 : decode cX2_wipe 1 = .ok (.istore_n 1, 1) := by decide +kernel
theorem dX2_wipe_2 : decode cX2_wipe 2 = .ok (.iload_n 1, 1) := by decide +kernel
theorem dX2_wipe_3 : decode cX2_wipe 3 = .ok (.bipush 8, 2) := by decide +kernel
theorem dX2_wipe_5 : decode cX2_wipe 5 = .ok (.if_icmp .ge 19, 3) := by decide +kernel
theorem dX2_wipe_8 : decode cX2_wipe 8 = .ok (.aload_n 0, 1) := by decide +kernel
theorem dX2_wipe_9 : decode cX2_wipe 9 = .ok (.getfield 11, 3) := by decide +kernel
theorem dX2_wipe_12 : decode cX2_wipe 12 = .ok (.iload_n 1, 1) := by decide +kernel
theorem dX2_wipe_13 : decode cX2_wipe 13 = .ok (.aaload, 1) := by decide +kernel
theorem dX2_wipe_14 : decode cX2_wipe 14 = .ok (.iconst (-1), 1) := by decide +kernel
theorem dX2_wipe_15 : decode cX2_wipe 15 = .ok (.invokestatic 27, 3) := by decide +kernel
theorem dX2_wipe_18 : decode cX2_wipe 18 = .ok (.iinc 1 1, 3) := by decide +kernel
theorem dX2_wipe_21 : decode cX2_wipe 21 = .ok (.goto (-19), 3) := by decide +kernel
theorem dX2_wipe_24 : decode cX2_wipe 24 = .ok (.aload_n 0, 1) := by decide +kernel
theorem dX2_wipe_25 : decode cX2_wipe 25 = .ok (.getfield 16, 3) := by decide +kernel
theorem dX2_wipe_28 : decode cX2_wipe 28 = .ok (.iconst (-1), 1) := by decide +kernel
theorem dX2_wipe_29 : decode cX2_wipe 29 = .ok (.invokestatic 27, 3) := by decide +kernel
theorem dX2_wipe_32 : decode cX2_wipe 32 = .ok (.return_, 1) := by decide +kernel
theorem dX2_whoMarked_0 : decode cX2_whoMarked 0 = .ok (.iconst 0, 1) := by decide +kernel
theorem dX2_whoMarked_1 : decode cX2_whoMarked 1 = .ok (.istore_n 2, 1) := by decide +kernel
theorem dX2_whoMarked_2 : decode cX2_whoMarked 2 = .ok (.iconst 0, 1) := by decide +kernel
theorem dX2_whoMarked_3 : decode cX2_whoMarked 3 = .ok (.istore_n 3, 1) := by decide +kernel
theorem dX2_whoMarked_4 : decode cX2_whoMarked 4 = .ok (.iload_n 3, 1) := by decide +kernel
theorem dX2_whoMarked_5 : decode cX2_whoMarked 5 = .ok (.aload_n 0, 1) := by decide +kernel
theorem dX2_whoMarked_6 : decode cX2_whoMarked 6 = .ok (.getfield 20, 3) := by decide +kernel
theorem dX2_whoMarked_9 : decode cX2_whoMarked 9 = .ok (.getfield 33, 3) := by decide +kernel
theorem dX2_whoMarked_12 : decode cX2_whoMarked 12 = .ok (.if_icmp .ge 27, 3) := by decide +kernel
theorem dX2_whoMarked_15 : decode cX2_whoMarked 15 = .ok (.aload_n 0, 1) := by decide +kernel
theorem dX2_whoMarked_16 : decode cX2_whoMarked 16 = .ok (.getfield 11, 3) := by decide +kernel
theorem dX2_whoMarked_19 : decode cX2_whoMarked 19 = .ok (.iload_n 3, 1) := by decide +kernel
theorem dX2_whoMarked_20 : decode cX2_whoMarked 20 = .ok (.aaload, 1) := by decide +kernel
theorem dX2_whoMarked_21 : decode cX2_whoMarked 21 = .ok (.iload_n 1, 1) := by decide +kernel
theorem dX2_whoMarked_22 : decode cX2_whoMarked 22 = .ok (.iaload, 1) := by decide +kernel
theorem dX2_whoMarked_23 : decode cX2_whoMarked 23 = .ok (.iconst (-1), 1) := by decide +kernel
theorem dX2_whoMarked_24 : decode cX2_whoMarked 24 = .ok (.if_icmp .eq 9, 3) := by decide +kernel
theorem dX2_whoMarked_27 : decode cX2_whoMarked 27 = .ok (.iload_n 2, 1) := by decide +kernel
theorem dX2_whoMarked_28 : decode cX2_whoMarked 28 = .ok (.iconst 1, 1) := by decide +kernel
theorem dX2_whoMarked_29 : decode cX2_whoMarked 29 = .ok (.iload_n 3, 1) := by decide +kernel
theorem dX2_whoMarked_30 : decode cX2_whoMarked 30 = .ok (.ishl, 1) := by decide +kernel
theorem dX2_whoMarked_31 : decode cX2_whoMarked 31 = .ok (.ior, 1) := by decide +kernel
theorem dX2_whoMarked_32 : decode cX2_whoMarked 32 = .ok (.istore_n 2, 1) := by decide +kernel
theorem dX2_whoMarked_33 : decode cX2_whoMarked 33 = .ok (.iinc 3 1, 3) := by decide +kernel
theorem dX2_whoMarked_36 : decode cX2_whoMarked 36 = .ok (.goto (-32), 3) := by decide +kernel
theorem dX2_whoMarked_39 : decode cX2_whoMarked 39 = .ok (.iload_n 2, 1) := by decide +kernel
theorem dX2_whoMarked_40 : decode cX2_whoMarked 40 = .ok (.ireturn, 1) := by decide +kernel
theorem dX2_marksBy_0 : decode cX2_marksBy 0 = .ok (.iconst 0, 1) := by decide +kernel
theorem dX2_marksBy_1 : decode cX2_marksBy 1 = .ok (.istore_n 2, 1) := by decide +kernel
theorem dX2_marksBy_2 : decode cX2_marksBy 2 = .ok (.iconst 0, 1) := by decide +kernel
theorem dX2_marksBy_3 : decode cX2_marksBy 3 = .ok (.istore_n 3, 1) := by decide +kernel
theorem dX2_marksBy_4 : decode cX2_marksBy 4 = .ok (.iload_n 3, 1) := by decide +kernel
theorem dX2_marksBy_5 : decode cX2_marksBy 5 = .ok (.aload_n 0, 1) := by decide +kernel
theorem dX2_marksBy_6 : decode cX2_marksBy 6 = .ok (.getfield 20, 3) := by decide +kernel
theorem dX2_marksBy_9 : decode cX2_marksBy 9 = .ok (.getfield 33, 3) := by decide +kernel
theorem dX2_marksBy_12 : decode cX2_marksBy 12 = .ok (.if_icmp .ge 24, 3) := by decide +kernel
theorem dX2_marksBy_15 : decode cX2_marksBy 15 = .ok (.aload_n 0, 1) := by decide +kernel
theorem dX2_marksBy_16 : decode cX2_marksBy 16 = .ok (.getfield 11, 3) := by decide +kernel
theorem dX2_marksBy_19 : decode cX2_marksBy 19 = .ok (.iload_n 1, 1) := by decide +kernel
theorem dX2_marksBy_20 : decode cX2_marksBy 20 = .ok (.aaload, 1) := by decide +kernel
theorem dX2_marksBy_21 : decode cX2_marksBy 21 = .ok (.iload_n 3, 1) := by decide +kernel
theorem dX2_marksBy_22 : decode cX2_marksBy 22 = .ok (.iaload, 1) := by decide +kernel
theorem dX2_marksBy_23 : decode cX2_marksBy 23 = .ok (.iconst (-1), 1) := by decide +kernel
theorem dX2_marksBy_24 : decode cX2_marksBy 24 = .ok (.if_icmp .eq 6, 3) := by decide +kernel
theorem dX2_marksBy_27 : decode cX2_marksBy 27 = .ok (.iinc 2 1, 3) := by decide +kernel
theorem dX2_marksBy_30 : decode cX2_marksBy 30 = .ok (.iinc 3 1, 3) := by decide +kernel
theorem dX2_marksBy_33 : decode cX2_marksBy 33 = .ok (.goto (-29), 3) := by decide +kernel
theorem dX2_marksBy_36 : decode cX2_marksBy 36 = .ok (.iload_n 2, 1) := by decide +kernel
theorem dX2_marksBy_37 : decode cX2_marksBy 37 = .ok (.ireturn, 1) := by decide +kernel
theorem dX2_howManyMarks_0 : decode cX2_howManyMarks 0 = .ok (.iconst 0, 1) := by decide +kernel
theorem dX2_howManyMarks_1 : decode cX2_howManyMarks 1 = .ok (.istore_n 1, 1) := by decide +kernel
theorem dX2_howManyMarks_2 : decode cX2_howManyMarks 2 = .ok (.iconst 0, 1) := by decide +kernel
theorem dX2_howManyMarks_3 : decode cX2_howManyMarks 3 = .ok (.istore_n 2, 1) := by decide +kernel
theorem dX2_howManyMarks_4 : decode cX2_howManyMarks 4 = .ok (.iload_n 2, 1) := by decide +kernel
theorem dX2_howManyMarks_5 : decode cX2_howManyMarks 5 = .ok (.aload_n 0, 1) := by decide +kernel
theorem dX2_howManyMarks_6 : decode cX2_howManyMarks 6 = .ok (.getfield 20, 3) := by decide +kernel
theorem dX2_howManyMarks_9 : decode cX2_howManyMarks 9 = .ok (.getfield 33, 3) := by decide +kernel
theorem dX2_howManyMarks_12 : decode cX2_howManyMarks 12 = .ok (.if_icmp .ge 17, 3) := by decide +kernel
theorem dX2_howManyMarks_15 : decode cX2_howManyMarks 15 = .ok (.iload_n 1, 1) := by decide +kernel
theorem dX2_howManyMarks_16 : decode cX2_howManyMarks 16 = .ok (.aload_n 0, 1) := by decide +kernel
theorem dX2_howManyMarks_17 : decode cX2_howManyMarks 17 = .ok (.iload_n 2, 1) := by decide +kernel
theorem dX2_howManyMarks_18 : decode cX2_howManyMarks 18 = .ok (.invokevirtual 39, 3) := by decide +kernel
theorem dX2_howManyMarks_21 : decode cX2_howManyMarks 21 = .ok (.iadd, 1) := by decide +kernel
theorem dX2_howManyMarks_22 : decode cX2_howManyMarks 22 = .ok (.istore_n 1, 1) := by decide +kernel
theorem dX2_howManyMarks_23 : decode cX2_howManyMarks 23 = .ok (.iinc 2 1, 3) := by decide +kernel
theorem dX2_howManyMarks_26 : decode cX2_howManyMarks 26 = .ok (.goto (-22), 3) := by decide +kernel
theorem dX2_howManyMarks_29 : decode cX2_howManyMarks 29 = .ok (.iload_n 1, 1) := by decide +kernel
theorem dX2_howManyMarks_30 : decode cX2_howManyMarks 30 = .ok (.ireturn, 1) := by decide +kernel
theorem dX2_howManyByStaff_0 : decode cX2_howManyByStaff 0 = .ok (.iconst 0, 1) := by decide +kernel
theorem dX2_howManyByStaff_1 : decode cX2_howManyByStaff 1 = .ok (.istore_n 1, 1) := by decide +kernel
theorem dX2_howManyByStaff_2 : decode cX2_howManyByStaff 2 = .ok (.iconst 0, 1) := by decide +kernel
theorem dX2_howManyByStaff_3 : decode cX2_howManyByStaff 3 = .ok (.istore_n 2, 1) := by decide +kernel
theorem dX2_howManyByStaff_4 : decode cX2_howManyByStaff 4 = .ok (.iload_n 2, 1) := by decide +kernel
theorem dX2_howManyByStaff_5 : decode cX2_howManyByStaff 5 = .ok (.aload_n 0, 1) := by decide +kernel
theorem dX2_howManyByStaff_6 : decode cX2_howManyByStaff 6 = .ok (.getfield 20, 3) := by decide +kernel
theorem dX2_howManyByStaff_9 : decode cX2_howManyByStaff 9 = .ok (.getfield 33, 3) := by decide +kernel
theorem dX2_howManyByStaff_12 : decode cX2_howManyByStaff 12 = .ok (.if_icmp .ge 22, 3) := by decide +kernel
theorem dX2_howManyByStaff_15 : decode cX2_howManyByStaff 15 = .ok (.aload_n 0, 1) := by decide +kernel
theorem dX2_howManyByStaff_16 : decode cX2_howManyByStaff 16 = .ok (.getfield 16, 3) := by decide +kernel
theorem dX2_howManyByStaff_19 : decode cX2_howManyByStaff 19 = .ok (.iload_n 2, 1) := by decide +kernel
theorem dX2_howManyByStaff_20 : decode cX2_howManyByStaff 20 = .ok (.iaload, 1) := by decide +kernel
theorem dX2_howManyByStaff_21 : decode cX2_howManyByStaff 21 = .ok (.iconst (-1), 1) := by decide +kernel
theorem dX2_howManyByStaff_22 : decode cX2_howManyByStaff 22 = .ok (.if_icmp .eq 6, 3) := by decide +kernel
theorem dX2_howManyByStaff_25 : decode cX2_howManyByStaff 25 = .ok (.iinc 1 1, 3) := by decide +kernel
theorem dX2_howManyByStaff_28 : decode cX2_howManyByStaff 28 = .ok (.iinc 2 1, 3) := by decide +kernel
theorem dX2_howManyByStaff_31 : decode cX2_howManyByStaff 31 = .ok (.goto (-27), 3) := by decide +kernel
theorem dX2_howManyByStaff_34 : decode cX2_howManyByStaff 34 = .ok (.iload_n 1, 1) := by decide +kernel
theorem dX2_howManyByStaff_35 : decode cX2_howManyByStaff 35 = .ok (.ireturn, 1) := by decide +kernel
theorem dX2_howManyAppealed_0 : decode cX2_howManyAppealed 0 = .ok (.iconst 0, 1) := by decide +kernel
theorem dX2_howManyAppealed_1 : decode cX2_howManyAppealed 1 = .ok (.istore_n 1, 1) := by decide +kernel
theorem dX2_howManyAppealed_2 : decode cX2_howManyAppealed 2 = .ok (.iconst 0, 1) := by decide +kernel
theorem dX2_howManyAppealed_3 : decode cX2_howManyAppealed 3 = .ok (.istore_n 2, 1) := by decide +kernel
theorem dX2_howManyAppealed_4 : decode cX2_howManyAppealed 4 = .ok (.iload_n 2, 1) := by decide +kernel
theorem dX2_howManyAppealed_5 : decode cX2_howManyAppealed 5 = .ok (.aload_n 0, 1) := by decide +kernel
theorem dX2_howManyAppealed_6 : decode cX2_howManyAppealed 6 = .ok (.getfield 20, 3) := by decide +kernel
theorem dX2_howManyAppealed_9 : decode cX2_howManyAppealed 9 = .ok (.getfield 33, 3) := by decide +kernel
theorem dX2_howManyAppealed_12 : decode cX2_howManyAppealed 12 = .ok (.if_icmp .ge 29, 3) := by decide +kernel
theorem dX2_howManyAppealed_15 : decode cX2_howManyAppealed 15 = .ok (.aload_n 0, 1) := by decide +kernel
theorem dX2_howManyAppealed_16 : decode cX2_howManyAppealed 16 = .ok (.iload_n 2, 1) := by decide +kernel
theorem dX2_howManyAppealed_17 : decode cX2_howManyAppealed 17 = .ok (.invokevirtual 43, 3) := by decide +kernel
theorem dX2_howManyAppealed_20 : decode cX2_howManyAppealed 20 = .ok (.aload_n 0, 1) := by decide +kernel
theorem dX2_howManyAppealed_21 : decode cX2_howManyAppealed 21 = .ok (.getfield 20, 3) := by decide +kernel
theorem dX2_howManyAppealed_24 : decode cX2_howManyAppealed 24 = .ok (.getfield 46, 3) := by decide +kernel
theorem dX2_howManyAppealed_27 : decode cX2_howManyAppealed 27 = .ok (.iconst 2, 1) := by decide +kernel
theorem dX2_howManyAppealed_28 : decode cX2_howManyAppealed 28 = .ok (.iaload, 1) := by decide +kernel
theorem dX2_howManyAppealed_29 : decode cX2_howManyAppealed 29 = .ok (.if_icmp .le 6, 3) := by decide +kernel
theorem dX2_howManyAppealed_32 : decode cX2_howManyAppealed 32 = .ok (.iinc 1 1, 3) := by decide +kernel
theorem dX2_howManyAppealed_35 : decode cX2_howManyAppealed 35 = .ok (.iinc 2 1, 3) := by decide +kernel
theorem dX2_howManyAppealed_38 : decode cX2_howManyAppealed 38 = .ok (.goto (-34), 3) := by decide +kernel
theorem dX2_howManyAppealed_41 : decode cX2_howManyAppealed 41 = .ok (.iload_n 1, 1) := by decide +kernel
theorem dX2_howManyAppealed_42 : decode cX2_howManyAppealed 42 = .ok (.ireturn, 1) := by decide +kernel
theorem dX2_spreadOf_0 : decode cX2_spreadOf 0 = .ok (.bipush 100, 2) := by decide +kernel
theorem dX2_spreadOf_2 : decode cX2_spreadOf 2 = .ok (.istore_n 2, 1) := by decide +kernel
theorem dX2_spreadOf_3 : decode cX2_spreadOf 3 = .ok (.iconst (-1), 1) := by decide +kernel
theorem dX2_spreadOf_4 : decode cX2_spreadOf 4 = .ok (.istore_n 3, 1) := by decide +kernel
theorem dX2_spreadOf_5 : decode cX2_spreadOf 5 = .ok (.iconst 0, 1) := by decide +kernel
theorem dX2_spreadOf_6 : decode cX2_spreadOf 6 = .ok (.istore 4, 2) := by decide +kernel
theorem dX2_spreadOf_8 : decode cX2_spreadOf 8 = .ok (.iload 4, 2) := by decide +kernel
theorem dX2_spreadOf_10 : decode cX2_spreadOf 10 = .ok (.aload_n 0, 1) := by decide +kernel
theorem dX2_spreadOf_11 : decode cX2_spreadOf 11 = .ok (.getfield 20, 3) := by decide +kernel
theorem dX2_spreadOf_14 : decode cX2_spreadOf 14 = .ok (.getfield 33, 3) := by decide +kernel
theorem dX2_spreadOf_17 : decode cX2_spreadOf 17 = .ok (.if_icmp .ge 40, 3) := by decide +kernel
theorem dX2_spreadOf_20 : decode cX2_spreadOf 20 = .ok (.aload_n 0, 1) := by decide +kernel
theorem dX2_spreadOf_21 : decode cX2_spreadOf 21 = .ok (.getfield 11, 3) := by decide +kernel
theorem dX2_spreadOf_24 : decode cX2_spreadOf 24 = .ok (.iload 4, 2) := by decide +kernel
theorem dX2_spreadOf_26 : decode cX2_spreadOf 26 = .ok (.aaload, 1) := by decide +kernel
theorem dX2_spreadOf_27 : decode cX2_spreadOf 27 = .ok (.iload_n 1, 1) := by decide +kernel
theorem dX2_spreadOf_28 : decode cX2_spreadOf 28 = .ok (.iaload, 1) := by decide +kernel
theorem dX2_spreadOf_29 : decode cX2_spreadOf 29 = .ok (.istore 5, 2) := by decide +kernel
theorem dX2_spreadOf_31 : decode cX2_spreadOf 31 = .ok (.iload 5, 2) := by decide +kernel
theorem dX2_spreadOf_33 : decode cX2_spreadOf 33 = .ok (.iconst (-1), 1) := by decide +kernel
theorem dX2_spreadOf_34 : decode cX2_spreadOf 34 = .ok (.if_icmp .eq 17, 3) := by decide +kernel
theorem dX2_spreadOf_37 : decode cX2_spreadOf 37 = .ok (.iload_n 2, 1) := by decide +kernel
theorem dX2_spreadOf_38 : decode cX2_spreadOf 38 = .ok (.iload 5, 2) := by decide +kernel
theorem dX2_spreadOf_40 : decode cX2_spreadOf 40 = .ok (.invokestatic 49, 3) := by decide +kernel
theorem dX2_spreadOf_43 : decode cX2_spreadOf 43 = .ok (.istore_n 2, 1) := by decide +kernel
theorem dX2_spreadOf_44 : decode cX2_spreadOf 44 = .ok (.iload_n 3, 1) := by decide +kernel
theorem dX2_spreadOf_45 : decode cX2_spreadOf 45 = .ok (.iload 5, 2) := by decide +kernel
theorem dX2_spreadOf_47 : decode cX2_spreadOf 47 = .ok (.invokestatic 55, 3) := by decide +kernel
theorem dX2_spreadOf_50 : decode cX2_spreadOf 50 = .ok (.istore_n 3, 1) := by decide +kernel
theorem dX2_spreadOf_51 : decode cX2_spreadOf 51 = .ok (.iinc 4 1, 3) := by decide +kernel
theorem dX2_spreadOf_54 : decode cX2_spreadOf 54 = .ok (.goto (-46), 3) := by decide +kernel
theorem dX2_spreadOf_57 : decode cX2_spreadOf 57 = .ok (.iload_n 3, 1) := by decide +kernel
theorem dX2_spreadOf_58 : decode cX2_spreadOf 58 = .ok (.iload_n 2, 1) := by decide +kernel
theorem dX2_spreadOf_59 : decode cX2_spreadOf 59 = .ok (.isub, 1) := by decide +kernel
theorem dX2_spreadOf_60 : decode cX2_spreadOf 60 = .ok (.iconst 0, 1) := by decide +kernel
theorem dX2_spreadOf_61 : decode cX2_spreadOf 61 = .ok (.invokestatic 55, 3) := by decide +kernel
theorem dX2_spreadOf_64 : decode cX2_spreadOf 64 = .ok (.ireturn, 1) := by decide +kernel
theorem dX2_nextMarker_0 : decode cX2_nextMarker 0 = .ok (.aload_n 0, 1) := by decide +kernel
theorem dX2_nextMarker_1 : decode cX2_nextMarker 1 = .ok (.getfield 20, 3) := by decide +kernel
theorem dX2_nextMarker_4 : decode cX2_nextMarker 4 = .ok (.iload_n 1, 1) := by decide +kernel
theorem dX2_nextMarker_5 : decode cX2_nextMarker 5 = .ok (.invokevirtual 58, 3) := by decide +kernel
theorem dX2_nextMarker_8 : decode cX2_nextMarker 8 = .ok (.aload_n 0, 1) := by decide +kernel
theorem dX2_nextMarker_9 : decode cX2_nextMarker 9 = .ok (.iload_n 1, 1) := by decide +kernel
theorem dX2_nextMarker_10 : decode cX2_nextMarker 10 = .ok (.invokevirtual 61, 3) := by decide +kernel
theorem dX2_nextMarker_13 : decode cX2_nextMarker 13 = .ok (.iconst (-1), 1) := by decide +kernel
theorem dX2_nextMarker_14 : decode cX2_nextMarker 14 = .ok (.ixor, 1) := by decide +kernel
theorem dX2_nextMarker_15 : decode cX2_nextMarker 15 = .ok (.iand, 1) := by decide +kernel
theorem dX2_nextMarker_16 : decode cX2_nextMarker 16 = .ok (.istore_n 2, 1) := by decide +kernel
theorem dX2_nextMarker_17 : decode cX2_nextMarker 17 = .ok (.iconst (-1), 1) := by decide +kernel
theorem dX2_nextMarker_18 : decode cX2_nextMarker 18 = .ok (.istore_n 3, 1) := by decide +kernel
theorem dX2_nextMarker_19 : decode cX2_nextMarker 19 = .ok (.bipush 8, 2) := by decide +kernel
theorem dX2_nextMarker_21 : decode cX2_nextMarker 21 = .ok (.istore 4, 2) := by decide +kernel
theorem dX2_nextMarker_23 : decode cX2_nextMarker 23 = .ok (.iconst 0, 1) := by decide +kernel
theorem dX2_nextMarker_24 : decode cX2_nextMarker 24 = .ok (.istore 5, 2) := by decide +kernel
theorem dX2_nextMarker_26 : decode cX2_nextMarker 26 = .ok (.iload 5, 2) := by decide +kernel
theorem dX2_nextMarker_28 : decode cX2_nextMarker 28 = .ok (.aload_n 0, 1) := by decide +kernel
theorem dX2_nextMarker_29 : decode cX2_nextMarker 29 = .ok (.getfield 20, 3) := by decide +kernel
theorem dX2_nextMarker_32 : decode cX2_nextMarker 32 = .ok (.getfield 33, 3) := by decide +kernel
theorem dX2_nextMarker_35 : decode cX2_nextMarker 35 = .ok (.if_icmp .ge 40, 3) := by decide +kernel
theorem dX2_nextMarker_38 : decode cX2_nextMarker 38 = .ok (.iload_n 2, 1) := by decide +kernel
theorem dX2_nextMarker_39 : decode cX2_nextMarker 39 = .ok (.iload 5, 2) := by decide +kernel
theorem dX2_nextMarker_41 : decode cX2_nextMarker 41 = .ok (.invokestatic 64, 3) := by decide +kernel
theorem dX2_nextMarker_44 : decode cX2_nextMarker 44 = .ok (.ifCond .eq 25, 3) := by decide +kernel
theorem dX2_nextMarker_47 : decode cX2_nextMarker 47 = .ok (.aload_n 0, 1) := by decide +kernel
theorem dX2_nextMarker_48 : decode cX2_nextMarker 48 = .ok (.iload 5, 2) := by decide +kernel
theorem dX2_nextMarker_50 : decode cX2_nextMarker 50 = .ok (.invokevirtual 39, 3) := by decide +kernel
theorem dX2_nextMarker_53 : decode cX2_nextMarker 53 = .ok (.iload 4, 2) := by decide +kernel
theorem dX2_nextMarker_55 : decode cX2_nextMarker 55 = .ok (.if_icmp .ge 14, 3) := by decide +kernel
theorem dX2_nextMarker_58 : decode cX2_nextMarker 58 = .ok (.iload 5, 2) := by decide +kernel
theorem dX2_nextMarker_60 : decode cX2_nextMarker 60 = .ok (.istore_n 3, 1) := by decide +kernel
theorem dX2_nextMarker_61 : decode cX2_nextMarker 61 = .ok (.aload_n 0, 1) := by decide +kernel
theorem dX2_nextMarker_62 : decode cX2_nextMarker 62 = .ok (.iload 5, 2) := by decide +kernel
theorem dX2_nextMarker_64 : decode cX2_nextMarker 64 = .ok (.invokevirtual 39, 3) := by decide +kernel
theorem dX2_nextMarker_67 : decode cX2_nextMarker 67 = .ok (.istore 4, 2) := by decide +kernel
theorem dX2_nextMarker_69 : decode cX2_nextMarker 69 = .ok (.iinc 5 1, 3) := by decide +kernel
theorem dX2_nextMarker_72 : decode cX2_nextMarker 72 = .ok (.goto (-46), 3) := by decide +kernel
theorem dX2_nextMarker_75 : decode cX2_nextMarker 75 = .ok (.iload_n 3, 1) := by decide +kernel
theorem dX2_nextMarker_76 : decode cX2_nextMarker 76 = .ok (.ireturn, 1) := by decide +kernel
theorem dX2_digestAll_0 : decode cX2_digestAll 0 = .ok (.bipush 7, 2) := by decide +kernel
theorem dX2_digestAll_2 : decode cX2_digestAll 2 = .ok (.istore_n 1, 1) := by decide +kernel
theorem dX2_digestAll_3 : decode cX2_digestAll 3 = .ok (.iconst 0, 1) := by decide +kernel
theorem dX2_digestAll_4 : decode cX2_digestAll 4 = .ok (.istore_n 2, 1) := by decide +kernel
theorem dX2_digestAll_5 : decode cX2_digestAll 5 = .ok (.iload_n 2, 1) := by decide +kernel
theorem dX2_digestAll_6 : decode cX2_digestAll 6 = .ok (.aload_n 0, 1) := by decide +kernel
theorem dX2_digestAll_7 : decode cX2_digestAll 7 = .ok (.getfield 20, 3) := by decide +kernel
theorem dX2_digestAll_10 : decode cX2_digestAll 10 = .ok (.getfield 33, 3) := by decide +kernel
theorem dX2_digestAll_13 : decode cX2_digestAll 13 = .ok (.if_icmp .ge 54, 3) := by decide +kernel
theorem dX2_digestAll_16 : decode cX2_digestAll 16 = .ok (.iconst 0, 1) := by decide +kernel
theorem dX2_digestAll_17 : decode cX2_digestAll 17 = .ok (.istore_n 3, 1) := by decide +kernel
theorem dX2_digestAll_18 : decode cX2_digestAll 18 = .ok (.iload_n 3, 1) := by decide +kernel
theorem dX2_digestAll_19 : decode cX2_digestAll 19 = .ok (.aload_n 0, 1) := by decide +kernel
theorem dX2_digestAll_20 : decode cX2_digestAll 20 = .ok (.getfield 20, 3) := by decide +kernel
theorem dX2_digestAll_23 : decode cX2_digestAll 23 = .ok (.getfield 33, 3) := by decide +kernel
theorem dX2_digestAll_26 : decode cX2_digestAll 26 = .ok (.if_icmp .ge 23, 3) := by decide +kernel
theorem dX2_digestAll_29 : decode cX2_digestAll 29 = .ok (.bipush 31, 2) := by decide +kernel
theorem dX2_digestAll_31 : decode cX2_digestAll 31 = .ok (.iload_n 1, 1) := by decide +kernel
theorem dX2_digestAll_32 : decode cX2_digestAll 32 = .ok (.imul, 1) := by decide +kernel
theorem dX2_digestAll_33 : decode cX2_digestAll 33 = .ok (.aload_n 0, 1) := by decide +kernel
theorem dX2_digestAll_34 : decode cX2_digestAll 34 = .ok (.getfield 11, 3) := by decide +kernel
theorem dX2_digestAll_37 : decode cX2_digestAll 37 = .ok (.iload_n 3, 1) := by decide +kernel
theorem dX2_digestAll_38 : decode cX2_digestAll 38 = .ok (.aaload, 1) := by decide +kernel
theorem dX2_digestAll_39 : decode cX2_digestAll 39 = .ok (.iload_n 2, 1) := by decide +kernel
theorem dX2_digestAll_40 : decode cX2_digestAll 40 = .ok (.iaload, 1) := by decide +kernel
theorem dX2_digestAll_41 : decode cX2_digestAll 41 = .ok (.iadd, 1) := by decide +kernel
theorem dX2_digestAll_42 : decode cX2_digestAll 42 = .ok (.istore_n 1, 1) := by decide +kernel
theorem dX2_digestAll_43 : decode cX2_digestAll 43 = .ok (.iinc 3 1, 3) := by decide +kernel
theorem dX2_digestAll_46 : decode cX2_digestAll 46 = .ok (.goto (-28), 3) := by decide +kernel
theorem dX2_digestAll_49 : decode cX2_digestAll 49 = .ok (.bipush 31, 2) := by decide +kernel
theorem dX2_digestAll_51 : decode cX2_digestAll 51 = .ok (.iload_n 1, 1) := by decide +kernel
theorem dX2_digestAll_52 : decode cX2_digestAll 52 = .ok (.imul, 1) := by decide +kernel
theorem dX2_digestAll_53 : decode cX2_digestAll 53 = .ok (.aload_n 0, 1) := by decide +kernel
theorem dX2_digestAll_54 : decode cX2_digestAll 54 = .ok (.getfield 16, 3) := by decide +kernel
theorem dX2_digestAll_57 : decode cX2_digestAll 57 = .ok (.iload_n 2, 1) := by decide +kernel
theorem dX2_digestAll_58 : decode cX2_digestAll 58 = .ok (.iaload, 1) := by decide +kernel
theorem dX2_digestAll_59 : decode cX2_digestAll 59 = .ok (.iadd, 1) := by decide +kernel
theorem dX2_digestAll_60 : decode cX2_digestAll 60 = .ok (.istore_n 1, 1) := by decide +kernel
theorem dX2_digestAll_61 : decode cX2_digestAll 61 = .ok (.iinc 2 1, 3) := by decide +kernel
theorem dX2_digestAll_64 : decode cX2_digestAll 64 = .ok (.goto (-59), 3) := by decide +kernel
theorem dX2_digestAll_67 : decode cX2_digestAll 67 = .ok (.iload_n 1, 1) := by decide +kernel
theorem dX2_digestAll_68 : decode cX2_digestAll 68 = .ok (.ireturn, 1) := by decide +kernel
theorem dX3_init_0 : decode cX3_init 0 = .ok (.aload_n 0, 1) := by decide +kernel
theorem dX3_init_1 : decode cX3_init 1 = .ok (.invokespecial 3, 3) := by decide +kernel
theorem dX3_init_4 : decode cX3_init 4 = .ok (.aload_n 0, 1) := by decide +kernel
theorem dX3_init_5 : decode cX3_init 5 = .ok (.sipush 256, 3) := by decide +kernel
theorem dX3_init_8 : decode cX3_init 8 = .ok (.newarray .long, 2) := by decide +kernel
theorem dX3_init_10 : decode cX3_init 10 = .ok (.putfield 11, 3) := by decide +kernel
theorem dX3_init_13 : decode cX3_init 13 = .ok (.aload_n 0, 1) := by decide +kernel
theorem dX3_init_14 : decode cX3_init 14 = .ok (.sipush 256, 3) := by decide +kernel
theorem dX3_init_17 : decode cX3_init 17 = .ok (.newarray .int, 2) := by decide +kernel
theorem dX3_init_19 : decode cX3_init 19 = .ok (.putfield 15, 3) := by decide +kernel
theorem dX3_init_22 : decode cX3_init 22 = .ok (.aload_n 0, 1) := by decide +kernel
theorem dX3_init_23 : decode cX3_init 23 = .ok (.bipush 8, 2) := by decide +kernel
theorem dX3_init_25 : decode cX3_init 25 = .ok (.newarray .int, 2) := by decide +kernel
theorem dX3_init_27 : decode cX3_init 27 = .ok (.putfield 19, 3) := by decide +kernel
theorem dX3_init_30 : decode cX3_init 30 = .ok (.aload_n 0, 1) := by decide +kernel
theorem dX3_init_31 : decode cX3_init 31 = .ok (.bipush 8, 2) := by decide +kernel
theorem dX3_init_33 : decode cX3_init 33 = .ok (.newarray .int, 2) := by decide +kernel
theorem dX3_init_35 : decode cX3_init 35 = .ok (.putfield 22, 3) := by decide +kernel
theorem dX3_init_38 : decode cX3_init 38 = .ok (.aload_n 0, 1) := by decide +kernel
theorem dX3_init_39 : decode cX3_init 39 = .ok (.bipush 8, 2) := by decide +kernel
theorem dX3_init_41 : decode cX3_init 41 = .ok (.newarray .int, 2) := by decide +kernel
theorem dX3_init_43 : decode cX3_init 43 = .ok (.putfield 25, 3) := by decide +kernel
theorem dX3_init_46 : decode cX3_init 46 = .ok (.aload_n 0, 1) := by decide +kernel
theorem dX3_init_47 : decode cX3_init 47 = .ok (.iconst 0, 1) := by decide +kernel
theorem dX3_init_48 : decode cX3_init 48 = .ok (.putfield 28, 3) := by decide +kernel
theorem dX3_init_51 : decode cX3_init 51 = .ok (.aload_n 0, 1) := by decide +kernel
theorem dX3_init_52 : decode cX3_init 52 = .ok (.iconst 0, 1) := by decide +kernel
theorem dX3_init_53 : decode cX3_init 53 = .ok (.putfield 32, 3) := by decide +kernel
theorem dX3_init_56 : decode cX3_init 56 = .ok (.aload_n 0, 1) := by decide +kernel
theorem dX3_init_57 : decode cX3_init 57 = .ok (.aload_n 1, 1) := by decide +kernel
theorem dX3_init_58 : decode cX3_init 58 = .ok (.putfield 36, 3) := by decide +kernel
theorem dX3_init_61 : decode cX3_init 61 = .ok (.aload_n 0, 1) := by decide +kernel
theorem dX3_init_62 : decode cX3_init 62 = .ok (.aload_n 2, 1) := by decide +kernel
theorem dX3_init_63 : decode cX3_init 63 = .ok (.putfield 40, 3) := by decide +kernel
theorem dX3_init_66 : decode cX3_init 66 = .ok (.return_, 1) := by decide +kernel
theorem dX3_forget_0 : decode cX3_forget 0 = .ok (.aload_n 0, 1) := by decide +kernel
theorem dX3_forget_1 : decode cX3_forget 1 = .ok (.iconst 0, 1) := by decide +kernel
theorem dX3_forget_2 : decode cX3_forget 2 = .ok (.putfield 32, 3) := by decide +kernel
theorem dX3_forget_5 : decode cX3_forget 5 = .ok (.return_, 1) := by decide +kernel
theorem dX3_workAt_0 : decode cX3_workAt 0 = .ok (.aload_n 0, 1) := by decide +kernel
theorem dX3_workAt_1 : decode cX3_workAt 1 = .ok (.invokevirtual 44, 3) := by decide +kernel
theorem dX3_workAt_4 : decode cX3_workAt 4 = .ok (.aload_n 0, 1) := by decide +kernel
theorem dX3_workAt_5 : decode cX3_workAt 5 = .ok (.getfield 19, 3) := by decide +kernel
theorem dX3_workAt_8 : decode cX3_workAt 8 = .ok (.iload_n 1, 1) := by decide +kernel
theorem dX3_workAt_9 : decode cX3_workAt 9 = .ok (.iaload, 1) := by decide +kernel
theorem dX3_workAt_10 : decode cX3_workAt 10 = .ok (.ireturn, 1) := by decide +kernel
theorem dX3_leastQuarrel_0 : decode cX3_leastQuarrel 0 = .ok (.aload_n 0, 1) := by decide +kernel
theorem dX3_leastQuarrel_1 : decode cX3_leastQuarrel 1 = .ok (.invokevirtual 44, 3) := by decide +kernel
theorem dX3_leastQuarrel_4 : decode cX3_leastQuarrel 4 = .ok (.aload_n 0, 1) := by decide +kernel
theorem dX3_leastQuarrel_5 : decode cX3_leastQuarrel 5 = .ok (.getfield 28, 3) := by decide +kernel
theorem dX3_leastQuarrel_8 : decode cX3_leastQuarrel 8 = .ok (.ireturn, 1) := by decide +kernel
theorem dX3_turnedBy_0 : decode cX3_turnedBy 0 = .ok (.aload_n 0, 1) := by decide +kernel
theorem dX3_turnedBy_1 : decode cX3_turnedBy 1 = .ok (.invokevirtual 44, 3) := by decide +kernel
theorem dX3_turnedBy_4 : decode cX3_turnedBy 4 = .ok (.iconst 0, 1) := by decide +kernel
theorem dX3_turnedBy_5 : decode cX3_turnedBy 5 = .ok (.istore_n 2, 1) := by decide +kernel
theorem dX3_turnedBy_6 : decode cX3_turnedBy 6 = .ok (.iconst 0, 1) := by decide +kernel
theorem dX3_turnedBy_7 : decode cX3_turnedBy 7 = .ok (.istore_n 3, 1) := by decide +kernel
theorem dX3_turnedBy_8 : decode cX3_turnedBy 8 = .ok (.iload_n 3, 1) := by decide +kernel
theorem dX3_turnedBy_9 : decode cX3_turnedBy 9 = .ok (.aload_n 0, 1) := by decide +kernel
theorem dX3_turnedBy_10 : decode cX3_turnedBy 10 = .ok (.getfield 36, 3) := by decide +kernel
theorem dX3_turnedBy_13 : decode cX3_turnedBy 13 = .ok (.getfield 47, 3) := by decide +kernel
theorem dX3_turnedBy_16 : decode cX3_turnedBy 16 = .ok (.if_icmp .ge 56, 3) := by decide +kernel
theorem dX3_turnedBy_19 : decode cX3_turnedBy 19 = .ok (.iload_n 3, 1) := by decide +kernel
theorem dX3_turnedBy_20 : decode cX3_turnedBy 20 = .ok (.iconst 1, 1) := by decide +kernel
theorem dX3_turnedBy_21 : decode cX3_turnedBy 21 = .ok (.iadd, 1) := by decide +kernel
theorem dX3_turnedBy_22 : decode cX3_turnedBy 22 = .ok (.istore 4, 2) := by decide +kernel
theorem dX3_turnedBy_24 : decode cX3_turnedBy 24 = .ok (.iload 4, 2) := by decide +kernel
theorem dX3_turnedBy_26 : decode cX3_turnedBy 26 = .ok (.aload_n 0, 1) := by decide +kernel
theorem dX3_turnedBy_27 : decode cX3_turnedBy 27 = .ok (.getfield 36, 3) := by decide +kernel
theorem dX3_turnedBy_30 : decode cX3_turnedBy 30 = .ok (.getfield 47, 3) := by decide +kernel
theorem dX3_turnedBy_33 : decode cX3_turnedBy 33 = .ok (.if_icmp .ge 33, 3) := by decide +kernel
theorem dX3_turnedBy_36 : decode cX3_turnedBy 36 = .ok (.aload_n 0, 1) := by decide +kernel
theorem dX3_turnedBy_37 : decode cX3_turnedBy 37 = .ok (.iload_n 1, 1) := by decide +kernel
theorem dX3_turnedBy_38 : decode cX3_turnedBy 38 = .ok (.aload_n 0, 1) := by decide +kernel
theorem dX3_turnedBy_39 : decode cX3_turnedBy 39 = .ok (.getfield 19, 3) := by decide +kernel
theorem dX3_turnedBy_42 : decode cX3_turnedBy 42 = .ok (.iload_n 3, 1) := by decide +kernel
theorem dX3_turnedBy_43 : decode cX3_turnedBy 43 = .ok (.iaload, 1) := by decide +kernel
theorem dX3_turnedBy_44 : decode cX3_turnedBy 44 = .ok (.aload_n 0, 1) := by decide +kernel
theorem dX3_turnedBy_45 : decode cX3_turnedBy 45 = .ok (.getfield 19, 3) := by decide +kernel
theorem dX3_turnedBy_48 : decode cX3_turnedBy 48 = .ok (.iload 4, 2) := by decide +kernel
theorem dX3_turnedBy_50 : decode cX3_turnedBy 50 = .ok (.iaload, 1) := by decide +kernel
theorem dX3_turnedBy_51 : decode cX3_turnedBy 51 = .ok (.invokevirtual 52, 3) := by decide +kernel
theorem dX3_turnedBy_54 : decode cX3_turnedBy 54 = .ok (.ifCond .eq 6, 3) := by decide +kernel
theorem dX3_turnedBy_57 : decode cX3_turnedBy 57 = .ok (.iinc 2 1, 3) := by decide +kernel
theorem dX3_turnedBy_60 : decode cX3_turnedBy 60 = .ok (.iinc 4 1, 3) := by decide +kernel
theorem dX3_turnedBy_63 : decode cX3_turnedBy 63 = .ok (.goto (-39), 3) := by decide +kernel
theorem dX3_turnedBy_66 : decode cX3_turnedBy 66 = .ok (.iinc 3 1, 3) := by decide +kernel
theorem dX3_turnedBy_69 : decode cX3_turnedBy 69 = .ok (.goto (-61), 3) := by decide +kernel
theorem dX3_turnedBy_72 : decode cX3_turnedBy 72 = .ok (.iload_n 2, 1) := by decide +kernel
theorem dX3_turnedBy_73 : decode cX3_turnedBy 73 = .ok (.ireturn, 1) := by decide +kernel
theorem dX3_farthestMove_0 : decode cX3_farthestMove 0 = .ok (.aload_n 0, 1) := by decide +kernel
theorem dX3_farthestMove_1 : decode cX3_farthestMove 1 = .ok (.invokevirtual 44, 3) := by decide +kernel
theorem dX3_farthestMove_4 : decode cX3_farthestMove 4 = .ok (.aload_n 0, 1) := by decide +kernel
theorem dX3_farthestMove_5 : decode cX3_farthestMove 5 = .ok (.getfield 25, 3) := by decide +kernel
theorem dX3_farthestMove_8 : decode cX3_farthestMove 8 = .ok (.iload_n 1, 1) := by decide +kernel
theorem dX3_farthestMove_9 : decode cX3_farthestMove 9 = .ok (.iaload, 1) := by decide +kernel
theorem dX3_farthestMove_10 : decode cX3_farthestMove 10 = .ok (.iconst (-1), 1) := by decide +kernel
theorem dX3_farthestMove_11 : decode cX3_farthestMove 11 = .ok (.if_icmp .ne 23, 3) := by decide +kernel
theorem dX3_farthestMove_14 : decode cX3_farthestMove 14 = .ok (.aload_n 0, 1) := by decide +kernel
theorem dX3_farthestMove_15 : decode cX3_farthestMove 15 = .ok (.iload_n 1, 1) := by decide +kernel
theorem dX3_farthestMove_16 : decode cX3_farthestMove 16 = .ok (.aload_n 0, 1) := by decide +kernel
theorem dX3_farthestMove_17 : decode cX3_farthestMove 17 = .ok (.getfield 22, 3) := by decide +kernel
theorem dX3_farthestMove_20 : decode cX3_farthestMove 20 = .ok (.invokevirtual 56, 3) := by decide +kernel
theorem dX3_farthestMove_23 : decode cX3_farthestMove 23 = .ok (.pop, 1) := by decide +kernel
theorem dX3_farthestMove_24 : decode cX3_farthestMove 24 = .ok (.aload_n 0, 1) := by decide +kernel
theorem dX3_farthestMove_25 : decode cX3_farthestMove 25 = .ok (.getfield 25, 3) := by decide +kernel
theorem dX3_farthestMove_28 : decode cX3_farthestMove 28 = .ok (.iload_n 1, 1) := by decide +kernel
theorem dX3_farthestMove_29 : decode cX3_farthestMove 29 = .ok (.aload_n 0, 1) := by decide +kernel
theorem dX3_farthestMove_30 : decode cX3_farthestMove 30 = .ok (.invokevirtual 60, 3) := by decide +kernel
theorem dX3_farthestMove_33 : decode cX3_farthestMove 33 = .ok (.iastore, 1) := by decide +kernel
theorem dX3_farthestMove_34 : decode cX3_farthestMove 34 = .ok (.aload_n 0, 1) := by decide +kernel
theorem dX3_farthestMove_35 : decode cX3_farthestMove 35 = .ok (.getfield 25, 3) := by decide +kernel
theorem dX3_farthestMove_38 : decode cX3_farthestMove 38 = .ok (.iload_n 1, 1) := by decide +kernel
theorem dX3_farthestMove_39 : decode cX3_farthestMove 39 = .ok (.iaload, 1) := by decide +kernel
theorem dX3_farthestMove_40 : decode cX3_farthestMove 40 = .ok (.ireturn, 1) := by decide +kernel
theorem dX3_refresh_0 : decode cX3_refresh 0 = .ok (.aload_n 0, 1) := by decide +kernel
theorem dX3_refresh_1 : decode cX3_refresh 1 = .ok (.getfield 32, 3) := by decide +kernel
theorem dX3_refresh_4 : decode cX3_refresh 4 = .ok (.ifCond .eq 4, 3) := by decide +kernel
theorem dX3_refresh_7 : decode cX3_refresh 7 = .ok (.return_, 1) := by decide +kernel
theorem dX3_refresh_8 : decode cX3_refresh 8 = .ok (.aload_n 0, 1) := by decide +kernel
theorem dX3_refresh_9 : decode cX3_refresh 9 = .ok (.iconst 1, 1) := by decide +kernel
theorem dX3_refresh_10 : decode cX3_refresh 10 = .ok (.putfield 32, 3) := by decide +kernel
theorem dX3_refresh_13 : decode cX3_refresh 13 = .ok (.aload_n 0, 1) := by decide +kernel
theorem dX3_refresh_14 : decode cX3_refresh 14 = .ok (.getfield 25, 3) := by decide +kernel
theorem dX3_refresh_17 : decode cX3_refresh 17 = .ok (.iconst (-1), 1) := by decide +kernel
theorem dX3_refresh_18 : decode cX3_refresh 18 = .ok (.invokestatic 64, 3) := by decide +kernel
theorem dX3_refresh_21 : decode cX3_refresh 21 = .ok (.aload_n 0, 1) := by decide +kernel
theorem dX3_refresh_22 : decode cX3_refresh 22 = .ok (.aload_n 0, 1) := by decide +kernel
theorem dX3_refresh_23 : decode cX3_refresh 23 = .ok (.iconst (-1), 1) := by decide +kernel
theorem dX3_refresh_24 : decode cX3_refresh 24 = .ok (.aload_n 0, 1) := by decide +kernel
theorem dX3_refresh_25 : decode cX3_refresh 25 = .ok (.getfield 19, 3) := by decide +kernel
theorem dX3_refresh_28 : decode cX3_refresh 28 = .ok (.invokevirtual 56, 3) := by decide +kernel
theorem dX3_refresh_31 : decode cX3_refresh 31 = .ok (.putfield 28, 3) := by decide +kernel
theorem dX3_refresh_34 : decode cX3_refresh 34 = .ok (.return_, 1) := by decide +kernel
theorem dX3_turnsTwo_0 : decode cX3_turnsTwo 0 = .ok (.aload_n 0, 1) := by decide +kernel
theorem dX3_turnsTwo_1 : decode cX3_turnsTwo 1 = .ok (.getfield 40, 3) := by decide +kernel
theorem dX3_turnsTwo_4 : decode cX3_turnsTwo 4 = .ok (.getfield 70, 3) := by decide +kernel
theorem dX3_turnsTwo_7 : decode cX3_turnsTwo 7 = .ok (.iload_n 1, 1) := by decide +kernel
theorem dX3_turnsTwo_8 : decode cX3_turnsTwo 8 = .ok (.aaload, 1) := by decide +kernel
theorem dX3_turnsTwo_9 : decode cX3_turnsTwo 9 = .ok (.iload_n 2, 1) := by decide +kernel
theorem dX3_turnsTwo_10 : decode cX3_turnsTwo 10 = .ok (.iaload, 1) := by decide +kernel
theorem dX3_turnsTwo_11 : decode cX3_turnsTwo 11 = .ok (.istore 4, 2) := by decide +kernel
theorem dX3_turnsTwo_13 : decode cX3_turnsTwo 13 = .ok (.iload 4, 2) := by decide +kernel
theorem dX3_turnsTwo_15 : decode cX3_turnsTwo 15 = .ok (.iconst (-1), 1) := by decide +kernel
theorem dX3_turnsTwo_16 : decode cX3_turnsTwo 16 = .ok (.if_icmp .eq 23, 3) := by decide +kernel
theorem dX3_turnsTwo_19 : decode cX3_turnsTwo 19 = .ok (.iload 4, 2) := by decide +kernel
theorem dX3_turnsTwo_21 : decode cX3_turnsTwo 21 = .ok (.aload_n 0, 1) := by decide +kernel
theorem dX3_turnsTwo_22 : decode cX3_turnsTwo 22 = .ok (.getfield 40, 3) := by decide +kernel
theorem dX3_turnsTwo_25 : decode cX3_turnsTwo 25 = .ok (.getfield 70, 3) := by decide +kernel
theorem dX3_turnsTwo_28 : decode cX3_turnsTwo 28 = .ok (.iload_n 1, 1) := by decide +kernel
theorem dX3_turnsTwo_29 : decode cX3_turnsTwo 29 = .ok (.aaload, 1) := by decide +kernel
theorem dX3_turnsTwo_30 : decode cX3_turnsTwo 30 = .ok (.iload_n 3, 1) := by decide +kernel
theorem dX3_turnsTwo_31 : decode cX3_turnsTwo 31 = .ok (.iaload, 1) := by decide +kernel
theorem dX3_turnsTwo_32 : decode cX3_turnsTwo 32 = .ok (.if_icmp .ge 7, 3) := by decide +kernel
theorem dX3_turnsTwo_35 : decode cX3_turnsTwo 35 = .ok (.iconst 1, 1) := by decide +kernel
theorem dX3_turnsTwo_36 : decode cX3_turnsTwo 36 = .ok (.goto 4, 3) := by decide +kernel
theorem dX3_turnsTwo_39 : decode cX3_turnsTwo 39 = .ok (.iconst 0, 1) := by decide +kernel
theorem dX3_turnsTwo_40 : decode cX3_turnsTwo 40 = .ok (.ireturn, 1) := by decide +kernel
theorem dX3_farthest_0 : decode cX3_farthest 0 = .ok (.iconst 0, 1) := by decide +kernel
theorem dX3_farthest_1 : decode cX3_farthest 1 = .ok (.istore_n 1, 1) := by decide +kernel
theorem dX3_farthest_2 : decode cX3_farthest 2 = .ok (.iconst 0, 1) := by decide +kernel
theorem dX3_farthest_3 : decode cX3_farthest 3 = .ok (.istore_n 2, 1) := by decide +kernel
theorem dX3_farthest_4 : decode cX3_farthest 4 = .ok (.iload_n 2, 1) := by decide +kernel
theorem dX3_farthest_5 : decode cX3_farthest 5 = .ok (.aload_n 0, 1) := by decide +kernel
theorem dX3_farthest_6 : decode cX3_farthest 6 = .ok (.getfield 36, 3) := by decide +kernel
theorem dX3_farthest_9 : decode cX3_farthest 9 = .ok (.getfield 47, 3) := by decide +kernel
theorem dX3_farthest_12 : decode cX3_farthest 12 = .ok (.if_icmp .ge 54, 3) := by decide +kernel
theorem dX3_farthest_15 : decode cX3_farthest 15 = .ok (.iconst 0, 1) := by decide +kernel
theorem dX3_farthest_16 : decode cX3_farthest 16 = .ok (.istore_n 3, 1) := by decide +kernel
theorem dX3_farthest_17 : decode cX3_farthest 17 = .ok (.iload_n 3, 1) := by decide +kernel
theorem dX3_farthest_18 : decode cX3_farthest 18 = .ok (.aload_n 0, 1) := by decide +kernel
theorem dX3_farthest_19 : decode cX3_farthest 19 = .ok (.getfield 36, 3) := by decide +kernel
theorem dX3_farthest_22 : decode cX3_farthest 22 = .ok (.getfield 47, 3) := by decide +kernel
theorem dX3_farthest_25 : decode cX3_farthest 25 = .ok (.if_icmp .ge 35, 3) := by decide +kernel
theorem dX3_farthest_28 : decode cX3_farthest 28 = .ok (.aload_n 0, 1) := by decide +kernel
theorem dX3_farthest_29 : decode cX3_farthest 29 = .ok (.getfield 19, 3) := by decide +kernel
theorem dX3_farthest_32 : decode cX3_farthest 32 = .ok (.iload_n 2, 1) := by decide +kernel
theorem dX3_farthest_33 : decode cX3_farthest 33 = .ok (.iaload, 1) := by decide +kernel
theorem dX3_farthest_34 : decode cX3_farthest 34 = .ok (.aload_n 0, 1) := by decide +kernel
theorem dX3_farthest_35 : decode cX3_farthest 35 = .ok (.getfield 22, 3) := by decide +kernel
theorem dX3_farthest_38 : decode cX3_farthest 38 = .ok (.iload_n 3, 1) := by decide +kernel
theorem dX3_farthest_39 : decode cX3_farthest 39 = .ok (.iaload, 1) := by decide +kernel
theorem dX3_farthest_40 : decode cX3_farthest 40 = .ok (.if_icmp .ne 14, 3) := by decide +kernel
theorem dX3_farthest_43 : decode cX3_farthest 43 = .ok (.iload_n 1, 1) := by decide +kernel
theorem dX3_farthest_44 : decode cX3_farthest 44 = .ok (.iload_n 2, 1) := by decide +kernel
theorem dX3_farthest_45 : decode cX3_farthest 45 = .ok (.iload_n 3, 1) := by decide +kernel
theorem dX3_farthest_46 : decode cX3_farthest 46 = .ok (.isub, 1) := by decide +kernel
theorem dX3_farthest_47 : decode cX3_farthest 47 = .ok (.invokestatic 76, 3) := by decide +kernel
theorem dX3_farthest_50 : decode cX3_farthest 50 = .ok (.invokestatic 82, 3) := by decide +kernel
theorem dX3_farthest_53 : decode cX3_farthest 53 = .ok (.istore_n 1, 1) := by decide +kernel
theorem dX3_farthest_54 : decode cX3_farthest 54 = .ok (.iinc 3 1, 3) := by decide +kernel
theorem dX3_farthest_57 : decode cX3_farthest 57 = .ok (.goto (-40), 3) := by decide +kernel
theorem dX3_farthest_60 : decode cX3_farthest 60 = .ok (.iinc 2 1, 3) := by decide +kernel
theorem dX3_farthest_63 : decode cX3_farthest 63 = .ok (.goto (-59), 3) := by decide +kernel
theorem dX3_farthest_66 : decode cX3_farthest 66 = .ok (.iload_n 1, 1) := by decide +kernel
theorem dX3_farthest_67 : decode cX3_farthest 67 = .ok (.ireturn, 1) := by decide +kernel
theorem dX3_findOrder_0 : decode cX3_findOrder 0 = .ok (.aload_n 0, 1) := by decide +kernel
theorem dX3_findOrder_1 : decode cX3_findOrder 1 = .ok (.iload_n 1, 1) := by decide +kernel
theorem dX3_findOrder_2 : decode cX3_findOrder 2 = .ok (.invokevirtual 86, 3) := by decide +kernel
theorem dX3_findOrder_5 : decode cX3_findOrder 5 = .ok (.aload_n 0, 1) := by decide +kernel
theorem dX3_findOrder_6 : decode cX3_findOrder 6 = .ok (.invokevirtual 90, 3) := by decide +kernel
theorem dX3_findOrder_9 : decode cX3_findOrder 9 = .ok (.iconst 1, 1) := by decide +kernel
theorem dX3_findOrder_10 : decode cX3_findOrder 10 = .ok (.aload_n 0, 1) := by decide +kernel
theorem dX3_findOrder_11 : decode cX3_findOrder 11 = .ok (.getfield 36, 3) := by decide +kernel
theorem dX3_findOrder_14 : decode cX3_findOrder 14 = .ok (.getfield 47, 3) := by decide +kernel
theorem dX3_findOrder_17 : decode cX3_findOrder 17 = .ok (.ishl, 1) := by decide +kernel
theorem dX3_findOrder_18 : decode cX3_findOrder 18 = .ok (.iconst 1, 1) := by decide +kernel
theorem dX3_findOrder_19 : decode cX3_findOrder 19 = .ok (.isub, 1) := by decide +kernel
theorem dX3_findOrder_20 : decode cX3_findOrder 20 = .ok (.istore_n 3, 1) := by decide +kernel
theorem dX3_findOrder_21 : decode cX3_findOrder 21 = .ok (.aload_n 0, 1) := by decide +kernel
theorem dX3_findOrder_22 : decode cX3_findOrder 22 = .ok (.getfield 15, 3) := by decide +kernel
theorem dX3_findOrder_25 : decode cX3_findOrder 25 = .ok (.iload_n 3, 1) := by decide +kernel
theorem dX3_findOrder_26 : decode cX3_findOrder 26 = .ok (.iaload, 1) := by decide +kernel
theorem dX3_findOrder_27 : decode cX3_findOrder 27 = .ok (.istore 4, 2) := by decide +kernel
theorem dX3_findOrder_29 : decode cX3_findOrder 29 = .ok (.iconst 0, 1) := by decide +kernel
theorem dX3_findOrder_30 : decode cX3_findOrder 30 = .ok (.istore 5, 2) := by decide +kernel
theorem dX3_findOrder_32 : decode cX3_findOrder 32 = .ok (.iload 5, 2) := by decide +kernel
theorem dX3_findOrder_34 : decode cX3_findOrder 34 = .ok (.aload_n 0, 1) := by decide +kernel
theorem dX3_findOrder_35 : decode cX3_findOrder 35 = .ok (.getfield 36, 3) := by decide +kernel
theorem dX3_findOrder_38 : decode cX3_findOrder 38 = .ok (.getfield 47, 3) := by decide +kernel
theorem dX3_findOrder_41 : decode cX3_findOrder 41 = .ok (.if_icmp .ge 29, 3) := by decide +kernel
theorem dX3_findOrder_44 : decode cX3_findOrder 44 = .ok (.aload_n 2, 1) := by decide +kernel
theorem dX3_findOrder_45 : decode cX3_findOrder 45 = .ok (.iload 5, 2) := by decide +kernel
theorem dX3_findOrder_47 : decode cX3_findOrder 47 = .ok (.aload_n 0, 1) := by decide +kernel
theorem dX3_findOrder_48 : decode cX3_findOrder 48 = .ok (.iload_n 3, 1) := by decide +kernel
theorem dX3_findOrder_49 : decode cX3_findOrder 49 = .ok (.invokevirtual 93, 3) := by decide +kernel
theorem dX3_findOrder_52 : decode cX3_findOrder 52 = .ok (.iastore, 1) := by decide +kernel
theorem dX3_findOrder_53 : decode cX3_findOrder 53 = .ok (.iload_n 3, 1) := by decide +kernel
theorem dX3_findOrder_54 : decode cX3_findOrder 54 = .ok (.iconst 1, 1) := by decide +kernel
theorem dX3_findOrder_55 : decode cX3_findOrder 55 = .ok (.aload_n 2, 1) := by decide +kernel
theorem dX3_findOrder_56 : decode cX3_findOrder 56 = .ok (.iload 5, 2) := by decide +kernel
theorem dX3_findOrder_58 : decode cX3_findOrder 58 = .ok (.iaload, 1) := by decide +kernel
theorem dX3_findOrder_59 : decode cX3_findOrder 59 = .ok (.ishl, 1) := by decide +kernel
theorem dX3_findOrder_60 : decode cX3_findOrder 60 = .ok (.iconst (-1), 1) := by decide +kernel
theorem dX3_findOrder_61 : decode cX3_findOrder 61 = .ok (.ixor, 1) := by decide +kernel
theorem dX3_findOrder_62 : decode cX3_findOrder 62 = .ok (.iand, 1) := by decide +kernel
theorem dX3_findOrder_63 : decode cX3_findOrder 63 = .ok (.istore_n 3, 1) := by decide +kernel
theorem dX3_findOrder_64 : decode cX3_findOrder 64 = .ok (.iinc 5 1, 3) := by decide +kernel
theorem dX3_findOrder_67 : decode cX3_findOrder 67 = .ok (.goto (-35), 3) := by decide +kernel
theorem dX3_findOrder_70 : decode cX3_findOrder 70 = .ok (.iload 4, 2) := by decide +kernel
theorem dX3_findOrder_72 : decode cX3_findOrder 72 = .ok (.ireturn, 1) := by decide +kernel
theorem dX3_countTolls_0 : decode cX3_countTolls 0 = .ok (.aload_n 0, 1) := by decide +kernel
theorem dX3_countTolls_1 : decode cX3_countTolls 1 = .ok (.getfield 11, 3) := by decide +kernel
theorem dX3_countTolls_4 : decode cX3_countTolls 4 = .ok (.iconst 0, 1) := by decide +kernel
theorem dX3_countTolls_5 : decode cX3_countTolls 5 = .ok (.lconst 0, 1) := by decide +kernel
theorem dX3_countTolls_6 : decode cX3_countTolls 6 = .ok (.lastore, 1) := by decide +kernel
theorem dX3_countTolls_7 : decode cX3_countTolls 7 = .ok (.iconst 0, 1) := by decide +kernel
theorem dX3_countTolls_8 : decode cX3_countTolls 8 = .ok (.istore_n 2, 1) := by decide +kernel
theorem dX3_countTolls_9 : decode cX3_countTolls 9 = .ok (.iload_n 2, 1) := by decide +kernel
theorem dX3_countTolls_10 : decode cX3_countTolls 10 = .ok (.aload_n 0, 1) := by decide +kernel
theorem dX3_countTolls_11 : decode cX3_countTolls 11 = .ok (.getfield 36, 3) := by decide +kernel
theorem dX3_countTolls_14 : decode cX3_countTolls 14 = .ok (.getfield 47, 3) := by decide +kernel
theorem dX3_countTolls_17 : decode cX3_countTolls 17 = .ok (.if_icmp .ge 55, 3) := by decide +kernel
theorem dX3_countTolls_20 : decode cX3_countTolls 20 = .ok (.iconst 1, 1) := by decide +kernel
theorem dX3_countTolls_21 : decode cX3_countTolls 21 = .ok (.iload_n 2, 1) := by decide +kernel
theorem dX3_countTolls_22 : decode cX3_countTolls 22 = .ok (.ishl, 1) := by decide +kernel
theorem dX3_countTolls_23 : decode cX3_countTolls 23 = .ok (.istore_n 3, 1) := by decide +kernel
theorem dX3_countTolls_24 : decode cX3_countTolls 24 = .ok (.aload_n 0, 1) := by decide +kernel
theorem dX3_countTolls_25 : decode cX3_countTolls 25 = .ok (.iload_n 2, 1) := by decide +kernel
theorem dX3_countTolls_26 : decode cX3_countTolls 26 = .ok (.iload_n 1, 1) := by decide +kernel
theorem dX3_countTolls_27 : decode cX3_countTolls 27 = .ok (.invokevirtual 96, 3) := by decide +kernel
theorem dX3_countTolls_30 : decode cX3_countTolls 30 = .ok (.lstore 4, 2) := by decide +kernel
theorem dX3_countTolls_32 : decode cX3_countTolls 32 = .ok (.iconst 0, 1) := by decide +kernel
theorem dX3_countTolls_33 : decode cX3_countTolls 33 = .ok (.istore 6, 2) := by decide +kernel
theorem dX3_countTolls_35 : decode cX3_countTolls 35 = .ok (.iload 6, 2) := by decide +kernel
theorem dX3_countTolls_37 : decode cX3_countTolls 37 = .ok (.iload_n 3, 1) := by decide +kernel
theorem dX3_countTolls_38 : decode cX3_countTolls 38 = .ok (.if_icmp .ge 28, 3) := by decide +kernel
theorem dX3_countTolls_41 : decode cX3_countTolls 41 = .ok (.aload_n 0, 1) := by decide +kernel
theorem dX3_countTolls_42 : decode cX3_countTolls 42 = .ok (.getfield 11, 3) := by decide +kernel
theorem dX3_countTolls_45 : decode cX3_countTolls 45 = .ok (.iload_n 3, 1) := by decide +kernel
theorem dX3_countTolls_46 : decode cX3_countTolls 46 = .ok (.iload 6, 2) := by decide +kernel
theorem dX3_countTolls_48 : decode cX3_countTolls 48 = .ok (.ior, 1) := by decide +kernel
theorem dX3_countTolls_49 : decode cX3_countTolls 49 = .ok (.aload_n 0, 1) := by decide +kernel
theorem dX3_countTolls_50 : decode cX3_countTolls 50 = .ok (.getfield 11, 3) := by decide +kernel
theorem dX3_countTolls_53 : decode cX3_countTolls 53 = .ok (.iload 6, 2) := by decide +kernel
theorem dX3_countTolls_55 : decode cX3_countTolls 55 = .ok (.laload, 1) := by decide +kernel
theorem dX3_countTolls_56 : decode cX3_countTolls 56 = .ok (.lload 4, 2) := by decide +kernel
theorem dX3_countTolls_58 : decode cX3_countTolls 58 = .ok (.ladd, 1) := by decide +kernel
theorem dX3_countTolls_59 : decode cX3_countTolls 59 = .ok (.lastore, 1) := by decide +kernel
theorem dX3_countTolls_60 : decode cX3_countTolls 60 = .ok (.iinc 6 1, 3) := by decide +kernel
theorem dX3_countTolls_63 : decode cX3_countTolls 63 = .ok (.goto (-28), 3) := by decide +kernel
theorem dX3_countTolls_66 : decode cX3_countTolls 66 = .ok (.iinc 2 1, 3) := by decide +kernel
theorem dX3_countTolls_69 : decode cX3_countTolls 69 = .ok (.goto (-60), 3) := by decide +kernel
theorem dX3_countTolls_72 : decode cX3_countTolls 72 = .ok (.return_, 1) := by decide +kernel
theorem dX3_tollsWith_0 : decode cX3_tollsWith 0 = .ok (.lconst 0, 1) := by decide +kernel
theorem dX3_tollsWith_1 : decode cX3_tollsWith 1 = .ok (.lstore_n 3, 1) := by decide +kernel
theorem dX3_tollsWith_2 : decode cX3_tollsWith 2 = .ok (.iconst 0, 1) := by decide +kernel
theorem dX3_tollsWith_3 : decode cX3_tollsWith 3 = .ok (.istore 5, 2) := by decide +kernel
theorem dX3_tollsWith_5 : decode cX3_tollsWith 5 = .ok (.iload 5, 2) := by decide +kernel
theorem dX3_tollsWith_7 : decode cX3_tollsWith 7 = .ok (.aload_n 0, 1) := by decide +kernel
theorem dX3_tollsWith_8 : decode cX3_tollsWith 8 = .ok (.getfield 36, 3) := by decide +kernel
theorem dX3_tollsWith_11 : decode cX3_tollsWith 11 = .ok (.getfield 47, 3) := by decide +kernel
theorem dX3_tollsWith_14 : decode cX3_tollsWith 14 = .ok (.if_icmp .ge 58, 3) := by decide +kernel
theorem dX3_tollsWith_17 : decode cX3_tollsWith 17 = .ok (.iload 5, 2) := by decide +kernel
theorem dX3_tollsWith_19 : decode cX3_tollsWith 19 = .ok (.iload_n 2, 1) := by decide +kernel
theorem dX3_tollsWith_20 : decode cX3_tollsWith 20 = .ok (.if_icmp .eq 46, 3) := by decide +kernel
theorem dX3_tollsWith_23 : decode cX3_tollsWith 23 = .ok (.iconst 0, 1) := by decide +kernel
theorem dX3_tollsWith_24 : decode cX3_tollsWith 24 = .ok (.istore 6, 2) := by decide +kernel
theorem dX3_tollsWith_26 : decode cX3_tollsWith 26 = .ok (.iload 6, 2) := by decide +kernel
theorem dX3_tollsWith_28 : decode cX3_tollsWith 28 = .ok (.aload_n 0, 1) := by decide +kernel
theorem dX3_tollsWith_29 : decode cX3_tollsWith 29 = .ok (.getfield 36, 3) := by decide +kernel
theorem dX3_tollsWith_32 : decode cX3_tollsWith 32 = .ok (.getfield 47, 3) := by decide +kernel
theorem dX3_tollsWith_35 : decode cX3_tollsWith 35 = .ok (.if_icmp .ge 31, 3) := by decide +kernel
theorem dX3_tollsWith_38 : decode cX3_tollsWith 38 = .ok (.aload_n 0, 1) := by decide +kernel
theorem dX3_tollsWith_39 : decode cX3_tollsWith 39 = .ok (.iload 5, 2) := by decide +kernel
theorem dX3_tollsWith_41 : decode cX3_tollsWith 41 = .ok (.iload 6, 2) := by decide +kernel
theorem dX3_tollsWith_43 : decode cX3_tollsWith 43 = .ok (.iload_n 1, 1) := by decide +kernel
theorem dX3_tollsWith_44 : decode cX3_tollsWith 44 = .ok (.invokevirtual 52, 3) := by decide +kernel
theorem dX3_tollsWith_47 : decode cX3_tollsWith 47 = .ok (.ifCond .eq 13, 3) := by decide +kernel
theorem dX3_tollsWith_50 : decode cX3_tollsWith 50 = .ok (.lload_n 3, 1) := by decide +kernel
theorem dX3_tollsWith_51 : decode cX3_tollsWith 51 = .ok (.lconst 1, 1) := by decide +kernel
theorem dX3_tollsWith_52 : decode cX3_tollsWith 52 = .ok (.bipush 8, 2) := by decide +kernel
theorem dX3_tollsWith_54 : decode cX3_tollsWith 54 = .ok (.iload 6, 2) := by decide +kernel
theorem dX3_tollsWith_56 : decode cX3_tollsWith 56 = .ok (.imul, 1) := by decide +kernel
theorem dX3_tollsWith_57 : decode cX3_tollsWith 57 = .ok (.lshl, 1) := by decide +kernel
theorem dX3_tollsWith_58 : decode cX3_tollsWith 58 = .ok (.ladd, 1) := by decide +kernel
theorem dX3_tollsWith_59 : decode cX3_tollsWith 59 = .ok (.lstore_n 3, 1) := by decide +kernel
theorem dX3_tollsWith_60 : decode cX3_tollsWith 60 = .ok (.iinc 6 1, 3) := by decide +kernel
theorem dX3_tollsWith_63 : decode cX3_tollsWith 63 = .ok (.goto (-37), 3) := by decide +kernel
theorem dX3_tollsWith_66 : decode cX3_tollsWith 66 = .ok (.iinc 5 1, 3) := by decide +kernel
theorem dX3_tollsWith_69 : decode cX3_tollsWith 69 = .ok (.goto (-64), 3) := by decide +kernel
theorem dX3_tollsWith_72 : decode cX3_tollsWith 72 = .ok (.lload_n 3, 1) := by decide +kernel
theorem dX3_tollsWith_73 : decode cX3_tollsWith 73 = .ok (.lreturn, 1) := by decide +kernel
theorem dX3_findLeast_0 : decode cX3_findLeast 0 = .ok (.iconst 1, 1) := by decide +kernel
theorem dX3_findLeast_1 : decode cX3_findLeast 1 = .ok (.aload_n 0, 1) := by decide +kernel
theorem dX3_findLeast_2 : decode cX3_findLeast 2 = .ok (.getfield 36, 3) := by decide +kernel
theorem dX3_findLeast_5 : decode cX3_findLeast 5 = .ok (.getfield 47, 3) := by decide +kernel
theorem dX3_findLeast_8 : decode cX3_findLeast 8 = .ok (.ishl, 1) := by decide +kernel
theorem dX3_findLeast_9 : decode cX3_findLeast 9 = .ok (.istore_n 1, 1) := by decide +kernel
theorem dX3_findLeast_10 : decode cX3_findLeast 10 = .ok (.aload_n 0, 1) := by decide +kernel
theorem dX3_findLeast_11 : decode cX3_findLeast 11 = .ok (.getfield 15, 3) := by decide +kernel
theorem dX3_findLeast_14 : decode cX3_findLeast 14 = .ok (.iconst 0, 1) := by decide +kernel
theorem dX3_findLeast_15 : decode cX3_findLeast 15 = .ok (.iconst 0, 1) := by decide +kernel
theorem dX3_findLeast_16 : decode cX3_findLeast 16 = .ok (.iastore, 1) := by decide +kernel
theorem dX3_findLeast_17 : decode cX3_findLeast 17 = .ok (.iconst 1, 1) := by decide +kernel
theorem dX3_findLeast_18 : decode cX3_findLeast 18 = .ok (.istore_n 2, 1) := by decide +kernel
theorem dX3_findLeast_19 : decode cX3_findLeast 19 = .ok (.iload_n 2, 1) := by decide +kernel
theorem dX3_findLeast_20 : decode cX3_findLeast 20 = .ok (.iload_n 1, 1) := by decide +kernel
theorem dX3_findLeast_21 : decode cX3_findLeast 21 = .ok (.if_icmp .ge 65, 3) := by decide +kernel
theorem dX3_findLeast_24 : decode cX3_findLeast 24 = .ok (.aload_n 0, 1) := by decide +kernel
theorem dX3_findLeast_25 : decode cX3_findLeast 25 = .ok (.getfield 15, 3) := by decide +kernel
theorem dX3_findLeast_28 : decode cX3_findLeast 28 = .ok (.iload_n 2, 1) := by decide +kernel
theorem dX3_findLeast_29 : decode cX3_findLeast 29 = .ok (.ldc 102, 2) := by decide +kernel
theorem dX3_findLeast_31 : decode cX3_findLeast 31 = .ok (.iastore, 1) := by decide +kernel
theorem dX3_findLeast_32 : decode cX3_findLeast 32 = .ok (.iconst 0, 1) := by decide +kernel
theorem dX3_findLeast_33 : decode cX3_findLeast 33 = .ok (.istore_n 3, 1) := by decide +kernel
theorem dX3_findLeast_34 : decode cX3_findLeast 34 = .ok (.iload_n 3, 1) := by decide +kernel
theorem dX3_findLeast_35 : decode cX3_findLeast 35 = .ok (.aload_n 0, 1) := by decide +kernel
theorem dX3_findLeast_36 : decode cX3_findLeast 36 = .ok (.getfield 36, 3) := by decide +kernel
theorem dX3_findLeast_39 : decode cX3_findLeast 39 = .ok (.getfield 47, 3) := by decide +kernel
theorem dX3_findLeast_42 : decode cX3_findLeast 42 = .ok (.if_icmp .ge 38, 3) := by decide +kernel
theorem dX3_findLeast_45 : decode cX3_findLeast 45 = .ok (.iload_n 2, 1) := by decide +kernel
theorem dX3_findLeast_46 : decode cX3_findLeast 46 = .ok (.iload_n 3, 1) := by decide +kernel
theorem dX3_findLeast_47 : decode cX3_findLeast 47 = .ok (.invokestatic 103, 3) := by decide +kernel
theorem dX3_findLeast_50 : decode cX3_findLeast 50 = .ok (.ifCond .eq 24, 3) := by decide +kernel
theorem dX3_findLeast_53 : decode cX3_findLeast 53 = .ok (.aload_n 0, 1) := by decide +kernel
theorem dX3_findLeast_54 : decode cX3_findLeast 54 = .ok (.getfield 15, 3) := by decide +kernel
theorem dX3_findLeast_57 : decode cX3_findLeast 57 = .ok (.iload_n 2, 1) := by decide +kernel
theorem dX3_findLeast_58 : decode cX3_findLeast 58 = .ok (.aload_n 0, 1) := by decide +kernel
theorem dX3_findLeast_59 : decode cX3_findLeast 59 = .ok (.getfield 15, 3) := by decide +kernel
theorem dX3_findLeast_62 : decode cX3_findLeast 62 = .ok (.iload_n 2, 1) := by decide +kernel
theorem dX3_findLeast_63 : decode cX3_findLeast 63 = .ok (.iaload, 1) := by decide +kernel
theorem dX3_findLeast_64 : decode cX3_findLeast 64 = .ok (.aload_n 0, 1) := by decide +kernel
theorem dX3_findLeast_65 : decode cX3_findLeast 65 = .ok (.iload_n 3, 1) := by decide +kernel
theorem dX3_findLeast_66 : decode cX3_findLeast 66 = .ok (.iload_n 2, 1) := by decide +kernel
theorem dX3_findLeast_67 : decode cX3_findLeast 67 = .ok (.invokevirtual 107, 3) := by decide +kernel
theorem dX3_findLeast_70 : decode cX3_findLeast 70 = .ok (.invokestatic 110, 3) := by decide +kernel
theorem dX3_findLeast_73 : decode cX3_findLeast 73 = .ok (.iastore, 1) := by decide +kernel
theorem dX3_findLeast_74 : decode cX3_findLeast 74 = .ok (.iinc 3 1, 3) := by decide +kernel
theorem dX3_findLeast_77 : decode cX3_findLeast 77 = .ok (.goto (-43), 3) := by decide +kernel
theorem dX3_findLeast_80 : decode cX3_findLeast 80 = .ok (.iinc 2 1, 3) := by decide +kernel
theorem dX3_findLeast_83 : decode cX3_findLeast 83 = .ok (.goto (-64), 3) := by decide +kernel
theorem dX3_findLeast_86 : decode cX3_findLeast 86 = .ok (.return_, 1) := by decide +kernel
theorem dX3_quarrelIfAhead_0 : decode cX3_quarrelIfAhead 0 = .ok (.iload_n 2, 1) := by decide +kernel
theorem dX3_quarrelIfAhead_1 : decode cX3_quarrelIfAhead 1 = .ok (.iconst 1, 1) := by decide +kernel
theorem dX3_quarrelIfAhead_2 : decode cX3_quarrelIfAhead 2 = .ok (.iload_n 1, 1) := by decide +kernel
theorem dX3_quarrelIfAhead_3 : decode cX3_quarrelIfAhead 3 = .ok (.ishl, 1) := by decide +kernel
theorem dX3_quarrelIfAhead_4 : decode cX3_quarrelIfAhead 4 = .ok (.iconst (-1), 1) := by decide +kernel
theorem dX3_quarrelIfAhead_5 : decode cX3_quarrelIfAhead 5 = .ok (.ixor, 1) := by decide +kernel
theorem dX3_quarrelIfAhead_6 : decode cX3_quarrelIfAhead 6 = .ok (.iand, 1) := by decide +kernel
theorem dX3_quarrelIfAhead_7 : decode cX3_quarrelIfAhead 7 = .ok (.istore_n 3, 1) := by decide +kernel
theorem dX3_quarrelIfAhead_8 : decode cX3_quarrelIfAhead 8 = .ok (.aload_n 0, 1) := by decide +kernel
theorem dX3_quarrelIfAhead_9 : decode cX3_quarrelIfAhead 9 = .ok (.getfield 15, 3) := by decide +kernel
theorem dX3_quarrelIfAhead_12 : decode cX3_quarrelIfAhead 12 = .ok (.iload_n 3, 1) := by decide +kernel
theorem dX3_quarrelIfAhead_13 : decode cX3_quarrelIfAhead 13 = .ok (.iaload, 1) := by decide +kernel
theorem dX3_quarrelIfAhead_14 : decode cX3_quarrelIfAhead 14 = .ok (.aload_n 0, 1) := by decide +kernel
theorem dX3_quarrelIfAhead_15 : decode cX3_quarrelIfAhead 15 = .ok (.getfield 11, 3) := by decide +kernel
theorem dX3_quarrelIfAhead_18 : decode cX3_quarrelIfAhead 18 = .ok (.iload_n 3, 1) := by decide +kernel
theorem dX3_quarrelIfAhead_19 : decode cX3_quarrelIfAhead 19 = .ok (.laload, 1) := by decide +kernel
theorem dX3_quarrelIfAhead_20 : decode cX3_quarrelIfAhead 20 = .ok (.bipush 8, 2) := by decide +kernel
theorem dX3_quarrelIfAhead_22 : decode cX3_quarrelIfAhead 22 = .ok (.iload_n 1, 1) := by decide +kernel
theorem dX3_quarrelIfAhead_23 : decode cX3_quarrelIfAhead 23 = .ok (.imul, 1) := by decide +kernel
theorem dX3_quarrelIfAhead_24 : decode cX3_quarrelIfAhead 24 = .ok (.lshr, 1) := by decide +kernel
theorem dX3_quarrelIfAhead_25 : decode cX3_quarrelIfAhead 25 = .ok (.ldc2_w 113, 3) := by decide +kernel
theorem dX3_quarrelIfAhead_28 : decode cX3_quarrelIfAhead 28 = .ok (.land, 1) := by decide +kernel
theorem dX3_quarrelIfAhead_29 : decode cX3_quarrelIfAhead 29 = .ok (.l2i, 1) := by decide +kernel
theorem dX3_quarrelIfAhead_30 : decode cX3_quarrelIfAhead 30 = .ok (.iadd, 1) := by decide +kernel
theorem dX3_quarrelIfAhead_31 : decode cX3_quarrelIfAhead 31 = .ok (.ireturn, 1) := by decide +kernel
theorem dX3_bestAhead_0 : decode cX3_bestAhead 0 = .ok (.iconst 0, 1) := by decide +kernel
theorem dX3_bestAhead_1 : decode cX3_bestAhead 1 = .ok (.istore_n 2, 1) := by decide +kernel
theorem dX3_bestAhead_2 : decode cX3_bestAhead 2 = .ok (.iload_n 2, 1) := by decide +kernel
theorem dX3_bestAhead_3 : decode cX3_bestAhead 3 = .ok (.aload_n 0, 1) := by decide +kernel
theorem dX3_bestAhead_4 : decode cX3_bestAhead 4 = .ok (.getfield 36, 3) := by decide +kernel
theorem dX3_bestAhead_7 : decode cX3_bestAhead 7 = .ok (.getfield 47, 3) := by decide +kernel
theorem dX3_bestAhead_10 : decode cX3_bestAhead 10 = .ok (.if_icmp .ge 34, 3) := by decide +kernel
theorem dX3_bestAhead_13 : decode cX3_bestAhead 13 = .ok (.iload_n 1, 1) := by decide +kernel
theorem dX3_bestAhead_14 : decode cX3_bestAhead 14 = .ok (.iload_n 2, 1) := by decide +kernel
theorem dX3_bestAhead_15 : decode cX3_bestAhead 15 = .ok (.invokestatic 103, 3) := by decide +kernel
theorem dX3_bestAhead_18 : decode cX3_bestAhead 18 = .ok (.ifCond .eq 20, 3) := by decide +kernel
theorem dX3_bestAhead_21 : decode cX3_bestAhead 21 = .ok (.aload_n 0, 1) := by decide +kernel
theorem dX3_bestAhead_22 : decode cX3_bestAhead 22 = .ok (.iload_n 2, 1) := by decide +kernel
theorem dX3_bestAhead_23 : decode cX3_bestAhead 23 = .ok (.iload_n 1, 1) := by decide +kernel
theorem dX3_bestAhead_24 : decode cX3_bestAhead 24 = .ok (.invokevirtual 107, 3) := by decide +kernel
theorem dX3_bestAhead_27 : decode cX3_bestAhead 27 = .ok (.aload_n 0, 1) := by decide +kernel
theorem dX3_bestAhead_28 : decode cX3_bestAhead 28 = .ok (.getfield 15, 3) := by decide +kernel
theorem dX3_bestAhead_31 : decode cX3_bestAhead 31 = .ok (.iload_n 1, 1) := by decide +kernel
theorem dX3_bestAhead_32 : decode cX3_bestAhead 32 = .ok (.iaload, 1) := by decide +kernel
theorem dX3_bestAhead_33 : decode cX3_bestAhead 33 = .ok (.if_icmp .ne 5, 3) := by decide +kernel
theorem dX3_bestAhead_36 : decode cX3_bestAhead 36 = .ok (.iload_n 2, 1) := by decide +kernel
theorem dX3_bestAhead_37 : decode cX3_bestAhead 37 = .ok (.ireturn, 1) := by decide +kernel
theorem dX3_bestAhead_38 : decode cX3_bestAhead 38 = .ok (.iinc 2 1, 3) := by decide +kernel
theorem dX3_bestAhead_41 : decode cX3_bestAhead 41 = .ok (.goto (-39), 3) := by decide +kernel
theorem dX3_bestAhead_44 : decode cX3_bestAhead 44 = .ok (.iconst 0, 1) := by decide +kernel
theorem dX3_bestAhead_45 : decode cX3_bestAhead 45 = .ok (.ireturn, 1) := by decide +kernel
theorem dX4_init_0 : decode cX4_init 0 = .ok (.aload_n 0, 1) := by decide +kernel
theorem dX4_init_1 : decode cX4_init 1 = .ok (.invokespecial 3, 3) := by decide +kernel
theorem dX4_init_4 : decode cX4_init 4 = .ok (.aload_n 0, 1) := by decide +kernel
theorem dX4_init_5 : decode cX4_init 5 = .ok (.new 9, 3) := by decide +kernel
theorem dX4_init_8 : decode cX4_init 8 = .ok (.dup, 1) := by decide +kernel
theorem dX4_init_9 : decode cX4_init 9 = .ok (.invokespecial 11, 3) := by decide +kernel
theorem dX4_init_12 : decode cX4_init 12 = .ok (.putfield 12, 3) := by decide +kernel
theorem dX4_init_15 : decode cX4_init 15 = .ok (.aload_n 0, 1) := by decide +kernel
theorem dX4_init_16 : decode cX4_init 16 = .ok (.bipush 8, 2) := by decide +kernel
theorem dX4_init_18 : decode cX4_init 18 = .ok (.newarray .int, 2) := by decide +kernel
theorem dX4_init_20 : decode cX4_init 20 = .ok (.putfield 18, 3) := by decide +kernel
theorem dX4_init_23 : decode cX4_init 23 = .ok (.aload_n 0, 1) := by decide +kernel
theorem dX4_init_24 : decode cX4_init 24 = .ok (.bipush 8, 2) := by decide +kernel
theorem dX4_init_26 : decode cX4_init 26 = .ok (.newarray .int, 2) := by decide +kernel
theorem dX4_init_28 : decode cX4_init 28 = .ok (.putfield 22, 3) := by decide +kernel
theorem dX4_init_31 : decode cX4_init 31 = .ok (.aload_n 0, 1) := by decide +kernel
theorem dX4_init_32 : decode cX4_init 32 = .ok (.bipush 8, 2) := by decide +kernel
theorem dX4_init_34 : decode cX4_init 34 = .ok (.newarray .int, 2) := by decide +kernel
theorem dX4_init_36 : decode cX4_init 36 = .ok (.putfield 25, 3) := by decide +kernel
theorem dX4_init_39 : decode cX4_init 39 = .ok (.aload_n 0, 1) := by decide +kernel
theorem dX4_init_40 : decode cX4_init 40 = .ok (.bipush 8, 2) := by decide +kernel
theorem dX4_init_42 : decode cX4_init 42 = .ok (.newarray .long, 2) := by decide +kernel
theorem dX4_init_44 : decode cX4_init 44 = .ok (.putfield 28, 3) := by decide +kernel
theorem dX4_init_47 : decode cX4_init 47 = .ok (.aload_n 0, 1) := by decide +kernel
theorem dX4_init_48 : decode cX4_init 48 = .ok (.bipush 8, 2) := by decide +kernel
theorem dX4_init_50 : decode cX4_init 50 = .ok (.newarray .long, 2) := by decide +kernel
theorem dX4_init_52 : decode cX4_init 52 = .ok (.putfield 32, 3) := by decide +kernel
theorem dX4_init_55 : decode cX4_init 55 = .ok (.aload_n 0, 1) := by decide +kernel
theorem dX4_init_56 : decode cX4_init 56 = .ok (.bipush 8, 2) := by decide +kernel
theorem dX4_init_58 : decode cX4_init 58 = .ok (.newarray .long, 2) := by decide +kernel
theorem dX4_init_60 : decode cX4_init 60 = .ok (.putfield 35, 3) := by decide +kernel
theorem dX4_init_63 : decode cX4_init 63 = .ok (.aload_n 0, 1) := by decide +kernel
theorem dX4_init_64 : decode cX4_init 64 = .ok (.bipush 8, 2) := by decide +kernel
theorem dX4_init_66 : decode cX4_init 66 = .ok (.newarray .int, 2) := by decide +kernel
theorem dX4_init_68 : decode cX4_init 68 = .ok (.putfield 38, 3) := by decide +kernel
theorem dX4_init_71 : decode cX4_init 71 = .ok (.aload_n 0, 1) := by decide +kernel
theorem dX4_init_72 : decode cX4_init 72 = .ok (.bipush 8, 2) := by decide +kernel
theorem dX4_init_74 : decode cX4_init 74 = .ok (.newarray .int, 2) := by decide +kernel
theorem dX4_init_76 : decode cX4_init 76 = .ok (.putfield 41, 3) := by decide +kernel
theorem dX4_init_79 : decode cX4_init 79 = .ok (.aload_n 0, 1) := by decide +kernel
theorem dX4_init_80 : decode cX4_init 80 = .ok (.iconst 0, 1) := by decide +kernel
theorem dX4_init_81 : decode cX4_init 81 = .ok (.putfield 44, 3) := by decide +kernel
theorem dX4_init_84 : decode cX4_init 84 = .ok (.aload_n 0, 1) := by decide +kernel
theorem dX4_init_85 : decode cX4_init 85 = .ok (.iconst 0, 1) := by decide +kernel
theorem dX4_init_86 : decode cX4_init 86 = .ok (.putfield 48, 3) := by decide +kernel
theorem dX4_init_89 : decode cX4_init 89 = .ok (.aload_n 0, 1) := by decide +kernel
theorem dX4_init_90 : decode cX4_init 90 = .ok (.aload_n 1, 1) := by decide +kernel
theorem dX4_init_91 : decode cX4_init 91 = .ok (.putfield 52, 3) := by decide +kernel
theorem dX4_init_94 : decode cX4_init 94 = .ok (.aload_n 0, 1) := by decide +kernel
theorem dX4_init_95 : decode cX4_init 95 = .ok (.aload_n 2, 1) := by decide +kernel
theorem dX4_init_96 : decode cX4_init 96 = .ok (.putfield 56, 3) := by decide +kernel
theorem dX4_init_99 : decode cX4_init 99 = .ok (.return_, 1) := by decide +kernel
theorem dX4_forget_0 : decode cX4_forget 0 = .ok (.aload_n 0, 1) := by decide +kernel
theorem dX4_forget_1 : decode cX4_forget 1 = .ok (.iconst 0, 1) := by decide +kernel
theorem dX4_forget_2 : decode cX4_forget 2 = .ok (.putfield 48, 3) := by decide +kernel
theorem dX4_forget_5 : decode cX4_forget 5 = .ok (.return_, 1) := by decide +kernel
theorem dX4_howMany_0 : decode cX4_howMany 0 = .ok (.aload_n 0, 1) := by decide +kernel
theorem dX4_howMany_1 : decode cX4_howMany 1 = .ok (.invokevirtual 60, 3) := by decide +kernel
theorem dX4_howMany_4 : decode cX4_howMany 4 = .ok (.aload_n 0, 1) := by decide +kernel
theorem dX4_howMany_5 : decode cX4_howMany 5 = .ok (.getfield 44, 3) := by decide +kernel
theorem dX4_howMany_8 : decode cX4_howMany 8 = .ok (.ireturn, 1) := by decide +kernel
theorem dX4_howManyLarge_0 : decode cX4_howManyLarge 0 = .ok (.aload_n 0, 1) := by decide +kernel
theorem dX4_howManyLarge_1 : decode cX4_howManyLarge 1 = .ok (.invokevirtual 60, 3) := by decide +kernel
theorem dX4_howManyLarge_4 : decode cX4_howManyLarge 4 = .ok (.iconst 0, 1) := by decide +kernel
theorem dX4_howManyLarge_5 : decode cX4_howManyLarge 5 = .ok (.istore_n 1, 1) := by decide +kernel
theorem dX4_howManyLarge_6 : decode cX4_howManyLarge 6 = .ok (.iconst 0, 1) := by decide +kernel
theorem dX4_howManyLarge_7 : decode cX4_howManyLarge 7 = .ok (.istore_n 2, 1) := by decide +kernel
theorem dX4_howManyLarge_8 : decode cX4_howManyLarge 8 = .ok (.iload_n 2, 1) := by decide +kernel
theorem dX4_howManyLarge_9 : decode cX4_howManyLarge 9 = .ok (.aload_n 0, 1) := by decide +kernel
theorem dX4_howManyLarge_10 : decode cX4_howManyLarge 10 = .ok (.getfield 44, 3) := by decide +kernel
theorem dX4_howManyLarge_13 : decode cX4_howManyLarge 13 = .ok (.if_icmp .ge 20, 3) := by decide +kernel
theorem dX4_howManyLarge_16 : decode cX4_howManyLarge 16 = .ok (.aload_n 0, 1) := by decide +kernel
theorem dX4_howManyLarge_17 : decode cX4_howManyLarge 17 = .ok (.iload_n 2, 1) := by decide +kernel
theorem dX4_howManyLarge_18 : decode cX4_howManyLarge 18 = .ok (.invokevirtual 63, 3) := by decide +kernel
theorem dX4_howManyLarge_21 : decode cX4_howManyLarge 21 = .ok (.ifCond .eq 6, 3) := by decide +kernel
theorem dX4_howManyLarge_24 : decode cX4_howManyLarge 24 = .ok (.iinc 1 1, 3) := by decide +kernel
theorem dX4_howManyLarge_27 : decode cX4_howManyLarge 27 = .ok (.iinc 2 1, 3) := by decide +kernel
theorem dX4_howManyLarge_30 : decode cX4_howManyLarge 30 = .ok (.goto (-22), 3) := by decide +kernel
theorem dX4_howManyLarge_33 : decode cX4_howManyLarge 33 = .ok (.iload_n 1, 1) := by decide +kernel
theorem dX4_howManyLarge_34 : decode cX4_howManyLarge 34 = .ok (.ireturn, 1) := by decide +kernel
theorem dX4_ofWork_0 : decode cX4_ofWork 0 = .ok (.aload_n 0, 1) := by decide +kernel
theorem dX4_ofWork_1 : decode cX4_ofWork 1 = .ok (.invokevirtual 60, 3) := by decide +kernel
theorem dX4_ofWork_4 : decode cX4_ofWork 4 = .ok (.aload_n 0, 1) := by decide +kernel
theorem dX4_ofWork_5 : decode cX4_ofWork 5 = .ok (.aload_n 0, 1) := by decide +kernel
theorem dX4_ofWork_6 : decode cX4_ofWork 6 = .ok (.getfield 22, 3) := by decide +kernel
theorem dX4_ofWork_9 : decode cX4_ofWork 9 = .ok (.iload_n 1, 1) := by decide +kernel
theorem dX4_ofWork_10 : decode cX4_ofWork 10 = .ok (.invokevirtual 67, 3) := by decide +kernel
theorem dX4_ofWork_13 : decode cX4_ofWork 13 = .ok (.ireturn, 1) := by decide +kernel
theorem dX4_ofMarker_0 : decode cX4_ofMarker 0 = .ok (.aload_n 0, 1) := by decide +kernel
theorem dX4_ofMarker_1 : decode cX4_ofMarker 1 = .ok (.invokevirtual 60, 3) := by decide +kernel
theorem dX4_ofMarker_4 : decode cX4_ofMarker 4 = .ok (.aload_n 0, 1) := by decide +kernel
theorem dX4_ofMarker_5 : decode cX4_ofMarker 5 = .ok (.aload_n 0, 1) := by decide +kernel
theorem dX4_ofMarker_6 : decode cX4_ofMarker 6 = .ok (.getfield 25, 3) := by decide +kernel
theorem dX4_ofMarker_9 : decode cX4_ofMarker 9 = .ok (.iload_n 1, 1) := by decide +kernel
theorem dX4_ofMarker_10 : decode cX4_ofMarker 10 = .ok (.invokevirtual 67, 3) := by decide +kernel
theorem dX4_ofMarker_13 : decode cX4_ofMarker 13 = .ok (.ireturn, 1) := by decide +kernel
theorem dX4_whichHas_0 : decode cX4_whichHas 0 = .ok (.iconst 0, 1) := by decide +kernel
theorem dX4_whichHas_1 : decode cX4_whichHas 1 = .ok (.istore_n 3, 1) := by decide +kernel
theorem dX4_whichHas_2 : decode cX4_whichHas 2 = .ok (.iload_n 3, 1) := by decide +kernel
theorem dX4_whichHas_3 : decode cX4_whichHas 3 = .ok (.aload_n 0, 1) := by decide +kernel
theorem dX4_whichHas_4 : decode cX4_whichHas 4 = .ok (.getfield 44, 3) := by decide +kernel
theorem dX4_whichHas_7 : decode cX4_whichHas 7 = .ok (.if_icmp .ge 21, 3) := by decide +kernel
theorem dX4_whichHas_10 : decode cX4_whichHas 10 = .ok (.aload_n 1, 1) := by decide +kernel
theorem dX4_whichHas_11 : decode cX4_whichHas 11 = .ok (.iload_n 3, 1) := by decide +kernel
theorem dX4_whichHas_12 : decode cX4_whichHas 12 = .ok (.iaload, 1) := by decide +kernel
theorem dX4_whichHas_13 : decode cX4_whichHas 13 = .ok (.iload_n 2, 1) := by decide +kernel
theorem dX4_whichHas_14 : decode cX4_whichHas 14 = .ok (.invokestatic 71, 3) := by decide +kernel
theorem dX4_whichHas_17 : decode cX4_whichHas 17 = .ok (.ifCond .eq 5, 3) := by decide +kernel
theorem dX4_whichHas_20 : decode cX4_whichHas 20 = .ok (.iload_n 3, 1) := by decide +kernel
theorem dX4_whichHas_21 : decode cX4_whichHas 21 = .ok (.ireturn, 1) := by decide +kernel
theorem dX4_whichHas_22 : decode cX4_whichHas 22 = .ok (.iinc 3 1, 3) := by decide +kernel
theorem dX4_whichHas_25 : decode cX4_whichHas 25 = .ok (.goto (-23), 3) := by decide +kernel
theorem dX4_whichHas_28 : decode cX4_whichHas 28 = .ok (.iconst (-1), 1) := by decide +kernel
theorem dX4_whichHas_29 : decode cX4_whichHas 29 = .ok (.ireturn, 1) := by decide +kernel
theorem dX4_isTold_0 : decode cX4_isTold 0 = .ok (.aload_n 0, 1) := by decide +kernel
theorem dX4_isTold_1 : decode cX4_isTold 1 = .ok (.iload_n 1, 1) := by decide +kernel
theorem dX4_isTold_2 : decode cX4_isTold 2 = .ok (.invokevirtual 63, 3) := by decide +kernel
theorem dX4_isTold_5 : decode cX4_isTold 5 = .ok (.ifCond .eq 5, 3) := by decide +kernel
theorem dX4_isTold_8 : decode cX4_isTold 8 = .ok (.iconst 0, 1) := by decide +kernel
theorem dX4_isTold_9 : decode cX4_isTold 9 = .ok (.ireturn, 1) := by decide +kernel
theorem dX4_isTold_10 : decode cX4_isTold 10 = .ok (.aload_n 0, 1) := by decide +kernel
theorem dX4_isTold_11 : decode cX4_isTold 11 = .ok (.getfield 28, 3) := by decide +kernel
theorem dX4_isTold_14 : decode cX4_isTold 14 = .ok (.iload_n 1, 1) := by decide +kernel
theorem dX4_isTold_15 : decode cX4_isTold 15 = .ok (.laload, 1) := by decide +kernel
theorem dX4_isTold_16 : decode cX4_isTold 16 = .ok (.lconst 0, 1) := by decide +kernel
theorem dX4_isTold_17 : decode cX4_isTold 17 = .ok (.lcmp, 1) := by decide +kernel
theorem dX4_isTold_18 : decode cX4_isTold 18 = .ok (.ifCond .ne 8, 3) := by decide +kernel
theorem dX4_isTold_21 : decode cX4_isTold 21 = .ok (.aload_n 0, 1) := by decide +kernel
theorem dX4_isTold_22 : decode cX4_isTold 22 = .ok (.iload_n 1, 1) := by decide +kernel
theorem dX4_isTold_23 : decode cX4_isTold 23 = .ok (.invokevirtual 75, 3) := by decide +kernel
theorem dX4_isTold_26 : decode cX4_isTold 26 = .ok (.aload_n 0, 1) := by decide +kernel
theorem dX4_isTold_27 : decode cX4_isTold 27 = .ok (.getfield 28, 3) := by decide +kernel
theorem dX4_isTold_30 : decode cX4_isTold 30 = .ok (.iload_n 1, 1) := by decide +kernel
theorem dX4_isTold_31 : decode cX4_isTold 31 = .ok (.laload, 1) := by decide +kernel
theorem dX4_isTold_32 : decode cX4_isTold 32 = .ok (.lconst 0, 1) := by decide +kernel
theorem dX4_isTold_33 : decode cX4_isTold 33 = .ok (.lcmp, 1) := by decide +kernel
theorem dX4_isTold_34 : decode cX4_isTold 34 = .ok (.ifCond .eq 7, 3) := by decide +kernel
theorem dX4_isTold_37 : decode cX4_isTold 37 = .ok (.iconst 1, 1) := by decide +kernel
theorem dX4_isTold_38 : decode cX4_isTold 38 = .ok (.goto 4, 3) := by decide +kernel
theorem dX4_isTold_41 : decode cX4_isTold 41 = .ok (.iconst 0, 1) := by decide +kernel
theorem dX4_isTold_42 : decode cX4_isTold 42 = .ok (.ireturn, 1) := by decide +kernel
theorem dX4_isLarge_0 : decode cX4_isLarge 0 = .ok (.aload_n 0, 1) := by decide +kernel
theorem dX4_isLarge_1 : decode cX4_isLarge 1 = .ok (.getfield 22, 3) := by decide +kernel
theorem dX4_isLarge_4 : decode cX4_isLarge 4 = .ok (.iload_n 1, 1) := by decide +kernel
theorem dX4_isLarge_5 : decode cX4_isLarge 5 = .ok (.iaload, 1) := by decide +kernel
theorem dX4_isLarge_6 : decode cX4_isLarge 6 = .ok (.invokestatic 79, 3) := by decide +kernel
theorem dX4_isLarge_9 : decode cX4_isLarge 9 = .ok (.aload_n 0, 1) := by decide +kernel
theorem dX4_isLarge_10 : decode cX4_isLarge 10 = .ok (.getfield 25, 3) := by decide +kernel
theorem dX4_isLarge_13 : decode cX4_isLarge 13 = .ok (.iload_n 1, 1) := by decide +kernel
theorem dX4_isLarge_14 : decode cX4_isLarge 14 = .ok (.iaload, 1) := by decide +kernel
theorem dX4_isLarge_15 : decode cX4_isLarge 15 = .ok (.invokestatic 79, 3) := by decide +kernel
theorem dX4_isLarge_18 : decode cX4_isLarge 18 = .ok (.iadd, 1) := by decide +kernel
theorem dX4_isLarge_19 : decode cX4_isLarge 19 = .ok (.bipush 10, 2) := by decide +kernel
theorem dX4_isLarge_21 : decode cX4_isLarge 21 = .ok (.if_icmp .le 7, 3) := by decide +kernel
theorem dX4_isLarge_24 : decode cX4_isLarge 24 = .ok (.iconst 1, 1) := by decide +kernel
theorem dX4_isLarge_25 : decode cX4_isLarge 25 = .ok (.goto 4, 3) := by decide +kernel
theorem dX4_isLarge_28 : decode cX4_isLarge 28 = .ok (.iconst 0, 1) := by decide +kernel
theorem dX4_isLarge_29 : decode cX4_isLarge 29 = .ok (.ireturn, 1) := by decide +kernel
theorem dX4_refresh_0 : decode cX4_refresh 0 = .ok (.aload_n 0, 1) := by decide +kernel
theorem dX4_refresh_1 : decode cX4_refresh 1 = .ok (.getfield 48, 3) := by decide +kernel
theorem dX4_refresh_4 : decode cX4_refresh 4 = .ok (.ifCond .eq 4, 3) := by decide +kernel
theorem dX4_refresh_7 : decode cX4_refresh 7 = .ok (.return_, 1) := by decide +kernel
theorem dX4_refresh_8 : decode cX4_refresh 8 = .ok (.aload_n 0, 1) := by decide +kernel
theorem dX4_refresh_9 : decode cX4_refresh 9 = .ok (.iconst 1, 1) := by decide +kernel
theorem dX4_refresh_10 : decode cX4_refresh 10 = .ok (.putfield 48, 3) := by decide +kernel
theorem dX4_refresh_13 : decode cX4_refresh 13 = .ok (.iconst 0, 1) := by decide +kernel
theorem dX4_refresh_14 : decode cX4_refresh 14 = .ok (.istore_n 1, 1) := by decide +kernel
theorem dX4_refresh_15 : decode cX4_refresh 15 = .ok (.iload_n 1, 1) := by decide +kernel
theorem dX4_refresh_16 : decode cX4_refresh 16 = .ok (.aload_n 0, 1) := by decide +kernel
theorem dX4_refresh_17 : decode cX4_refresh 17 = .ok (.getfield 52, 3) := by decide +kernel
theorem dX4_refresh_20 : decode cX4_refresh 20 = .ok (.getfield 85, 3) := by decide +kernel
theorem dX4_refresh_23 : decode cX4_refresh 23 = .ok (.if_icmp .ge 23, 3) := by decide +kernel
theorem dX4_refresh_26 : decode cX4_refresh 26 = .ok (.aload_n 0, 1) := by decide +kernel
theorem dX4_refresh_27 : decode cX4_refresh 27 = .ok (.getfield 18, 3) := by decide +kernel
theorem dX4_refresh_30 : decode cX4_refresh 30 = .ok (.iload_n 1, 1) := by decide +kernel
theorem dX4_refresh_31 : decode cX4_refresh 31 = .ok (.aload_n 0, 1) := by decide +kernel
theorem dX4_refresh_32 : decode cX4_refresh 32 = .ok (.getfield 56, 3) := by decide +kernel
theorem dX4_refresh_35 : decode cX4_refresh 35 = .ok (.iload_n 1, 1) := by decide +kernel
theorem dX4_refresh_36 : decode cX4_refresh 36 = .ok (.invokevirtual 90, 3) := by decide +kernel
theorem dX4_refresh_39 : decode cX4_refresh 39 = .ok (.iastore, 1) := by decide +kernel
theorem dX4_refresh_40 : decode cX4_refresh 40 = .ok (.iinc 1 1, 3) := by decide +kernel
theorem dX4_refresh_43 : decode cX4_refresh 43 = .ok (.goto (-28), 3) := by decide +kernel
theorem dX4_refresh_46 : decode cX4_refresh 46 = .ok (.aload_n 0, 1) := by decide +kernel
theorem dX4_refresh_47 : decode cX4_refresh 47 = .ok (.iconst 0, 1) := by decide +kernel
theorem dX4_refresh_48 : decode cX4_refresh 48 = .ok (.putfield 44, 3) := by decide +kernel
theorem dX4_refresh_51 : decode cX4_refresh 51 = .ok (.iconst 0, 1) := by decide +kernel
theorem dX4_refresh_52 : decode cX4_refresh 52 = .ok (.istore_n 1, 1) := by decide +kernel
theorem dX4_refresh_53 : decode cX4_refresh 53 = .ok (.iconst 0, 1) := by decide +kernel
theorem dX4_refresh_54 : decode cX4_refresh 54 = .ok (.istore_n 2, 1) := by decide +kernel
theorem dX4_refresh_55 : decode cX4_refresh 55 = .ok (.iload_n 2, 1) := by decide +kernel
theorem dX4_refresh_56 : decode cX4_refresh 56 = .ok (.aload_n 0, 1) := by decide +kernel
theorem dX4_refresh_57 : decode cX4_refresh 57 = .ok (.getfield 52, 3) := by decide +kernel
theorem dX4_refresh_60 : decode cX4_refresh 60 = .ok (.getfield 85, 3) := by decide +kernel
theorem dX4_refresh_63 : decode cX4_refresh 63 = .ok (.if_icmp .ge 114, 3) := by decide +kernel
theorem dX4_refresh_66 : decode cX4_refresh 66 = .ok (.aload_n 0, 1) := by decide +kernel
theorem dX4_refresh_67 : decode cX4_refresh 67 = .ok (.getfield 18, 3) := by decide +kernel
theorem dX4_refresh_70 : decode cX4_refresh 70 = .ok (.iload_n 2, 1) := by decide +kernel
theorem dX4_refresh_71 : decode cX4_refresh 71 = .ok (.iaload, 1) := by decide +kernel
theorem dX4_refresh_72 : decode cX4_refresh 72 = .ok (.ifCond .eq 99, 3) := by decide +kernel
theorem dX4_refresh_75 : decode cX4_refresh 75 = .ok (.iload_n 1, 1) := by decide +kernel
theorem dX4_refresh_76 : decode cX4_refresh 76 = .ok (.iload_n 2, 1) := by decide +kernel
theorem dX4_refresh_77 : decode cX4_refresh 77 = .ok (.invokestatic 71, 3) := by decide +kernel
theorem dX4_refresh_80 : decode cX4_refresh 80 = .ok (.ifCond .ne 91, 3) := by decide +kernel
theorem dX4_refresh_83 : decode cX4_refresh 83 = .ok (.aload_n 0, 1) := by decide +kernel
theorem dX4_refresh_84 : decode cX4_refresh 84 = .ok (.getfield 22, 3) := by decide +kernel
theorem dX4_refresh_87 : decode cX4_refresh 87 = .ok (.aload_n 0, 1) := by decide +kernel
theorem dX4_refresh_88 : decode cX4_refresh 88 = .ok (.getfield 44, 3) := by decide +kernel
theorem dX4_refresh_91 : decode cX4_refresh 91 = .ok (.aload_n 0, 1) := by decide +kernel
theorem dX4_refresh_92 : decode cX4_refresh 92 = .ok (.getfield 18, 3) := by decide +kernel
theorem dX4_refresh_95 : decode cX4_refresh 95 = .ok (.aload_n 0, 1) := by decide +kernel
theorem dX4_refresh_96 : decode cX4_refresh 96 = .ok (.getfield 52, 3) := by decide +kernel
theorem dX4_refresh_99 : decode cX4_refresh 99 = .ok (.getfield 85, 3) := by decide +kernel
theorem dX4_refresh_102 : decode cX4_refresh 102 = .ok (.iload_n 2, 1) := by decide +kernel
theorem dX4_refresh_103 : decode cX4_refresh 103 = .ok (.invokestatic 95, 3) := by decide +kernel
theorem dX4_refresh_106 : decode cX4_refresh 106 = .ok (.iastore, 1) := by decide +kernel
theorem dX4_refresh_107 : decode cX4_refresh 107 = .ok (.aload_n 0, 1) := by decide +kernel
theorem dX4_refresh_108 : decode cX4_refresh 108 = .ok (.getfield 25, 3) := by decide +kernel
theorem dX4_refresh_111 : decode cX4_refresh 111 = .ok (.aload_n 0, 1) := by decide +kernel
theorem dX4_refresh_112 : decode cX4_refresh 112 = .ok (.getfield 44, 3) := by decide +kernel
theorem dX4_refresh_115 : decode cX4_refresh 115 = .ok (.aload_n 0, 1) := by decide +kernel
theorem dX4_refresh_116 : decode cX4_refresh 116 = .ok (.getfield 18, 3) := by decide +kernel
theorem dX4_refresh_119 : decode cX4_refresh 119 = .ok (.aload_n 0, 1) := by decide +kernel
theorem dX4_refresh_120 : decode cX4_refresh 120 = .ok (.getfield 52, 3) := by decide +kernel
theorem dX4_refresh_123 : decode cX4_refresh 123 = .ok (.getfield 85, 3) := by decide +kernel
theorem dX4_refresh_126 : decode cX4_refresh 126 = .ok (.aload_n 0, 1) := by decide +kernel
theorem dX4_refresh_127 : decode cX4_refresh 127 = .ok (.getfield 22, 3) := by decide +kernel
theorem dX4_refresh_130 : decode cX4_refresh 130 = .ok (.aload_n 0, 1) := by decide +kernel
theorem dX4_refresh_131 : decode cX4_refresh 131 = .ok (.getfield 44, 3) := by decide +kernel
theorem dX4_refresh_134 : decode cX4_refresh 134 = .ok (.iaload, 1) := by decide +kernel
theorem dX4_refresh_135 : decode cX4_refresh 135 = .ok (.invokestatic 99, 3) := by decide +kernel
theorem dX4_refresh_138 : decode cX4_refresh 138 = .ok (.iastore, 1) := by decide +kernel
theorem dX4_refresh_139 : decode cX4_refresh 139 = .ok (.aload_n 0, 1) := by decide +kernel
theorem dX4_refresh_140 : decode cX4_refresh 140 = .ok (.getfield 28, 3) := by decide +kernel
theorem dX4_refresh_143 : decode cX4_refresh 143 = .ok (.aload_n 0, 1) := by decide +kernel
theorem dX4_refresh_144 : decode cX4_refresh 144 = .ok (.getfield 44, 3) := by decide +kernel
theorem dX4_refresh_147 : decode cX4_refresh 147 = .ok (.lconst 0, 1) := by decide +kernel
theorem dX4_refresh_148 : decode cX4_refresh 148 = .ok (.lastore, 1) := by decide +kernel
theorem dX4_refresh_149 : decode cX4_refresh 149 = .ok (.iload_n 1, 1) := by decide +kernel
theorem dX4_refresh_150 : decode cX4_refresh 150 = .ok (.aload_n 0, 1) := by decide +kernel
theorem dX4_refresh_151 : decode cX4_refresh 151 = .ok (.getfield 22, 3) := by decide +kernel
theorem dX4_refresh_154 : decode cX4_refresh 154 = .ok (.aload_n 0, 1) := by decide +kernel
theorem dX4_refresh_155 : decode cX4_refresh 155 = .ok (.getfield 44, 3) := by decide +kernel
theorem dX4_refresh_158 : decode cX4_refresh 158 = .ok (.iaload, 1) := by decide +kernel
theorem dX4_refresh_159 : decode cX4_refresh 159 = .ok (.ior, 1) := by decide +kernel
theorem dX4_refresh_160 : decode cX4_refresh 160 = .ok (.istore_n 1, 1) := by decide +kernel
theorem dX4_refresh_161 : decode cX4_refresh 161 = .ok (.aload_n 0, 1) := by decide +kernel
theorem dX4_refresh_162 : decode cX4_refresh 162 = .ok (.dup, 1) := by decide +kernel
theorem dX4_refresh_163 : decode cX4_refresh 163 = .ok (.getfield 44, 3) := by decide +kernel
theorem dX4_refresh_166 : decode cX4_refresh 166 = .ok (.iconst 1, 1) := by decide +kernel
theorem dX4_refresh_167 : decode cX4_refresh 167 = .ok (.iadd, 1) := by decide +kernel
theorem dX4_refresh_168 : decode cX4_refresh 168 = .ok (.putfield 44, 3) := by decide +kernel
theorem dX4_refresh_171 : decode cX4_refresh 171 = .ok (.iinc 2 1, 3) := by decide +kernel
theorem dX4_refresh_174 : decode cX4_refresh 174 = .ok (.goto (-119), 3) := by decide +kernel
theorem dX4_refresh_177 : decode cX4_refresh 177 = .ok (.return_, 1) := by decide +kernel
theorem dX4_workOut_0 : decode cX4_workOut 0 = .ok (.aload_n 0, 1) := by decide +kernel
theorem dX4_workOut_1 : decode cX4_workOut 1 = .ok (.getfield 12, 3) := by decide +kernel
theorem dX4_workOut_4 : decode cX4_workOut 4 = .ok (.aload_n 0, 1) := by decide +kernel
theorem dX4_workOut_5 : decode cX4_workOut 5 = .ok (.iload_n 1, 1) := by decide +kernel
theorem dX4_workOut_6 : decode cX4_workOut 6 = .ok (.invokevirtual 102, 3) := by decide +kernel
theorem dX4_workOut_9 : decode cX4_workOut 9 = .ok (.invokevirtual 105, 3) := by decide +kernel
theorem dX4_workOut_12 : decode cX4_workOut 12 = .ok (.iconst 0, 1) := by decide +kernel
theorem dX4_workOut_13 : decode cX4_workOut 13 = .ok (.istore_n 2, 1) := by decide +kernel
theorem dX4_workOut_14 : decode cX4_workOut 14 = .ok (.iload_n 2, 1) := by decide +kernel
theorem dX4_workOut_15 : decode cX4_workOut 15 = .ok (.aload_n 0, 1) := by decide +kernel
theorem dX4_workOut_16 : decode cX4_workOut 16 = .ok (.getfield 52, 3) := by decide +kernel
theorem dX4_workOut_19 : decode cX4_workOut 19 = .ok (.getfield 85, 3) := by decide +kernel
theorem dX4_workOut_22 : decode cX4_workOut 22 = .ok (.if_icmp .ge 27, 3) := by decide +kernel
theorem dX4_workOut_25 : decode cX4_workOut 25 = .ok (.aload_n 0, 1) := by decide +kernel
theorem dX4_workOut_26 : decode cX4_workOut 26 = .ok (.getfield 22, 3) := by decide +kernel
theorem dX4_workOut_29 : decode cX4_workOut 29 = .ok (.iload_n 1, 1) := by decide +kernel
theorem dX4_workOut_30 : decode cX4_workOut 30 = .ok (.iaload, 1) := by decide +kernel
theorem dX4_workOut_31 : decode cX4_workOut 31 = .ok (.iload_n 2, 1) := by decide +kernel
theorem dX4_workOut_32 : decode cX4_workOut 32 = .ok (.invokestatic 71, 3) := by decide +kernel
theorem dX4_workOut_35 : decode cX4_workOut 35 = .ok (.ifCond .eq 8, 3) := by decide +kernel
theorem dX4_workOut_38 : decode cX4_workOut 38 = .ok (.aload_n 0, 1) := by decide +kernel
theorem dX4_workOut_39 : decode cX4_workOut 39 = .ok (.iload_n 2, 1) := by decide +kernel
theorem dX4_workOut_40 : decode cX4_workOut 40 = .ok (.invokevirtual 108, 3) := by decide +kernel
theorem dX4_workOut_43 : decode cX4_workOut 43 = .ok (.iinc 2 1, 3) := by decide +kernel
theorem dX4_workOut_46 : decode cX4_workOut 46 = .ok (.goto (-32), 3) := by decide +kernel
theorem dX4_workOut_49 : decode cX4_workOut 49 = .ok (.aload_n 0, 1) := by decide +kernel
theorem dX4_workOut_50 : decode cX4_workOut 50 = .ok (.iload_n 1, 1) := by decide +kernel
theorem dX4_workOut_51 : decode cX4_workOut 51 = .ok (.invokevirtual 111, 3) := by decide +kernel
theorem dX4_workOut_54 : decode cX4_workOut 54 = .ok (.ifCond .ne 8, 3) := by decide +kernel
theorem dX4_workOut_57 : decode cX4_workOut 57 = .ok (.aload_n 0, 1) := by decide +kernel
theorem dX4_workOut_58 : decode cX4_workOut 58 = .ok (.iload_n 1, 1) := by decide +kernel
theorem dX4_workOut_59 : decode cX4_workOut 59 = .ok (.invokevirtual 114, 3) := by decide +kernel
theorem dX4_workOut_62 : decode cX4_workOut 62 = .ok (.aload_n 0, 1) := by decide +kernel
theorem dX4_workOut_63 : decode cX4_workOut 63 = .ok (.getfield 28, 3) := by decide +kernel
theorem dX4_workOut_66 : decode cX4_workOut 66 = .ok (.iload_n 1, 1) := by decide +kernel
theorem dX4_workOut_67 : decode cX4_workOut 67 = .ok (.aload_n 0, 1) := by decide +kernel
theorem dX4_workOut_68 : decode cX4_workOut 68 = .ok (.getfield 12, 3) := by decide +kernel
theorem dX4_workOut_71 : decode cX4_workOut 71 = .ok (.invokevirtual 117, 3) := by decide +kernel
theorem dX4_workOut_74 : decode cX4_workOut 74 = .ok (.lastore, 1) := by decide +kernel
theorem dX4_workOut_75 : decode cX4_workOut 75 = .ok (.aload_n 0, 1) := by decide +kernel
theorem dX4_workOut_76 : decode cX4_workOut 76 = .ok (.iload_n 1, 1) := by decide +kernel
theorem dX4_workOut_77 : decode cX4_workOut 77 = .ok (.invokevirtual 121, 3) := by decide +kernel
theorem dX4_workOut_80 : decode cX4_workOut 80 = .ok (.return_, 1) := by decide +kernel
theorem dX4_giveSlots_0 : decode cX4_giveSlots 0 = .ok (.iconst 0, 1) := by decide +kernel
theorem dX4_giveSlots_1 : decode cX4_giveSlots 1 = .ok (.istore_n 2, 1) := by decide +kernel
theorem dX4_giveSlots_2 : decode cX4_giveSlots 2 = .ok (.iconst 0, 1) := by decide +kernel
theorem dX4_giveSlots_3 : decode cX4_giveSlots 3 = .ok (.istore_n 3, 1) := by decide +kernel
theorem dX4_giveSlots_4 : decode cX4_giveSlots 4 = .ok (.iload_n 3, 1) := by decide +kernel
theorem dX4_giveSlots_5 : decode cX4_giveSlots 5 = .ok (.aload_n 0, 1) := by decide +kernel
theorem dX4_giveSlots_6 : decode cX4_giveSlots 6 = .ok (.getfield 52, 3) := by decide +kernel
theorem dX4_giveSlots_9 : decode cX4_giveSlots 9 = .ok (.getfield 85, 3) := by decide +kernel
theorem dX4_giveSlots_12 : decode cX4_giveSlots 12 = .ok (.if_icmp .ge 82, 3) := by decide +kernel
theorem dX4_giveSlots_15 : decode cX4_giveSlots 15 = .ok (.aload_n 0, 1) := by decide +kernel
theorem dX4_giveSlots_16 : decode cX4_giveSlots 16 = .ok (.getfield 38, 3) := by decide +kernel
theorem dX4_giveSlots_19 : decode cX4_giveSlots 19 = .ok (.iload_n 3, 1) := by decide +kernel
theorem dX4_giveSlots_20 : decode cX4_giveSlots 20 = .ok (.iconst (-1), 1) := by decide +kernel
theorem dX4_giveSlots_21 : decode cX4_giveSlots 21 = .ok (.iastore, 1) := by decide +kernel
theorem dX4_giveSlots_22 : decode cX4_giveSlots 22 = .ok (.aload_n 0, 1) := by decide +kernel
theorem dX4_giveSlots_23 : decode cX4_giveSlots 23 = .ok (.getfield 41, 3) := by decide +kernel
theorem dX4_giveSlots_26 : decode cX4_giveSlots 26 = .ok (.iload_n 3, 1) := by decide +kernel
theorem dX4_giveSlots_27 : decode cX4_giveSlots 27 = .ok (.iconst (-1), 1) := by decide +kernel
theorem dX4_giveSlots_28 : decode cX4_giveSlots 28 = .ok (.iastore, 1) := by decide +kernel
theorem dX4_giveSlots_29 : decode cX4_giveSlots 29 = .ok (.aload_n 0, 1) := by decide +kernel
theorem dX4_giveSlots_30 : decode cX4_giveSlots 30 = .ok (.getfield 22, 3) := by decide +kernel
theorem dX4_giveSlots_33 : decode cX4_giveSlots 33 = .ok (.iload_n 1, 1) := by decide +kernel
theorem dX4_giveSlots_34 : decode cX4_giveSlots 34 = .ok (.iaload, 1) := by decide +kernel
theorem dX4_giveSlots_35 : decode cX4_giveSlots 35 = .ok (.iload_n 3, 1) := by decide +kernel
theorem dX4_giveSlots_36 : decode cX4_giveSlots 36 = .ok (.invokestatic 71, 3) := by decide +kernel
theorem dX4_giveSlots_39 : decode cX4_giveSlots 39 = .ok (.ifCond .eq 26, 3) := by decide +kernel
theorem dX4_giveSlots_42 : decode cX4_giveSlots 42 = .ok (.aload_n 0, 1) := by decide +kernel
theorem dX4_giveSlots_43 : decode cX4_giveSlots 43 = .ok (.getfield 56, 3) := by decide +kernel
theorem dX4_giveSlots_46 : decode cX4_giveSlots 46 = .ok (.getfield 124, 3) := by decide +kernel
theorem dX4_giveSlots_49 : decode cX4_giveSlots 49 = .ok (.iload_n 3, 1) := by decide +kernel
theorem dX4_giveSlots_50 : decode cX4_giveSlots 50 = .ok (.iaload, 1) := by decide +kernel
theorem dX4_giveSlots_51 : decode cX4_giveSlots 51 = .ok (.iconst (-1), 1) := by decide +kernel
theorem dX4_giveSlots_52 : decode cX4_giveSlots 52 = .ok (.if_icmp .ne 13, 3) := by decide +kernel
theorem dX4_giveSlots_55 : decode cX4_giveSlots 55 = .ok (.aload_n 0, 1) := by decide +kernel
theorem dX4_giveSlots_56 : decode cX4_giveSlots 56 = .ok (.getfield 38, 3) := by decide +kernel
theorem dX4_giveSlots_59 : decode cX4_giveSlots 59 = .ok (.iload_n 3, 1) := by decide +kernel
theorem dX4_giveSlots_60 : decode cX4_giveSlots 60 = .ok (.iload_n 2, 1) := by decide +kernel
theorem dX4_giveSlots_61 : decode cX4_giveSlots 61 = .ok (.iinc 2 1, 3) := by decide +kernel
theorem dX4_giveSlots_64 : decode cX4_giveSlots 64 = .ok (.iastore, 1) := by decide +kernel
theorem dX4_giveSlots_65 : decode cX4_giveSlots 65 = .ok (.aload_n 0, 1) := by decide +kernel
theorem dX4_giveSlots_66 : decode cX4_giveSlots 66 = .ok (.getfield 25, 3) := by decide +kernel
theorem dX4_giveSlots_69 : decode cX4_giveSlots 69 = .ok (.iload_n 1, 1) := by decide +kernel
theorem dX4_giveSlots_70 : decode cX4_giveSlots 70 = .ok (.iaload, 1) := by decide +kernel
theorem dX4_giveSlots_71 : decode cX4_giveSlots 71 = .ok (.iload_n 3, 1) := by decide +kernel
theorem dX4_giveSlots_72 : decode cX4_giveSlots 72 = .ok (.invokestatic 71, 3) := by decide +kernel
theorem dX4_giveSlots_75 : decode cX4_giveSlots 75 = .ok (.ifCond .eq 13, 3) := by decide +kernel
theorem dX4_giveSlots_78 : decode cX4_giveSlots 78 = .ok (.aload_n 0, 1) := by decide +kernel
theorem dX4_giveSlots_79 : decode cX4_giveSlots 79 = .ok (.getfield 41, 3) := by decide +kernel
theorem dX4_giveSlots_82 : decode cX4_giveSlots 82 = .ok (.iload_n 3, 1) := by decide +kernel
theorem dX4_giveSlots_83 : decode cX4_giveSlots 83 = .ok (.iload_n 2, 1) := by decide +kernel
theorem dX4_giveSlots_84 : decode cX4_giveSlots 84 = .ok (.iinc 2 1, 3) := by decide +kernel
theorem dX4_giveSlots_87 : decode cX4_giveSlots 87 = .ok (.iastore, 1) := by decide +kernel
theorem dX4_giveSlots_88 : decode cX4_giveSlots 88 = .ok (.iinc 3 1, 3) := by decide +kernel
theorem dX4_giveSlots_91 : decode cX4_giveSlots 91 = .ok (.goto (-87), 3) := by decide +kernel
theorem dX4_giveSlots_94 : decode cX4_giveSlots 94 = .ok (.iload_n 2, 1) := by decide +kernel
theorem dX4_giveSlots_95 : decode cX4_giveSlots 95 = .ok (.ireturn, 1) := by decide +kernel
theorem dX4_hasStaffMark_0 : decode cX4_hasStaffMark 0 = .ok (.iconst 0, 1) := by decide +kernel
theorem dX4_hasStaffMark_1 : decode cX4_hasStaffMark 1 = .ok (.istore_n 2, 1) := by decide +kernel
theorem dX4_hasStaffMark_2 : decode cX4_hasStaffMark 2 = .ok (.iload_n 2, 1) := by decide +kernel
theorem dX4_hasStaffMark_3 : decode cX4_hasStaffMark 3 = .ok (.aload_n 0, 1) := by decide +kernel
theorem dX4_hasStaffMark_4 : decode cX4_hasStaffMark 4 = .ok (.getfield 52, 3) := by decide +kernel
theorem dX4_hasStaffMark_7 : decode cX4_hasStaffMark 7 = .ok (.getfield 85, 3) := by decide +kernel
theorem dX4_hasStaffMark_10 : decode cX4_hasStaffMark 10 = .ok (.if_icmp .ge 37, 3) := by decide +kernel
theorem dX4_hasStaffMark_13 : decode cX4_hasStaffMark 13 = .ok (.aload_n 0, 1) := by decide +kernel
theorem dX4_hasStaffMark_14 : decode cX4_hasStaffMark 14 = .ok (.getfield 22, 3) := by decide +kernel
theorem dX4_hasStaffMark_17 : decode cX4_hasStaffMark 17 = .ok (.iload_n 1, 1) := by decide +kernel
theorem dX4_hasStaffMark_18 : decode cX4_hasStaffMark 18 = .ok (.iaload, 1) := by decide +kernel
theorem dX4_hasStaffMark_19 : decode cX4_hasStaffMark 19 = .ok (.iload_n 2, 1) := by decide +kernel
theorem dX4_hasStaffMark_20 : decode cX4_hasStaffMark 20 = .ok (.invokestatic 71, 3) := by decide +kernel
theorem dX4_hasStaffMark_23 : decode cX4_hasStaffMark 23 = .ok (.ifCond .eq 18, 3) := by decide +kernel
theorem dX4_hasStaffMark_26 : decode cX4_hasStaffMark 26 = .ok (.aload_n 0, 1) := by decide +kernel
theorem dX4_hasStaffMark_27 : decode cX4_hasStaffMark 27 = .ok (.getfield 56, 3) := by decide +kernel
theorem dX4_hasStaffMark_30 : decode cX4_hasStaffMark 30 = .ok (.getfield 124, 3) := by decide +kernel
theorem dX4_hasStaffMark_33 : decode cX4_hasStaffMark 33 = .ok (.iload_n 2, 1) := by decide +kernel
theorem dX4_hasStaffMark_34 : decode cX4_hasStaffMark 34 = .ok (.iaload, 1) := by decide +kernel
theorem dX4_hasStaffMark_35 : decode cX4_hasStaffMark 35 = .ok (.iconst (-1), 1) := by decide +kernel
theorem dX4_hasStaffMark_36 : decode cX4_hasStaffMark 36 = .ok (.if_icmp .eq 5, 3) := by decide +kernel
theorem dX4_hasStaffMark_39 : decode cX4_hasStaffMark 39 = .ok (.iconst 1, 1) := by decide +kernel
theorem dX4_hasStaffMark_40 : decode cX4_hasStaffMark 40 = .ok (.ireturn, 1) := by decide +kernel
theorem dX4_hasStaffMark_41 : decode cX4_hasStaffMark 41 = .ok (.iinc 2 1, 3) := by decide +kernel
theorem dX4_hasStaffMark_44 : decode cX4_hasStaffMark 44 = .ok (.goto (-42), 3) := by decide +kernel
theorem dX4_hasStaffMark_47 : decode cX4_hasStaffMark 47 = .ok (.iconst 0, 1) := by decide +kernel
theorem dX4_hasStaffMark_48 : decode cX4_hasStaffMark 48 = .ok (.ireturn, 1) := by decide +kernel
theorem dX4_writeMarksOf_0 : decode cX4_writeMarksOf 0 = .ok (.iconst 0, 1) := by decide +kernel
theorem dX4_writeMarksOf_1 : decode cX4_writeMarksOf 1 = .ok (.istore_n 2, 1) := by decide +kernel
theorem dX4_writeMarksOf_2 : decode cX4_writeMarksOf 2 = .ok (.iload_n 2, 1) := by decide +kernel
theorem dX4_writeMarksOf_3 : decode cX4_writeMarksOf 3 = .ok (.aload_n 0, 1) := by decide +kernel
theorem dX4_writeMarksOf_4 : decode cX4_writeMarksOf 4 = .ok (.getfield 52, 3) := by decide +kernel
theorem dX4_writeMarksOf_7 : decode cX4_writeMarksOf 7 = .ok (.getfield 85, 3) := by decide +kernel
theorem dX4_writeMarksOf_10 : decode cX4_writeMarksOf 10 = .ok (.if_icmp .ge 99, 3) := by decide +kernel
theorem dX4_writeMarksOf_13 : decode cX4_writeMarksOf 13 = .ok (.aload_n 0, 1) := by decide +kernel
theorem dX4_writeMarksOf_14 : decode cX4_writeMarksOf 14 = .ok (.getfield 18, 3) := by decide +kernel
theorem dX4_writeMarksOf_17 : decode cX4_writeMarksOf 17 = .ok (.iload_n 1, 1) := by decide +kernel
theorem dX4_writeMarksOf_18 : decode cX4_writeMarksOf 18 = .ok (.iaload, 1) := by decide +kernel
theorem dX4_writeMarksOf_19 : decode cX4_writeMarksOf 19 = .ok (.iload_n 2, 1) := by decide +kernel
theorem dX4_writeMarksOf_20 : decode cX4_writeMarksOf 20 = .ok (.invokestatic 71, 3) := by decide +kernel
theorem dX4_writeMarksOf_23 : decode cX4_writeMarksOf 23 = .ok (.ifCond .eq 80, 3) := by decide +kernel
theorem dX4_writeMarksOf_26 : decode cX4_writeMarksOf 26 = .ok (.aload_n 0, 1) := by decide +kernel
theorem dX4_writeMarksOf_27 : decode cX4_writeMarksOf 27 = .ok (.getfield 38, 3) := by decide +kernel
theorem dX4_writeMarksOf_30 : decode cX4_writeMarksOf 30 = .ok (.iload_n 1, 1) := by decide +kernel
theorem dX4_writeMarksOf_31 : decode cX4_writeMarksOf 31 = .ok (.iaload, 1) := by decide +kernel
theorem dX4_writeMarksOf_32 : decode cX4_writeMarksOf 32 = .ok (.iconst (-1), 1) := by decide +kernel
theorem dX4_writeMarksOf_33 : decode cX4_writeMarksOf 33 = .ok (.if_icmp .ne 40, 3) := by decide +kernel
theorem dX4_writeMarksOf_36 : decode cX4_writeMarksOf 36 = .ok (.aload_n 0, 1) := by decide +kernel
theorem dX4_writeMarksOf_37 : decode cX4_writeMarksOf 37 = .ok (.getfield 12, 3) := by decide +kernel
theorem dX4_writeMarksOf_40 : decode cX4_writeMarksOf 40 = .ok (.aload_n 0, 1) := by decide +kernel
theorem dX4_writeMarksOf_41 : decode cX4_writeMarksOf 41 = .ok (.getfield 41, 3) := by decide +kernel
theorem dX4_writeMarksOf_44 : decode cX4_writeMarksOf 44 = .ok (.iload_n 2, 1) := by decide +kernel
theorem dX4_writeMarksOf_45 : decode cX4_writeMarksOf 45 = .ok (.iaload, 1) := by decide +kernel
theorem dX4_writeMarksOf_46 : decode cX4_writeMarksOf 46 = .ok (.aload_n 0, 1) := by decide +kernel
theorem dX4_writeMarksOf_47 : decode cX4_writeMarksOf 47 = .ok (.getfield 56, 3) := by decide +kernel
theorem dX4_writeMarksOf_50 : decode cX4_writeMarksOf 50 = .ok (.getfield 127, 3) := by decide +kernel
theorem dX4_writeMarksOf_53 : decode cX4_writeMarksOf 53 = .ok (.iload_n 2, 1) := by decide +kernel
theorem dX4_writeMarksOf_54 : decode cX4_writeMarksOf 54 = .ok (.aaload, 1) := by decide +kernel
theorem dX4_writeMarksOf_55 : decode cX4_writeMarksOf 55 = .ok (.iload_n 1, 1) := by decide +kernel
theorem dX4_writeMarksOf_56 : decode cX4_writeMarksOf 56 = .ok (.iaload, 1) := by decide +kernel
theorem dX4_writeMarksOf_57 : decode cX4_writeMarksOf 57 = .ok (.aload_n 0, 1) := by decide +kernel
theorem dX4_writeMarksOf_58 : decode cX4_writeMarksOf 58 = .ok (.getfield 56, 3) := by decide +kernel
theorem dX4_writeMarksOf_61 : decode cX4_writeMarksOf 61 = .ok (.getfield 124, 3) := by decide +kernel
theorem dX4_writeMarksOf_64 : decode cX4_writeMarksOf 64 = .ok (.iload_n 1, 1) := by decide +kernel
theorem dX4_writeMarksOf_65 : decode cX4_writeMarksOf 65 = .ok (.iaload, 1) := by decide +kernel
theorem dX4_writeMarksOf_66 : decode cX4_writeMarksOf 66 = .ok (.isub, 1) := by decide +kernel
theorem dX4_writeMarksOf_67 : decode cX4_writeMarksOf 67 = .ok (.invokevirtual 131, 3) := by decide +kernel
theorem dX4_writeMarksOf_70 : decode cX4_writeMarksOf 70 = .ok (.goto 33, 3) := by decide +kernel
theorem dX4_writeMarksOf_73 : decode cX4_writeMarksOf 73 = .ok (.aload_n 0, 1) := by decide +kernel
theorem dX4_writeMarksOf_74 : decode cX4_writeMarksOf 74 = .ok (.getfield 12, 3) := by decide +kernel
theorem dX4_writeMarksOf_77 : decode cX4_writeMarksOf 77 = .ok (.aload_n 0, 1) := by decide +kernel
theorem dX4_writeMarksOf_78 : decode cX4_writeMarksOf 78 = .ok (.getfield 38, 3) := by decide +kernel
theorem dX4_writeMarksOf_81 : decode cX4_writeMarksOf 81 = .ok (.iload_n 1, 1) := by decide +kernel
theorem dX4_writeMarksOf_82 : decode cX4_writeMarksOf 82 = .ok (.iaload, 1) := by decide +kernel
theorem dX4_writeMarksOf_83 : decode cX4_writeMarksOf 83 = .ok (.aload_n 0, 1) := by decide +kernel
theorem dX4_writeMarksOf_84 : decode cX4_writeMarksOf 84 = .ok (.getfield 41, 3) := by decide +kernel
theorem dX4_writeMarksOf_87 : decode cX4_writeMarksOf 87 = .ok (.iload_n 2, 1) := by decide +kernel
theorem dX4_writeMarksOf_88 : decode cX4_writeMarksOf 88 = .ok (.iaload, 1) := by decide +kernel
theorem dX4_writeMarksOf_89 : decode cX4_writeMarksOf 89 = .ok (.aload_n 0, 1) := by decide +kernel
theorem dX4_writeMarksOf_90 : decode cX4_writeMarksOf 90 = .ok (.getfield 56, 3) := by decide +kernel
theorem dX4_writeMarksOf_93 : decode cX4_writeMarksOf 93 = .ok (.getfield 127, 3) := by decide +kernel
theorem dX4_writeMarksOf_96 : decode cX4_writeMarksOf 96 = .ok (.iload_n 2, 1) := by decide +kernel
theorem dX4_writeMarksOf_97 : decode cX4_writeMarksOf 97 = .ok (.aaload, 1) := by decide +kernel
theorem dX4_writeMarksOf_98 : decode cX4_writeMarksOf 98 = .ok (.iload_n 1, 1) := by decide +kernel
theorem dX4_writeMarksOf_99 : decode cX4_writeMarksOf 99 = .ok (.iaload, 1) := by decide +kernel
theorem dX4_writeMarksOf_100 : decode cX4_writeMarksOf 100 = .ok (.invokevirtual 135, 3) := by decide +kernel
theorem dX4_writeMarksOf_103 : decode cX4_writeMarksOf 103 = .ok (.iinc 2 1, 3) := by decide +kernel
theorem dX4_writeMarksOf_106 : decode cX4_writeMarksOf 106 = .ok (.goto (-104), 3) := by decide +kernel
theorem dX4_writeMarksOf_109 : decode cX4_writeMarksOf 109 = .ok (.return_, 1) := by decide +kernel
theorem dX4_writeLeansAreNothingInAll_0 : decode cX4_writeLeansAreNothingInAll 0 = .ok (.iconst 0, 1) := by decide +kernel
theorem dX4_writeLeansAreNothingInAll_1 : decode cX4_writeLeansAreNothingInAll 1 = .ok (.istore_n 2, 1) := by decide +kernel
theorem dX4_writeLeansAreNothingInAll_2 : decode cX4_writeLeansAreNothingInAll 2 = .ok (.iload_n 2, 1) := by decide +kernel
theorem dX4_writeLeansAreNothingInAll_3 : decode cX4_writeLeansAreNothingInAll 3 = .ok (.aload_n 0, 1) := by decide +kernel
theorem dX4_writeLeansAreNothingInAll_4 : decode cX4_writeLeansAreNothingInAll 4 = .ok (.getfield 52, 3) := by decide +kernel
theorem dX4_writeLeansAreNothingInAll_7 : decode cX4_writeLeansAreNothingInAll 7 = .ok (.getfield 85, 3) := by decide +kernel
theorem dX4_writeLeansAreNothingInAll_10 : decode cX4_writeLeansAreNothingInAll 10 = .ok (.if_icmp .ge 73, 3) := by decide +kernel
theorem dX4_writeLeansAreNothingInAll_13 : decode cX4_writeLeansAreNothingInAll 13 = .ok (.iconst 0, 1) := by decide +kernel
theorem dX4_writeLeansAreNothingInAll_14 : decode cX4_writeLeansAreNothingInAll 14 = .ok (.istore_n 3, 1) := by decide +kernel
theorem dX4_writeLeansAreNothingInAll_15 : decode cX4_writeLeansAreNothingInAll 15 = .ok (.iload_n 3, 1) := by decide +kernel
theorem dX4_writeLeansAreNothingInAll_16 : decode cX4_writeLeansAreNothingInAll 16 = .ok (.aload_n 0, 1) := by decide +kernel
theorem dX4_writeLeansAreNothingInAll_17 : decode cX4_writeLeansAreNothingInAll 17 = .ok (.getfield 52, 3) := by decide +kernel
theorem dX4_writeLeansAreNothingInAll_20 : decode cX4_writeLeansAreNothingInAll 20 = .ok (.getfield 85, 3) := by decide +kernel
theorem dX4_writeLeansAreNothingInAll_23 : decode cX4_writeLeansAreNothingInAll 23 = .ok (.if_icmp .ge 54, 3) := by decide +kernel
theorem dX4_writeLeansAreNothingInAll_26 : decode cX4_writeLeansAreNothingInAll 26 = .ok (.aload_n 0, 1) := by decide +kernel
theorem dX4_writeLeansAreNothingInAll_27 : decode cX4_writeLeansAreNothingInAll 27 = .ok (.getfield 25, 3) := by decide +kernel
theorem dX4_writeLeansAreNothingInAll_30 : decode cX4_writeLeansAreNothingInAll 30 = .ok (.iload_n 1, 1) := by decide +kernel
theorem dX4_writeLeansAreNothingInAll_31 : decode cX4_writeLeansAreNothingInAll 31 = .ok (.iaload, 1) := by decide +kernel
theorem dX4_writeLeansAreNothingInAll_32 : decode cX4_writeLeansAreNothingInAll 32 = .ok (.iload_n 2, 1) := by decide +kernel
theorem dX4_writeLeansAreNothingInAll_33 : decode cX4_writeLeansAreNothingInAll 33 = .ok (.invokestatic 71, 3) := by decide +kernel
theorem dX4_writeLeansAreNothingInAll_36 : decode cX4_writeLeansAreNothingInAll 36 = .ok (.ifCond .eq 35, 3) := by decide +kernel
theorem dX4_writeLeansAreNothingInAll_39 : decode cX4_writeLeansAreNothingInAll 39 = .ok (.aload_n 0, 1) := by decide +kernel
theorem dX4_writeLeansAreNothingInAll_40 : decode cX4_writeLeansAreNothingInAll 40 = .ok (.getfield 25, 3) := by decide +kernel
theorem dX4_writeLeansAreNothingInAll_43 : decode cX4_writeLeansAreNothingInAll 43 = .ok (.iload_n 1, 1) := by decide +kernel
theorem dX4_writeLeansAreNothingInAll_44 : decode cX4_writeLeansAreNothingInAll 44 = .ok (.iaload, 1) := by decide +kernel
theorem dX4_writeLeansAreNothingInAll_45 : decode cX4_writeLeansAreNothingInAll 45 = .ok (.iload_n 3, 1) := by decide +kernel
theorem dX4_writeLeansAreNothingInAll_46 : decode cX4_writeLeansAreNothingInAll 46 = .ok (.invokestatic 71, 3) := by decide +kernel
theorem dX4_writeLeansAreNothingInAll_49 : decode cX4_writeLeansAreNothingInAll 49 = .ok (.ifCond .eq 22, 3) := by decide +kernel
theorem dX4_writeLeansAreNothingInAll_52 : decode cX4_writeLeansAreNothingInAll 52 = .ok (.aload_n 0, 1) := by decide +kernel
theorem dX4_writeLeansAreNothingInAll_53 : decode cX4_writeLeansAreNothingInAll 53 = .ok (.getfield 12, 3) := by decide +kernel
theorem dX4_writeLeansAreNothingInAll_56 : decode cX4_writeLeansAreNothingInAll 56 = .ok (.aload_n 0, 1) := by decide +kernel
theorem dX4_writeLeansAreNothingInAll_57 : decode cX4_writeLeansAreNothingInAll 57 = .ok (.getfield 41, 3) := by decide +kernel
theorem dX4_writeLeansAreNothingInAll_60 : decode cX4_writeLeansAreNothingInAll 60 = .ok (.iload_n 2, 1) := by decide +kernel
theorem dX4_writeLeansAreNothingInAll_61 : decode cX4_writeLeansAreNothingInAll 61 = .ok (.iaload, 1) := by decide +kernel
theorem dX4_writeLeansAreNothingInAll_62 : decode cX4_writeLeansAreNothingInAll 62 = .ok (.aload_n 0, 1) := by decide +kernel
theorem dX4_writeLeansAreNothingInAll_63 : decode cX4_writeLeansAreNothingInAll 63 = .ok (.getfield 41, 3) := by decide +kernel
theorem dX4_writeLeansAreNothingInAll_66 : decode cX4_writeLeansAreNothingInAll 66 = .ok (.iload_n 3, 1) := by decide +kernel
theorem dX4_writeLeansAreNothingInAll_67 : decode cX4_writeLeansAreNothingInAll 67 = .ok (.iaload, 1) := by decide +kernel
theorem dX4_writeLeansAreNothingInAll_68 : decode cX4_writeLeansAreNothingInAll 68 = .ok (.invokevirtual 139, 3) := by decide +kernel
theorem dX4_writeLeansAreNothingInAll_71 : decode cX4_writeLeansAreNothingInAll 71 = .ok (.iinc 3 1, 3) := by decide +kernel
theorem dX4_writeLeansAreNothingInAll_74 : decode cX4_writeLeansAreNothingInAll 74 = .ok (.goto (-59), 3) := by decide +kernel
theorem dX4_writeLeansAreNothingInAll_77 : decode cX4_writeLeansAreNothingInAll 77 = .ok (.iinc 2 1, 3) := by decide +kernel
theorem dX4_writeLeansAreNothingInAll_80 : decode cX4_writeLeansAreNothingInAll 80 = .ok (.goto (-78), 3) := by decide +kernel
theorem dX4_writeLeansAreNothingInAll_83 : decode cX4_writeLeansAreNothingInAll 83 = .ok (.return_, 1) := by decide +kernel
theorem dX4_readTops_0 : decode cX4_readTops 0 = .ok (.iconst 0, 1) := by decide +kernel
theorem dX4_readTops_1 : decode cX4_readTops 1 = .ok (.istore_n 2, 1) := by decide +kernel
theorem dX4_readTops_2 : decode cX4_readTops 2 = .ok (.iload_n 2, 1) := by decide +kernel
theorem dX4_readTops_3 : decode cX4_readTops 3 = .ok (.aload_n 0, 1) := by decide +kernel
theorem dX4_readTops_4 : decode cX4_readTops 4 = .ok (.getfield 52, 3) := by decide +kernel
theorem dX4_readTops_7 : decode cX4_readTops 7 = .ok (.getfield 85, 3) := by decide +kernel
theorem dX4_readTops_10 : decode cX4_readTops 10 = .ok (.if_icmp .ge 113, 3) := by decide +kernel
theorem dX4_readTops_13 : decode cX4_readTops 13 = .ok (.aload_n 0, 1) := by decide +kernel
theorem dX4_readTops_14 : decode cX4_readTops 14 = .ok (.getfield 22, 3) := by decide +kernel
theorem dX4_readTops_17 : decode cX4_readTops 17 = .ok (.iload_n 1, 1) := by decide +kernel
theorem dX4_readTops_18 : decode cX4_readTops 18 = .ok (.iaload, 1) := by decide +kernel
theorem dX4_readTops_19 : decode cX4_readTops 19 = .ok (.iload_n 2, 1) := by decide +kernel
theorem dX4_readTops_20 : decode cX4_readTops 20 = .ok (.invokestatic 71, 3) := by decide +kernel
theorem dX4_readTops_23 : decode cX4_readTops 23 = .ok (.ifCond .eq 62, 3) := by decide +kernel
theorem dX4_readTops_26 : decode cX4_readTops 26 = .ok (.aload_n 0, 1) := by decide +kernel
theorem dX4_readTops_27 : decode cX4_readTops 27 = .ok (.getfield 38, 3) := by decide +kernel
theorem dX4_readTops_30 : decode cX4_readTops 30 = .ok (.iload_n 2, 1) := by decide +kernel
theorem dX4_readTops_31 : decode cX4_readTops 31 = .ok (.iaload, 1) := by decide +kernel
theorem dX4_readTops_32 : decode cX4_readTops 32 = .ok (.iconst (-1), 1) := by decide +kernel
theorem dX4_readTops_33 : decode cX4_readTops 33 = .ok (.if_icmp .ne 7, 3) := by decide +kernel
theorem dX4_readTops_36 : decode cX4_readTops 36 = .ok (.iconst 1, 1) := by decide +kernel
theorem dX4_readTops_37 : decode cX4_readTops 37 = .ok (.goto 4, 3) := by decide +kernel
theorem dX4_readTops_40 : decode cX4_readTops 40 = .ok (.iconst 0, 1) := by decide +kernel
theorem dX4_readTops_41 : decode cX4_readTops 41 = .ok (.istore_n 3, 1) := by decide +kernel
theorem dX4_readTops_42 : decode cX4_readTops 42 = .ok (.aload_n 0, 1) := by decide +kernel
theorem dX4_readTops_43 : decode cX4_readTops 43 = .ok (.getfield 32, 3) := by decide +kernel
theorem dX4_readTops_46 : decode cX4_readTops 46 = .ok (.iload_n 2, 1) := by decide +kernel
theorem dX4_readTops_47 : decode cX4_readTops 47 = .ok (.iload_n 3, 1) := by decide +kernel
theorem dX4_readTops_48 : decode cX4_readTops 48 = .ok (.ifCond .eq 23, 3) := by decide +kernel
theorem dX4_readTops_51 : decode cX4_readTops 51 = .ok (.aload_n 0, 1) := by decide +kernel
theorem dX4_readTops_52 : decode cX4_readTops 52 = .ok (.getfield 56, 3) := by decide +kernel
theorem dX4_readTops_55 : decode cX4_readTops 55 = .ok (.getfield 124, 3) := by decide +kernel
theorem dX4_readTops_58 : decode cX4_readTops 58 = .ok (.iload_n 2, 1) := by decide +kernel
theorem dX4_readTops_59 : decode cX4_readTops 59 = .ok (.iaload, 1) := by decide +kernel
theorem dX4_readTops_60 : decode cX4_readTops 60 = .ok (.i2l, 1) := by decide +kernel
theorem dX4_readTops_61 : decode cX4_readTops 61 = .ok (.aload_n 0, 1) := by decide +kernel
theorem dX4_readTops_62 : decode cX4_readTops 62 = .ok (.getfield 28, 3) := by decide +kernel
theorem dX4_readTops_65 : decode cX4_readTops 65 = .ok (.iload_n 1, 1) := by decide +kernel
theorem dX4_readTops_66 : decode cX4_readTops 66 = .ok (.laload, 1) := by decide +kernel
theorem dX4_readTops_67 : decode cX4_readTops 67 = .ok (.lmul, 1) := by decide +kernel
theorem dX4_readTops_68 : decode cX4_readTops 68 = .ok (.goto 16, 3) := by decide +kernel
theorem dX4_readTops_71 : decode cX4_readTops 71 = .ok (.aload_n 0, 1) := by decide +kernel
theorem dX4_readTops_72 : decode cX4_readTops 72 = .ok (.getfield 12, 3) := by decide +kernel
theorem dX4_readTops_75 : decode cX4_readTops 75 = .ok (.aload_n 0, 1) := by decide +kernel
theorem dX4_readTops_76 : decode cX4_readTops 76 = .ok (.getfield 38, 3) := by decide +kernel
theorem dX4_readTops_79 : decode cX4_readTops 79 = .ok (.iload_n 2, 1) := by decide +kernel
theorem dX4_readTops_80 : decode cX4_readTops 80 = .ok (.iaload, 1) := by decide +kernel
theorem dX4_readTops_81 : decode cX4_readTops 81 = .ok (.invokevirtual 142, 3) := by decide +kernel
theorem dX4_readTops_84 : decode cX4_readTops 84 = .ok (.lastore, 1) := by decide +kernel
theorem dX4_readTops_85 : decode cX4_readTops 85 = .ok (.aload_n 0, 1) := by decide +kernel
theorem dX4_readTops_86 : decode cX4_readTops 86 = .ok (.getfield 25, 3) := by decide +kernel
theorem dX4_readTops_89 : decode cX4_readTops 89 = .ok (.iload_n 1, 1) := by decide +kernel
theorem dX4_readTops_90 : decode cX4_readTops 90 = .ok (.iaload, 1) := by decide +kernel
theorem dX4_readTops_91 : decode cX4_readTops 91 = .ok (.iload_n 2, 1) := by decide +kernel
theorem dX4_readTops_92 : decode cX4_readTops 92 = .ok (.invokestatic 71, 3) := by decide +kernel
theorem dX4_readTops_95 : decode cX4_readTops 95 = .ok (.ifCond .eq 22, 3) := by decide +kernel
theorem dX4_readTops_98 : decode cX4_readTops 98 = .ok (.aload_n 0, 1) := by decide +kernel
theorem dX4_readTops_99 : decode cX4_readTops 99 = .ok (.getfield 35, 3) := by decide +kernel
theorem dX4_readTops_102 : decode cX4_readTops 102 = .ok (.iload_n 2, 1) := by decide +kernel
theorem dX4_readTops_103 : decode cX4_readTops 103 = .ok (.aload_n 0, 1) := by decide +kernel
theorem dX4_readTops_104 : decode cX4_readTops 104 = .ok (.getfield 12, 3) := by decide +kernel
theorem dX4_readTops_107 : decode cX4_readTops 107 = .ok (.aload_n 0, 1) := by decide +kernel
theorem dX4_readTops_108 : decode cX4_readTops 108 = .ok (.getfield 41, 3) := by decide +kernel
theorem dX4_readTops_111 : decode cX4_readTops 111 = .ok (.iload_n 2, 1) := by decide +kernel
theorem dX4_readTops_112 : decode cX4_readTops 112 = .ok (.iaload, 1) := by decide +kernel
theorem dX4_readTops_113 : decode cX4_readTops 113 = .ok (.invokevirtual 142, 3) := by decide +kernel
theorem dX4_readTops_116 : decode cX4_readTops 116 = .ok (.lastore, 1) := by decide +kernel
theorem dX4_readTops_117 : decode cX4_readTops 117 = .ok (.iinc 2 1, 3) := by decide +kernel
theorem dX4_readTops_120 : decode cX4_readTops 120 = .ok (.goto (-118), 3) := by decide +kernel
theorem dX4_readTops_123 : decode cX4_readTops 123 = .ok (.return_, 1) := by decide +kernel
theorem dX5_init_0 : decode cX5_init 0 = .ok (.aload_n 0, 1) := by decide +kernel
theorem dX5_init_1 : decode cX5_init 1 = .ok (.invokespecial 3, 3) := by decide +kernel
theorem dX5_init_4 : decode cX5_init 4 = .ok (.aload_n 0, 1) := by decide +kernel
theorem dX5_init_5 : decode cX5_init 5 = .ok (.bipush 8, 2) := by decide +kernel
theorem dX5_init_7 : decode cX5_init 7 = .ok (.newarray .int, 2) := by decide +kernel
theorem dX5_init_9 : decode cX5_init 9 = .ok (.putfield 9, 3) := by decide +kernel
theorem dX5_init_12 : decode cX5_init 12 = .ok (.aload_n 0, 1) := by decide +kernel
theorem dX5_init_13 : decode cX5_init 13 = .ok (.bipush 8, 2) := by decide +kernel
theorem dX5_init_15 : decode cX5_init 15 = .ok (.newarray .int, 2) := by decide +kernel
theorem dX5_init_17 : decode cX5_init 17 = .ok (.putfield 15, 3) := by decide +kernel
theorem dX5_init_20 : decode cX5_init 20 = .ok (.aload_n 0, 1) := by decide +kernel
theorem dX5_init_21 : decode cX5_init 21 = .ok (.bipush 8, 2) := by decide +kernel
theorem dX5_init_23 : decode cX5_init 23 = .ok (.newarray .int, 2) := by decide +kernel
theorem dX5_init_25 : decode cX5_init 25 = .ok (.putfield 18, 3) := by decide +kernel
theorem dX5_init_28 : decode cX5_init 28 = .ok (.aload_n 0, 1) := by decide +kernel
theorem dX5_init_29 : decode cX5_init 29 = .ok (.bipush 8, 2) := by decide +kernel
theorem dX5_init_31 : decode cX5_init 31 = .ok (.newarray .int, 2) := by decide +kernel
theorem dX5_init_33 : decode cX5_init 33 = .ok (.putfield 21, 3) := by decide +kernel
theorem dX5_init_36 : decode cX5_init 36 = .ok (.aload_n 0, 1) := by decide +kernel
theorem dX5_init_37 : decode cX5_init 37 = .ok (.iconst 0, 1) := by decide +kernel
theorem dX5_init_38 : decode cX5_init 38 = .ok (.putfield 24, 3) := by decide +kernel
theorem dX5_init_41 : decode cX5_init 41 = .ok (.aload_n 0, 1) := by decide +kernel
theorem dX5_init_42 : decode cX5_init 42 = .ok (.iconst 0, 1) := by decide +kernel
theorem dX5_init_43 : decode cX5_init 43 = .ok (.putfield 28, 3) := by decide +kernel
theorem dX5_init_46 : decode cX5_init 46 = .ok (.aload_n 0, 1) := by decide +kernel
theorem dX5_init_47 : decode cX5_init 47 = .ok (.aload_n 1, 1) := by decide +kernel
theorem dX5_init_48 : decode cX5_init 48 = .ok (.putfield 31, 3) := by decide +kernel
theorem dX5_init_51 : decode cX5_init 51 = .ok (.return_, 1) := by decide +kernel
theorem dX5_forget_0 : decode cX5_forget 0 = .ok (.aload_n 0, 1) := by decide +kernel
theorem dX5_forget_1 : decode cX5_forget 1 = .ok (.iconst 0, 1) := by decide +kernel
theorem dX5_forget_2 : decode cX5_forget 2 = .ok (.putfield 24, 3) := by decide +kernel
theorem dX5_forget_5 : decode cX5_forget 5 = .ok (.return_, 1) := by decide +kernel
theorem dX5_isPossible_0 : decode cX5_isPossible 0 = .ok (.aload_n 0, 1) := by decide +kernel
theorem dX5_isPossible_1 : decode cX5_isPossible 1 = .ok (.getfield 24, 3) := by decide +kernel
theorem dX5_isPossible_4 : decode cX5_isPossible 4 = .ok (.ifCond .ne 27, 3) := by decide +kernel
theorem dX5_isPossible_7 : decode cX5_isPossible 7 = .ok (.aload_n 0, 1) := by decide +kernel
theorem dX5_isPossible_8 : decode cX5_isPossible 8 = .ok (.iconst 1, 1) := by decide +kernel
theorem dX5_isPossible_9 : decode cX5_isPossible 9 = .ok (.putfield 24, 3) := by decide +kernel
theorem dX5_isPossible_12 : decode cX5_isPossible 12 = .ok (.aload_n 0, 1) := by decide +kernel
theorem dX5_isPossible_13 : decode cX5_isPossible 13 = .ok (.aload_n 0, 1) := by decide +kernel
theorem dX5_isPossible_14 : decode cX5_isPossible 14 = .ok (.invokevirtual 35, 3) := by decide +kernel
theorem dX5_isPossible_17 : decode cX5_isPossible 17 = .ok (.putfield 28, 3) := by decide +kernel
theorem dX5_isPossible_20 : decode cX5_isPossible 20 = .ok (.aload_n 0, 1) := by decide +kernel
theorem dX5_isPossible_21 : decode cX5_isPossible 21 = .ok (.getfield 28, 3) := by decide +kernel
theorem dX5_isPossible_24 : decode cX5_isPossible 24 = .ok (.ifCond .eq 7, 3) := by decide +kernel
theorem dX5_isPossible_27 : decode cX5_isPossible 27 = .ok (.aload_n 0, 1) := by decide +kernel
theorem dX5_isPossible_28 : decode cX5_isPossible 28 = .ok (.invokevirtual 39, 3) := by decide +kernel
theorem dX5_isPossible_31 : decode cX5_isPossible 31 = .ok (.aload_n 0, 1) := by decide +kernel
theorem dX5_isPossible_32 : decode cX5_isPossible 32 = .ok (.getfield 28, 3) := by decide +kernel
theorem dX5_isPossible_35 : decode cX5_isPossible 35 = .ok (.ireturn, 1) := by decide +kernel
theorem dX5_findAnyPlan_0 : decode cX5_findAnyPlan 0 = .ok (.aload_n 0, 1) := by decide +kernel
theorem dX5_findAnyPlan_1 : decode cX5_findAnyPlan 1 = .ok (.getfield 9, 3) := by decide +kernel
theorem dX5_findAnyPlan_4 : decode cX5_findAnyPlan 4 = .ok (.iconst 0, 1) := by decide +kernel
theorem dX5_findAnyPlan_5 : decode cX5_findAnyPlan 5 = .ok (.invokestatic 42, 3) := by decide +kernel
theorem dX5_findAnyPlan_8 : decode cX5_findAnyPlan 8 = .ok (.aload_n 0, 1) := by decide +kernel
theorem dX5_findAnyPlan_9 : decode cX5_findAnyPlan 9 = .ok (.getfield 15, 3) := by decide +kernel
theorem dX5_findAnyPlan_12 : decode cX5_findAnyPlan 12 = .ok (.iconst 0, 1) := by decide +kernel
theorem dX5_findAnyPlan_13 : decode cX5_findAnyPlan 13 = .ok (.invokestatic 42, 3) := by decide +kernel
theorem dX5_findAnyPlan_16 : decode cX5_findAnyPlan 16 = .ok (.iconst 0, 1) := by decide +kernel
theorem dX5_findAnyPlan_17 : decode cX5_findAnyPlan 17 = .ok (.istore_n 1, 1) := by decide +kernel
theorem dX5_findAnyPlan_18 : decode cX5_findAnyPlan 18 = .ok (.iload_n 1, 1) := by decide +kernel
theorem dX5_findAnyPlan_19 : decode cX5_findAnyPlan 19 = .ok (.aload_n 0, 1) := by decide +kernel
theorem dX5_findAnyPlan_20 : decode cX5_findAnyPlan 20 = .ok (.getfield 31, 3) := by decide +kernel
theorem dX5_findAnyPlan_23 : decode cX5_findAnyPlan 23 = .ok (.getfield 48, 3) := by decide +kernel
theorem dX5_findAnyPlan_26 : decode cX5_findAnyPlan 26 = .ok (.if_icmp .ge 40, 3) := by decide +kernel
theorem dX5_findAnyPlan_29 : decode cX5_findAnyPlan 29 = .ok (.iconst 0, 1) := by decide +kernel
theorem dX5_findAnyPlan_30 : decode cX5_findAnyPlan 30 = .ok (.istore_n 2, 1) := by decide +kernel
theorem dX5_findAnyPlan_31 : decode cX5_findAnyPlan 31 = .ok (.iload_n 2, 1) := by decide +kernel
theorem dX5_findAnyPlan_32 : decode cX5_findAnyPlan 32 = .ok (.aload_n 0, 1) := by decide +kernel
theorem dX5_findAnyPlan_33 : decode cX5_findAnyPlan 33 = .ok (.getfield 31, 3) := by decide +kernel
theorem dX5_findAnyPlan_36 : decode cX5_findAnyPlan 36 = .ok (.getfield 54, 3) := by decide +kernel
theorem dX5_findAnyPlan_39 : decode cX5_findAnyPlan 39 = .ok (.iconst 0, 1) := by decide +kernel
theorem dX5_findAnyPlan_40 : decode cX5_findAnyPlan 40 = .ok (.iaload, 1) := by decide +kernel
theorem dX5_findAnyPlan_41 : decode cX5_findAnyPlan 41 = .ok (.if_icmp .ge 19, 3) := by decide +kernel
theorem dX5_findAnyPlan_44 : decode cX5_findAnyPlan 44 = .ok (.aload_n 0, 1) := by decide +kernel
theorem dX5_findAnyPlan_45 : decode cX5_findAnyPlan 45 = .ok (.iload_n 1, 1) := by decide +kernel
theorem dX5_findAnyPlan_46 : decode cX5_findAnyPlan 46 = .ok (.invokevirtual 57, 3) := by decide +kernel
theorem dX5_findAnyPlan_49 : decode cX5_findAnyPlan 49 = .ok (.ifCond .ne 5, 3) := by decide +kernel
theorem dX5_findAnyPlan_52 : decode cX5_findAnyPlan 52 = .ok (.iconst 0, 1) := by decide +kernel
theorem dX5_findAnyPlan_53 : decode cX5_findAnyPlan 53 = .ok (.ireturn, 1) := by decide +kernel
theorem dX5_findAnyPlan_54 : decode cX5_findAnyPlan 54 = .ok (.iinc 2 1, 3) := by decide +kernel
theorem dX5_findAnyPlan_57 : decode cX5_findAnyPlan 57 = .ok (.goto (-26), 3) := by decide +kernel
theorem dX5_findAnyPlan_60 : decode cX5_findAnyPlan 60 = .ok (.iinc 1 1, 3) := by decide +kernel
theorem dX5_findAnyPlan_63 : decode cX5_findAnyPlan 63 = .ok (.goto (-45), 3) := by decide +kernel
theorem dX5_findAnyPlan_66 : decode cX5_findAnyPlan 66 = .ok (.iconst 1, 1) := by decide +kernel
theorem dX5_findAnyPlan_67 : decode cX5_findAnyPlan 67 = .ok (.ireturn, 1) := by decide +kernel
theorem dX5_findMarker_0 : decode cX5_findMarker 0 = .ok (.aload_n 0, 1) := by decide +kernel
theorem dX5_findMarker_1 : decode cX5_findMarker 1 = .ok (.getfield 31, 3) := by decide +kernel
theorem dX5_findMarker_4 : decode cX5_findMarker 4 = .ok (.iload_n 1, 1) := by decide +kernel
theorem dX5_findMarker_5 : decode cX5_findMarker 5 = .ok (.invokevirtual 61, 3) := by decide +kernel
theorem dX5_findMarker_8 : decode cX5_findMarker 8 = .ok (.aload_n 0, 1) := by decide +kernel
theorem dX5_findMarker_9 : decode cX5_findMarker 9 = .ok (.getfield 9, 3) := by decide +kernel
theorem dX5_findMarker_12 : decode cX5_findMarker 12 = .ok (.iload_n 1, 1) := by decide +kernel
theorem dX5_findMarker_13 : decode cX5_findMarker 13 = .ok (.iaload, 1) := by decide +kernel
theorem dX5_findMarker_14 : decode cX5_findMarker 14 = .ok (.iconst (-1), 1) := by decide +kernel
theorem dX5_findMarker_15 : decode cX5_findMarker 15 = .ok (.ixor, 1) := by decide +kernel
theorem dX5_findMarker_16 : decode cX5_findMarker 16 = .ok (.iand, 1) := by decide +kernel
theorem dX5_findMarker_17 : decode cX5_findMarker 17 = .ok (.istore_n 2, 1) := by decide +kernel
theorem dX5_findMarker_18 : decode cX5_findMarker 18 = .ok (.iconst 0, 1) := by decide +kernel
theorem dX5_findMarker_19 : decode cX5_findMarker 19 = .ok (.istore_n 3, 1) := by decide +kernel
theorem dX5_findMarker_20 : decode cX5_findMarker 20 = .ok (.iload_n 3, 1) := by decide +kernel
theorem dX5_findMarker_21 : decode cX5_findMarker 21 = .ok (.aload_n 0, 1) := by decide +kernel
theorem dX5_findMarker_22 : decode cX5_findMarker 22 = .ok (.getfield 31, 3) := by decide +kernel
theorem dX5_findMarker_25 : decode cX5_findMarker 25 = .ok (.getfield 48, 3) := by decide +kernel
theorem dX5_findMarker_28 : decode cX5_findMarker 28 = .ok (.if_icmp .ge 58, 3) := by decide +kernel
theorem dX5_findMarker_31 : decode cX5_findMarker 31 = .ok (.iload_n 2, 1) := by decide +kernel
theorem dX5_findMarker_32 : decode cX5_findMarker 32 = .ok (.iload_n 3, 1) := by decide +kernel
theorem dX5_findMarker_33 : decode cX5_findMarker 33 = .ok (.invokestatic 65, 3) := by decide +kernel
theorem dX5_findMarker_36 : decode cX5_findMarker 36 = .ok (.ifCond .eq 44, 3) := by decide +kernel
theorem dX5_findMarker_39 : decode cX5_findMarker 39 = .ok (.aload_n 0, 1) := by decide +kernel
theorem dX5_findMarker_40 : decode cX5_findMarker 40 = .ok (.iload_n 1, 1) := by decide +kernel
theorem dX5_findMarker_41 : decode cX5_findMarker 41 = .ok (.iload_n 3, 1) := by decide +kernel
theorem dX5_findMarker_42 : decode cX5_findMarker 42 = .ok (.invokevirtual 69, 3) := by decide +kernel
theorem dX5_findMarker_45 : decode cX5_findMarker 45 = .ok (.aload_n 0, 1) := by decide +kernel
theorem dX5_findMarker_46 : decode cX5_findMarker 46 = .ok (.getfield 15, 3) := by decide +kernel
theorem dX5_findMarker_49 : decode cX5_findMarker 49 = .ok (.iload_n 3, 1) := by decide +kernel
theorem dX5_findMarker_50 : decode cX5_findMarker 50 = .ok (.iaload, 1) := by decide +kernel
theorem dX5_findMarker_51 : decode cX5_findMarker 51 = .ok (.aload_n 0, 1) := by decide +kernel
theorem dX5_findMarker_52 : decode cX5_findMarker 52 = .ok (.getfield 31, 3) := by decide +kernel
theorem dX5_findMarker_55 : decode cX5_findMarker 55 = .ok (.getfield 54, 3) := by decide +kernel
theorem dX5_findMarker_58 : decode cX5_findMarker 58 = .ok (.iconst 1, 1) := by decide +kernel
theorem dX5_findMarker_59 : decode cX5_findMarker 59 = .ok (.iaload, 1) := by decide +kernel
theorem dX5_findMarker_60 : decode cX5_findMarker 60 = .ok (.if_icmp .le 12, 3) := by decide +kernel
theorem dX5_findMarker_63 : decode cX5_findMarker 63 = .ok (.aload_n 0, 1) := by decide +kernel
theorem dX5_findMarker_64 : decode cX5_findMarker 64 = .ok (.iload_n 3, 1) := by decide +kernel
theorem dX5_findMarker_65 : decode cX5_findMarker 65 = .ok (.iconst 0, 1) := by decide +kernel
theorem dX5_findMarker_66 : decode cX5_findMarker 66 = .ok (.invokevirtual 73, 3) := by decide +kernel
theorem dX5_findMarker_69 : decode cX5_findMarker 69 = .ok (.ifCond .eq 5, 3) := by decide +kernel
theorem dX5_findMarker_72 : decode cX5_findMarker 72 = .ok (.iconst 1, 1) := by decide +kernel
theorem dX5_findMarker_73 : decode cX5_findMarker 73 = .ok (.ireturn, 1) := by decide +kernel
theorem dX5_findMarker_74 : decode cX5_findMarker 74 = .ok (.aload_n 0, 1) := by decide +kernel
theorem dX5_findMarker_75 : decode cX5_findMarker 75 = .ok (.iload_n 1, 1) := by decide +kernel
theorem dX5_findMarker_76 : decode cX5_findMarker 76 = .ok (.iload_n 3, 1) := by decide +kernel
theorem dX5_findMarker_77 : decode cX5_findMarker 77 = .ok (.invokevirtual 76, 3) := by decide +kernel
theorem dX5_findMarker_80 : decode cX5_findMarker 80 = .ok (.iinc 3 1, 3) := by decide +kernel
theorem dX5_findMarker_83 : decode cX5_findMarker 83 = .ok (.goto (-63), 3) := by decide +kernel
theorem dX5_findMarker_86 : decode cX5_findMarker 86 = .ok (.iconst 0, 1) := by decide +kernel
theorem dX5_findMarker_87 : decode cX5_findMarker 87 = .ok (.ireturn, 1) := by decide +kernel
theorem dX5_makeFirst_0 : decode cX5_makeFirst 0 = .ok (.iconst 0, 1) := by decide +kernel
theorem dX5_makeFirst_1 : decode cX5_makeFirst 1 = .ok (.istore_n 1, 1) := by decide +kernel
theorem dX5_makeFirst_2 : decode cX5_makeFirst 2 = .ok (.iload_n 1, 1) := by decide +kernel
theorem dX5_makeFirst_3 : decode cX5_makeFirst 3 = .ok (.aload_n 0, 1) := by decide +kernel
theorem dX5_makeFirst_4 : decode cX5_makeFirst 4 = .ok (.getfield 31, 3) := by decide +kernel
theorem dX5_makeFirst_7 : decode cX5_makeFirst 7 = .ok (.getfield 48, 3) := by decide +kernel
theorem dX5_makeFirst_10 : decode cX5_makeFirst 10 = .ok (.if_icmp .ge 58, 3) := by decide +kernel
theorem dX5_makeFirst_13 : decode cX5_makeFirst 13 = .ok (.iconst 0, 1) := by decide +kernel
theorem dX5_makeFirst_14 : decode cX5_makeFirst 14 = .ok (.istore_n 2, 1) := by decide +kernel
theorem dX5_makeFirst_15 : decode cX5_makeFirst 15 = .ok (.iload_n 2, 1) := by decide +kernel
theorem dX5_makeFirst_16 : decode cX5_makeFirst 16 = .ok (.aload_n 0, 1) := by decide +kernel
theorem dX5_makeFirst_17 : decode cX5_makeFirst 17 = .ok (.getfield 31, 3) := by decide +kernel
theorem dX5_makeFirst_20 : decode cX5_makeFirst 20 = .ok (.getfield 48, 3) := by decide +kernel
theorem dX5_makeFirst_23 : decode cX5_makeFirst 23 = .ok (.if_icmp .ge 39, 3) := by decide +kernel
theorem dX5_makeFirst_26 : decode cX5_makeFirst 26 = .ok (.aload_n 0, 1) := by decide +kernel
theorem dX5_makeFirst_27 : decode cX5_makeFirst 27 = .ok (.getfield 31, 3) := by decide +kernel
theorem dX5_makeFirst_30 : decode cX5_makeFirst 30 = .ok (.iload_n 1, 1) := by decide +kernel
theorem dX5_makeFirst_31 : decode cX5_makeFirst 31 = .ok (.invokevirtual 61, 3) := by decide +kernel
theorem dX5_makeFirst_34 : decode cX5_makeFirst 34 = .ok (.aload_n 0, 1) := by decide +kernel
theorem dX5_makeFirst_35 : decode cX5_makeFirst 35 = .ok (.getfield 9, 3) := by decide +kernel
theorem dX5_makeFirst_38 : decode cX5_makeFirst 38 = .ok (.iload_n 1, 1) := by decide +kernel
theorem dX5_makeFirst_39 : decode cX5_makeFirst 39 = .ok (.iaload, 1) := by decide +kernel
theorem dX5_makeFirst_40 : decode cX5_makeFirst 40 = .ok (.iconst (-1), 1) := by decide +kernel
theorem dX5_makeFirst_41 : decode cX5_makeFirst 41 = .ok (.ixor, 1) := by decide +kernel
theorem dX5_makeFirst_42 : decode cX5_makeFirst 42 = .ok (.iand, 1) := by decide +kernel
theorem dX5_makeFirst_43 : decode cX5_makeFirst 43 = .ok (.iload_n 2, 1) := by decide +kernel
theorem dX5_makeFirst_44 : decode cX5_makeFirst 44 = .ok (.invokestatic 65, 3) := by decide +kernel
theorem dX5_makeFirst_47 : decode cX5_makeFirst 47 = .ok (.ifCond .eq 9, 3) := by decide +kernel
theorem dX5_makeFirst_50 : decode cX5_makeFirst 50 = .ok (.aload_n 0, 1) := by decide +kernel
theorem dX5_makeFirst_51 : decode cX5_makeFirst 51 = .ok (.iload_n 1, 1) := by decide +kernel
theorem dX5_makeFirst_52 : decode cX5_makeFirst 52 = .ok (.iload_n 2, 1) := by decide +kernel
theorem dX5_makeFirst_53 : decode cX5_makeFirst 53 = .ok (.invokevirtual 79, 3) := by decide +kernel
theorem dX5_makeFirst_56 : decode cX5_makeFirst 56 = .ok (.iinc 2 1, 3) := by decide +kernel
theorem dX5_makeFirst_59 : decode cX5_makeFirst 59 = .ok (.goto (-44), 3) := by decide +kernel
theorem dX5_makeFirst_62 : decode cX5_makeFirst 62 = .ok (.iinc 1 1, 3) := by decide +kernel
theorem dX5_makeFirst_65 : decode cX5_makeFirst 65 = .ok (.goto (-63), 3) := by decide +kernel
theorem dX5_makeFirst_68 : decode cX5_makeFirst 68 = .ok (.return_, 1) := by decide +kernel
theorem dX5_bringIn_0 : decode cX5_bringIn 0 = .ok (.iload_n 2, 1) := by decide +kernel
theorem dX5_bringIn_1 : decode cX5_bringIn 1 = .ok (.iconst 1, 1) := by decide +kernel
theorem dX5_bringIn_2 : decode cX5_bringIn 2 = .ok (.iadd, 1) := by decide +kernel
theorem dX5_bringIn_3 : decode cX5_bringIn 3 = .ok (.istore_n 3, 1) := by decide +kernel
theorem dX5_bringIn_4 : decode cX5_bringIn 4 = .ok (.iload_n 3, 1) := by decide +kernel
theorem dX5_bringIn_5 : decode cX5_bringIn 5 = .ok (.aload_n 0, 1) := by decide +kernel
theorem dX5_bringIn_6 : decode cX5_bringIn 6 = .ok (.getfield 31, 3) := by decide +kernel
theorem dX5_bringIn_9 : decode cX5_bringIn 9 = .ok (.getfield 48, 3) := by decide +kernel
theorem dX5_bringIn_12 : decode cX5_bringIn 12 = .ok (.if_icmp .ge 76, 3) := by decide +kernel
theorem dX5_bringIn_15 : decode cX5_bringIn 15 = .ok (.aload_n 0, 1) := by decide +kernel
theorem dX5_bringIn_16 : decode cX5_bringIn 16 = .ok (.getfield 9, 3) := by decide +kernel
theorem dX5_bringIn_19 : decode cX5_bringIn 19 = .ok (.iload_n 1, 1) := by decide +kernel
theorem dX5_bringIn_20 : decode cX5_bringIn 20 = .ok (.iaload, 1) := by decide +kernel
theorem dX5_bringIn_21 : decode cX5_bringIn 21 = .ok (.iload_n 3, 1) := by decide +kernel
theorem dX5_bringIn_22 : decode cX5_bringIn 22 = .ok (.invokestatic 65, 3) := by decide +kernel
theorem dX5_bringIn_25 : decode cX5_bringIn 25 = .ok (.ifCond .eq 57, 3) := by decide +kernel
theorem dX5_bringIn_28 : decode cX5_bringIn 28 = .ok (.aload_n 0, 1) := by decide +kernel
theorem dX5_bringIn_29 : decode cX5_bringIn 29 = .ok (.iload_n 1, 1) := by decide +kernel
theorem dX5_bringIn_30 : decode cX5_bringIn 30 = .ok (.iload_n 3, 1) := by decide +kernel
theorem dX5_bringIn_31 : decode cX5_bringIn 31 = .ok (.invokevirtual 76, 3) := by decide +kernel
theorem dX5_bringIn_34 : decode cX5_bringIn 34 = .ok (.aload_n 0, 1) := by decide +kernel
theorem dX5_bringIn_35 : decode cX5_bringIn 35 = .ok (.iload_n 1, 1) := by decide +kernel
theorem dX5_bringIn_36 : decode cX5_bringIn 36 = .ok (.iload_n 2, 1) := by decide +kernel
theorem dX5_bringIn_37 : decode cX5_bringIn 37 = .ok (.invokevirtual 69, 3) := by decide +kernel
theorem dX5_bringIn_40 : decode cX5_bringIn 40 = .ok (.aload_n 0, 1) := by decide +kernel
theorem dX5_bringIn_41 : decode cX5_bringIn 41 = .ok (.getfield 15, 3) := by decide +kernel
theorem dX5_bringIn_44 : decode cX5_bringIn 44 = .ok (.iload_n 2, 1) := by decide +kernel
theorem dX5_bringIn_45 : decode cX5_bringIn 45 = .ok (.iaload, 1) := by decide +kernel
theorem dX5_bringIn_46 : decode cX5_bringIn 46 = .ok (.aload_n 0, 1) := by decide +kernel
theorem dX5_bringIn_47 : decode cX5_bringIn 47 = .ok (.getfield 31, 3) := by decide +kernel
theorem dX5_bringIn_50 : decode cX5_bringIn 50 = .ok (.getfield 54, 3) := by decide +kernel
theorem dX5_bringIn_53 : decode cX5_bringIn 53 = .ok (.iconst 1, 1) := by decide +kernel
theorem dX5_bringIn_54 : decode cX5_bringIn 54 = .ok (.iaload, 1) := by decide +kernel
theorem dX5_bringIn_55 : decode cX5_bringIn 55 = .ok (.if_icmp .le 14, 3) := by decide +kernel
theorem dX5_bringIn_58 : decode cX5_bringIn 58 = .ok (.aload_n 0, 1) := by decide +kernel
theorem dX5_bringIn_59 : decode cX5_bringIn 59 = .ok (.iload_n 2, 1) := by decide +kernel
theorem dX5_bringIn_60 : decode cX5_bringIn 60 = .ok (.iload_n 1, 1) := by decide +kernel
theorem dX5_bringIn_61 : decode cX5_bringIn 61 = .ok (.iconst 1, 1) := by decide +kernel
theorem dX5_bringIn_62 : decode cX5_bringIn 62 = .ok (.iadd, 1) := by decide +kernel
theorem dX5_bringIn_63 : decode cX5_bringIn 63 = .ok (.invokevirtual 73, 3) := by decide +kernel
theorem dX5_bringIn_66 : decode cX5_bringIn 66 = .ok (.ifCond .eq 4, 3) := by decide +kernel
theorem dX5_bringIn_69 : decode cX5_bringIn 69 = .ok (.return_, 1) := by decide +kernel
theorem dX5_bringIn_70 : decode cX5_bringIn 70 = .ok (.aload_n 0, 1) := by decide +kernel
theorem dX5_bringIn_71 : decode cX5_bringIn 71 = .ok (.iload_n 1, 1) := by decide +kernel
theorem dX5_bringIn_72 : decode cX5_bringIn 72 = .ok (.iload_n 2, 1) := by decide +kernel
theorem dX5_bringIn_73 : decode cX5_bringIn 73 = .ok (.invokevirtual 76, 3) := by decide +kernel
theorem dX5_bringIn_76 : decode cX5_bringIn 76 = .ok (.aload_n 0, 1) := by decide +kernel
theorem dX5_bringIn_77 : decode cX5_bringIn 77 = .ok (.iload_n 1, 1) := by decide +kernel
theorem dX5_bringIn_78 : decode cX5_bringIn 78 = .ok (.iload_n 3, 1) := by decide +kernel
theorem dX5_bringIn_79 : decode cX5_bringIn 79 = .ok (.invokevirtual 69, 3) := by decide +kernel
theorem dX5_bringIn_82 : decode cX5_bringIn 82 = .ok (.iinc 3 1, 3) := by decide +kernel
theorem dX5_bringIn_85 : decode cX5_bringIn 85 = .ok (.goto (-81), 3) := by decide +kernel
theorem dX5_bringIn_88 : decode cX5_bringIn 88 = .ok (.return_, 1) := by decide +kernel
theorem dX5_take_0 : decode cX5_take 0 = .ok (.aload_n 0, 1) := by decide +kernel
theorem dX5_take_1 : decode cX5_take 1 = .ok (.getfield 9, 3) := by decide +kernel
theorem dX5_take_4 : decode cX5_take 4 = .ok (.iload_n 1, 1) := by decide +kernel
theorem dX5_take_5 : decode cX5_take 5 = .ok (.dup2, 1) := by decide +kernel
theorem dX5_take_6 : decode cX5_take 6 = .ok (.iaload, 1) := by decide +kernel
theorem dX5_take_7 : decode cX5_take 7 = .ok (.iconst 1, 1) := by decide +kernel
theorem dX5_take_8 : decode cX5_take 8 = .ok (.iload_n 2, 1) := by decide +kernel
theorem dX5_take_9 : decode cX5_take 9 = .ok (.ishl, 1) := by decide +kernel
theorem dX5_take_10 : decode cX5_take 10 = .ok (.ior, 1) := by decide +kernel
theorem dX5_take_11 : decode cX5_take 11 = .ok (.iastore, 1) := by decide +kernel
theorem dX5_take_12 : decode cX5_take 12 = .ok (.aload_n 0, 1) := by decide +kernel
theorem dX5_take_13 : decode cX5_take 13 = .ok (.getfield 15, 3) := by decide +kernel
theorem dX5_take_16 : decode cX5_take 16 = .ok (.iload_n 2, 1) := by decide +kernel
theorem dX5_take_17 : decode cX5_take 17 = .ok (.dup2, 1) := by decide +kernel
theorem dX5_take_18 : decode cX5_take 18 = .ok (.iaload, 1) := by decide +kernel
theorem dX5_take_19 : decode cX5_take 19 = .ok (.iconst 1, 1) := by decide +kernel
theorem dX5_take_20 : decode cX5_take 20 = .ok (.iadd, 1) := by decide +kernel
theorem dX5_take_21 : decode cX5_take 21 = .ok (.iastore, 1) := by decide +kernel
theorem dX5_take_22 : decode cX5_take 22 = .ok (.return_, 1) := by decide +kernel
theorem dX5_drop_0 : decode cX5_drop 0 = .ok (.aload_n 0, 1) := by decide +kernel
theorem dX5_drop_1 : decode cX5_drop 1 = .ok (.getfield 9, 3) := by decide +kernel
theorem dX5_drop_4 : decode cX5_drop 4 = .ok (.iload_n 1, 1) := by decide +kernel
theorem dX5_drop_5 : decode cX5_drop 5 = .ok (.dup2, 1) := by decide +kernel
theorem dX5_drop_6 : decode cX5_drop 6 = .ok (.iaload, 1) := by decide +kernel
theorem dX5_drop_7 : decode cX5_drop 7 = .ok (.iconst 1, 1) := by decide +kernel
theorem dX5_drop_8 : decode cX5_drop 8 = .ok (.iload_n 2, 1) := by decide +kernel
theorem dX5_drop_9 : decode cX5_drop 9 = .ok (.ishl, 1) := by decide +kernel
theorem dX5_drop_10 : decode cX5_drop 10 = .ok (.iconst (-1), 1) := by decide +kernel
theorem dX5_drop_11 : decode cX5_drop 11 = .ok (.ixor, 1) := by decide +kernel
theorem dX5_drop_12 : decode cX5_drop 12 = .ok (.iand, 1) := by decide +kernel
theorem dX5_drop_13 : decode cX5_drop 13 = .ok (.iastore, 1) := by decide +kernel
theorem dX5_drop_14 : decode cX5_drop 14 = .ok (.aload_n 0, 1) := by decide +kernel
theorem dX5_drop_15 : decode cX5_drop 15 = .ok (.getfield 15, 3) := by decide +kernel
theorem dX5_drop_18 : decode cX5_drop 18 = .ok (.iload_n 2, 1) := by decide +kernel
theorem dX5_drop_19 : decode cX5_drop 19 = .ok (.dup2, 1) := by decide +kernel
theorem dX5_drop_20 : decode cX5_drop 20 = .ok (.iaload, 1) := by decide +kernel
theorem dX5_drop_21 : decode cX5_drop 21 = .ok (.iconst 1, 1) := by decide +kernel
theorem dX5_drop_22 : decode cX5_drop 22 = .ok (.isub, 1) := by decide +kernel
theorem dX5_drop_23 : decode cX5_drop 23 = .ok (.iastore, 1) := by decide +kernel
theorem dX5_drop_24 : decode cX5_drop 24 = .ok (.return_, 1) := by decide +kernel
theorem dX5_passOn_0 : decode cX5_passOn 0 = .ok (.iconst 1, 1) := by decide +kernel
theorem dX5_passOn_1 : decode cX5_passOn 1 = .ok (.iload_n 1, 1) := by decide +kernel
theorem dX5_passOn_2 : decode cX5_passOn 2 = .ok (.ishl, 1) := by decide +kernel
theorem dX5_passOn_3 : decode cX5_passOn 3 = .ok (.istore_n 3, 1) := by decide +kernel
theorem dX5_passOn_4 : decode cX5_passOn 4 = .ok (.iload_n 3, 1) := by decide +kernel
theorem dX5_passOn_5 : decode cX5_passOn 5 = .ok (.istore 4, 2) := by decide +kernel
theorem dX5_passOn_7 : decode cX5_passOn 7 = .ok (.iconst 0, 1) := by decide +kernel
theorem dX5_passOn_8 : decode cX5_passOn 8 = .ok (.istore 5, 2) := by decide +kernel
theorem dX5_passOn_10 : decode cX5_passOn 10 = .ok (.iload 5, 2) := by decide +kernel
theorem dX5_passOn_12 : decode cX5_passOn 12 = .ok (.aload_n 0, 1) := by decide +kernel
theorem dX5_passOn_13 : decode cX5_passOn 13 = .ok (.getfield 31, 3) := by decide +kernel
theorem dX5_passOn_16 : decode cX5_passOn 16 = .ok (.getfield 48, 3) := by decide +kernel
theorem dX5_passOn_19 : decode cX5_passOn 19 = .ok (.if_icmp .ge 78, 3) := by decide +kernel
theorem dX5_passOn_22 : decode cX5_passOn 22 = .ok (.iload 4, 2) := by decide +kernel
theorem dX5_passOn_24 : decode cX5_passOn 24 = .ok (.ifCond .eq 73, 3) := by decide +kernel
theorem dX5_passOn_27 : decode cX5_passOn 27 = .ok (.aload_n 0, 1) := by decide +kernel
theorem dX5_passOn_28 : decode cX5_passOn 28 = .ok (.iload 4, 2) := by decide +kernel
theorem dX5_passOn_30 : decode cX5_passOn 30 = .ok (.invokevirtual 82, 3) := by decide +kernel
theorem dX5_passOn_33 : decode cX5_passOn 33 = .ok (.istore 6, 2) := by decide +kernel
theorem dX5_passOn_35 : decode cX5_passOn 35 = .ok (.iload 4, 2) := by decide +kernel
theorem dX5_passOn_37 : decode cX5_passOn 37 = .ok (.iconst 1, 1) := by decide +kernel
theorem dX5_passOn_38 : decode cX5_passOn 38 = .ok (.iload 6, 2) := by decide +kernel
theorem dX5_passOn_40 : decode cX5_passOn 40 = .ok (.ishl, 1) := by decide +kernel
theorem dX5_passOn_41 : decode cX5_passOn 41 = .ok (.iconst (-1), 1) := by decide +kernel
theorem dX5_passOn_42 : decode cX5_passOn 42 = .ok (.ixor, 1) := by decide +kernel
theorem dX5_passOn_43 : decode cX5_passOn 43 = .ok (.iand, 1) := by decide +kernel
theorem dX5_passOn_44 : decode cX5_passOn 44 = .ok (.istore 4, 2) := by decide +kernel
theorem dX5_passOn_46 : decode cX5_passOn 46 = .ok (.aload_n 0, 1) := by decide +kernel
theorem dX5_passOn_47 : decode cX5_passOn 47 = .ok (.iload 6, 2) := by decide +kernel
theorem dX5_passOn_49 : decode cX5_passOn 49 = .ok (.iload_n 2, 1) := by decide +kernel
theorem dX5_passOn_50 : decode cX5_passOn 50 = .ok (.iload_n 3, 1) := by decide +kernel
theorem dX5_passOn_51 : decode cX5_passOn 51 = .ok (.invokevirtual 85, 3) := by decide +kernel
theorem dX5_passOn_54 : decode cX5_passOn 54 = .ok (.istore 7, 2) := by decide +kernel
theorem dX5_passOn_56 : decode cX5_passOn 56 = .ok (.aload_n 0, 1) := by decide +kernel
theorem dX5_passOn_57 : decode cX5_passOn 57 = .ok (.iload 7, 2) := by decide +kernel
theorem dX5_passOn_59 : decode cX5_passOn 59 = .ok (.invokevirtual 89, 3) := by decide +kernel
theorem dX5_passOn_62 : decode cX5_passOn 62 = .ok (.istore 8, 2) := by decide +kernel
theorem dX5_passOn_64 : decode cX5_passOn 64 = .ok (.iload 8, 2) := by decide +kernel
theorem dX5_passOn_66 : decode cX5_passOn 66 = .ok (.iconst (-1), 1) := by decide +kernel
theorem dX5_passOn_67 : decode cX5_passOn 67 = .ok (.if_icmp .eq 12, 3) := by decide +kernel
theorem dX5_passOn_70 : decode cX5_passOn 70 = .ok (.aload_n 0, 1) := by decide +kernel
theorem dX5_passOn_71 : decode cX5_passOn 71 = .ok (.iload_n 1, 1) := by decide +kernel
theorem dX5_passOn_72 : decode cX5_passOn 72 = .ok (.iload 8, 2) := by decide +kernel
theorem dX5_passOn_74 : decode cX5_passOn 74 = .ok (.invokevirtual 92, 3) := by decide +kernel
theorem dX5_passOn_77 : decode cX5_passOn 77 = .ok (.iconst 1, 1) := by decide +kernel
theorem dX5_passOn_78 : decode cX5_passOn 78 = .ok (.ireturn, 1) := by decide +kernel
theorem dX5_passOn_79 : decode cX5_passOn 79 = .ok (.iload_n 3, 1) := by decide +kernel
theorem dX5_passOn_80 : decode cX5_passOn 80 = .ok (.iload 7, 2) := by decide +kernel
theorem dX5_passOn_82 : decode cX5_passOn 82 = .ok (.ior, 1) := by decide +kernel
theorem dX5_passOn_83 : decode cX5_passOn 83 = .ok (.istore_n 3, 1) := by decide +kernel
theorem dX5_passOn_84 : decode cX5_passOn 84 = .ok (.iload 4, 2) := by decide +kernel
theorem dX5_passOn_86 : decode cX5_passOn 86 = .ok (.iload 7, 2) := by decide +kernel
theorem dX5_passOn_88 : decode cX5_passOn 88 = .ok (.ior, 1) := by decide +kernel
theorem dX5_passOn_89 : decode cX5_passOn 89 = .ok (.istore 4, 2) := by decide +kernel
theorem dX5_passOn_91 : decode cX5_passOn 91 = .ok (.iinc 5 1, 3) := by decide +kernel
theorem dX5_passOn_94 : decode cX5_passOn 94 = .ok (.goto (-84), 3) := by decide +kernel
theorem dX5_passOn_97 : decode cX5_passOn 97 = .ok (.iconst 0, 1) := by decide +kernel
theorem dX5_passOn_98 : decode cX5_passOn 98 = .ok (.ireturn, 1) := by decide +kernel
theorem dX5_leastOf_0 : decode cX5_leastOf 0 = .ok (.iconst 0, 1) := by decide +kernel
theorem dX5_leastOf_1 : decode cX5_leastOf 1 = .ok (.istore_n 2, 1) := by decide +kernel
theorem dX5_leastOf_2 : decode cX5_leastOf 2 = .ok (.iload_n 2, 1) := by decide +kernel
theorem dX5_leastOf_3 : decode cX5_leastOf 3 = .ok (.aload_n 0, 1) := by decide +kernel
theorem dX5_leastOf_4 : decode cX5_leastOf 4 = .ok (.getfield 31, 3) := by decide +kernel
theorem dX5_leastOf_7 : decode cX5_leastOf 7 = .ok (.getfield 48, 3) := by decide +kernel
theorem dX5_leastOf_10 : decode cX5_leastOf 10 = .ok (.if_icmp .ge 19, 3) := by decide +kernel
theorem dX5_leastOf_13 : decode cX5_leastOf 13 = .ok (.iload_n 1, 1) := by decide +kernel
theorem dX5_leastOf_14 : decode cX5_leastOf 14 = .ok (.iload_n 2, 1) := by decide +kernel
theorem dX5_leastOf_15 : decode cX5_leastOf 15 = .ok (.invokestatic 65, 3) := by decide +kernel
theorem dX5_leastOf_18 : decode cX5_leastOf 18 = .ok (.ifCond .eq 5, 3) := by decide +kernel
theorem dX5_leastOf_21 : decode cX5_leastOf 21 = .ok (.iload_n 2, 1) := by decide +kernel
theorem dX5_leastOf_22 : decode cX5_leastOf 22 = .ok (.ireturn, 1) := by decide +kernel
theorem dX5_leastOf_23 : decode cX5_leastOf 23 = .ok (.iinc 2 1, 3) := by decide +kernel
theorem dX5_leastOf_26 : decode cX5_leastOf 26 = .ok (.goto (-24), 3) := by decide +kernel
theorem dX5_leastOf_29 : decode cX5_leastOf 29 = .ok (.iconst 0, 1) := by decide +kernel
theorem dX5_leastOf_30 : decode cX5_leastOf 30 = .ok (.ireturn, 1) := by decide +kernel
theorem dX5_reach_0 : decode cX5_reach 0 = .ok (.iconst 0, 1) := by decide +kernel
theorem dX5_reach_1 : decode cX5_reach 1 = .ok (.istore 4, 2) := by decide +kernel
theorem dX5_reach_3 : decode cX5_reach 3 = .ok (.iload_n 2, 1) := by decide +kernel
theorem dX5_reach_4 : decode cX5_reach 4 = .ok (.istore 5, 2) := by decide +kernel
theorem dX5_reach_6 : decode cX5_reach 6 = .ok (.iload 5, 2) := by decide +kernel
theorem dX5_reach_8 : decode cX5_reach 8 = .ok (.aload_n 0, 1) := by decide +kernel
theorem dX5_reach_9 : decode cX5_reach 9 = .ok (.getfield 31, 3) := by decide +kernel
theorem dX5_reach_12 : decode cX5_reach 12 = .ok (.getfield 48, 3) := by decide +kernel
theorem dX5_reach_15 : decode cX5_reach 15 = .ok (.if_icmp .ge 108, 3) := by decide +kernel
theorem dX5_reach_18 : decode cX5_reach 18 = .ok (.aload_n 0, 1) := by decide +kernel
theorem dX5_reach_19 : decode cX5_reach 19 = .ok (.getfield 9, 3) := by decide +kernel
theorem dX5_reach_22 : decode cX5_reach 22 = .ok (.iload 5, 2) := by decide +kernel
theorem dX5_reach_24 : decode cX5_reach 24 = .ok (.iaload, 1) := by decide +kernel
theorem dX5_reach_25 : decode cX5_reach 25 = .ok (.iload_n 1, 1) := by decide +kernel
theorem dX5_reach_26 : decode cX5_reach 26 = .ok (.invokestatic 65, 3) := by decide +kernel
theorem dX5_reach_29 : decode cX5_reach 29 = .ok (.ifCond .eq 88, 3) := by decide +kernel
theorem dX5_reach_32 : decode cX5_reach 32 = .ok (.aload_n 0, 1) := by decide +kernel
theorem dX5_reach_33 : decode cX5_reach 33 = .ok (.getfield 31, 3) := by decide +kernel
theorem dX5_reach_36 : decode cX5_reach 36 = .ok (.iload 5, 2) := by decide +kernel
theorem dX5_reach_38 : decode cX5_reach 38 = .ok (.invokevirtual 61, 3) := by decide +kernel
theorem dX5_reach_41 : decode cX5_reach 41 = .ok (.aload_n 0, 1) := by decide +kernel
theorem dX5_reach_42 : decode cX5_reach 42 = .ok (.getfield 9, 3) := by decide +kernel
theorem dX5_reach_45 : decode cX5_reach 45 = .ok (.iload 5, 2) := by decide +kernel
theorem dX5_reach_47 : decode cX5_reach 47 = .ok (.iaload, 1) := by decide +kernel
theorem dX5_reach_48 : decode cX5_reach 48 = .ok (.iconst (-1), 1) := by decide +kernel
theorem dX5_reach_49 : decode cX5_reach 49 = .ok (.ixor, 1) := by decide +kernel
theorem dX5_reach_50 : decode cX5_reach 50 = .ok (.iand, 1) := by decide +kernel
theorem dX5_reach_51 : decode cX5_reach 51 = .ok (.iload_n 3, 1) := by decide +kernel
theorem dX5_reach_52 : decode cX5_reach 52 = .ok (.iconst (-1), 1) := by decide +kernel
theorem dX5_reach_53 : decode cX5_reach 53 = .ok (.ixor, 1) := by decide +kernel
theorem dX5_reach_54 : decode cX5_reach 54 = .ok (.iand, 1) := by decide +kernel
theorem dX5_reach_55 : decode cX5_reach 55 = .ok (.iload 4, 2) := by decide +kernel
theorem dX5_reach_57 : decode cX5_reach 57 = .ok (.iconst (-1), 1) := by decide +kernel
theorem dX5_reach_58 : decode cX5_reach 58 = .ok (.ixor, 1) := by decide +kernel
theorem dX5_reach_59 : decode cX5_reach 59 = .ok (.iand, 1) := by decide +kernel
theorem dX5_reach_60 : decode cX5_reach 60 = .ok (.istore 6, 2) := by decide +kernel
theorem dX5_reach_62 : decode cX5_reach 62 = .ok (.iconst 0, 1) := by decide +kernel
theorem dX5_reach_63 : decode cX5_reach 63 = .ok (.istore 7, 2) := by decide +kernel
theorem dX5_reach_65 : decode cX5_reach 65 = .ok (.iload 7, 2) := by decide +kernel
theorem dX5_reach_67 : decode cX5_reach 67 = .ok (.aload_n 0, 1) := by decide +kernel
theorem dX5_reach_68 : decode cX5_reach 68 = .ok (.getfield 31, 3) := by decide +kernel
theorem dX5_reach_71 : decode cX5_reach 71 = .ok (.getfield 48, 3) := by decide +kernel
theorem dX5_reach_74 : decode cX5_reach 74 = .ok (.if_icmp .ge 36, 3) := by decide +kernel
theorem dX5_reach_77 : decode cX5_reach 77 = .ok (.iload 6, 2) := by decide +kernel
theorem dX5_reach_79 : decode cX5_reach 79 = .ok (.iload 7, 2) := by decide +kernel
theorem dX5_reach_81 : decode cX5_reach 81 = .ok (.invokestatic 65, 3) := by decide +kernel
theorem dX5_reach_84 : decode cX5_reach 84 = .ok (.ifCond .eq 20, 3) := by decide +kernel
theorem dX5_reach_87 : decode cX5_reach 87 = .ok (.aload_n 0, 1) := by decide +kernel
theorem dX5_reach_88 : decode cX5_reach 88 = .ok (.getfield 18, 3) := by decide +kernel
theorem dX5_reach_91 : decode cX5_reach 91 = .ok (.iload 7, 2) := by decide +kernel
theorem dX5_reach_93 : decode cX5_reach 93 = .ok (.iload_n 1, 1) := by decide +kernel
theorem dX5_reach_94 : decode cX5_reach 94 = .ok (.iastore, 1) := by decide +kernel
theorem dX5_reach_95 : decode cX5_reach 95 = .ok (.aload_n 0, 1) := by decide +kernel
theorem dX5_reach_96 : decode cX5_reach 96 = .ok (.getfield 21, 3) := by decide +kernel
theorem dX5_reach_99 : decode cX5_reach 99 = .ok (.iload 7, 2) := by decide +kernel
theorem dX5_reach_101 : decode cX5_reach 101 = .ok (.iload 5, 2) := by decide +kernel
theorem dX5_reach_103 : decode cX5_reach 103 = .ok (.iastore, 1) := by decide +kernel
theorem dX5_reach_104 : decode cX5_reach 104 = .ok (.iinc 7 1, 3) := by decide +kernel
theorem dX5_reach_107 : decode cX5_reach 107 = .ok (.goto (-42), 3) := by decide +kernel
theorem dX5_reach_110 : decode cX5_reach 110 = .ok (.iload 4, 2) := by decide +kernel
theorem dX5_reach_112 : decode cX5_reach 112 = .ok (.iload 6, 2) := by decide +kernel
theorem dX5_reach_114 : decode cX5_reach 114 = .ok (.ior, 1) := by decide +kernel
theorem dX5_reach_115 : decode cX5_reach 115 = .ok (.istore 4, 2) := by decide +kernel
theorem dX5_reach_117 : decode cX5_reach 117 = .ok (.iinc 5 1, 3) := by decide +kernel
theorem dX5_reach_120 : decode cX5_reach 120 = .ok (.goto (-114), 3) := by decide +kernel
theorem dX5_reach_123 : decode cX5_reach 123 = .ok (.iload 4, 2) := by decide +kernel
theorem dX5_reach_125 : decode cX5_reach 125 = .ok (.ireturn, 1) := by decide +kernel
theorem dX5_withRoom_0 : decode cX5_withRoom 0 = .ok (.iconst 0, 1) := by decide +kernel
theorem dX5_withRoom_1 : decode cX5_withRoom 1 = .ok (.istore_n 2, 1) := by decide +kernel
theorem dX5_withRoom_2 : decode cX5_withRoom 2 = .ok (.iload_n 2, 1) := by decide +kernel
theorem dX5_withRoom_3 : decode cX5_withRoom 3 = .ok (.aload_n 0, 1) := by decide +kernel
theorem dX5_withRoom_4 : decode cX5_withRoom 4 = .ok (.getfield 31, 3) := by decide +kernel
theorem dX5_withRoom_7 : decode cX5_withRoom 7 = .ok (.getfield 48, 3) := by decide +kernel
theorem dX5_withRoom_10 : decode cX5_withRoom 10 = .ok (.if_icmp .ge 37, 3) := by decide +kernel
theorem dX5_withRoom_13 : decode cX5_withRoom 13 = .ok (.iload_n 1, 1) := by decide +kernel
theorem dX5_withRoom_14 : decode cX5_withRoom 14 = .ok (.iload_n 2, 1) := by decide +kernel
theorem dX5_withRoom_15 : decode cX5_withRoom 15 = .ok (.invokestatic 65, 3) := by decide +kernel
theorem dX5_withRoom_18 : decode cX5_withRoom 18 = .ok (.ifCond .eq 23, 3) := by decide +kernel
theorem dX5_withRoom_21 : decode cX5_withRoom 21 = .ok (.aload_n 0, 1) := by decide +kernel
theorem dX5_withRoom_22 : decode cX5_withRoom 22 = .ok (.getfield 15, 3) := by decide +kernel
theorem dX5_withRoom_25 : decode cX5_withRoom 25 = .ok (.iload_n 2, 1) := by decide +kernel
theorem dX5_withRoom_26 : decode cX5_withRoom 26 = .ok (.iaload, 1) := by decide +kernel
theorem dX5_withRoom_27 : decode cX5_withRoom 27 = .ok (.aload_n 0, 1) := by decide +kernel
theorem dX5_withRoom_28 : decode cX5_withRoom 28 = .ok (.getfield 31, 3) := by decide +kernel
theorem dX5_withRoom_31 : decode cX5_withRoom 31 = .ok (.getfield 54, 3) := by decide +kernel
theorem dX5_withRoom_34 : decode cX5_withRoom 34 = .ok (.iconst 1, 1) := by decide +kernel
theorem dX5_withRoom_35 : decode cX5_withRoom 35 = .ok (.iaload, 1) := by decide +kernel
theorem dX5_withRoom_36 : decode cX5_withRoom 36 = .ok (.if_icmp .ge 5, 3) := by decide +kernel
theorem dX5_withRoom_39 : decode cX5_withRoom 39 = .ok (.iload_n 2, 1) := by decide +kernel
theorem dX5_withRoom_40 : decode cX5_withRoom 40 = .ok (.ireturn, 1) := by decide +kernel
theorem dX5_withRoom_41 : decode cX5_withRoom 41 = .ok (.iinc 2 1, 3) := by decide +kernel
theorem dX5_withRoom_44 : decode cX5_withRoom 44 = .ok (.goto (-42), 3) := by decide +kernel
theorem dX5_withRoom_47 : decode cX5_withRoom 47 = .ok (.iconst (-1), 1) := by decide +kernel
theorem dX5_withRoom_48 : decode cX5_withRoom 48 = .ok (.ireturn, 1) := by decide +kernel
theorem dX5_handDown_0 : decode cX5_handDown 0 = .ok (.iload_n 2, 1) := by decide +kernel
theorem dX5_handDown_1 : decode cX5_handDown 1 = .ok (.istore_n 3, 1) := by decide +kernel
theorem dX5_handDown_2 : decode cX5_handDown 2 = .ok (.iconst 0, 1) := by decide +kernel
theorem dX5_handDown_3 : decode cX5_handDown 3 = .ok (.istore 4, 2) := by decide +kernel
theorem dX5_handDown_5 : decode cX5_handDown 5 = .ok (.iload 4, 2) := by decide +kernel
theorem dX5_handDown_7 : decode cX5_handDown 7 = .ok (.aload_n 0, 1) := by decide +kernel
theorem dX5_handDown_8 : decode cX5_handDown 8 = .ok (.getfield 31, 3) := by decide +kernel
theorem dX5_handDown_11 : decode cX5_handDown 11 = .ok (.getfield 48, 3) := by decide +kernel
theorem dX5_handDown_14 : decode cX5_handDown 14 = .ok (.if_icmp .ge 48, 3) := by decide +kernel
theorem dX5_handDown_17 : decode cX5_handDown 17 = .ok (.iload_n 3, 1) := by decide +kernel
theorem dX5_handDown_18 : decode cX5_handDown 18 = .ok (.iload_n 1, 1) := by decide +kernel
theorem dX5_handDown_19 : decode cX5_handDown 19 = .ok (.if_icmp .eq 43, 3) := by decide +kernel
theorem dX5_handDown_22 : decode cX5_handDown 22 = .ok (.aload_n 0, 1) := by decide +kernel
theorem dX5_handDown_23 : decode cX5_handDown 23 = .ok (.getfield 21, 3) := by decide +kernel
theorem dX5_handDown_26 : decode cX5_handDown 26 = .ok (.iload_n 3, 1) := by decide +kernel
theorem dX5_handDown_27 : decode cX5_handDown 27 = .ok (.iaload, 1) := by decide +kernel
theorem dX5_handDown_28 : decode cX5_handDown 28 = .ok (.istore 5, 2) := by decide +kernel
theorem dX5_handDown_30 : decode cX5_handDown 30 = .ok (.aload_n 0, 1) := by decide +kernel
theorem dX5_handDown_31 : decode cX5_handDown 31 = .ok (.getfield 18, 3) := by decide +kernel
theorem dX5_handDown_34 : decode cX5_handDown 34 = .ok (.iload_n 3, 1) := by decide +kernel
theorem dX5_handDown_35 : decode cX5_handDown 35 = .ok (.iaload, 1) := by decide +kernel
theorem dX5_handDown_36 : decode cX5_handDown 36 = .ok (.istore 6, 2) := by decide +kernel
theorem dX5_handDown_38 : decode cX5_handDown 38 = .ok (.aload_n 0, 1) := by decide +kernel
theorem dX5_handDown_39 : decode cX5_handDown 39 = .ok (.iload 5, 2) := by decide +kernel
theorem dX5_handDown_41 : decode cX5_handDown 41 = .ok (.iload 6, 2) := by decide +kernel
theorem dX5_handDown_43 : decode cX5_handDown 43 = .ok (.invokevirtual 76, 3) := by decide +kernel
theorem dX5_handDown_46 : decode cX5_handDown 46 = .ok (.aload_n 0, 1) := by decide +kernel
theorem dX5_handDown_47 : decode cX5_handDown 47 = .ok (.iload 5, 2) := by decide +kernel
theorem dX5_handDown_49 : decode cX5_handDown 49 = .ok (.iload_n 3, 1) := by decide +kernel
theorem dX5_handDown_50 : decode cX5_handDown 50 = .ok (.invokevirtual 69, 3) := by decide +kernel
theorem dX5_handDown_53 : decode cX5_handDown 53 = .ok (.iload 6, 2) := by decide +kernel
theorem dX5_handDown_55 : decode cX5_handDown 55 = .ok (.istore_n 3, 1) := by decide +kernel
theorem dX5_handDown_56 : decode cX5_handDown 56 = .ok (.iinc 4 1, 3) := by decide +kernel
theorem dX5_handDown_59 : decode cX5_handDown 59 = .ok (.goto (-54), 3) := by decide +kernel
theorem dX5_handDown_62 : decode cX5_handDown 62 = .ok (.return_, 1) := by decide +kernel
theorem dX5_leastLack_0 : decode cX5_leastLack 0 = .ok (.iconst 1, 1) := by decide +kernel
theorem dX5_leastLack_1 : decode cX5_leastLack 1 = .ok (.aload_n 0, 1) := by decide +kernel
theorem dX5_leastLack_2 : decode cX5_leastLack 2 = .ok (.getfield 31, 3) := by decide +kernel
theorem dX5_leastLack_5 : decode cX5_leastLack 5 = .ok (.getfield 48, 3) := by decide +kernel
theorem dX5_leastLack_8 : decode cX5_leastLack 8 = .ok (.ishl, 1) := by decide +kernel
theorem dX5_leastLack_9 : decode cX5_leastLack 9 = .ok (.istore_n 1, 1) := by decide +kernel
theorem dX5_leastLack_10 : decode cX5_leastLack 10 = .ok (.iconst 1, 1) := by decide +kernel
theorem dX5_leastLack_11 : decode cX5_leastLack 11 = .ok (.istore_n 2, 1) := by decide +kernel
theorem dX5_leastLack_12 : decode cX5_leastLack 12 = .ok (.iload_n 2, 1) := by decide +kernel
theorem dX5_leastLack_13 : decode cX5_leastLack 13 = .ok (.iload_n 1, 1) := by decide +kernel
theorem dX5_leastLack_14 : decode cX5_leastLack 14 = .ok (.if_icmp .ge 33, 3) := by decide +kernel
theorem dX5_leastLack_17 : decode cX5_leastLack 17 = .ok (.aload_n 0, 1) := by decide +kernel
theorem dX5_leastLack_18 : decode cX5_leastLack 18 = .ok (.getfield 31, 3) := by decide +kernel
theorem dX5_leastLack_21 : decode cX5_leastLack 21 = .ok (.getfield 54, 3) := by decide +kernel
theorem dX5_leastLack_24 : decode cX5_leastLack 24 = .ok (.iconst 0, 1) := by decide +kernel
theorem dX5_leastLack_25 : decode cX5_leastLack 25 = .ok (.iaload, 1) := by decide +kernel
theorem dX5_leastLack_26 : decode cX5_leastLack 26 = .ok (.iload_n 2, 1) := by decide +kernel
theorem dX5_leastLack_27 : decode cX5_leastLack 27 = .ok (.invokestatic 95, 3) := by decide +kernel
theorem dX5_leastLack_30 : decode cX5_leastLack 30 = .ok (.imul, 1) := by decide +kernel
theorem dX5_leastLack_31 : decode cX5_leastLack 31 = .ok (.aload_n 0, 1) := by decide +kernel
theorem dX5_leastLack_32 : decode cX5_leastLack 32 = .ok (.iload_n 2, 1) := by decide +kernel
theorem dX5_leastLack_33 : decode cX5_leastLack 33 = .ok (.invokevirtual 100, 3) := by decide +kernel
theorem dX5_leastLack_36 : decode cX5_leastLack 36 = .ok (.if_icmp .le 5, 3) := by decide +kernel
theorem dX5_leastLack_39 : decode cX5_leastLack 39 = .ok (.iload_n 2, 1) := by decide +kernel
theorem dX5_leastLack_40 : decode cX5_leastLack 40 = .ok (.ireturn, 1) := by decide +kernel
theorem dX5_leastLack_41 : decode cX5_leastLack 41 = .ok (.iinc 2 1, 3) := by decide +kernel
theorem dX5_leastLack_44 : decode cX5_leastLack 44 = .ok (.goto (-32), 3) := by decide +kernel
theorem dX5_leastLack_47 : decode cX5_leastLack 47 = .ok (.iconst 0, 1) := by decide +kernel
theorem dX5_leastLack_48 : decode cX5_leastLack 48 = .ok (.ireturn, 1) := by decide +kernel
theorem dX5_roomFor_0 : decode cX5_roomFor 0 = .ok (.iconst 0, 1) := by decide +kernel
theorem dX5_roomFor_1 : decode cX5_roomFor 1 = .ok (.istore_n 2, 1) := by decide +kernel
theorem dX5_roomFor_2 : decode cX5_roomFor 2 = .ok (.iconst 0, 1) := by decide +kernel
theorem dX5_roomFor_3 : decode cX5_roomFor 3 = .ok (.istore_n 3, 1) := by decide +kernel
theorem dX5_roomFor_4 : decode cX5_roomFor 4 = .ok (.iload_n 3, 1) := by decide +kernel
theorem dX5_roomFor_5 : decode cX5_roomFor 5 = .ok (.aload_n 0, 1) := by decide +kernel
theorem dX5_roomFor_6 : decode cX5_roomFor 6 = .ok (.getfield 31, 3) := by decide +kernel
theorem dX5_roomFor_9 : decode cX5_roomFor 9 = .ok (.getfield 48, 3) := by decide +kernel
theorem dX5_roomFor_12 : decode cX5_roomFor 12 = .ok (.if_icmp .ge 37, 3) := by decide +kernel
theorem dX5_roomFor_15 : decode cX5_roomFor 15 = .ok (.iload_n 2, 1) := by decide +kernel
theorem dX5_roomFor_16 : decode cX5_roomFor 16 = .ok (.aload_n 0, 1) := by decide +kernel
theorem dX5_roomFor_17 : decode cX5_roomFor 17 = .ok (.getfield 31, 3) := by decide +kernel
theorem dX5_roomFor_20 : decode cX5_roomFor 20 = .ok (.getfield 54, 3) := by decide +kernel
theorem dX5_roomFor_23 : decode cX5_roomFor 23 = .ok (.iconst 1, 1) := by decide +kernel
theorem dX5_roomFor_24 : decode cX5_roomFor 24 = .ok (.iaload, 1) := by decide +kernel
theorem dX5_roomFor_25 : decode cX5_roomFor 25 = .ok (.aload_n 0, 1) := by decide +kernel
theorem dX5_roomFor_26 : decode cX5_roomFor 26 = .ok (.getfield 31, 3) := by decide +kernel
theorem dX5_roomFor_29 : decode cX5_roomFor 29 = .ok (.iload_n 3, 1) := by decide +kernel
theorem dX5_roomFor_30 : decode cX5_roomFor 30 = .ok (.invokevirtual 61, 3) := by decide +kernel
theorem dX5_roomFor_33 : decode cX5_roomFor 33 = .ok (.iload_n 1, 1) := by decide +kernel
theorem dX5_roomFor_34 : decode cX5_roomFor 34 = .ok (.iand, 1) := by decide +kernel
theorem dX5_roomFor_35 : decode cX5_roomFor 35 = .ok (.invokestatic 95, 3) := by decide +kernel
theorem dX5_roomFor_38 : decode cX5_roomFor 38 = .ok (.invokestatic 103, 3) := by decide +kernel
theorem dX5_roomFor_41 : decode cX5_roomFor 41 = .ok (.iadd, 1) := by decide +kernel
theorem dX5_roomFor_42 : decode cX5_roomFor 42 = .ok (.istore_n 2, 1) := by decide +kernel
theorem dX5_roomFor_43 : decode cX5_roomFor 43 = .ok (.iinc 3 1, 3) := by decide +kernel
theorem dX5_roomFor_46 : decode cX5_roomFor 46 = .ok (.goto (-42), 3) := by decide +kernel
theorem dX5_roomFor_49 : decode cX5_roomFor 49 = .ok (.iload_n 2, 1) := by decide +kernel
theorem dX5_roomFor_50 : decode cX5_roomFor 50 = .ok (.ireturn, 1) := by decide +kernel
theorem dX5_countParts_0 : decode cX5_countParts 0 = .ok (.iconst 0, 1) := by decide +kernel
theorem dX5_countParts_1 : decode cX5_countParts 1 = .ok (.istore_n 1, 1) := by decide +kernel
theorem dX5_countParts_2 : decode cX5_countParts 2 = .ok (.iconst 0, 1) := by decide +kernel
theorem dX5_countParts_3 : decode cX5_countParts 3 = .ok (.istore_n 2, 1) := by decide +kernel
theorem dX5_countParts_4 : decode cX5_countParts 4 = .ok (.iconst 0, 1) := by decide +kernel
theorem dX5_countParts_5 : decode cX5_countParts 5 = .ok (.istore_n 3, 1) := by decide +kernel
theorem dX5_countParts_6 : decode cX5_countParts 6 = .ok (.iload_n 3, 1) := by decide +kernel
theorem dX5_countParts_7 : decode cX5_countParts 7 = .ok (.aload_n 0, 1) := by decide +kernel
theorem dX5_countParts_8 : decode cX5_countParts 8 = .ok (.getfield 31, 3) := by decide +kernel
theorem dX5_countParts_11 : decode cX5_countParts 11 = .ok (.getfield 48, 3) := by decide +kernel
theorem dX5_countParts_14 : decode cX5_countParts 14 = .ok (.if_icmp .ge 38, 3) := by decide +kernel
theorem dX5_countParts_17 : decode cX5_countParts 17 = .ok (.iload_n 2, 1) := by decide +kernel
theorem dX5_countParts_18 : decode cX5_countParts 18 = .ok (.iload_n 3, 1) := by decide +kernel
theorem dX5_countParts_19 : decode cX5_countParts 19 = .ok (.invokestatic 65, 3) := by decide +kernel
theorem dX5_countParts_22 : decode cX5_countParts 22 = .ok (.ifCond .ne 24, 3) := by decide +kernel
theorem dX5_countParts_25 : decode cX5_countParts 25 = .ok (.iload_n 2, 1) := by decide +kernel
theorem dX5_countParts_26 : decode cX5_countParts 26 = .ok (.aload_n 0, 1) := by decide +kernel
theorem dX5_countParts_27 : decode cX5_countParts 27 = .ok (.getfield 9, 3) := by decide +kernel
theorem dX5_countParts_30 : decode cX5_countParts 30 = .ok (.aload_n 0, 1) := by decide +kernel
theorem dX5_countParts_31 : decode cX5_countParts 31 = .ok (.getfield 31, 3) := by decide +kernel
theorem dX5_countParts_34 : decode cX5_countParts 34 = .ok (.getfield 48, 3) := by decide +kernel
theorem dX5_countParts_37 : decode cX5_countParts 37 = .ok (.iload_n 3, 1) := by decide +kernel
theorem dX5_countParts_38 : decode cX5_countParts 38 = .ok (.invokestatic 109, 3) := by decide +kernel
theorem dX5_countParts_41 : decode cX5_countParts 41 = .ok (.ior, 1) := by decide +kernel
theorem dX5_countParts_42 : decode cX5_countParts 42 = .ok (.istore_n 2, 1) := by decide +kernel
theorem dX5_countParts_43 : decode cX5_countParts 43 = .ok (.iinc 1 1, 3) := by decide +kernel
theorem dX5_countParts_46 : decode cX5_countParts 46 = .ok (.iinc 3 1, 3) := by decide +kernel
theorem dX5_countParts_49 : decode cX5_countParts 49 = .ok (.goto (-43), 3) := by decide +kernel
theorem dX5_countParts_52 : decode cX5_countParts 52 = .ok (.iload_n 1, 1) := by decide +kernel
theorem dX5_countParts_53 : decode cX5_countParts 53 = .ok (.ireturn, 1) := by decide +kernel
theorem dX6_init_0 : decode cX6_init 0 = .ok (.aload_n 0, 1) := by decide +kernel
theorem dX6_init_1 : decode cX6_init 1 = .ok (.invokespecial 1, 3) := by decide +kernel
theorem dX6_init_4 : decode cX6_init 4 = .ok (.aload_n 0, 1) := by decide +kernel
theorem dX6_init_5 : decode cX6_init 5 = .ok (.new 7, 3) := by decide +kernel
theorem dX6_init_8 : decode cX6_init 8 = .ok (.dup, 1) := by decide +kernel
theorem dX6_init_9 : decode cX6_init 9 = .ok (.invokespecial 9, 3) := by decide +kernel
theorem dX6_init_12 : decode cX6_init 12 = .ok (.putfield 10, 3) := by decide +kernel
theorem dX6_init_15 : decode cX6_init 15 = .ok (.aload_n 0, 1) := by decide +kernel
theorem dX6_init_16 : decode cX6_init 16 = .ok (.new 16, 3) := by decide +kernel
theorem dX6_init_19 : decode cX6_init 19 = .ok (.dup, 1) := by decide +kernel
theorem dX6_init_20 : decode cX6_init 20 = .ok (.aload_n 0, 1) := by decide +kernel
theorem dX6_init_21 : decode cX6_init 21 = .ok (.getfield 10, 3) := by decide +kernel
theorem dX6_init_24 : decode cX6_init 24 = .ok (.invokespecial 18, 3) := by decide +kernel
theorem dX6_init_27 : decode cX6_init 27 = .ok (.putfield 21, 3) := by decide +kernel
theorem dX6_init_30 : decode cX6_init 30 = .ok (.aload_n 0, 1) := by decide +kernel
theorem dX6_init_31 : decode cX6_init 31 = .ok (.new 25, 3) := by decide +kernel
theorem dX6_init_34 : decode cX6_init 34 = .ok (.dup, 1) := by decide +kernel
theorem dX6_init_35 : decode cX6_init 35 = .ok (.aload_n 0, 1) := by decide +kernel
theorem dX6_init_36 : decode cX6_init 36 = .ok (.getfield 10, 3) := by decide +kernel
theorem dX6_init_39 : decode cX6_init 39 = .ok (.invokespecial 27, 3) := by decide +kernel
theorem dX6_init_42 : decode cX6_init 42 = .ok (.putfield 28, 3) := by decide +kernel
theorem dX6_init_45 : decode cX6_init 45 = .ok (.aload_n 0, 1) := by decide +kernel
theorem dX6_init_46 : decode cX6_init 46 = .ok (.new 32, 3) := by decide +kernel
theorem dX6_init_49 : decode cX6_init 49 = .ok (.dup, 1) := by decide +kernel
theorem dX6_init_50 : decode cX6_init 50 = .ok (.aload_n 0, 1) := by decide +kernel
theorem dX6_init_51 : decode cX6_init 51 = .ok (.getfield 10, 3) := by decide +kernel
theorem dX6_init_54 : decode cX6_init 54 = .ok (.aload_n 0, 1) := by decide +kernel
theorem dX6_init_55 : decode cX6_init 55 = .ok (.getfield 21, 3) := by decide +kernel
theorem dX6_init_58 : decode cX6_init 58 = .ok (.invokespecial 34, 3) := by decide +kernel
theorem dX6_init_61 : decode cX6_init 61 = .ok (.putfield 37, 3) := by decide +kernel
theorem dX6_init_64 : decode cX6_init 64 = .ok (.aload_n 0, 1) := by decide +kernel
theorem dX6_init_65 : decode cX6_init 65 = .ok (.new 41, 3) := by decide +kernel
theorem dX6_init_68 : decode cX6_init 68 = .ok (.dup, 1) := by decide +kernel
theorem dX6_init_69 : decode cX6_init 69 = .ok (.aload_n 0, 1) := by decide +kernel
theorem dX6_init_70 : decode cX6_init 70 = .ok (.getfield 10, 3) := by decide +kernel
theorem dX6_init_73 : decode cX6_init 73 = .ok (.aload_n 0, 1) := by decide +kernel
theorem dX6_init_74 : decode cX6_init 74 = .ok (.getfield 21, 3) := by decide +kernel
theorem dX6_init_77 : decode cX6_init 77 = .ok (.invokespecial 43, 3) := by decide +kernel
theorem dX6_init_80 : decode cX6_init 80 = .ok (.putfield 44, 3) := by decide +kernel
theorem dX6_init_83 : decode cX6_init 83 = .ok (.return_, 1) := by decide +kernel
theorem dX6_pupils_0 : decode cX6_pupils 0 = .ok (.iload_n 1, 1) := by decide +kernel
theorem dX6_pupils_1 : decode cX6_pupils 1 = .ok (.iconst 2, 1) := by decide +kernel
theorem dX6_pupils_2 : decode cX6_pupils 2 = .ok (.if_icmp .lt 9, 3) := by decide +kernel
theorem dX6_pupils_5 : decode cX6_pupils 5 = .ok (.iload_n 1, 1) := by decide +kernel
theorem dX6_pupils_6 : decode cX6_pupils 6 = .ok (.bipush 8, 2) := by decide +kernel
theorem dX6_pupils_8 : decode cX6_pupils 8 = .ok (.if_icmp .le 7, 3) := by decide +kernel
theorem dX6_pupils_11 : decode cX6_pupils 11 = .ok (.sipush (-1002), 3) := by decide +kernel
theorem dX6_pupils_14 : decode cX6_pupils 14 = .ok (.ireturn, 1) := by decide +kernel
theorem dX6_pupils_15 : decode cX6_pupils 15 = .ok (.aload_n 0, 1) := by decide +kernel
theorem dX6_pupils_16 : decode cX6_pupils 16 = .ok (.getfield 10, 3) := by decide +kernel
theorem dX6_pupils_19 : decode cX6_pupils 19 = .ok (.getfield 48, 3) := by decide +kernel
theorem dX6_pupils_22 : decode cX6_pupils 22 = .ok (.istore_n 2, 1) := by decide +kernel
theorem dX6_pupils_23 : decode cX6_pupils 23 = .ok (.aload_n 0, 1) := by decide +kernel
theorem dX6_pupils_24 : decode cX6_pupils 24 = .ok (.getfield 10, 3) := by decide +kernel
theorem dX6_pupils_27 : decode cX6_pupils 27 = .ok (.iload_n 1, 1) := by decide +kernel
theorem dX6_pupils_28 : decode cX6_pupils 28 = .ok (.invokevirtual 52, 3) := by decide +kernel
theorem dX6_pupils_31 : decode cX6_pupils 31 = .ok (.aload_n 0, 1) := by decide +kernel
theorem dX6_pupils_32 : decode cX6_pupils 32 = .ok (.getfield 21, 3) := by decide +kernel
theorem dX6_pupils_35 : decode cX6_pupils 35 = .ok (.invokevirtual 56, 3) := by decide +kernel
theorem dX6_pupils_38 : decode cX6_pupils 38 = .ok (.aload_n 0, 1) := by decide +kernel
theorem dX6_pupils_39 : decode cX6_pupils 39 = .ok (.getfield 28, 3) := by decide +kernel
theorem dX6_pupils_42 : decode cX6_pupils 42 = .ok (.invokevirtual 59, 3) := by decide +kernel
theorem dX6_pupils_45 : decode cX6_pupils 45 = .ok (.aload_n 0, 1) := by decide +kernel
theorem dX6_pupils_46 : decode cX6_pupils 46 = .ok (.getfield 37, 3) := by decide +kernel
theorem dX6_pupils_49 : decode cX6_pupils 49 = .ok (.invokevirtual 62, 3) := by decide +kernel
theorem dX6_pupils_52 : decode cX6_pupils 52 = .ok (.aload_n 0, 1) := by decide +kernel
theorem dX6_pupils_53 : decode cX6_pupils 53 = .ok (.getfield 44, 3) := by decide +kernel
theorem dX6_pupils_56 : decode cX6_pupils 56 = .ok (.invokevirtual 63, 3) := by decide +kernel
theorem dX6_pupils_59 : decode cX6_pupils 59 = .ok (.iload_n 2, 1) := by decide +kernel
theorem dX6_pupils_60 : decode cX6_pupils 60 = .ok (.ireturn, 1) := by decide +kernel
theorem dX6_friends_0 : decode cX6_friends 0 = .ok (.aload_n 0, 1) := by decide +kernel
theorem dX6_friends_1 : decode cX6_friends 1 = .ok (.getfield 10, 3) := by decide +kernel
theorem dX6_friends_4 : decode cX6_friends 4 = .ok (.iload_n 1, 1) := by decide +kernel
theorem dX6_friends_5 : decode cX6_friends 5 = .ok (.invokevirtual 64, 3) := by decide +kernel
theorem dX6_friends_8 : decode cX6_friends 8 = .ok (.ifCond .eq 14, 3) := by decide +kernel
theorem dX6_friends_11 : decode cX6_friends 11 = .ok (.aload_n 0, 1) := by decide +kernel
theorem dX6_friends_12 : decode cX6_friends 12 = .ok (.getfield 10, 3) := by decide +kernel
theorem dX6_friends_15 : decode cX6_friends 15 = .ok (.iload_n 2, 1) := by decide +kernel
theorem dX6_friends_16 : decode cX6_friends 16 = .ok (.invokevirtual 64, 3) := by decide +kernel
theorem dX6_friends_19 : decode cX6_friends 19 = .ok (.ifCond .ne 7, 3) := by decide +kernel
theorem dX6_friends_22 : decode cX6_friends 22 = .ok (.sipush (-1001), 3) := by decide +kernel
theorem dX6_friends_25 : decode cX6_friends 25 = .ok (.ireturn, 1) := by decide +kernel
theorem dX6_friends_26 : decode cX6_friends 26 = .ok (.iload_n 1, 1) := by decide +kernel
theorem dX6_friends_27 : decode cX6_friends 27 = .ok (.iload_n 2, 1) := by decide +kernel
theorem dX6_friends_28 : decode cX6_friends 28 = .ok (.if_icmp .ne 7, 3) := by decide +kernel
theorem dX6_friends_31 : decode cX6_friends 31 = .ok (.sipush (-1003), 3) := by decide +kernel
theorem dX6_friends_34 : decode cX6_friends 34 = .ok (.ireturn, 1) := by decide +kernel
theorem dX6_friends_35 : decode cX6_friends 35 = .ok (.aload_n 0, 1) := by decide +kernel
theorem dX6_friends_36 : decode cX6_friends 36 = .ok (.getfield 10, 3) := by decide +kernel
theorem dX6_friends_39 : decode cX6_friends 39 = .ok (.getfield 68, 3) := by decide +kernel
theorem dX6_friends_42 : decode cX6_friends 42 = .ok (.iload_n 1, 1) := by decide +kernel
theorem dX6_friends_43 : decode cX6_friends 43 = .ok (.iaload, 1) := by decide +kernel
theorem dX6_friends_44 : decode cX6_friends 44 = .ok (.iload_n 2, 1) := by decide +kernel
theorem dX6_friends_45 : decode cX6_friends 45 = .ok (.invokestatic 72, 3) := by decide +kernel
theorem dX6_friends_48 : decode cX6_friends 48 = .ok (.ifCond .eq 7, 3) := by decide +kernel
theorem dX6_friends_51 : decode cX6_friends 51 = .ok (.iconst 1, 1) := by decide +kernel
theorem dX6_friends_52 : decode cX6_friends 52 = .ok (.goto 4, 3) := by decide +kernel
theorem dX6_friends_55 : decode cX6_friends 55 = .ok (.iconst 0, 1) := by decide +kernel
theorem dX6_friends_56 : decode cX6_friends 56 = .ok (.istore 4, 2) := by decide +kernel
theorem dX6_friends_58 : decode cX6_friends 58 = .ok (.aload_n 0, 1) := by decide +kernel
theorem dX6_friends_59 : decode cX6_friends 59 = .ok (.getfield 10, 3) := by decide +kernel
theorem dX6_friends_62 : decode cX6_friends 62 = .ok (.iload_n 1, 1) := by decide +kernel
theorem dX6_friends_63 : decode cX6_friends 63 = .ok (.iload_n 2, 1) := by decide +kernel
theorem dX6_friends_64 : decode cX6_friends 64 = .ok (.iload_n 3, 1) := by decide +kernel
theorem dX6_friends_65 : decode cX6_friends 65 = .ok (.invokevirtual 76, 3) := by decide +kernel
theorem dX6_friends_68 : decode cX6_friends 68 = .ok (.aload_n 0, 1) := by decide +kernel
theorem dX6_friends_69 : decode cX6_friends 69 = .ok (.getfield 28, 3) := by decide +kernel
theorem dX6_friends_72 : decode cX6_friends 72 = .ok (.invokevirtual 59, 3) := by decide +kernel
theorem dX6_friends_75 : decode cX6_friends 75 = .ok (.iload 4, 2) := by decide +kernel
theorem dX6_friends_77 : decode cX6_friends 77 = .ok (.ireturn, 1) := by decide +kernel
theorem dX6_rule_0 : decode cX6_rule 0 = .ok (.iload_n 1, 1) := by decide +kernel
theorem dX6_rule_1 : decode cX6_rule 1 = .ok (.ifCond .lt 26, 3) := by decide +kernel
theorem dX6_rule_4 : decode cX6_rule 4 = .ok (.iload_n 1, 1) := by decide +kernel
theorem dX6_rule_5 : decode cX6_rule 5 = .ok (.iconst 2, 1) := by decide +kernel
theorem dX6_rule_6 : decode cX6_rule 6 = .ok (.if_icmp .gt 21, 3) := by decide +kernel
theorem dX6_rule_9 : decode cX6_rule 9 = .ok (.iload_n 2, 1) := by decide +kernel
theorem dX6_rule_10 : decode cX6_rule 10 = .ok (.getstatic 80, 3) := by decide +kernel
theorem dX6_rule_13 : decode cX6_rule 13 = .ok (.iload_n 1, 1) := by decide +kernel
theorem dX6_rule_14 : decode cX6_rule 14 = .ok (.iaload, 1) := by decide +kernel
theorem dX6_rule_15 : decode cX6_rule 15 = .ok (.if_icmp .lt 12, 3) := by decide +kernel
theorem dX6_rule_18 : decode cX6_rule 18 = .ok (.iload_n 2, 1) := by decide +kernel
theorem dX6_rule_19 : decode cX6_rule 19 = .ok (.getstatic 83, 3) := by decide +kernel
theorem dX6_rule_22 : decode cX6_rule 22 = .ok (.iload_n 1, 1) := by decide +kernel
theorem dX6_rule_23 : decode cX6_rule 23 = .ok (.iaload, 1) := by decide +kernel
theorem dX6_rule_24 : decode cX6_rule 24 = .ok (.if_icmp .le 7, 3) := by decide +kernel
theorem dX6_rule_27 : decode cX6_rule 27 = .ok (.sipush (-1002), 3) := by decide +kernel
theorem dX6_rule_30 : decode cX6_rule 30 = .ok (.ireturn, 1) := by decide +kernel
theorem dX6_rule_31 : decode cX6_rule 31 = .ok (.aload_n 0, 1) := by decide +kernel
theorem dX6_rule_32 : decode cX6_rule 32 = .ok (.getfield 10, 3) := by decide +kernel
theorem dX6_rule_35 : decode cX6_rule 35 = .ok (.getfield 86, 3) := by decide +kernel
theorem dX6_rule_38 : decode cX6_rule 38 = .ok (.iload_n 1, 1) := by decide +kernel
theorem dX6_rule_39 : decode cX6_rule 39 = .ok (.iaload, 1) := by decide +kernel
theorem dX6_rule_40 : decode cX6_rule 40 = .ok (.istore_n 3, 1) := by decide +kernel
theorem dX6_rule_41 : decode cX6_rule 41 = .ok (.aload_n 0, 1) := by decide +kernel
theorem dX6_rule_42 : decode cX6_rule 42 = .ok (.getfield 10, 3) := by decide +kernel
theorem dX6_rule_45 : decode cX6_rule 45 = .ok (.getfield 86, 3) := by decide +kernel
theorem dX6_rule_48 : decode cX6_rule 48 = .ok (.iload_n 1, 1) := by decide +kernel
theorem dX6_rule_49 : decode cX6_rule 49 = .ok (.iload_n 2, 1) := by decide +kernel
theorem dX6_rule_50 : decode cX6_rule 50 = .ok (.iastore, 1) := by decide +kernel
theorem dX6_rule_51 : decode cX6_rule 51 = .ok (.aload_n 0, 1) := by decide +kernel
theorem dX6_rule_52 : decode cX6_rule 52 = .ok (.getfield 28, 3) := by decide +kernel
theorem dX6_rule_55 : decode cX6_rule 55 = .ok (.invokevirtual 59, 3) := by decide +kernel
theorem dX6_rule_58 : decode cX6_rule 58 = .ok (.iload_n 3, 1) := by decide +kernel
theorem dX6_rule_59 : decode cX6_rule 59 = .ok (.ireturn, 1) := by decide +kernel
theorem dX6_may_0 : decode cX6_may 0 = .ok (.aload_n 0, 1) := by decide +kernel
theorem dX6_may_1 : decode cX6_may 1 = .ok (.getfield 10, 3) := by decide +kernel
theorem dX6_may_4 : decode cX6_may 4 = .ok (.iload_n 1, 1) := by decide +kernel
theorem dX6_may_5 : decode cX6_may 5 = .ok (.invokevirtual 64, 3) := by decide +kernel
theorem dX6_may_8 : decode cX6_may 8 = .ok (.ifCond .eq 14, 3) := by decide +kernel
theorem dX6_may_11 : decode cX6_may 11 = .ok (.aload_n 0, 1) := by decide +kernel
theorem dX6_may_12 : decode cX6_may 12 = .ok (.getfield 10, 3) := by decide +kernel
theorem dX6_may_15 : decode cX6_may 15 = .ok (.iload_n 1, 1) := by decide +kernel
theorem dX6_may_16 : decode cX6_may 16 = .ok (.invokevirtual 89, 3) := by decide +kernel
theorem dX6_may_19 : decode cX6_may 19 = .ok (.goto 6, 3) := by decide +kernel
theorem dX6_may_22 : decode cX6_may 22 = .ok (.sipush (-1001), 3) := by decide +kernel
theorem dX6_may_25 : decode cX6_may 25 = .ok (.ireturn, 1) := by decide +kernel
theorem dX6_plan_0 : decode cX6_plan 0 = .ok (.aload_n 0, 1) := by decide +kernel
theorem dX6_plan_1 : decode cX6_plan 1 = .ok (.getfield 10, 3) := by decide +kernel
theorem dX6_plan_4 : decode cX6_plan 4 = .ok (.iload_n 1, 1) := by decide +kernel
theorem dX6_plan_5 : decode cX6_plan 5 = .ok (.invokevirtual 64, 3) := by decide +kernel
theorem dX6_plan_8 : decode cX6_plan 8 = .ok (.ifCond .ne 7, 3) := by decide +kernel
theorem dX6_plan_11 : decode cX6_plan 11 = .ok (.sipush (-1001), 3) := by decide +kernel
theorem dX6_plan_14 : decode cX6_plan 14 = .ok (.ireturn, 1) := by decide +kernel
theorem dX6_plan_15 : decode cX6_plan 15 = .ok (.aload_n 0, 1) := by decide +kernel
theorem dX6_plan_16 : decode cX6_plan 16 = .ok (.getfield 28, 3) := by decide +kernel
theorem dX6_plan_19 : decode cX6_plan 19 = .ok (.invokevirtual 93, 3) := by decide +kernel
theorem dX6_plan_22 : decode cX6_plan 22 = .ok (.ifCond .eq 15, 3) := by decide +kernel
theorem dX6_plan_25 : decode cX6_plan 25 = .ok (.aload_n 0, 1) := by decide +kernel
theorem dX6_plan_26 : decode cX6_plan 26 = .ok (.getfield 28, 3) := by decide +kernel
theorem dX6_plan_29 : decode cX6_plan 29 = .ok (.getfield 97, 3) := by decide +kernel
theorem dX6_plan_32 : decode cX6_plan 32 = .ok (.iload_n 1, 1) := by decide +kernel
theorem dX6_plan_33 : decode cX6_plan 33 = .ok (.iaload, 1) := by decide +kernel
theorem dX6_plan_34 : decode cX6_plan 34 = .ok (.goto 6, 3) := by decide +kernel
theorem dX6_plan_37 : decode cX6_plan 37 = .ok (.sipush (-1003), 3) := by decide +kernel
theorem dX6_plan_40 : decode cX6_plan 40 = .ok (.ireturn, 1) := by decide +kernel
theorem dX6_shared_0 : decode cX6_shared 0 = .ok (.aload_n 0, 1) := by decide +kernel
theorem dX6_shared_1 : decode cX6_shared 1 = .ok (.getfield 10, 3) := by decide +kernel
theorem dX6_shared_4 : decode cX6_shared 4 = .ok (.iload_n 1, 1) := by decide +kernel
theorem dX6_shared_5 : decode cX6_shared 5 = .ok (.invokevirtual 64, 3) := by decide +kernel
theorem dX6_shared_8 : decode cX6_shared 8 = .ok (.ifCond .ne 7, 3) := by decide +kernel
theorem dX6_shared_11 : decode cX6_shared 11 = .ok (.sipush (-1001), 3) := by decide +kernel
theorem dX6_shared_14 : decode cX6_shared 14 = .ok (.ireturn, 1) := by decide +kernel
theorem dX6_shared_15 : decode cX6_shared 15 = .ok (.aload_n 0, 1) := by decide +kernel
theorem dX6_shared_16 : decode cX6_shared 16 = .ok (.getfield 28, 3) := by decide +kernel
theorem dX6_shared_19 : decode cX6_shared 19 = .ok (.invokevirtual 93, 3) := by decide +kernel
theorem dX6_shared_22 : decode cX6_shared 22 = .ok (.ifCond .eq 15, 3) := by decide +kernel
theorem dX6_shared_25 : decode cX6_shared 25 = .ok (.aload_n 0, 1) := by decide +kernel
theorem dX6_shared_26 : decode cX6_shared 26 = .ok (.getfield 28, 3) := by decide +kernel
theorem dX6_shared_29 : decode cX6_shared 29 = .ok (.getfield 100, 3) := by decide +kernel
theorem dX6_shared_32 : decode cX6_shared 32 = .ok (.iload_n 1, 1) := by decide +kernel
theorem dX6_shared_33 : decode cX6_shared 33 = .ok (.iaload, 1) := by decide +kernel
theorem dX6_shared_34 : decode cX6_shared 34 = .ok (.goto 6, 3) := by decide +kernel
theorem dX6_shared_37 : decode cX6_shared 37 = .ok (.sipush (-1003), 3) := by decide +kernel
theorem dX6_shared_40 : decode cX6_shared 40 = .ok (.ireturn, 1) := by decide +kernel
theorem dX6_lack_0 : decode cX6_lack 0 = .ok (.aload_n 0, 1) := by decide +kernel
theorem dX6_lack_1 : decode cX6_lack 1 = .ok (.getfield 28, 3) := by decide +kernel
theorem dX6_lack_4 : decode cX6_lack 4 = .ok (.invokevirtual 93, 3) := by decide +kernel
theorem dX6_lack_7 : decode cX6_lack 7 = .ok (.ifCond .eq 7, 3) := by decide +kernel
theorem dX6_lack_10 : decode cX6_lack 10 = .ok (.iconst 0, 1) := by decide +kernel
theorem dX6_lack_11 : decode cX6_lack 11 = .ok (.goto 10, 3) := by decide +kernel
theorem dX6_lack_14 : decode cX6_lack 14 = .ok (.aload_n 0, 1) := by decide +kernel
theorem dX6_lack_15 : decode cX6_lack 15 = .ok (.getfield 28, 3) := by decide +kernel
theorem dX6_lack_18 : decode cX6_lack 18 = .ok (.invokevirtual 103, 3) := by decide +kernel
theorem dX6_lack_21 : decode cX6_lack 21 = .ok (.ireturn, 1) := by decide +kernel
theorem dX6_parts_0 : decode cX6_parts 0 = .ok (.aload_n 0, 1) := by decide +kernel
theorem dX6_parts_1 : decode cX6_parts 1 = .ok (.getfield 28, 3) := by decide +kernel
theorem dX6_parts_4 : decode cX6_parts 4 = .ok (.invokevirtual 93, 3) := by decide +kernel
theorem dX6_parts_7 : decode cX6_parts 7 = .ok (.ifCond .eq 13, 3) := by decide +kernel
theorem dX6_parts_10 : decode cX6_parts 10 = .ok (.aload_n 0, 1) := by decide +kernel
theorem dX6_parts_11 : decode cX6_parts 11 = .ok (.getfield 28, 3) := by decide +kernel
theorem dX6_parts_14 : decode cX6_parts 14 = .ok (.invokevirtual 107, 3) := by decide +kernel
theorem dX6_parts_17 : decode cX6_parts 17 = .ok (.goto 6, 3) := by decide +kernel
theorem dX6_parts_20 : decode cX6_parts 20 = .ok (.sipush (-1003), 3) := by decide +kernel
theorem dX6_parts_23 : decode cX6_parts 23 = .ok (.ireturn, 1) := by decide +kernel
theorem dX6_mark_0 : decode cX6_mark 0 = .ok (.aload_n 0, 1) := by decide +kernel
theorem dX6_mark_1 : decode cX6_mark 1 = .ok (.getfield 10, 3) := by decide +kernel
theorem dX6_mark_4 : decode cX6_mark 4 = .ok (.iload_n 1, 1) := by decide +kernel
theorem dX6_mark_5 : decode cX6_mark 5 = .ok (.invokevirtual 64, 3) := by decide +kernel
theorem dX6_mark_8 : decode cX6_mark 8 = .ok (.ifCond .eq 14, 3) := by decide +kernel
theorem dX6_mark_11 : decode cX6_mark 11 = .ok (.aload_n 0, 1) := by decide +kernel
theorem dX6_mark_12 : decode cX6_mark 12 = .ok (.getfield 10, 3) := by decide +kernel
theorem dX6_mark_15 : decode cX6_mark 15 = .ok (.iload_n 2, 1) := by decide +kernel
theorem dX6_mark_16 : decode cX6_mark 16 = .ok (.invokevirtual 64, 3) := by decide +kernel
theorem dX6_mark_19 : decode cX6_mark 19 = .ok (.ifCond .ne 7, 3) := by decide +kernel
theorem dX6_mark_22 : decode cX6_mark 22 = .ok (.sipush (-1001), 3) := by decide +kernel
theorem dX6_mark_25 : decode cX6_mark 25 = .ok (.ireturn, 1) := by decide +kernel
theorem dX6_mark_26 : decode cX6_mark 26 = .ok (.iload_n 3, 1) := by decide +kernel
theorem dX6_mark_27 : decode cX6_mark 27 = .ok (.iconst (-1), 1) := by decide +kernel
theorem dX6_mark_28 : decode cX6_mark 28 = .ok (.if_icmp .lt 9, 3) := by decide +kernel
theorem dX6_mark_31 : decode cX6_mark 31 = .ok (.iload_n 3, 1) := by decide +kernel
theorem dX6_mark_32 : decode cX6_mark 32 = .ok (.bipush 100, 2) := by decide +kernel
theorem dX6_mark_34 : decode cX6_mark 34 = .ok (.if_icmp .le 7, 3) := by decide +kernel
theorem dX6_mark_37 : decode cX6_mark 37 = .ok (.sipush (-1002), 3) := by decide +kernel
theorem dX6_mark_40 : decode cX6_mark 40 = .ok (.ireturn, 1) := by decide +kernel
theorem dX6_mark_41 : decode cX6_mark 41 = .ok (.iload_n 1, 1) := by decide +kernel
theorem dX6_mark_42 : decode cX6_mark 42 = .ok (.iload_n 2, 1) := by decide +kernel
theorem dX6_mark_43 : decode cX6_mark 43 = .ok (.if_icmp .ne 7, 3) := by decide +kernel
theorem dX6_mark_46 : decode cX6_mark 46 = .ok (.sipush (-1003), 3) := by decide +kernel
theorem dX6_mark_49 : decode cX6_mark 49 = .ok (.ireturn, 1) := by decide +kernel
theorem dX6_mark_50 : decode cX6_mark 50 = .ok (.aload_n 0, 1) := by decide +kernel
theorem dX6_mark_51 : decode cX6_mark 51 = .ok (.getfield 21, 3) := by decide +kernel
theorem dX6_mark_54 : decode cX6_mark 54 = .ok (.getfield 110, 3) := by decide +kernel
theorem dX6_mark_57 : decode cX6_mark 57 = .ok (.iload_n 1, 1) := by decide +kernel
theorem dX6_mark_58 : decode cX6_mark 58 = .ok (.aaload, 1) := by decide +kernel
theorem dX6_mark_59 : decode cX6_mark 59 = .ok (.iload_n 2, 1) := by decide +kernel
theorem dX6_mark_60 : decode cX6_mark 60 = .ok (.iaload, 1) := by decide +kernel
theorem dX6_mark_61 : decode cX6_mark 61 = .ok (.istore 4, 2) := by decide +kernel
theorem dX6_mark_63 : decode cX6_mark 63 = .ok (.aload_n 0, 1) := by decide +kernel
theorem dX6_mark_64 : decode cX6_mark 64 = .ok (.getfield 21, 3) := by decide +kernel
theorem dX6_mark_67 : decode cX6_mark 67 = .ok (.getfield 110, 3) := by decide +kernel
theorem dX6_mark_70 : decode cX6_mark 70 = .ok (.iload_n 1, 1) := by decide +kernel
theorem dX6_mark_71 : decode cX6_mark 71 = .ok (.aaload, 1) := by decide +kernel
theorem dX6_mark_72 : decode cX6_mark 72 = .ok (.iload_n 2, 1) := by decide +kernel
theorem dX6_mark_73 : decode cX6_mark 73 = .ok (.iload_n 3, 1) := by decide +kernel
theorem dX6_mark_74 : decode cX6_mark 74 = .ok (.iastore, 1) := by decide +kernel
theorem dX6_mark_75 : decode cX6_mark 75 = .ok (.aload_n 0, 1) := by decide +kernel
theorem dX6_mark_76 : decode cX6_mark 76 = .ok (.getfield 37, 3) := by decide +kernel
theorem dX6_mark_79 : decode cX6_mark 79 = .ok (.invokevirtual 62, 3) := by decide +kernel
theorem dX6_mark_82 : decode cX6_mark 82 = .ok (.aload_n 0, 1) := by decide +kernel
theorem dX6_mark_83 : decode cX6_mark 83 = .ok (.getfield 44, 3) := by decide +kernel
theorem dX6_mark_86 : decode cX6_mark 86 = .ok (.invokevirtual 63, 3) := by decide +kernel
theorem dX6_mark_89 : decode cX6_mark 89 = .ok (.iload 4, 2) := by decide +kernel
theorem dX6_mark_91 : decode cX6_mark 91 = .ok (.ireturn, 1) := by decide +kernel
theorem dX6_staff_0 : decode cX6_staff 0 = .ok (.aload_n 0, 1) := by decide +kernel
theorem dX6_staff_1 : decode cX6_staff 1 = .ok (.getfield 10, 3) := by decide +kernel
theorem dX6_staff_4 : decode cX6_staff 4 = .ok (.iload_n 1, 1) := by decide +kernel
theorem dX6_staff_5 : decode cX6_staff 5 = .ok (.invokevirtual 64, 3) := by decide +kernel
theorem dX6_staff_8 : decode cX6_staff 8 = .ok (.ifCond .ne 7, 3) := by decide +kernel
theorem dX6_staff_11 : decode cX6_staff 11 = .ok (.sipush (-1001), 3) := by decide +kernel
theorem dX6_staff_14 : decode cX6_staff 14 = .ok (.ireturn, 1) := by decide +kernel
theorem dX6_staff_15 : decode cX6_staff 15 = .ok (.iload_n 2, 1) := by decide +kernel
theorem dX6_staff_16 : decode cX6_staff 16 = .ok (.iconst (-1), 1) := by decide +kernel
theorem dX6_staff_17 : decode cX6_staff 17 = .ok (.if_icmp .lt 9, 3) := by decide +kernel
theorem dX6_staff_20 : decode cX6_staff 20 = .ok (.iload_n 2, 1) := by decide +kernel
theorem dX6_staff_21 : decode cX6_staff 21 = .ok (.bipush 100, 2) := by decide +kernel
theorem dX6_staff_23 : decode cX6_staff 23 = .ok (.if_icmp .le 7, 3) := by decide +kernel
theorem dX6_staff_26 : decode cX6_staff 26 = .ok (.sipush (-1002), 3) := by decide +kernel
theorem dX6_staff_29 : decode cX6_staff 29 = .ok (.ireturn, 1) := by decide +kernel
theorem dX6_staff_30 : decode cX6_staff 30 = .ok (.aload_n 0, 1) := by decide +kernel
theorem dX6_staff_31 : decode cX6_staff 31 = .ok (.getfield 21, 3) := by decide +kernel
theorem dX6_staff_34 : decode cX6_staff 34 = .ok (.getfield 114, 3) := by decide +kernel
theorem dX6_staff_37 : decode cX6_staff 37 = .ok (.iload_n 1, 1) := by decide +kernel
theorem dX6_staff_38 : decode cX6_staff 38 = .ok (.iaload, 1) := by decide +kernel
theorem dX6_staff_39 : decode cX6_staff 39 = .ok (.istore_n 3, 1) := by decide +kernel
theorem dX6_staff_40 : decode cX6_staff 40 = .ok (.aload_n 0, 1) := by decide +kernel
theorem dX6_staff_41 : decode cX6_staff 41 = .ok (.getfield 21, 3) := by decide +kernel
theorem dX6_staff_44 : decode cX6_staff 44 = .ok (.getfield 114, 3) := by decide +kernel
theorem dX6_staff_47 : decode cX6_staff 47 = .ok (.iload_n 1, 1) := by decide +kernel
theorem dX6_staff_48 : decode cX6_staff 48 = .ok (.iload_n 2, 1) := by decide +kernel
theorem dX6_staff_49 : decode cX6_staff 49 = .ok (.iastore, 1) := by decide +kernel
theorem dX6_staff_50 : decode cX6_staff 50 = .ok (.aload_n 0, 1) := by decide +kernel
theorem dX6_staff_51 : decode cX6_staff 51 = .ok (.getfield 37, 3) := by decide +kernel
theorem dX6_staff_54 : decode cX6_staff 54 = .ok (.invokevirtual 62, 3) := by decide +kernel
theorem dX6_staff_57 : decode cX6_staff 57 = .ok (.iload_n 3, 1) := by decide +kernel
theorem dX6_staff_58 : decode cX6_staff 58 = .ok (.ireturn, 1) := by decide +kernel
theorem dX6_count_0 : decode cX6_count 0 = .ok (.iload_n 1, 1) := by decide +kernel
theorem dX6_count_1 : decode cX6_count 1 = .ok (.tableswitch 99 0 6 #[43, 51, 59, 67, 75, 83, 91], 43) := by decide +kernel
theorem dX6_count_44 : decode cX6_count 44 = .ok (.aload_n 0, 1) := by decide +kernel
theorem dX6_count_45 : decode cX6_count 45 = .ok (.getfield 10, 3) := by decide +kernel
theorem dX6_count_48 : decode cX6_count 48 = .ok (.getfield 48, 3) := by decide +kernel
theorem dX6_count_51 : decode cX6_count 51 = .ok (.ireturn, 1) := by decide +kernel
theorem dX6_count_52 : decode cX6_count 52 = .ok (.aload_n 0, 1) := by decide +kernel
theorem dX6_count_53 : decode cX6_count 53 = .ok (.getfield 21, 3) := by decide +kernel
theorem dX6_count_56 : decode cX6_count 56 = .ok (.invokevirtual 117, 3) := by decide +kernel
theorem dX6_count_59 : decode cX6_count 59 = .ok (.ireturn, 1) := by decide +kernel
theorem dX6_count_60 : decode cX6_count 60 = .ok (.aload_n 0, 1) := by decide +kernel
theorem dX6_count_61 : decode cX6_count 61 = .ok (.getfield 21, 3) := by decide +kernel
theorem dX6_count_64 : decode cX6_count 64 = .ok (.invokevirtual 120, 3) := by decide +kernel
theorem dX6_count_67 : decode cX6_count 67 = .ok (.ireturn, 1) := by decide +kernel
theorem dX6_count_68 : decode cX6_count 68 = .ok (.aload_n 0, 1) := by decide +kernel
theorem dX6_count_69 : decode cX6_count 69 = .ok (.getfield 37, 3) := by decide +kernel
theorem dX6_count_72 : decode cX6_count 72 = .ok (.invokevirtual 123, 3) := by decide +kernel
theorem dX6_count_75 : decode cX6_count 75 = .ok (.ireturn, 1) := by decide +kernel
theorem dX6_count_76 : decode cX6_count 76 = .ok (.aload_n 0, 1) := by decide +kernel
theorem dX6_count_77 : decode cX6_count 77 = .ok (.getfield 37, 3) := by decide +kernel
theorem dX6_count_80 : decode cX6_count 80 = .ok (.invokevirtual 126, 3) := by decide +kernel
theorem dX6_count_83 : decode cX6_count 83 = .ok (.ireturn, 1) := by decide +kernel
theorem dX6_count_84 : decode cX6_count 84 = .ok (.aload_n 0, 1) := by decide +kernel
theorem dX6_count_85 : decode cX6_count 85 = .ok (.getfield 21, 3) := by decide +kernel
theorem dX6_count_88 : decode cX6_count 88 = .ok (.invokevirtual 129, 3) := by decide +kernel
theorem dX6_count_91 : decode cX6_count 91 = .ok (.ireturn, 1) := by decide +kernel
theorem dX6_count_92 : decode cX6_count 92 = .ok (.aload_n 0, 1) := by decide +kernel
theorem dX6_count_93 : decode cX6_count 93 = .ok (.getfield 10, 3) := by decide +kernel
theorem dX6_count_96 : decode cX6_count 96 = .ok (.invokevirtual 132, 3) := by decide +kernel
theorem dX6_count_99 : decode cX6_count 99 = .ok (.ireturn, 1) := by decide +kernel
theorem dX6_count_100 : decode cX6_count 100 = .ok (.sipush (-1002), 3) := by decide +kernel
theorem dX6_count_103 : decode cX6_count 103 = .ok (.ireturn, 1) := by decide +kernel
theorem dX6_piece_0 : decode cX6_piece 0 = .ok (.aload_n 0, 1) := by decide +kernel
theorem dX6_piece_1 : decode cX6_piece 1 = .ok (.getfield 10, 3) := by decide +kernel
theorem dX6_piece_4 : decode cX6_piece 4 = .ok (.iload_n 1, 1) := by decide +kernel
theorem dX6_piece_5 : decode cX6_piece 5 = .ok (.invokevirtual 64, 3) := by decide +kernel
theorem dX6_piece_8 : decode cX6_piece 8 = .ok (.ifCond .ne 7, 3) := by decide +kernel
theorem dX6_piece_11 : decode cX6_piece 11 = .ok (.sipush (-1001), 3) := by decide +kernel
theorem dX6_piece_14 : decode cX6_piece 14 = .ok (.ireturn, 1) := by decide +kernel
theorem dX6_piece_15 : decode cX6_piece 15 = .ok (.iload_n 2, 1) := by decide +kernel
theorem dX6_piece_16 : decode cX6_piece 16 = .ok (.ifCond .eq 12, 3) := by decide +kernel
theorem dX6_piece_19 : decode cX6_piece 19 = .ok (.iload_n 2, 1) := by decide +kernel
theorem dX6_piece_20 : decode cX6_piece 20 = .ok (.iconst 1, 1) := by decide +kernel
theorem dX6_piece_21 : decode cX6_piece 21 = .ok (.if_icmp .eq 7, 3) := by decide +kernel
theorem dX6_piece_24 : decode cX6_piece 24 = .ok (.sipush (-1002), 3) := by decide +kernel
theorem dX6_piece_27 : decode cX6_piece 27 = .ok (.ireturn, 1) := by decide +kernel
theorem dX6_piece_28 : decode cX6_piece 28 = .ok (.iload_n 2, 1) := by decide +kernel
theorem dX6_piece_29 : decode cX6_piece 29 = .ok (.ifCond .ne 14, 3) := by decide +kernel
theorem dX6_piece_32 : decode cX6_piece 32 = .ok (.aload_n 0, 1) := by decide +kernel
theorem dX6_piece_33 : decode cX6_piece 33 = .ok (.getfield 37, 3) := by decide +kernel
theorem dX6_piece_36 : decode cX6_piece 36 = .ok (.iload_n 1, 1) := by decide +kernel
theorem dX6_piece_37 : decode cX6_piece 37 = .ok (.invokevirtual 135, 3) := by decide +kernel
theorem dX6_piece_40 : decode cX6_piece 40 = .ok (.goto 11, 3) := by decide +kernel
theorem dX6_piece_43 : decode cX6_piece 43 = .ok (.aload_n 0, 1) := by decide +kernel
theorem dX6_piece_44 : decode cX6_piece 44 = .ok (.getfield 37, 3) := by decide +kernel
theorem dX6_piece_47 : decode cX6_piece 47 = .ok (.iload_n 1, 1) := by decide +kernel
theorem dX6_piece_48 : decode cX6_piece 48 = .ok (.invokevirtual 138, 3) := by decide +kernel
theorem dX6_piece_51 : decode cX6_piece 51 = .ok (.ireturn, 1) := by decide +kernel
theorem dX6_worth_0 : decode cX6_worth 0 = .ok (.aload_n 0, 1) := by decide +kernel
theorem dX6_worth_1 : decode cX6_worth 1 = .ok (.getfield 10, 3) := by decide +kernel
theorem dX6_worth_4 : decode cX6_worth 4 = .ok (.iload_n 1, 1) := by decide +kernel
theorem dX6_worth_5 : decode cX6_worth 5 = .ok (.invokevirtual 64, 3) := by decide +kernel
theorem dX6_worth_8 : decode cX6_worth 8 = .ok (.ifCond .ne 7, 3) := by decide +kernel
theorem dX6_worth_11 : decode cX6_worth 11 = .ok (.ldc2_w 141, 3) := by decide +kernel
theorem dX6_worth_14 : decode cX6_worth 14 = .ok (.lreturn, 1) := by decide +kernel
theorem dX6_worth_15 : decode cX6_worth 15 = .ok (.iload_n 2, 1) := by decide +kernel
theorem dX6_worth_16 : decode cX6_worth 16 = .ok (.ifCond .eq 12, 3) := by decide +kernel
theorem dX6_worth_19 : decode cX6_worth 19 = .ok (.iload_n 2, 1) := by decide +kernel
theorem dX6_worth_20 : decode cX6_worth 20 = .ok (.iconst 1, 1) := by decide +kernel
theorem dX6_worth_21 : decode cX6_worth 21 = .ok (.if_icmp .eq 7, 3) := by decide +kernel
theorem dX6_worth_24 : decode cX6_worth 24 = .ok (.ldc2_w 143, 3) := by decide +kernel
theorem dX6_worth_27 : decode cX6_worth 27 = .ok (.lreturn, 1) := by decide +kernel
theorem dX6_worth_28 : decode cX6_worth 28 = .ok (.aload_n 0, 1) := by decide +kernel
theorem dX6_worth_29 : decode cX6_worth 29 = .ok (.getfield 37, 3) := by decide +kernel
theorem dX6_worth_32 : decode cX6_worth 32 = .ok (.iload_n 1, 1) := by decide +kernel
theorem dX6_worth_33 : decode cX6_worth 33 = .ok (.invokevirtual 135, 3) := by decide +kernel
theorem dX6_worth_36 : decode cX6_worth 36 = .ok (.istore_n 3, 1) := by decide +kernel
theorem dX6_worth_37 : decode cX6_worth 37 = .ok (.iload_n 3, 1) := by decide +kernel
theorem dX6_worth_38 : decode cX6_worth 38 = .ok (.iconst (-1), 1) := by decide +kernel
theorem dX6_worth_39 : decode cX6_worth 39 = .ok (.if_icmp .ne 38, 3) := by decide +kernel
theorem dX6_worth_42 : decode cX6_worth 42 = .ok (.aload_n 0, 1) := by decide +kernel
theorem dX6_worth_43 : decode cX6_worth 43 = .ok (.getfield 21, 3) := by decide +kernel
theorem dX6_worth_46 : decode cX6_worth 46 = .ok (.getfield 114, 3) := by decide +kernel
theorem dX6_worth_49 : decode cX6_worth 49 = .ok (.iload_n 1, 1) := by decide +kernel
theorem dX6_worth_50 : decode cX6_worth 50 = .ok (.iaload, 1) := by decide +kernel
theorem dX6_worth_51 : decode cX6_worth 51 = .ok (.iconst (-1), 1) := by decide +kernel
theorem dX6_worth_52 : decode cX6_worth 52 = .ok (.if_icmp .ne 9, 3) := by decide +kernel
theorem dX6_worth_55 : decode cX6_worth 55 = .ok (.ldc2_w 145, 3) := by decide +kernel
theorem dX6_worth_58 : decode cX6_worth 58 = .ok (.goto 18, 3) := by decide +kernel
theorem dX6_worth_61 : decode cX6_worth 61 = .ok (.aload_n 0, 1) := by decide +kernel
theorem dX6_worth_62 : decode cX6_worth 62 = .ok (.getfield 21, 3) := by decide +kernel
theorem dX6_worth_65 : decode cX6_worth 65 = .ok (.getfield 114, 3) := by decide +kernel
theorem dX6_worth_68 : decode cX6_worth 68 = .ok (.iload_n 1, 1) := by decide +kernel
theorem dX6_worth_69 : decode cX6_worth 69 = .ok (.iaload, 1) := by decide +kernel
theorem dX6_worth_70 : decode cX6_worth 70 = .ok (.i2l, 1) := by decide +kernel
theorem dX6_worth_71 : decode cX6_worth 71 = .ok (.lconst 1, 1) := by decide +kernel
theorem dX6_worth_72 : decode cX6_worth 72 = .ok (.iload_n 2, 1) := by decide +kernel
theorem dX6_worth_73 : decode cX6_worth 73 = .ok (.invokestatic 147, 3) := by decide +kernel
theorem dX6_worth_76 : decode cX6_worth 76 = .ok (.lreturn, 1) := by decide +kernel
theorem dX6_worth_77 : decode cX6_worth 77 = .ok (.aload_n 0, 1) := by decide +kernel
theorem dX6_worth_78 : decode cX6_worth 78 = .ok (.getfield 37, 3) := by decide +kernel
theorem dX6_worth_81 : decode cX6_worth 81 = .ok (.iload_n 3, 1) := by decide +kernel
theorem dX6_worth_82 : decode cX6_worth 82 = .ok (.invokevirtual 151, 3) := by decide +kernel
theorem dX6_worth_85 : decode cX6_worth 85 = .ok (.ifCond .eq 28, 3) := by decide +kernel
theorem dX6_worth_88 : decode cX6_worth 88 = .ok (.aload_n 0, 1) := by decide +kernel
theorem dX6_worth_89 : decode cX6_worth 89 = .ok (.getfield 37, 3) := by decide +kernel
theorem dX6_worth_92 : decode cX6_worth 92 = .ok (.getfield 154, 3) := by decide +kernel
theorem dX6_worth_95 : decode cX6_worth 95 = .ok (.iload_n 1, 1) := by decide +kernel
theorem dX6_worth_96 : decode cX6_worth 96 = .ok (.laload, 1) := by decide +kernel
theorem dX6_worth_97 : decode cX6_worth 97 = .ok (.aload_n 0, 1) := by decide +kernel
theorem dX6_worth_98 : decode cX6_worth 98 = .ok (.getfield 37, 3) := by decide +kernel
theorem dX6_worth_101 : decode cX6_worth 101 = .ok (.getfield 158, 3) := by decide +kernel
theorem dX6_worth_104 : decode cX6_worth 104 = .ok (.iload_n 3, 1) := by decide +kernel
theorem dX6_worth_105 : decode cX6_worth 105 = .ok (.laload, 1) := by decide +kernel
theorem dX6_worth_106 : decode cX6_worth 106 = .ok (.iload_n 2, 1) := by decide +kernel
theorem dX6_worth_107 : decode cX6_worth 107 = .ok (.invokestatic 147, 3) := by decide +kernel
theorem dX6_worth_110 : decode cX6_worth 110 = .ok (.goto 6, 3) := by decide +kernel
theorem dX6_worth_113 : decode cX6_worth 113 = .ok (.ldc2_w 145, 3) := by decide +kernel
theorem dX6_worth_116 : decode cX6_worth 116 = .ok (.lreturn, 1) := by decide +kernel
theorem dX6_lean_0 : decode cX6_lean 0 = .ok (.aload_n 0, 1) := by decide +kernel
theorem dX6_lean_1 : decode cX6_lean 1 = .ok (.getfield 10, 3) := by decide +kernel
theorem dX6_lean_4 : decode cX6_lean 4 = .ok (.iload_n 1, 1) := by decide +kernel
theorem dX6_lean_5 : decode cX6_lean 5 = .ok (.invokevirtual 64, 3) := by decide +kernel
theorem dX6_lean_8 : decode cX6_lean 8 = .ok (.ifCond .ne 7, 3) := by decide +kernel
theorem dX6_lean_11 : decode cX6_lean 11 = .ok (.ldc2_w 141, 3) := by decide +kernel
theorem dX6_lean_14 : decode cX6_lean 14 = .ok (.lreturn, 1) := by decide +kernel
theorem dX6_lean_15 : decode cX6_lean 15 = .ok (.iload_n 2, 1) := by decide +kernel
theorem dX6_lean_16 : decode cX6_lean 16 = .ok (.ifCond .eq 12, 3) := by decide +kernel
theorem dX6_lean_19 : decode cX6_lean 19 = .ok (.iload_n 2, 1) := by decide +kernel
theorem dX6_lean_20 : decode cX6_lean 20 = .ok (.iconst 1, 1) := by decide +kernel
theorem dX6_lean_21 : decode cX6_lean 21 = .ok (.if_icmp .eq 7, 3) := by decide +kernel
theorem dX6_lean_24 : decode cX6_lean 24 = .ok (.ldc2_w 143, 3) := by decide +kernel
theorem dX6_lean_27 : decode cX6_lean 27 = .ok (.lreturn, 1) := by decide +kernel
theorem dX6_lean_28 : decode cX6_lean 28 = .ok (.aload_n 0, 1) := by decide +kernel
theorem dX6_lean_29 : decode cX6_lean 29 = .ok (.getfield 37, 3) := by decide +kernel
theorem dX6_lean_32 : decode cX6_lean 32 = .ok (.iload_n 1, 1) := by decide +kernel
theorem dX6_lean_33 : decode cX6_lean 33 = .ok (.invokevirtual 138, 3) := by decide +kernel
theorem dX6_lean_36 : decode cX6_lean 36 = .ok (.istore_n 3, 1) := by decide +kernel
theorem dX6_lean_37 : decode cX6_lean 37 = .ok (.iload_n 3, 1) := by decide +kernel
theorem dX6_lean_38 : decode cX6_lean 38 = .ok (.iconst (-1), 1) := by decide +kernel
theorem dX6_lean_39 : decode cX6_lean 39 = .ok (.if_icmp .eq 14, 3) := by decide +kernel
theorem dX6_lean_42 : decode cX6_lean 42 = .ok (.aload_n 0, 1) := by decide +kernel
theorem dX6_lean_43 : decode cX6_lean 43 = .ok (.getfield 37, 3) := by decide +kernel
theorem dX6_lean_46 : decode cX6_lean 46 = .ok (.iload_n 3, 1) := by decide +kernel
theorem dX6_lean_47 : decode cX6_lean 47 = .ok (.invokevirtual 151, 3) := by decide +kernel
theorem dX6_lean_50 : decode cX6_lean 50 = .ok (.ifCond .ne 7, 3) := by decide +kernel
theorem dX6_lean_53 : decode cX6_lean 53 = .ok (.ldc2_w 145, 3) := by decide +kernel
theorem dX6_lean_56 : decode cX6_lean 56 = .ok (.lreturn, 1) := by decide +kernel
theorem dX6_lean_57 : decode cX6_lean 57 = .ok (.aload_n 0, 1) := by decide +kernel
theorem dX6_lean_58 : decode cX6_lean 58 = .ok (.getfield 37, 3) := by decide +kernel
theorem dX6_lean_61 : decode cX6_lean 61 = .ok (.getfield 161, 3) := by decide +kernel
theorem dX6_lean_64 : decode cX6_lean 64 = .ok (.iload_n 1, 1) := by decide +kernel
theorem dX6_lean_65 : decode cX6_lean 65 = .ok (.laload, 1) := by decide +kernel
theorem dX6_lean_66 : decode cX6_lean 66 = .ok (.aload_n 0, 1) := by decide +kernel
theorem dX6_lean_67 : decode cX6_lean 67 = .ok (.getfield 37, 3) := by decide +kernel
theorem dX6_lean_70 : decode cX6_lean 70 = .ok (.getfield 158, 3) := by decide +kernel
theorem dX6_lean_73 : decode cX6_lean 73 = .ok (.iload_n 3, 1) := by decide +kernel
theorem dX6_lean_74 : decode cX6_lean 74 = .ok (.laload, 1) := by decide +kernel
theorem dX6_lean_75 : decode cX6_lean 75 = .ok (.iload_n 2, 1) := by decide +kernel
theorem dX6_lean_76 : decode cX6_lean 76 = .ok (.invokestatic 147, 3) := by decide +kernel
theorem dX6_lean_79 : decode cX6_lean 79 = .ok (.lreturn, 1) := by decide +kernel
theorem dX6_left_0 : decode cX6_left 0 = .ok (.aload_n 0, 1) := by decide +kernel
theorem dX6_left_1 : decode cX6_left 1 = .ok (.getfield 10, 3) := by decide +kernel
theorem dX6_left_4 : decode cX6_left 4 = .ok (.iload_n 1, 1) := by decide +kernel
theorem dX6_left_5 : decode cX6_left 5 = .ok (.invokevirtual 64, 3) := by decide +kernel
theorem dX6_left_8 : decode cX6_left 8 = .ok (.ifCond .eq 14, 3) := by decide +kernel
theorem dX6_left_11 : decode cX6_left 11 = .ok (.aload_n 0, 1) := by decide +kernel
theorem dX6_left_12 : decode cX6_left 12 = .ok (.getfield 10, 3) := by decide +kernel
theorem dX6_left_15 : decode cX6_left 15 = .ok (.iload_n 2, 1) := by decide +kernel
theorem dX6_left_16 : decode cX6_left 16 = .ok (.invokevirtual 64, 3) := by decide +kernel
theorem dX6_left_19 : decode cX6_left 19 = .ok (.ifCond .ne 7, 3) := by decide +kernel
theorem dX6_left_22 : decode cX6_left 22 = .ok (.ldc2_w 141, 3) := by decide +kernel
theorem dX6_left_25 : decode cX6_left 25 = .ok (.lreturn, 1) := by decide +kernel
theorem dX6_left_26 : decode cX6_left 26 = .ok (.iload_n 3, 1) := by decide +kernel
theorem dX6_left_27 : decode cX6_left 27 = .ok (.ifCond .eq 12, 3) := by decide +kernel
theorem dX6_left_30 : decode cX6_left 30 = .ok (.iload_n 3, 1) := by decide +kernel
theorem dX6_left_31 : decode cX6_left 31 = .ok (.iconst 1, 1) := by decide +kernel
theorem dX6_left_32 : decode cX6_left 32 = .ok (.if_icmp .eq 7, 3) := by decide +kernel
theorem dX6_left_35 : decode cX6_left 35 = .ok (.ldc2_w 143, 3) := by decide +kernel
theorem dX6_left_38 : decode cX6_left 38 = .ok (.lreturn, 1) := by decide +kernel
theorem dX6_left_39 : decode cX6_left 39 = .ok (.aload_n 0, 1) := by decide +kernel
theorem dX6_left_40 : decode cX6_left 40 = .ok (.getfield 21, 3) := by decide +kernel
theorem dX6_left_43 : decode cX6_left 43 = .ok (.getfield 110, 3) := by decide +kernel
theorem dX6_left_46 : decode cX6_left 46 = .ok (.iload_n 1, 1) := by decide +kernel
theorem dX6_left_47 : decode cX6_left 47 = .ok (.aaload, 1) := by decide +kernel
theorem dX6_left_48 : decode cX6_left 48 = .ok (.iload_n 2, 1) := by decide +kernel
theorem dX6_left_49 : decode cX6_left 49 = .ok (.iaload, 1) := by decide +kernel
theorem dX6_left_50 : decode cX6_left 50 = .ok (.istore 4, 2) := by decide +kernel
theorem dX6_left_52 : decode cX6_left 52 = .ok (.aload_n 0, 1) := by decide +kernel
theorem dX6_left_53 : decode cX6_left 53 = .ok (.getfield 37, 3) := by decide +kernel
theorem dX6_left_56 : decode cX6_left 56 = .ok (.iload_n 2, 1) := by decide +kernel
theorem dX6_left_57 : decode cX6_left 57 = .ok (.invokevirtual 135, 3) := by decide +kernel
theorem dX6_left_60 : decode cX6_left 60 = .ok (.istore 5, 2) := by decide +kernel
theorem dX6_left_62 : decode cX6_left 62 = .ok (.iload 4, 2) := by decide +kernel
theorem dX6_left_64 : decode cX6_left 64 = .ok (.iconst (-1), 1) := by decide +kernel
theorem dX6_left_65 : decode cX6_left 65 = .ok (.if_icmp .eq 21, 3) := by decide +kernel
theorem dX6_left_68 : decode cX6_left 68 = .ok (.iload 5, 2) := by decide +kernel
theorem dX6_left_70 : decode cX6_left 70 = .ok (.iconst (-1), 1) := by decide +kernel
theorem dX6_left_71 : decode cX6_left 71 = .ok (.if_icmp .eq 15, 3) := by decide +kernel
theorem dX6_left_74 : decode cX6_left 74 = .ok (.aload_n 0, 1) := by decide +kernel
theorem dX6_left_75 : decode cX6_left 75 = .ok (.getfield 37, 3) := by decide +kernel
theorem dX6_left_78 : decode cX6_left 78 = .ok (.iload 5, 2) := by decide +kernel
theorem dX6_left_80 : decode cX6_left 80 = .ok (.invokevirtual 151, 3) := by decide +kernel
theorem dX6_left_83 : decode cX6_left 83 = .ok (.ifCond .ne 7, 3) := by decide +kernel
theorem dX6_left_86 : decode cX6_left 86 = .ok (.ldc2_w 145, 3) := by decide +kernel
theorem dX6_left_89 : decode cX6_left 89 = .ok (.lreturn, 1) := by decide +kernel
theorem dX6_left_90 : decode cX6_left 90 = .ok (.iload 4, 2) := by decide +kernel
theorem dX6_left_92 : decode cX6_left 92 = .ok (.i2l, 1) := by decide +kernel
theorem dX6_left_93 : decode cX6_left 93 = .ok (.aload_n 0, 1) := by decide +kernel
theorem dX6_left_94 : decode cX6_left 94 = .ok (.getfield 37, 3) := by decide +kernel
theorem dX6_left_97 : decode cX6_left 97 = .ok (.getfield 158, 3) := by decide +kernel
theorem dX6_left_100 : decode cX6_left 100 = .ok (.iload 5, 2) := by decide +kernel
theorem dX6_left_102 : decode cX6_left 102 = .ok (.laload, 1) := by decide +kernel
theorem dX6_left_103 : decode cX6_left 103 = .ok (.lmul, 1) := by decide +kernel
theorem dX6_left_104 : decode cX6_left 104 = .ok (.aload_n 0, 1) := by decide +kernel
theorem dX6_left_105 : decode cX6_left 105 = .ok (.getfield 37, 3) := by decide +kernel
theorem dX6_left_108 : decode cX6_left 108 = .ok (.getfield 154, 3) := by decide +kernel
theorem dX6_left_111 : decode cX6_left 111 = .ok (.iload_n 2, 1) := by decide +kernel
theorem dX6_left_112 : decode cX6_left 112 = .ok (.laload, 1) := by decide +kernel
theorem dX6_left_113 : decode cX6_left 113 = .ok (.lsub, 1) := by decide +kernel
theorem dX6_left_114 : decode cX6_left 114 = .ok (.aload_n 0, 1) := by decide +kernel
theorem dX6_left_115 : decode cX6_left 115 = .ok (.getfield 37, 3) := by decide +kernel
theorem dX6_left_118 : decode cX6_left 118 = .ok (.getfield 161, 3) := by decide +kernel
theorem dX6_left_121 : decode cX6_left 121 = .ok (.iload_n 1, 1) := by decide +kernel
theorem dX6_left_122 : decode cX6_left 122 = .ok (.laload, 1) := by decide +kernel
theorem dX6_left_123 : decode cX6_left 123 = .ok (.lsub, 1) := by decide +kernel
theorem dX6_left_124 : decode cX6_left 124 = .ok (.lstore 6, 2) := by decide +kernel
theorem dX6_left_126 : decode cX6_left 126 = .ok (.lload 6, 2) := by decide +kernel
theorem dX6_left_128 : decode cX6_left 128 = .ok (.aload_n 0, 1) := by decide +kernel
theorem dX6_left_129 : decode cX6_left 129 = .ok (.getfield 37, 3) := by decide +kernel
theorem dX6_left_132 : decode cX6_left 132 = .ok (.getfield 158, 3) := by decide +kernel
theorem dX6_left_135 : decode cX6_left 135 = .ok (.iload 5, 2) := by decide +kernel
theorem dX6_left_137 : decode cX6_left 137 = .ok (.laload, 1) := by decide +kernel
theorem dX6_left_138 : decode cX6_left 138 = .ok (.iload_n 3, 1) := by decide +kernel
theorem dX6_left_139 : decode cX6_left 139 = .ok (.invokestatic 147, 3) := by decide +kernel
theorem dX6_left_142 : decode cX6_left 142 = .ok (.lreturn, 1) := by decide +kernel
theorem dX6_order_0 : decode cX6_order 0 = .ok (.aload_n 0, 1) := by decide +kernel
theorem dX6_order_1 : decode cX6_order 1 = .ok (.getfield 10, 3) := by decide +kernel
theorem dX6_order_4 : decode cX6_order 4 = .ok (.iload_n 1, 1) := by decide +kernel
theorem dX6_order_5 : decode cX6_order 5 = .ok (.invokevirtual 64, 3) := by decide +kernel
theorem dX6_order_8 : decode cX6_order 8 = .ok (.ifCond .eq 14, 3) := by decide +kernel
theorem dX6_order_11 : decode cX6_order 11 = .ok (.aload_n 0, 1) := by decide +kernel
theorem dX6_order_12 : decode cX6_order 12 = .ok (.getfield 44, 3) := by decide +kernel
theorem dX6_order_15 : decode cX6_order 15 = .ok (.iload_n 1, 1) := by decide +kernel
theorem dX6_order_16 : decode cX6_order 16 = .ok (.invokevirtual 164, 3) := by decide +kernel
theorem dX6_order_19 : decode cX6_order 19 = .ok (.goto 6, 3) := by decide +kernel
theorem dX6_order_22 : decode cX6_order 22 = .ok (.sipush (-1002), 3) := by decide +kernel
theorem dX6_order_25 : decode cX6_order 25 = .ok (.ireturn, 1) := by decide +kernel
theorem dX6_quarrel_0 : decode cX6_quarrel 0 = .ok (.aload_n 0, 1) := by decide +kernel
theorem dX6_quarrel_1 : decode cX6_quarrel 1 = .ok (.getfield 44, 3) := by decide +kernel
theorem dX6_quarrel_4 : decode cX6_quarrel 4 = .ok (.invokevirtual 167, 3) := by decide +kernel
theorem dX6_quarrel_7 : decode cX6_quarrel 7 = .ok (.ireturn, 1) := by decide +kernel
theorem dX6_turned_0 : decode cX6_turned 0 = .ok (.aload_n 0, 1) := by decide +kernel
theorem dX6_turned_1 : decode cX6_turned 1 = .ok (.getfield 10, 3) := by decide +kernel
theorem dX6_turned_4 : decode cX6_turned 4 = .ok (.iload_n 1, 1) := by decide +kernel
theorem dX6_turned_5 : decode cX6_turned 5 = .ok (.invokevirtual 64, 3) := by decide +kernel
theorem dX6_turned_8 : decode cX6_turned 8 = .ok (.ifCond .eq 14, 3) := by decide +kernel
theorem dX6_turned_11 : decode cX6_turned 11 = .ok (.aload_n 0, 1) := by decide +kernel
theorem dX6_turned_12 : decode cX6_turned 12 = .ok (.getfield 44, 3) := by decide +kernel
theorem dX6_turned_15 : decode cX6_turned 15 = .ok (.iload_n 1, 1) := by decide +kernel
theorem dX6_turned_16 : decode cX6_turned 16 = .ok (.invokevirtual 170, 3) := by decide +kernel
theorem dX6_turned_19 : decode cX6_turned 19 = .ok (.goto 6, 3) := by decide +kernel
theorem dX6_turned_22 : decode cX6_turned 22 = .ok (.sipush (-1001), 3) := by decide +kernel
theorem dX6_turned_25 : decode cX6_turned 25 = .ok (.ireturn, 1) := by decide +kernel
theorem dX6_moves_0 : decode cX6_moves 0 = .ok (.aload_n 0, 1) := by decide +kernel
theorem dX6_moves_1 : decode cX6_moves 1 = .ok (.getfield 10, 3) := by decide +kernel
theorem dX6_moves_4 : decode cX6_moves 4 = .ok (.iload_n 1, 1) := by decide +kernel
theorem dX6_moves_5 : decode cX6_moves 5 = .ok (.invokevirtual 64, 3) := by decide +kernel
theorem dX6_moves_8 : decode cX6_moves 8 = .ok (.ifCond .eq 14, 3) := by decide +kernel
theorem dX6_moves_11 : decode cX6_moves 11 = .ok (.aload_n 0, 1) := by decide +kernel
theorem dX6_moves_12 : decode cX6_moves 12 = .ok (.getfield 44, 3) := by decide +kernel
theorem dX6_moves_15 : decode cX6_moves 15 = .ok (.iload_n 1, 1) := by decide +kernel
theorem dX6_moves_16 : decode cX6_moves 16 = .ok (.invokevirtual 173, 3) := by decide +kernel
theorem dX6_moves_19 : decode cX6_moves 19 = .ok (.goto 6, 3) := by decide +kernel
theorem dX6_moves_22 : decode cX6_moves 22 = .ok (.sipush (-1001), 3) := by decide +kernel
theorem dX6_moves_25 : decode cX6_moves 25 = .ok (.ireturn, 1) := by decide +kernel
theorem dX6_spread_0 : decode cX6_spread 0 = .ok (.aload_n 0, 1) := by decide +kernel
theorem dX6_spread_1 : decode cX6_spread 1 = .ok (.getfield 10, 3) := by decide +kernel
theorem dX6_spread_4 : decode cX6_spread 4 = .ok (.iload_n 1, 1) := by decide +kernel
theorem dX6_spread_5 : decode cX6_spread 5 = .ok (.invokevirtual 64, 3) := by decide +kernel
theorem dX6_spread_8 : decode cX6_spread 8 = .ok (.ifCond .eq 14, 3) := by decide +kernel
theorem dX6_spread_11 : decode cX6_spread 11 = .ok (.aload_n 0, 1) := by decide +kernel
theorem dX6_spread_12 : decode cX6_spread 12 = .ok (.getfield 21, 3) := by decide +kernel
theorem dX6_spread_15 : decode cX6_spread 15 = .ok (.iload_n 1, 1) := by decide +kernel
theorem dX6_spread_16 : decode cX6_spread 16 = .ok (.invokevirtual 176, 3) := by decide +kernel
theorem dX6_spread_19 : decode cX6_spread 19 = .ok (.goto 6, 3) := by decide +kernel
theorem dX6_spread_22 : decode cX6_spread 22 = .ok (.sipush (-1001), 3) := by decide +kernel
theorem dX6_spread_25 : decode cX6_spread 25 = .ok (.ireturn, 1) := by decide +kernel
theorem dX6_next_0 : decode cX6_next 0 = .ok (.aload_n 0, 1) := by decide +kernel
theorem dX6_next_1 : decode cX6_next 1 = .ok (.getfield 10, 3) := by decide +kernel
theorem dX6_next_4 : decode cX6_next 4 = .ok (.iload_n 1, 1) := by decide +kernel
theorem dX6_next_5 : decode cX6_next 5 = .ok (.invokevirtual 64, 3) := by decide +kernel
theorem dX6_next_8 : decode cX6_next 8 = .ok (.ifCond .eq 14, 3) := by decide +kernel
theorem dX6_next_11 : decode cX6_next 11 = .ok (.aload_n 0, 1) := by decide +kernel
theorem dX6_next_12 : decode cX6_next 12 = .ok (.getfield 21, 3) := by decide +kernel
theorem dX6_next_15 : decode cX6_next 15 = .ok (.iload_n 1, 1) := by decide +kernel
theorem dX6_next_16 : decode cX6_next 16 = .ok (.invokevirtual 179, 3) := by decide +kernel
theorem dX6_next_19 : decode cX6_next 19 = .ok (.goto 6, 3) := by decide +kernel
theorem dX6_next_22 : decode cX6_next 22 = .ok (.sipush (-1001), 3) := by decide +kernel
theorem dX6_next_25 : decode cX6_next 25 = .ok (.ireturn, 1) := by decide +kernel
theorem dX6_digest_0 : decode cX6_digest 0 = .ok (.aload_n 0, 1) := by decide +kernel
theorem dX6_digest_1 : decode cX6_digest 1 = .ok (.getfield 21, 3) := by decide +kernel
theorem dX6_digest_4 : decode cX6_digest 4 = .ok (.invokevirtual 182, 3) := by decide +kernel
theorem dX6_digest_7 : decode cX6_digest 7 = .ok (.ireturn, 1) := by decide +kernel
theorem dX6_has_0 : decode cX6_has 0 = .ok (.iload_n 0, 1) := by decide +kernel
theorem dX6_has_1 : decode cX6_has 1 = .ok (.iload_n 1, 1) := by decide +kernel
theorem dX6_has_2 : decode cX6_has 2 = .ok (.ishr, 1) := by decide +kernel
theorem dX6_has_3 : decode cX6_has 3 = .ok (.iconst 1, 1) := by decide +kernel
theorem dX6_has_4 : decode cX6_has 4 = .ok (.iand, 1) := by decide +kernel
theorem dX6_has_5 : decode cX6_has 5 = .ok (.ifCond .eq 7, 3) := by decide +kernel
theorem dX6_has_8 : decode cX6_has 8 = .ok (.iconst 1, 1) := by decide +kernel
theorem dX6_has_9 : decode cX6_has 9 = .ok (.goto 4, 3) := by decide +kernel
theorem dX6_has_12 : decode cX6_has 12 = .ok (.iconst 0, 1) := by decide +kernel
theorem dX6_has_13 : decode cX6_has 13 = .ok (.ireturn, 1) := by decide +kernel
theorem dX6_tiedWorks_0 : decode cX6_tiedWorks 0 = .ok (.iconst 1, 1) := by decide +kernel
theorem dX6_tiedWorks_1 : decode cX6_tiedWorks 1 = .ok (.iload_n 2, 1) := by decide +kernel
theorem dX6_tiedWorks_2 : decode cX6_tiedWorks 2 = .ok (.ishl, 1) := by decide +kernel
theorem dX6_tiedWorks_3 : decode cX6_tiedWorks 3 = .ok (.istore_n 3, 1) := by decide +kernel
theorem dX6_tiedWorks_4 : decode cX6_tiedWorks 4 = .ok (.iconst 0, 1) := by decide +kernel
theorem dX6_tiedWorks_5 : decode cX6_tiedWorks 5 = .ok (.istore 4, 2) := by decide +kernel
theorem dX6_tiedWorks_7 : decode cX6_tiedWorks 7 = .ok (.iload 4, 2) := by decide +kernel
theorem dX6_tiedWorks_9 : decode cX6_tiedWorks 9 = .ok (.iload_n 1, 1) := by decide +kernel
theorem dX6_tiedWorks_10 : decode cX6_tiedWorks 10 = .ok (.if_icmp .ge 36, 3) := by decide +kernel
theorem dX6_tiedWorks_13 : decode cX6_tiedWorks 13 = .ok (.aload_n 0, 1) := by decide +kernel
theorem dX6_tiedWorks_14 : decode cX6_tiedWorks 14 = .ok (.iload_n 1, 1) := by decide +kernel
theorem dX6_tiedWorks_15 : decode cX6_tiedWorks 15 = .ok (.aload_n 0, 1) := by decide +kernel
theorem dX6_tiedWorks_16 : decode cX6_tiedWorks 16 = .ok (.iload_n 1, 1) := by decide +kernel
theorem dX6_tiedWorks_17 : decode cX6_tiedWorks 17 = .ok (.iload_n 3, 1) := by decide +kernel
theorem dX6_tiedWorks_18 : decode cX6_tiedWorks 18 = .ok (.invokestatic 185, 3) := by decide +kernel
theorem dX6_tiedWorks_21 : decode cX6_tiedWorks 21 = .ok (.invokestatic 189, 3) := by decide +kernel
theorem dX6_tiedWorks_24 : decode cX6_tiedWorks 24 = .ok (.iload_n 3, 1) := by decide +kernel
theorem dX6_tiedWorks_25 : decode cX6_tiedWorks 25 = .ok (.ior, 1) := by decide +kernel
theorem dX6_tiedWorks_26 : decode cX6_tiedWorks 26 = .ok (.istore 5, 2) := by decide +kernel
theorem dX6_tiedWorks_28 : decode cX6_tiedWorks 28 = .ok (.iload 5, 2) := by decide +kernel
theorem dX6_tiedWorks_30 : decode cX6_tiedWorks 30 = .ok (.iload_n 3, 1) := by decide +kernel
theorem dX6_tiedWorks_31 : decode cX6_tiedWorks 31 = .ok (.if_icmp .ne 6, 3) := by decide +kernel
theorem dX6_tiedWorks_34 : decode cX6_tiedWorks 34 = .ok (.goto 12, 3) := by decide +kernel
theorem dX6_tiedWorks_37 : decode cX6_tiedWorks 37 = .ok (.iload 5, 2) := by decide +kernel
theorem dX6_tiedWorks_39 : decode cX6_tiedWorks 39 = .ok (.istore_n 3, 1) := by decide +kernel
theorem dX6_tiedWorks_40 : decode cX6_tiedWorks 40 = .ok (.iinc 4 1, 3) := by decide +kernel
theorem dX6_tiedWorks_43 : decode cX6_tiedWorks 43 = .ok (.goto (-36), 3) := by decide +kernel
theorem dX6_tiedWorks_46 : decode cX6_tiedWorks 46 = .ok (.iload_n 3, 1) := by decide +kernel
theorem dX6_tiedWorks_47 : decode cX6_tiedWorks 47 = .ok (.ireturn, 1) := by decide +kernel
theorem dX6_markersOf_0 : decode cX6_markersOf 0 = .ok (.iconst 0, 1) := by decide +kernel
theorem dX6_markersOf_1 : decode cX6_markersOf 1 = .ok (.istore_n 3, 1) := by decide +kernel
theorem dX6_markersOf_2 : decode cX6_markersOf 2 = .ok (.iconst 0, 1) := by decide +kernel
theorem dX6_markersOf_3 : decode cX6_markersOf 3 = .ok (.istore 4, 2) := by decide +kernel
theorem dX6_markersOf_5 : decode cX6_markersOf 5 = .ok (.iload 4, 2) := by decide +kernel
theorem dX6_markersOf_7 : decode cX6_markersOf 7 = .ok (.iload_n 1, 1) := by decide +kernel
theorem dX6_markersOf_8 : decode cX6_markersOf 8 = .ok (.if_icmp .ge 25, 3) := by decide +kernel
theorem dX6_markersOf_11 : decode cX6_markersOf 11 = .ok (.iload_n 2, 1) := by decide +kernel
theorem dX6_markersOf_12 : decode cX6_markersOf 12 = .ok (.iload 4, 2) := by decide +kernel
theorem dX6_markersOf_14 : decode cX6_markersOf 14 = .ok (.invokestatic 72, 3) := by decide +kernel
theorem dX6_markersOf_17 : decode cX6_markersOf 17 = .ok (.ifCond .eq 10, 3) := by decide +kernel
theorem dX6_markersOf_20 : decode cX6_markersOf 20 = .ok (.iload_n 3, 1) := by decide +kernel
theorem dX6_markersOf_21 : decode cX6_markersOf 21 = .ok (.aload_n 0, 1) := by decide +kernel
theorem dX6_markersOf_22 : decode cX6_markersOf 22 = .ok (.iload 4, 2) := by decide +kernel
theorem dX6_markersOf_24 : decode cX6_markersOf 24 = .ok (.iaload, 1) := by decide +kernel
theorem dX6_markersOf_25 : decode cX6_markersOf 25 = .ok (.ior, 1) := by decide +kernel
theorem dX6_markersOf_26 : decode cX6_markersOf 26 = .ok (.istore_n 3, 1) := by decide +kernel
theorem dX6_markersOf_27 : decode cX6_markersOf 27 = .ok (.iinc 4 1, 3) := by decide +kernel
theorem dX6_markersOf_30 : decode cX6_markersOf 30 = .ok (.goto (-25), 3) := by decide +kernel
theorem dX6_markersOf_33 : decode cX6_markersOf 33 = .ok (.iload_n 3, 1) := by decide +kernel
theorem dX6_markersOf_34 : decode cX6_markersOf 34 = .ok (.ireturn, 1) := by decide +kernel
theorem dX6_worksOf_0 : decode cX6_worksOf 0 = .ok (.iconst 0, 1) := by decide +kernel
theorem dX6_worksOf_1 : decode cX6_worksOf 1 = .ok (.istore_n 3, 1) := by decide +kernel
theorem dX6_worksOf_2 : decode cX6_worksOf 2 = .ok (.iconst 0, 1) := by decide +kernel
theorem dX6_worksOf_3 : decode cX6_worksOf 3 = .ok (.istore 4, 2) := by decide +kernel
theorem dX6_worksOf_5 : decode cX6_worksOf 5 = .ok (.iload 4, 2) := by decide +kernel
theorem dX6_worksOf_7 : decode cX6_worksOf 7 = .ok (.iload_n 1, 1) := by decide +kernel
theorem dX6_worksOf_8 : decode cX6_worksOf 8 = .ok (.if_icmp .ge 25, 3) := by decide +kernel
theorem dX6_worksOf_11 : decode cX6_worksOf 11 = .ok (.aload_n 0, 1) := by decide +kernel
theorem dX6_worksOf_12 : decode cX6_worksOf 12 = .ok (.iload 4, 2) := by decide +kernel
theorem dX6_worksOf_14 : decode cX6_worksOf 14 = .ok (.iaload, 1) := by decide +kernel
theorem dX6_worksOf_15 : decode cX6_worksOf 15 = .ok (.iload_n 2, 1) := by decide +kernel
theorem dX6_worksOf_16 : decode cX6_worksOf 16 = .ok (.iand, 1) := by decide +kernel
theorem dX6_worksOf_17 : decode cX6_worksOf 17 = .ok (.ifCond .eq 10, 3) := by decide +kernel
theorem dX6_worksOf_20 : decode cX6_worksOf 20 = .ok (.iload_n 3, 1) := by decide +kernel
theorem dX6_worksOf_21 : decode cX6_worksOf 21 = .ok (.iconst 1, 1) := by decide +kernel
theorem dX6_worksOf_22 : decode cX6_worksOf 22 = .ok (.iload 4, 2) := by decide +kernel
theorem dX6_worksOf_24 : decode cX6_worksOf 24 = .ok (.ishl, 1) := by decide +kernel
theorem dX6_worksOf_25 : decode cX6_worksOf 25 = .ok (.ior, 1) := by decide +kernel
theorem dX6_worksOf_26 : decode cX6_worksOf 26 = .ok (.istore_n 3, 1) := by decide +kernel
theorem dX6_worksOf_27 : decode cX6_worksOf 27 = .ok (.iinc 4 1, 3) := by decide +kernel
theorem dX6_worksOf_30 : decode cX6_worksOf 30 = .ok (.goto (-25), 3) := by decide +kernel
theorem dX6_worksOf_33 : decode cX6_worksOf 33 = .ok (.iload_n 3, 1) := by decide +kernel
theorem dX6_worksOf_34 : decode cX6_worksOf 34 = .ok (.ireturn, 1) := by decide +kernel
theorem dX6_inLeastTerms_0 : decode cX6_inLeastTerms 0 = .ok (.lload_n 0, 1) := by decide +kernel
theorem dX6_inLeastTerms_1 : decode cX6_inLeastTerms 1 = .ok (.invokestatic 192, 3) := by decide +kernel
theorem dX6_inLeastTerms_4 : decode cX6_inLeastTerms 4 = .ok (.lload_n 2, 1) := by decide +kernel
theorem dX6_inLeastTerms_5 : decode cX6_inLeastTerms 5 = .ok (.invokestatic 198, 3) := by decide +kernel
theorem dX6_inLeastTerms_8 : decode cX6_inLeastTerms 8 = .ok (.lstore 5, 2) := by decide +kernel
theorem dX6_inLeastTerms_10 : decode cX6_inLeastTerms 10 = .ok (.lload 5, 2) := by decide +kernel
theorem dX6_inLeastTerms_12 : decode cX6_inLeastTerms 12 = .ok (.lconst 0, 1) := by decide +kernel
theorem dX6_inLeastTerms_13 : decode cX6_inLeastTerms 13 = .ok (.lcmp, 1) := by decide +kernel
theorem dX6_inLeastTerms_14 : decode cX6_inLeastTerms 14 = .ok (.ifCond .ne 7, 3) := by decide +kernel
theorem dX6_inLeastTerms_17 : decode cX6_inLeastTerms 17 = .ok (.ldc2_w 145, 3) := by decide +kernel
theorem dX6_inLeastTerms_20 : decode cX6_inLeastTerms 20 = .ok (.lreturn, 1) := by decide +kernel
theorem dX6_inLeastTerms_21 : decode cX6_inLeastTerms 21 = .ok (.iload 4, 2) := by decide +kernel
theorem dX6_inLeastTerms_23 : decode cX6_inLeastTerms 23 = .ok (.ifCond .ne 10, 3) := by decide +kernel
theorem dX6_inLeastTerms_26 : decode cX6_inLeastTerms 26 = .ok (.lload_n 0, 1) := by decide +kernel
theorem dX6_inLeastTerms_27 : decode cX6_inLeastTerms 27 = .ok (.lload 5, 2) := by decide +kernel
theorem dX6_inLeastTerms_29 : decode cX6_inLeastTerms 29 = .ok (.ldiv, 1) := by decide +kernel
theorem dX6_inLeastTerms_30 : decode cX6_inLeastTerms 30 = .ok (.goto 7, 3) := by decide +kernel
theorem dX6_inLeastTerms_33 : decode cX6_inLeastTerms 33 = .ok (.lload_n 2, 1) := by decide +kernel
theorem dX6_inLeastTerms_34 : decode cX6_inLeastTerms 34 = .ok (.lload 5, 2) := by decide +kernel
theorem dX6_inLeastTerms_36 : decode cX6_inLeastTerms 36 = .ok (.ldiv, 1) := by decide +kernel
theorem dX6_inLeastTerms_37 : decode cX6_inLeastTerms 37 = .ok (.lreturn, 1) := by decide +kernel
theorem dX6_commonDivisor_0 : decode cX6_commonDivisor 0 = .ok (.iconst 0, 1) := by decide +kernel
theorem dX6_commonDivisor_1 : decode cX6_commonDivisor 1 = .ok (.istore 4, 2) := by decide +kernel
theorem dX6_commonDivisor_3 : decode cX6_commonDivisor 3 = .ok (.iload 4, 2) := by decide +kernel
theorem dX6_commonDivisor_5 : decode cX6_commonDivisor 5 = .ok (.sipush 128, 3) := by decide +kernel
theorem dX6_commonDivisor_8 : decode cX6_commonDivisor 8 = .ok (.if_icmp .ge 25, 3) := by decide +kernel
theorem dX6_commonDivisor_11 : decode cX6_commonDivisor 11 = .ok (.lload_n 2, 1) := by decide +kernel
theorem dX6_commonDivisor_12 : decode cX6_commonDivisor 12 = .ok (.lconst 0, 1) := by decide +kernel
theorem dX6_commonDivisor_13 : decode cX6_commonDivisor 13 = .ok (.lcmp, 1) := by decide +kernel
theorem dX6_commonDivisor_14 : decode cX6_commonDivisor 14 = .ok (.ifCond .eq 19, 3) := by decide +kernel
theorem dX6_commonDivisor_17 : decode cX6_commonDivisor 17 = .ok (.lload_n 0, 1) := by decide +kernel
theorem dX6_commonDivisor_18 : decode cX6_commonDivisor 18 = .ok (.lload_n 2, 1) := by decide +kernel
theorem dX6_commonDivisor_19 : decode cX6_commonDivisor 19 = .ok (.lrem, 1) := by decide +kernel
theorem dX6_commonDivisor_20 : decode cX6_commonDivisor 20 = .ok (.lstore 5, 2) := by decide +kernel
theorem dX6_commonDivisor_22 : decode cX6_commonDivisor 22 = .ok (.lload_n 2, 1) := by decide +kernel
theorem dX6_commonDivisor_23 : decode cX6_commonDivisor 23 = .ok (.lstore_n 0, 1) := by decide +kernel
theorem dX6_commonDivisor_24 : decode cX6_commonDivisor 24 = .ok (.lload 5, 2) := by decide +kernel
theorem dX6_commonDivisor_26 : decode cX6_commonDivisor 26 = .ok (.lstore_n 2, 1) := by decide +kernel
theorem dX6_commonDivisor_27 : decode cX6_commonDivisor 27 = .ok (.iinc 4 1, 3) := by decide +kernel
theorem dX6_commonDivisor_30 : decode cX6_commonDivisor 30 = .ok (.goto (-27), 3) := by decide +kernel
theorem dX6_commonDivisor_33 : decode cX6_commonDivisor 33 = .ok (.lload_n 0, 1) := by decide +kernel
theorem dX6_commonDivisor_34 : decode cX6_commonDivisor 34 = .ok (.lreturn, 1) := by decide +kernel
theorem dX7_init_0 : decode cX7_init 0 = .ok (.aload_n 0, 1) := by decide +kernel
theorem dX7_init_1 : decode cX7_init 1 = .ok (.invokespecial 1, 3) := by decide +kernel
theorem dX7_init_4 : decode cX7_init 4 = .ok (.aload_n 0, 1) := by decide +kernel
theorem dX7_init_5 : decode cX7_init 5 = .ok (.iconst 2, 1) := by decide +kernel
theorem dX7_init_6 : decode cX7_init 6 = .ok (.putfield 7, 3) := by decide +kernel
theorem dX7_init_9 : decode cX7_init 9 = .ok (.aload_n 0, 1) := by decide +kernel
theorem dX7_init_10 : decode cX7_init 10 = .ok (.bipush 64, 2) := by decide +kernel
theorem dX7_init_12 : decode cX7_init 12 = .ok (.newarray .boolean, 2) := by decide +kernel
theorem dX7_init_14 : decode cX7_init 14 = .ok (.putfield 13, 3) := by decide +kernel
theorem dX7_init_17 : decode cX7_init 17 = .ok (.aload_n 0, 1) := by decide +kernel
theorem dX7_init_18 : decode cX7_init 18 = .ok (.iconst 3, 1) := by decide +kernel
theorem dX7_init_19 : decode cX7_init 19 = .ok (.newarray .int, 2) := by decide +kernel
theorem dX7_init_21 : decode cX7_init 21 = .ok (.putfield 17, 3) := by decide +kernel
theorem dX7_init_24 : decode cX7_init 24 = .ok (.aload_n 0, 1) := by decide +kernel
theorem dX7_init_25 : decode cX7_init 25 = .ok (.bipush 64, 2) := by decide +kernel
theorem dX7_init_27 : decode cX7_init 27 = .ok (.newarray .int, 2) := by decide +kernel
theorem dX7_init_29 : decode cX7_init 29 = .ok (.putfield 21, 3) := by decide +kernel
theorem dX7_init_32 : decode cX7_init 32 = .ok (.aload_n 0, 1) := by decide +kernel
theorem dX7_init_33 : decode cX7_init 33 = .ok (.bipush 8, 2) := by decide +kernel
theorem dX7_init_35 : decode cX7_init 35 = .ok (.newarray .int, 2) := by decide +kernel
theorem dX7_init_37 : decode cX7_init 37 = .ok (.putfield 24, 3) := by decide +kernel
theorem dX7_init_40 : decode cX7_init 40 = .ok (.aload_n 0, 1) := by decide +kernel
theorem dX7_init_41 : decode cX7_init 41 = .ok (.bipush 8, 2) := by decide +kernel
theorem dX7_init_43 : decode cX7_init 43 = .ok (.newarray .int, 2) := by decide +kernel
theorem dX7_init_45 : decode cX7_init 45 = .ok (.putfield 27, 3) := by decide +kernel
theorem dX7_init_48 : decode cX7_init 48 = .ok (.aload_n 0, 1) := by decide +kernel
theorem dX7_init_49 : decode cX7_init 49 = .ok (.bipush 8, 2) := by decide +kernel
theorem dX7_init_51 : decode cX7_init 51 = .ok (.newarray .int, 2) := by decide +kernel
theorem dX7_init_53 : decode cX7_init 53 = .ok (.putfield 30, 3) := by decide +kernel
theorem dX7_init_56 : decode cX7_init 56 = .ok (.aload_n 0, 1) := by decide +kernel
theorem dX7_init_57 : decode cX7_init 57 = .ok (.bipush 16, 2) := by decide +kernel
theorem dX7_init_59 : decode cX7_init 59 = .ok (.newarray .int, 2) := by decide +kernel
theorem dX7_init_61 : decode cX7_init 61 = .ok (.putfield 33, 3) := by decide +kernel
theorem dX7_init_64 : decode cX7_init 64 = .ok (.aload_n 0, 1) := by decide +kernel
theorem dX7_init_65 : decode cX7_init 65 = .ok (.bipush 16, 2) := by decide +kernel
theorem dX7_init_67 : decode cX7_init 67 = .ok (.newarray .int, 2) := by decide +kernel
theorem dX7_init_69 : decode cX7_init 69 = .ok (.putfield 36, 3) := by decide +kernel
theorem dX7_init_72 : decode cX7_init 72 = .ok (.aload_n 0, 1) := by decide +kernel
theorem dX7_init_73 : decode cX7_init 73 = .ok (.bipush 110, 2) := by decide +kernel
theorem dX7_init_75 : decode cX7_init 75 = .ok (.newarray .long, 2) := by decide +kernel
theorem dX7_init_77 : decode cX7_init 77 = .ok (.putfield 39, 3) := by decide +kernel
theorem dX7_init_80 : decode cX7_init 80 = .ok (.aload_n 0, 1) := by decide +kernel
theorem dX7_init_81 : decode cX7_init 81 = .ok (.bipush 16, 2) := by decide +kernel
theorem dX7_init_83 : decode cX7_init 83 = .ok (.newarray .long, 2) := by decide +kernel
theorem dX7_init_85 : decode cX7_init 85 = .ok (.putfield 43, 3) := by decide +kernel
theorem dX7_init_88 : decode cX7_init 88 = .ok (.aload_n 0, 1) := by decide +kernel
theorem dX7_init_89 : decode cX7_init 89 = .ok (.bipush 64, 2) := by decide +kernel
theorem dX7_init_91 : decode cX7_init 91 = .ok (.newarray .int, 2) := by decide +kernel
theorem dX7_init_93 : decode cX7_init 93 = .ok (.putfield 46, 3) := by decide +kernel
theorem dX7_init_96 : decode cX7_init 96 = .ok (.aload_n 0, 1) := by decide +kernel
theorem dX7_init_97 : decode cX7_init 97 = .ok (.sipush 256, 3) := by decide +kernel
theorem dX7_init_100 : decode cX7_init 100 = .ok (.newarray .int, 2) := by decide +kernel
theorem dX7_init_102 : decode cX7_init 102 = .ok (.putfield 49, 3) := by decide +kernel
theorem dX7_init_105 : decode cX7_init 105 = .ok (.aload_n 0, 1) := by decide +kernel
theorem dX7_init_106 : decode cX7_init 106 = .ok (.bipush 8, 2) := by decide +kernel
theorem dX7_init_108 : decode cX7_init 108 = .ok (.newarray .int, 2) := by decide +kernel
theorem dX7_init_110 : decode cX7_init 110 = .ok (.putfield 52, 3) := by decide +kernel
theorem dX7_init_113 : decode cX7_init 113 = .ok (.aload_n 0, 1) := by decide +kernel
theorem dX7_init_114 : decode cX7_init 114 = .ok (.bipush 8, 2) := by decide +kernel
theorem dX7_init_116 : decode cX7_init 116 = .ok (.newarray .int, 2) := by decide +kernel
theorem dX7_init_118 : decode cX7_init 118 = .ok (.putfield 55, 3) := by decide +kernel
theorem dX7_init_121 : decode cX7_init 121 = .ok (.aload_n 0, 1) := by decide +kernel
theorem dX7_init_122 : decode cX7_init 122 = .ok (.getfield 17, 3) := by decide +kernel
theorem dX7_init_125 : decode cX7_init 125 = .ok (.iconst 0, 1) := by decide +kernel
theorem dX7_init_126 : decode cX7_init 126 = .ok (.iconst 2, 1) := by decide +kernel
theorem dX7_init_127 : decode cX7_init 127 = .ok (.iastore, 1) := by decide +kernel
theorem dX7_init_128 : decode cX7_init 128 = .ok (.aload_n 0, 1) := by decide +kernel
theorem dX7_init_129 : decode cX7_init 129 = .ok (.getfield 17, 3) := by decide +kernel
theorem dX7_init_132 : decode cX7_init 132 = .ok (.iconst 1, 1) := by decide +kernel
theorem dX7_init_133 : decode cX7_init 133 = .ok (.iconst 4, 1) := by decide +kernel
theorem dX7_init_134 : decode cX7_init 134 = .ok (.iastore, 1) := by decide +kernel
theorem dX7_init_135 : decode cX7_init 135 = .ok (.aload_n 0, 1) := by decide +kernel
theorem dX7_init_136 : decode cX7_init 136 = .ok (.getfield 17, 3) := by decide +kernel
theorem dX7_init_139 : decode cX7_init 139 = .ok (.iconst 2, 1) := by decide +kernel
theorem dX7_init_140 : decode cX7_init 140 = .ok (.bipush 30, 2) := by decide +kernel
theorem dX7_init_142 : decode cX7_init 142 = .ok (.iastore, 1) := by decide +kernel
theorem dX7_init_143 : decode cX7_init 143 = .ok (.aload_n 0, 1) := by decide +kernel
theorem dX7_init_144 : decode cX7_init 144 = .ok (.invokevirtual 58, 3) := by decide +kernel
theorem dX7_init_147 : decode cX7_init 147 = .ok (.return_, 1) := by decide +kernel
theorem dX7_in_0 : decode cX7_in 0 = .ok (.lload_n 0, 1) := by decide +kernel
theorem dX7_in_1 : decode cX7_in 1 = .ok (.lload_n 2, 1) := by decide +kernel
theorem dX7_in_2 : decode cX7_in 2 = .ok (.lcmp, 1) := by decide +kernel
theorem dX7_in_3 : decode cX7_in 3 = .ok (.ifCond .lt 14, 3) := by decide +kernel
theorem dX7_in_6 : decode cX7_in 6 = .ok (.lload_n 0, 1) := by decide +kernel
theorem dX7_in_7 : decode cX7_in 7 = .ok (.lload 4, 2) := by decide +kernel
theorem dX7_in_9 : decode cX7_in 9 = .ok (.lcmp, 1) := by decide +kernel
theorem dX7_in_10 : decode cX7_in 10 = .ok (.ifCond .gt 7, 3) := by decide +kernel
theorem dX7_in_13 : decode cX7_in 13 = .ok (.iconst 1, 1) := by decide +kernel
theorem dX7_in_14 : decode cX7_in 14 = .ok (.goto 4, 3) := by decide +kernel
theorem dX7_in_17 : decode cX7_in 17 = .ok (.iconst 0, 1) := by decide +kernel
theorem dX7_in_18 : decode cX7_in 18 = .ok (.ireturn, 1) := by decide +kernel
theorem dX7_clear_0 : decode cX7_clear 0 = .ok (.iconst 0, 1) := by decide +kernel
theorem dX7_clear_1 : decode cX7_clear 1 = .ok (.istore_n 1, 1) := by decide +kernel
theorem dX7_clear_2 : decode cX7_clear 2 = .ok (.iload_n 1, 1) := by decide +kernel
theorem dX7_clear_3 : decode cX7_clear 3 = .ok (.bipush 64, 2) := by decide +kernel
theorem dX7_clear_5 : decode cX7_clear 5 = .ok (.if_icmp .ge 23, 3) := by decide +kernel
theorem dX7_clear_8 : decode cX7_clear 8 = .ok (.aload_n 0, 1) := by decide +kernel
theorem dX7_clear_9 : decode cX7_clear 9 = .ok (.getfield 13, 3) := by decide +kernel
theorem dX7_clear_12 : decode cX7_clear 12 = .ok (.iload_n 1, 1) := by decide +kernel
theorem dX7_clear_13 : decode cX7_clear 13 = .ok (.iconst 0, 1) := by decide +kernel
theorem dX7_clear_14 : decode cX7_clear 14 = .ok (.bastore, 1) := by decide +kernel
theorem dX7_clear_15 : decode cX7_clear 15 = .ok (.aload_n 0, 1) := by decide +kernel
theorem dX7_clear_16 : decode cX7_clear 16 = .ok (.getfield 21, 3) := by decide +kernel
theorem dX7_clear_19 : decode cX7_clear 19 = .ok (.iload_n 1, 1) := by decide +kernel
theorem dX7_clear_20 : decode cX7_clear 20 = .ok (.iconst (-1), 1) := by decide +kernel
theorem dX7_clear_21 : decode cX7_clear 21 = .ok (.iastore, 1) := by decide +kernel
theorem dX7_clear_22 : decode cX7_clear 22 = .ok (.iinc 1 1, 3) := by decide +kernel
theorem dX7_clear_25 : decode cX7_clear 25 = .ok (.goto (-23), 3) := by decide +kernel
theorem dX7_clear_28 : decode cX7_clear 28 = .ok (.iconst 0, 1) := by decide +kernel
theorem dX7_clear_29 : decode cX7_clear 29 = .ok (.istore_n 1, 1) := by decide +kernel
theorem dX7_clear_30 : decode cX7_clear 30 = .ok (.iload_n 1, 1) := by decide +kernel
theorem dX7_clear_31 : decode cX7_clear 31 = .ok (.bipush 8, 2) := by decide +kernel
theorem dX7_clear_33 : decode cX7_clear 33 = .ok (.if_icmp .ge 16, 3) := by decide +kernel
theorem dX7_clear_36 : decode cX7_clear 36 = .ok (.aload_n 0, 1) := by decide +kernel
theorem dX7_clear_37 : decode cX7_clear 37 = .ok (.getfield 24, 3) := by decide +kernel
theorem dX7_clear_40 : decode cX7_clear 40 = .ok (.iload_n 1, 1) := by decide +kernel
theorem dX7_clear_41 : decode cX7_clear 41 = .ok (.iconst (-1), 1) := by decide +kernel
theorem dX7_clear_42 : decode cX7_clear 42 = .ok (.iastore, 1) := by decide +kernel
theorem dX7_clear_43 : decode cX7_clear 43 = .ok (.iinc 1 1, 3) := by decide +kernel
theorem dX7_clear_46 : decode cX7_clear 46 = .ok (.goto (-16), 3) := by decide +kernel
theorem dX7_clear_49 : decode cX7_clear 49 = .ok (.return_, 1) := by decide +kernel
theorem dX7_is_0 : decode cX7_is 0 = .ok (.iload_n 1, 1) := by decide +kernel
theorem dX7_is_1 : decode cX7_is 1 = .ok (.i2l, 1) := by decide +kernel
theorem dX7_is_2 : decode cX7_is 2 = .ok (.lconst 0, 1) := by decide +kernel
theorem dX7_is_3 : decode cX7_is 3 = .ok (.aload_n 0, 1) := by decide +kernel
theorem dX7_is_4 : decode cX7_is 4 = .ok (.getfield 7, 3) := by decide +kernel
theorem dX7_is_7 : decode cX7_is 7 = .ok (.iconst 1, 1) := by decide +kernel
theorem dX7_is_8 : decode cX7_is 8 = .ok (.isub, 1) := by decide +kernel
theorem dX7_is_9 : decode cX7_is 9 = .ok (.i2l, 1) := by decide +kernel
theorem dX7_is_10 : decode cX7_is 10 = .ok (.invokestatic 61, 3) := by decide +kernel
theorem dX7_is_13 : decode cX7_is 13 = .ok (.ireturn, 1) := by decide +kernel
theorem dX7_pupils_0 : decode cX7_pupils 0 = .ok (.iload_n 1, 1) := by decide +kernel
theorem dX7_pupils_1 : decode cX7_pupils 1 = .ok (.i2l, 1) := by decide +kernel
theorem dX7_pupils_2 : decode cX7_pupils 2 = .ok (.ldc2_w 65, 3) := by decide +kernel
theorem dX7_pupils_5 : decode cX7_pupils 5 = .ok (.ldc2_w 67, 3) := by decide +kernel
theorem dX7_pupils_8 : decode cX7_pupils 8 = .ok (.invokestatic 61, 3) := by decide +kernel
theorem dX7_pupils_11 : decode cX7_pupils 11 = .ok (.ifCond .ne 7, 3) := by decide +kernel
theorem dX7_pupils_14 : decode cX7_pupils 14 = .ok (.sipush (-1002), 3) := by decide +kernel
theorem dX7_pupils_17 : decode cX7_pupils 17 = .ok (.ireturn, 1) := by decide +kernel
theorem dX7_pupils_18 : decode cX7_pupils 18 = .ok (.aload_n 0, 1) := by decide +kernel
theorem dX7_pupils_19 : decode cX7_pupils 19 = .ok (.getfield 7, 3) := by decide +kernel
theorem dX7_pupils_22 : decode cX7_pupils 22 = .ok (.istore_n 2, 1) := by decide +kernel
theorem dX7_pupils_23 : decode cX7_pupils 23 = .ok (.aload_n 0, 1) := by decide +kernel
theorem dX7_pupils_24 : decode cX7_pupils 24 = .ok (.iload_n 1, 1) := by decide +kernel
theorem dX7_pupils_25 : decode cX7_pupils 25 = .ok (.putfield 7, 3) := by decide +kernel
theorem dX7_pupils_28 : decode cX7_pupils 28 = .ok (.aload_n 0, 1) := by decide +kernel
theorem dX7_pupils_29 : decode cX7_pupils 29 = .ok (.invokevirtual 58, 3) := by decide +kernel
theorem dX7_pupils_32 : decode cX7_pupils 32 = .ok (.iload_n 2, 1) := by decide +kernel
theorem dX7_pupils_33 : decode cX7_pupils 33 = .ok (.ireturn, 1) := by decide +kernel
theorem dX7_friends_0 : decode cX7_friends 0 = .ok (.aload_n 0, 1) := by decide +kernel
theorem dX7_friends_1 : decode cX7_friends 1 = .ok (.iload_n 1, 1) := by decide +kernel
theorem dX7_friends_2 : decode cX7_friends 2 = .ok (.invokevirtual 69, 3) := by decide +kernel
theorem dX7_friends_5 : decode cX7_friends 5 = .ok (.ifCond .eq 11, 3) := by decide +kernel
theorem dX7_friends_8 : decode cX7_friends 8 = .ok (.aload_n 0, 1) := by decide +kernel
theorem dX7_friends_9 : decode cX7_friends 9 = .ok (.iload_n 2, 1) := by decide +kernel
theorem dX7_friends_10 : decode cX7_friends 10 = .ok (.invokevirtual 69, 3) := by decide +kernel
theorem dX7_friends_13 : decode cX7_friends 13 = .ok (.ifCond .ne 7, 3) := by decide +kernel
theorem dX7_friends_16 : decode cX7_friends 16 = .ok (.sipush (-1001), 3) := by decide +kernel
theorem dX7_friends_19 : decode cX7_friends 19 = .ok (.ireturn, 1) := by decide +kernel
theorem dX7_friends_20 : decode cX7_friends 20 = .ok (.iload_n 1, 1) := by decide +kernel
theorem dX7_friends_21 : decode cX7_friends 21 = .ok (.iload_n 2, 1) := by decide +kernel
theorem dX7_friends_22 : decode cX7_friends 22 = .ok (.if_icmp .ne 7, 3) := by decide +kernel
theorem dX7_friends_25 : decode cX7_friends 25 = .ok (.sipush (-1003), 3) := by decide +kernel
theorem dX7_friends_28 : decode cX7_friends 28 = .ok (.ireturn, 1) := by decide +kernel
theorem dX7_friends_29 : decode cX7_friends 29 = .ok (.aload_n 0, 1) := by decide +kernel
theorem dX7_friends_30 : decode cX7_friends 30 = .ok (.getfield 13, 3) := by decide +kernel
theorem dX7_friends_33 : decode cX7_friends 33 = .ok (.bipush 8, 2) := by decide +kernel
theorem dX7_friends_35 : decode cX7_friends 35 = .ok (.iload_n 1, 1) := by decide +kernel
theorem dX7_friends_36 : decode cX7_friends 36 = .ok (.imul, 1) := by decide +kernel
theorem dX7_friends_37 : decode cX7_friends 37 = .ok (.iload_n 2, 1) := by decide +kernel
theorem dX7_friends_38 : decode cX7_friends 38 = .ok (.iadd, 1) := by decide +kernel
theorem dX7_friends_39 : decode cX7_friends 39 = .ok (.baload, 1) := by decide +kernel
theorem dX7_friends_40 : decode cX7_friends 40 = .ok (.ifCond .eq 7, 3) := by decide +kernel
theorem dX7_friends_43 : decode cX7_friends 43 = .ok (.iconst 1, 1) := by decide +kernel
theorem dX7_friends_44 : decode cX7_friends 44 = .ok (.goto 4, 3) := by decide +kernel
theorem dX7_friends_47 : decode cX7_friends 47 = .ok (.iconst 0, 1) := by decide +kernel
theorem dX7_friends_48 : decode cX7_friends 48 = .ok (.istore 4, 2) := by decide +kernel
theorem dX7_friends_50 : decode cX7_friends 50 = .ok (.aload_n 0, 1) := by decide +kernel
theorem dX7_friends_51 : decode cX7_friends 51 = .ok (.getfield 13, 3) := by decide +kernel
theorem dX7_friends_54 : decode cX7_friends 54 = .ok (.bipush 8, 2) := by decide +kernel
theorem dX7_friends_56 : decode cX7_friends 56 = .ok (.iload_n 1, 1) := by decide +kernel
theorem dX7_friends_57 : decode cX7_friends 57 = .ok (.imul, 1) := by decide +kernel
theorem dX7_friends_58 : decode cX7_friends 58 = .ok (.iload_n 2, 1) := by decide +kernel
theorem dX7_friends_59 : decode cX7_friends 59 = .ok (.iadd, 1) := by decide +kernel
theorem dX7_friends_60 : decode cX7_friends 60 = .ok (.iload_n 3, 1) := by decide +kernel
theorem dX7_friends_61 : decode cX7_friends 61 = .ok (.bastore, 1) := by decide +kernel
theorem dX7_friends_62 : decode cX7_friends 62 = .ok (.aload_n 0, 1) := by decide +kernel
theorem dX7_friends_63 : decode cX7_friends 63 = .ok (.getfield 13, 3) := by decide +kernel
theorem dX7_friends_66 : decode cX7_friends 66 = .ok (.bipush 8, 2) := by decide +kernel
theorem dX7_friends_68 : decode cX7_friends 68 = .ok (.iload_n 2, 1) := by decide +kernel
theorem dX7_friends_69 : decode cX7_friends 69 = .ok (.imul, 1) := by decide +kernel
theorem dX7_friends_70 : decode cX7_friends 70 = .ok (.iload_n 1, 1) := by decide +kernel
theorem dX7_friends_71 : decode cX7_friends 71 = .ok (.iadd, 1) := by decide +kernel
theorem dX7_friends_72 : decode cX7_friends 72 = .ok (.iload_n 3, 1) := by decide +kernel
theorem dX7_friends_73 : decode cX7_friends 73 = .ok (.bastore, 1) := by decide +kernel
theorem dX7_friends_74 : decode cX7_friends 74 = .ok (.iload 4, 2) := by decide +kernel
theorem dX7_friends_76 : decode cX7_friends 76 = .ok (.ireturn, 1) := by decide +kernel
theorem dX7_rule_0 : decode cX7_rule 0 = .ok (.iload_n 1, 1) := by decide +kernel
theorem dX7_rule_1 : decode cX7_rule 1 = .ok (.i2l, 1) := by decide +kernel
theorem dX7_rule_2 : decode cX7_rule 2 = .ok (.lconst 0, 1) := by decide +kernel
theorem dX7_rule_3 : decode cX7_rule 3 = .ok (.ldc2_w 65, 3) := by decide +kernel
theorem dX7_rule_6 : decode cX7_rule 6 = .ok (.invokestatic 61, 3) := by decide +kernel
theorem dX7_rule_9 : decode cX7_rule 9 = .ok (.ifCond .eq 45, 3) := by decide +kernel
theorem dX7_rule_12 : decode cX7_rule 12 = .ok (.iload_n 2, 1) := by decide +kernel
theorem dX7_rule_13 : decode cX7_rule 13 = .ok (.i2l, 1) := by decide +kernel
theorem dX7_rule_14 : decode cX7_rule 14 = .ok (.iload_n 1, 1) := by decide +kernel
theorem dX7_rule_15 : decode cX7_rule 15 = .ok (.iconst 2, 1) := by decide +kernel
theorem dX7_rule_16 : decode cX7_rule 16 = .ok (.if_icmp .ne 7, 3) := by decide +kernel
theorem dX7_rule_19 : decode cX7_rule 19 = .ok (.lconst 0, 1) := by decide +kernel
theorem dX7_rule_20 : decode cX7_rule 20 = .ok (.goto 4, 3) := by decide +kernel
theorem dX7_rule_23 : decode cX7_rule 23 = .ok (.lconst 1, 1) := by decide +kernel
theorem dX7_rule_24 : decode cX7_rule 24 = .ok (.iload_n 1, 1) := by decide +kernel
theorem dX7_rule_25 : decode cX7_rule 25 = .ok (.ifCond .ne 9, 3) := by decide +kernel
theorem dX7_rule_28 : decode cX7_rule 28 = .ok (.ldc2_w 73, 3) := by decide +kernel
theorem dX7_rule_31 : decode cX7_rule 31 = .ok (.goto 17, 3) := by decide +kernel
theorem dX7_rule_34 : decode cX7_rule 34 = .ok (.iload_n 1, 1) := by decide +kernel
theorem dX7_rule_35 : decode cX7_rule 35 = .ok (.iconst 1, 1) := by decide +kernel
theorem dX7_rule_36 : decode cX7_rule 36 = .ok (.if_icmp .ne 9, 3) := by decide +kernel
theorem dX7_rule_39 : decode cX7_rule 39 = .ok (.ldc2_w 67, 3) := by decide +kernel
theorem dX7_rule_42 : decode cX7_rule 42 = .ok (.goto 6, 3) := by decide +kernel
theorem dX7_rule_45 : decode cX7_rule 45 = .ok (.ldc2_w 75, 3) := by decide +kernel
theorem dX7_rule_48 : decode cX7_rule 48 = .ok (.invokestatic 61, 3) := by decide +kernel
theorem dX7_rule_51 : decode cX7_rule 51 = .ok (.ifCond .ne 7, 3) := by decide +kernel
theorem dX7_rule_54 : decode cX7_rule 54 = .ok (.sipush (-1002), 3) := by decide +kernel
theorem dX7_rule_57 : decode cX7_rule 57 = .ok (.ireturn, 1) := by decide +kernel
theorem dX7_rule_58 : decode cX7_rule 58 = .ok (.aload_n 0, 1) := by decide +kernel
theorem dX7_rule_59 : decode cX7_rule 59 = .ok (.getfield 17, 3) := by decide +kernel
theorem dX7_rule_62 : decode cX7_rule 62 = .ok (.iload_n 1, 1) := by decide +kernel
theorem dX7_rule_63 : decode cX7_rule 63 = .ok (.iaload, 1) := by decide +kernel
theorem dX7_rule_64 : decode cX7_rule 64 = .ok (.istore_n 3, 1) := by decide +kernel
theorem dX7_rule_65 : decode cX7_rule 65 = .ok (.aload_n 0, 1) := by decide +kernel
theorem dX7_rule_66 : decode cX7_rule 66 = .ok (.getfield 17, 3) := by decide +kernel
theorem dX7_rule_69 : decode cX7_rule 69 = .ok (.iload_n 1, 1) := by decide +kernel
theorem dX7_rule_70 : decode cX7_rule 70 = .ok (.iload_n 2, 1) := by decide +kernel
theorem dX7_rule_71 : decode cX7_rule 71 = .ok (.iastore, 1) := by decide +kernel
theorem dX7_rule_72 : decode cX7_rule 72 = .ok (.iload_n 3, 1) := by decide +kernel
theorem dX7_rule_73 : decode cX7_rule 73 = .ok (.ireturn, 1) := by decide +kernel
theorem dX7_canMark_0 : decode cX7_canMark 0 = .ok (.iload_n 1, 1) := by decide +kernel
theorem dX7_canMark_1 : decode cX7_canMark 1 = .ok (.iload_n 2, 1) := by decide +kernel
theorem dX7_canMark_2 : decode cX7_canMark 2 = .ok (.if_icmp .eq 21, 3) := by decide +kernel
theorem dX7_canMark_5 : decode cX7_canMark 5 = .ok (.aload_n 0, 1) := by decide +kernel
theorem dX7_canMark_6 : decode cX7_canMark 6 = .ok (.getfield 13, 3) := by decide +kernel
theorem dX7_canMark_9 : decode cX7_canMark 9 = .ok (.bipush 8, 2) := by decide +kernel
theorem dX7_canMark_11 : decode cX7_canMark 11 = .ok (.iload_n 1, 1) := by decide +kernel
theorem dX7_canMark_12 : decode cX7_canMark 12 = .ok (.imul, 1) := by decide +kernel
theorem dX7_canMark_13 : decode cX7_canMark 13 = .ok (.iload_n 2, 1) := by decide +kernel
theorem dX7_canMark_14 : decode cX7_canMark 14 = .ok (.iadd, 1) := by decide +kernel
theorem dX7_canMark_15 : decode cX7_canMark 15 = .ok (.baload, 1) := by decide +kernel
theorem dX7_canMark_16 : decode cX7_canMark 16 = .ok (.ifCond .ne 7, 3) := by decide +kernel
theorem dX7_canMark_19 : decode cX7_canMark 19 = .ok (.iconst 1, 1) := by decide +kernel
theorem dX7_canMark_20 : decode cX7_canMark 20 = .ok (.goto 4, 3) := by decide +kernel
theorem dX7_canMark_23 : decode cX7_canMark 23 = .ok (.iconst 0, 1) := by decide +kernel
theorem dX7_canMark_24 : decode cX7_canMark 24 = .ok (.ireturn, 1) := by decide +kernel
theorem dX7_may_0 : decode cX7_may 0 = .ok (.aload_n 0, 1) := by decide +kernel
theorem dX7_may_1 : decode cX7_may 1 = .ok (.iload_n 1, 1) := by decide +kernel
theorem dX7_may_2 : decode cX7_may 2 = .ok (.invokevirtual 69, 3) := by decide +kernel
theorem dX7_may_5 : decode cX7_may 5 = .ok (.ifCond .ne 7, 3) := by decide +kernel
theorem dX7_may_8 : decode cX7_may 8 = .ok (.sipush (-1001), 3) := by decide +kernel
theorem dX7_may_11 : decode cX7_may 11 = .ok (.ireturn, 1) := by decide +kernel
theorem dX7_may_12 : decode cX7_may 12 = .ok (.iconst 0, 1) := by decide +kernel
theorem dX7_may_13 : decode cX7_may 13 = .ok (.istore_n 2, 1) := by decide +kernel
theorem dX7_may_14 : decode cX7_may 14 = .ok (.iconst 0, 1) := by decide +kernel
theorem dX7_may_15 : decode cX7_may 15 = .ok (.istore_n 3, 1) := by decide +kernel
theorem dX7_may_16 : decode cX7_may 16 = .ok (.iload_n 3, 1) := by decide +kernel
theorem dX7_may_17 : decode cX7_may 17 = .ok (.aload_n 0, 1) := by decide +kernel
theorem dX7_may_18 : decode cX7_may 18 = .ok (.getfield 7, 3) := by decide +kernel
theorem dX7_may_21 : decode cX7_may 21 = .ok (.if_icmp .ge 28, 3) := by decide +kernel
theorem dX7_may_24 : decode cX7_may 24 = .ok (.iload_n 2, 1) := by decide +kernel
theorem dX7_may_25 : decode cX7_may 25 = .ok (.aload_n 0, 1) := by decide +kernel
theorem dX7_may_26 : decode cX7_may 26 = .ok (.iload_n 1, 1) := by decide +kernel
theorem dX7_may_27 : decode cX7_may 27 = .ok (.iload_n 3, 1) := by decide +kernel
theorem dX7_may_28 : decode cX7_may 28 = .ok (.invokevirtual 77, 3) := by decide +kernel
theorem dX7_may_31 : decode cX7_may 31 = .ok (.ifCond .eq 9, 3) := by decide +kernel
theorem dX7_may_34 : decode cX7_may 34 = .ok (.iconst 1, 1) := by decide +kernel
theorem dX7_may_35 : decode cX7_may 35 = .ok (.iload_n 3, 1) := by decide +kernel
theorem dX7_may_36 : decode cX7_may 36 = .ok (.ishl, 1) := by decide +kernel
theorem dX7_may_37 : decode cX7_may 37 = .ok (.goto 4, 3) := by decide +kernel
theorem dX7_may_40 : decode cX7_may 40 = .ok (.iconst 0, 1) := by decide +kernel
theorem dX7_may_41 : decode cX7_may 41 = .ok (.ior, 1) := by decide +kernel
theorem dX7_may_42 : decode cX7_may 42 = .ok (.istore_n 2, 1) := by decide +kernel
theorem dX7_may_43 : decode cX7_may 43 = .ok (.iinc 3 1, 3) := by decide +kernel
theorem dX7_may_46 : decode cX7_may 46 = .ok (.goto (-30), 3) := by decide +kernel
theorem dX7_may_49 : decode cX7_may 49 = .ok (.iload_n 2, 1) := by decide +kernel
theorem dX7_may_50 : decode cX7_may 50 = .ok (.ireturn, 1) := by decide +kernel
theorem dX7_bits_0 : decode cX7_bits 0 = .ok (.iconst 0, 1) := by decide +kernel
theorem dX7_bits_1 : decode cX7_bits 1 = .ok (.istore_n 1, 1) := by decide +kernel
theorem dX7_bits_2 : decode cX7_bits 2 = .ok (.iconst 0, 1) := by decide +kernel
theorem dX7_bits_3 : decode cX7_bits 3 = .ok (.istore_n 2, 1) := by decide +kernel
theorem dX7_bits_4 : decode cX7_bits 4 = .ok (.iload_n 2, 1) := by decide +kernel
theorem dX7_bits_5 : decode cX7_bits 5 = .ok (.bipush 8, 2) := by decide +kernel
theorem dX7_bits_7 : decode cX7_bits 7 = .ok (.if_icmp .ge 17, 3) := by decide +kernel
theorem dX7_bits_10 : decode cX7_bits 10 = .ok (.iload_n 1, 1) := by decide +kernel
theorem dX7_bits_11 : decode cX7_bits 11 = .ok (.iload_n 0, 1) := by decide +kernel
theorem dX7_bits_12 : decode cX7_bits 12 = .ok (.iload_n 2, 1) := by decide +kernel
theorem dX7_bits_13 : decode cX7_bits 13 = .ok (.ishr, 1) := by decide +kernel
theorem dX7_bits_14 : decode cX7_bits 14 = .ok (.iconst 1, 1) := by decide +kernel
theorem dX7_bits_15 : decode cX7_bits 15 = .ok (.iand, 1) := by decide +kernel
theorem dX7_bits_16 : decode cX7_bits 16 = .ok (.iadd, 1) := by decide +kernel
theorem dX7_bits_17 : decode cX7_bits 17 = .ok (.istore_n 1, 1) := by decide +kernel
theorem dX7_bits_18 : decode cX7_bits 18 = .ok (.iinc 2 1, 3) := by decide +kernel
theorem dX7_bits_21 : decode cX7_bits 21 = .ok (.goto (-17), 3) := by decide +kernel
theorem dX7_bits_24 : decode cX7_bits 24 = .ok (.iload_n 1, 1) := by decide +kernel
theorem dX7_bits_25 : decode cX7_bits 25 = .ok (.ireturn, 1) := by decide +kernel
theorem dX7_lackFrom_0 : decode cX7_lackFrom 0 = .ok (.iconst 1, 1) := by decide +kernel
theorem dX7_lackFrom_1 : decode cX7_lackFrom 1 = .ok (.istore_n 2, 1) := by decide +kernel
theorem dX7_lackFrom_2 : decode cX7_lackFrom 2 = .ok (.iload_n 2, 1) := by decide +kernel
theorem dX7_lackFrom_3 : decode cX7_lackFrom 3 = .ok (.iconst 1, 1) := by decide +kernel
theorem dX7_lackFrom_4 : decode cX7_lackFrom 4 = .ok (.aload_n 0, 1) := by decide +kernel
theorem dX7_lackFrom_5 : decode cX7_lackFrom 5 = .ok (.getfield 7, 3) := by decide +kernel
theorem dX7_lackFrom_8 : decode cX7_lackFrom 8 = .ok (.ishl, 1) := by decide +kernel
theorem dX7_lackFrom_9 : decode cX7_lackFrom 9 = .ok (.if_icmp .ge 96, 3) := by decide +kernel
theorem dX7_lackFrom_12 : decode cX7_lackFrom 12 = .ok (.iload_n 2, 1) := by decide +kernel
theorem dX7_lackFrom_13 : decode cX7_lackFrom 13 = .ok (.iconst 1, 1) := by decide +kernel
theorem dX7_lackFrom_14 : decode cX7_lackFrom 14 = .ok (.iload_n 1, 1) := by decide +kernel
theorem dX7_lackFrom_15 : decode cX7_lackFrom 15 = .ok (.ishl, 1) := by decide +kernel
theorem dX7_lackFrom_16 : decode cX7_lackFrom 16 = .ok (.iconst 1, 1) := by decide +kernel
theorem dX7_lackFrom_17 : decode cX7_lackFrom 17 = .ok (.isub, 1) := by decide +kernel
theorem dX7_lackFrom_18 : decode cX7_lackFrom 18 = .ok (.iand, 1) := by decide +kernel
theorem dX7_lackFrom_19 : decode cX7_lackFrom 19 = .ok (.ifCond .ne 80, 3) := by decide +kernel
theorem dX7_lackFrom_22 : decode cX7_lackFrom 22 = .ok (.iconst 0, 1) := by decide +kernel
theorem dX7_lackFrom_23 : decode cX7_lackFrom 23 = .ok (.istore_n 3, 1) := by decide +kernel
theorem dX7_lackFrom_24 : decode cX7_lackFrom 24 = .ok (.iconst 0, 1) := by decide +kernel
theorem dX7_lackFrom_25 : decode cX7_lackFrom 25 = .ok (.istore 4, 2) := by decide +kernel
theorem dX7_lackFrom_27 : decode cX7_lackFrom 27 = .ok (.iload 4, 2) := by decide +kernel
theorem dX7_lackFrom_29 : decode cX7_lackFrom 29 = .ok (.aload_n 0, 1) := by decide +kernel
theorem dX7_lackFrom_30 : decode cX7_lackFrom 30 = .ok (.getfield 7, 3) := by decide +kernel
theorem dX7_lackFrom_33 : decode cX7_lackFrom 33 = .ok (.if_icmp .ge 49, 3) := by decide +kernel
theorem dX7_lackFrom_36 : decode cX7_lackFrom 36 = .ok (.iload_n 2, 1) := by decide +kernel
theorem dX7_lackFrom_37 : decode cX7_lackFrom 37 = .ok (.aload_n 0, 1) := by decide +kernel
theorem dX7_lackFrom_38 : decode cX7_lackFrom 38 = .ok (.iload 4, 2) := by decide +kernel
theorem dX7_lackFrom_40 : decode cX7_lackFrom 40 = .ok (.invokevirtual 81, 3) := by decide +kernel
theorem dX7_lackFrom_43 : decode cX7_lackFrom 43 = .ok (.iand, 1) := by decide +kernel
theorem dX7_lackFrom_44 : decode cX7_lackFrom 44 = .ok (.invokestatic 85, 3) := by decide +kernel
theorem dX7_lackFrom_47 : decode cX7_lackFrom 47 = .ok (.istore 5, 2) := by decide +kernel
theorem dX7_lackFrom_49 : decode cX7_lackFrom 49 = .ok (.iload_n 3, 1) := by decide +kernel
theorem dX7_lackFrom_50 : decode cX7_lackFrom 50 = .ok (.iload 5, 2) := by decide +kernel
theorem dX7_lackFrom_52 : decode cX7_lackFrom 52 = .ok (.aload_n 0, 1) := by decide +kernel
theorem dX7_lackFrom_53 : decode cX7_lackFrom 53 = .ok (.getfield 27, 3) := by decide +kernel
theorem dX7_lackFrom_56 : decode cX7_lackFrom 56 = .ok (.iload 4, 2) := by decide +kernel
theorem dX7_lackFrom_58 : decode cX7_lackFrom 58 = .ok (.iaload, 1) := by decide +kernel
theorem dX7_lackFrom_59 : decode cX7_lackFrom 59 = .ok (.if_icmp .ge 8, 3) := by decide +kernel
theorem dX7_lackFrom_62 : decode cX7_lackFrom 62 = .ok (.iload 5, 2) := by decide +kernel
theorem dX7_lackFrom_64 : decode cX7_lackFrom 64 = .ok (.goto 10, 3) := by decide +kernel
theorem dX7_lackFrom_67 : decode cX7_lackFrom 67 = .ok (.aload_n 0, 1) := by decide +kernel
theorem dX7_lackFrom_68 : decode cX7_lackFrom 68 = .ok (.getfield 27, 3) := by decide +kernel
theorem dX7_lackFrom_71 : decode cX7_lackFrom 71 = .ok (.iload 4, 2) := by decide +kernel
theorem dX7_lackFrom_73 : decode cX7_lackFrom 73 = .ok (.iaload, 1) := by decide +kernel
theorem dX7_lackFrom_74 : decode cX7_lackFrom 74 = .ok (.iadd, 1) := by decide +kernel
theorem dX7_lackFrom_75 : decode cX7_lackFrom 75 = .ok (.istore_n 3, 1) := by decide +kernel
theorem dX7_lackFrom_76 : decode cX7_lackFrom 76 = .ok (.iinc 4 1, 3) := by decide +kernel
theorem dX7_lackFrom_79 : decode cX7_lackFrom 79 = .ok (.goto (-52), 3) := by decide +kernel
theorem dX7_lackFrom_82 : decode cX7_lackFrom 82 = .ok (.aload_n 0, 1) := by decide +kernel
theorem dX7_lackFrom_83 : decode cX7_lackFrom 83 = .ok (.getfield 17, 3) := by decide +kernel
theorem dX7_lackFrom_86 : decode cX7_lackFrom 86 = .ok (.iconst 0, 1) := by decide +kernel
theorem dX7_lackFrom_87 : decode cX7_lackFrom 87 = .ok (.iaload, 1) := by decide +kernel
theorem dX7_lackFrom_88 : decode cX7_lackFrom 88 = .ok (.iload_n 2, 1) := by decide +kernel
theorem dX7_lackFrom_89 : decode cX7_lackFrom 89 = .ok (.invokestatic 85, 3) := by decide +kernel
theorem dX7_lackFrom_92 : decode cX7_lackFrom 92 = .ok (.imul, 1) := by decide +kernel
theorem dX7_lackFrom_93 : decode cX7_lackFrom 93 = .ok (.iload_n 3, 1) := by decide +kernel
theorem dX7_lackFrom_94 : decode cX7_lackFrom 94 = .ok (.if_icmp .le 5, 3) := by decide +kernel
theorem dX7_lackFrom_97 : decode cX7_lackFrom 97 = .ok (.iload_n 2, 1) := by decide +kernel
theorem dX7_lackFrom_98 : decode cX7_lackFrom 98 = .ok (.ireturn, 1) := by decide +kernel
theorem dX7_lackFrom_99 : decode cX7_lackFrom 99 = .ok (.iinc 2 1, 3) := by decide +kernel
theorem dX7_lackFrom_102 : decode cX7_lackFrom 102 = .ok (.goto (-100), 3) := by decide +kernel
theorem dX7_lackFrom_105 : decode cX7_lackFrom 105 = .ok (.iconst 0, 1) := by decide +kernel
theorem dX7_lackFrom_106 : decode cX7_lackFrom 106 = .ok (.ireturn, 1) := by decide +kernel
theorem dX7_mayBe_0 : decode cX7_mayBe 0 = .ok (.iload_n 2, 1) := by decide +kernel
theorem dX7_mayBe_1 : decode cX7_mayBe 1 = .ok (.invokestatic 85, 3) := by decide +kernel
theorem dX7_mayBe_4 : decode cX7_mayBe 4 = .ok (.aload_n 0, 1) := by decide +kernel
theorem dX7_mayBe_5 : decode cX7_mayBe 5 = .ok (.getfield 17, 3) := by decide +kernel
theorem dX7_mayBe_8 : decode cX7_mayBe 8 = .ok (.iconst 0, 1) := by decide +kernel
theorem dX7_mayBe_9 : decode cX7_mayBe 9 = .ok (.iaload, 1) := by decide +kernel
theorem dX7_mayBe_10 : decode cX7_mayBe 10 = .ok (.if_icmp .ne 7, 3) := by decide +kernel
theorem dX7_mayBe_13 : decode cX7_mayBe 13 = .ok (.iconst 1, 1) := by decide +kernel
theorem dX7_mayBe_14 : decode cX7_mayBe 14 = .ok (.goto 4, 3) := by decide +kernel
theorem dX7_mayBe_17 : decode cX7_mayBe 17 = .ok (.iconst 0, 1) := by decide +kernel
theorem dX7_mayBe_18 : decode cX7_mayBe 18 = .ok (.istore_n 3, 1) := by decide +kernel
theorem dX7_mayBe_19 : decode cX7_mayBe 19 = .ok (.iconst 0, 1) := by decide +kernel
theorem dX7_mayBe_20 : decode cX7_mayBe 20 = .ok (.istore 4, 2) := by decide +kernel
theorem dX7_mayBe_22 : decode cX7_mayBe 22 = .ok (.iload 4, 2) := by decide +kernel
theorem dX7_mayBe_24 : decode cX7_mayBe 24 = .ok (.aload_n 0, 1) := by decide +kernel
theorem dX7_mayBe_25 : decode cX7_mayBe 25 = .ok (.getfield 7, 3) := by decide +kernel
theorem dX7_mayBe_28 : decode cX7_mayBe 28 = .ok (.if_icmp .ge 48, 3) := by decide +kernel
theorem dX7_mayBe_31 : decode cX7_mayBe 31 = .ok (.iload_n 3, 1) := by decide +kernel
theorem dX7_mayBe_32 : decode cX7_mayBe 32 = .ok (.ifCond .eq 36, 3) := by decide +kernel
theorem dX7_mayBe_35 : decode cX7_mayBe 35 = .ok (.iload_n 2, 1) := by decide +kernel
theorem dX7_mayBe_36 : decode cX7_mayBe 36 = .ok (.iload 4, 2) := by decide +kernel
theorem dX7_mayBe_38 : decode cX7_mayBe 38 = .ok (.ishr, 1) := by decide +kernel
theorem dX7_mayBe_39 : decode cX7_mayBe 39 = .ok (.iconst 1, 1) := by decide +kernel
theorem dX7_mayBe_40 : decode cX7_mayBe 40 = .ok (.iand, 1) := by decide +kernel
theorem dX7_mayBe_41 : decode cX7_mayBe 41 = .ok (.ifCond .eq 23, 3) := by decide +kernel
theorem dX7_mayBe_44 : decode cX7_mayBe 44 = .ok (.aload_n 0, 1) := by decide +kernel
theorem dX7_mayBe_45 : decode cX7_mayBe 45 = .ok (.iload 4, 2) := by decide +kernel
theorem dX7_mayBe_47 : decode cX7_mayBe 47 = .ok (.iload_n 1, 1) := by decide +kernel
theorem dX7_mayBe_48 : decode cX7_mayBe 48 = .ok (.invokevirtual 77, 3) := by decide +kernel
theorem dX7_mayBe_51 : decode cX7_mayBe 51 = .ok (.ifCond .eq 17, 3) := by decide +kernel
theorem dX7_mayBe_54 : decode cX7_mayBe 54 = .ok (.aload_n 0, 1) := by decide +kernel
theorem dX7_mayBe_55 : decode cX7_mayBe 55 = .ok (.getfield 27, 3) := by decide +kernel
theorem dX7_mayBe_58 : decode cX7_mayBe 58 = .ok (.iload 4, 2) := by decide +kernel
theorem dX7_mayBe_60 : decode cX7_mayBe 60 = .ok (.iaload, 1) := by decide +kernel
theorem dX7_mayBe_61 : decode cX7_mayBe 61 = .ok (.ifCond .le 7, 3) := by decide +kernel
theorem dX7_mayBe_64 : decode cX7_mayBe 64 = .ok (.iconst 1, 1) := by decide +kernel
theorem dX7_mayBe_65 : decode cX7_mayBe 65 = .ok (.goto 4, 3) := by decide +kernel
theorem dX7_mayBe_68 : decode cX7_mayBe 68 = .ok (.iconst 0, 1) := by decide +kernel
theorem dX7_mayBe_69 : decode cX7_mayBe 69 = .ok (.istore_n 3, 1) := by decide +kernel
theorem dX7_mayBe_70 : decode cX7_mayBe 70 = .ok (.iinc 4 1, 3) := by decide +kernel
theorem dX7_mayBe_73 : decode cX7_mayBe 73 = .ok (.goto (-51), 3) := by decide +kernel
theorem dX7_mayBe_76 : decode cX7_mayBe 76 = .ok (.iload_n 3, 1) := by decide +kernel
theorem dX7_mayBe_77 : decode cX7_mayBe 77 = .ok (.ireturn, 1) := by decide +kernel
theorem dX7_use_0 : decode cX7_use 0 = .ok (.iconst 0, 1) := by decide +kernel
theorem dX7_use_1 : decode cX7_use 1 = .ok (.istore_n 3, 1) := by decide +kernel
theorem dX7_use_2 : decode cX7_use 2 = .ok (.iload_n 3, 1) := by decide +kernel
theorem dX7_use_3 : decode cX7_use 3 = .ok (.aload_n 0, 1) := by decide +kernel
theorem dX7_use_4 : decode cX7_use 4 = .ok (.getfield 7, 3) := by decide +kernel
theorem dX7_use_7 : decode cX7_use 7 = .ok (.if_icmp .ge 25, 3) := by decide +kernel
theorem dX7_use_10 : decode cX7_use 10 = .ok (.aload_n 0, 1) := by decide +kernel
theorem dX7_use_11 : decode cX7_use 11 = .ok (.getfield 27, 3) := by decide +kernel
theorem dX7_use_14 : decode cX7_use 14 = .ok (.iload_n 3, 1) := by decide +kernel
theorem dX7_use_15 : decode cX7_use 15 = .ok (.dup2, 1) := by decide +kernel
theorem dX7_use_16 : decode cX7_use 16 = .ok (.iaload, 1) := by decide +kernel
theorem dX7_use_17 : decode cX7_use 17 = .ok (.iload_n 1, 1) := by decide +kernel
theorem dX7_use_18 : decode cX7_use 18 = .ok (.iload_n 3, 1) := by decide +kernel
theorem dX7_use_19 : decode cX7_use 19 = .ok (.ishr, 1) := by decide +kernel
theorem dX7_use_20 : decode cX7_use 20 = .ok (.iconst 1, 1) := by decide +kernel
theorem dX7_use_21 : decode cX7_use 21 = .ok (.iand, 1) := by decide +kernel
theorem dX7_use_22 : decode cX7_use 22 = .ok (.iload_n 2, 1) := by decide +kernel
theorem dX7_use_23 : decode cX7_use 23 = .ok (.imul, 1) := by decide +kernel
theorem dX7_use_24 : decode cX7_use 24 = .ok (.isub, 1) := by decide +kernel
theorem dX7_use_25 : decode cX7_use 25 = .ok (.iastore, 1) := by decide +kernel
theorem dX7_use_26 : decode cX7_use 26 = .ok (.iinc 3 1, 3) := by decide +kernel
theorem dX7_use_29 : decode cX7_use 29 = .ok (.goto (-27), 3) := by decide +kernel
theorem dX7_use_32 : decode cX7_use 32 = .ok (.return_, 1) := by decide +kernel
theorem dX7_isAhead_0 : decode cX7_isAhead 0 = .ok (.iload_n 0, 1) := by decide +kernel
theorem dX7_isAhead_1 : decode cX7_isAhead 1 = .ok (.iload_n 1, 1) := by decide +kernel
theorem dX7_isAhead_2 : decode cX7_isAhead 2 = .ok (.ixor, 1) := by decide +kernel
theorem dX7_isAhead_3 : decode cX7_isAhead 3 = .ok (.istore_n 2, 1) := by decide +kernel
theorem dX7_isAhead_4 : decode cX7_isAhead 4 = .ok (.iload_n 0, 1) := by decide +kernel
theorem dX7_isAhead_5 : decode cX7_isAhead 5 = .ok (.iload_n 2, 1) := by decide +kernel
theorem dX7_isAhead_6 : decode cX7_isAhead 6 = .ok (.iand, 1) := by decide +kernel
theorem dX7_isAhead_7 : decode cX7_isAhead 7 = .ok (.iload_n 2, 1) := by decide +kernel
theorem dX7_isAhead_8 : decode cX7_isAhead 8 = .ok (.ineg, 1) := by decide +kernel
theorem dX7_isAhead_9 : decode cX7_isAhead 9 = .ok (.iand, 1) := by decide +kernel
theorem dX7_isAhead_10 : decode cX7_isAhead 10 = .ok (.ifCond .eq 7, 3) := by decide +kernel
theorem dX7_isAhead_13 : decode cX7_isAhead 13 = .ok (.iconst 1, 1) := by decide +kernel
theorem dX7_isAhead_14 : decode cX7_isAhead 14 = .ok (.goto 4, 3) := by decide +kernel
theorem dX7_isAhead_17 : decode cX7_isAhead 17 = .ok (.iconst 0, 1) := by decide +kernel
theorem dX7_isAhead_18 : decode cX7_isAhead 18 = .ok (.ireturn, 1) := by decide +kernel
theorem dX7_findPlan_0 : decode cX7_findPlan 0 = .ok (.iconst 0, 1) := by decide +kernel
theorem dX7_findPlan_1 : decode cX7_findPlan 1 = .ok (.istore_n 1, 1) := by decide +kernel
theorem dX7_findPlan_2 : decode cX7_findPlan 2 = .ok (.iload_n 1, 1) := by decide +kernel
theorem dX7_findPlan_3 : decode cX7_findPlan 3 = .ok (.aload_n 0, 1) := by decide +kernel
theorem dX7_findPlan_4 : decode cX7_findPlan 4 = .ok (.getfield 7, 3) := by decide +kernel
theorem dX7_findPlan_7 : decode cX7_findPlan 7 = .ok (.if_icmp .ge 21, 3) := by decide +kernel
theorem dX7_findPlan_10 : decode cX7_findPlan 10 = .ok (.aload_n 0, 1) := by decide +kernel
theorem dX7_findPlan_11 : decode cX7_findPlan 11 = .ok (.getfield 27, 3) := by decide +kernel
theorem dX7_findPlan_14 : decode cX7_findPlan 14 = .ok (.iload_n 1, 1) := by decide +kernel
theorem dX7_findPlan_15 : decode cX7_findPlan 15 = .ok (.aload_n 0, 1) := by decide +kernel
theorem dX7_findPlan_16 : decode cX7_findPlan 16 = .ok (.getfield 17, 3) := by decide +kernel
theorem dX7_findPlan_19 : decode cX7_findPlan 19 = .ok (.iconst 1, 1) := by decide +kernel
theorem dX7_findPlan_20 : decode cX7_findPlan 20 = .ok (.iaload, 1) := by decide +kernel
theorem dX7_findPlan_21 : decode cX7_findPlan 21 = .ok (.iastore, 1) := by decide +kernel
theorem dX7_findPlan_22 : decode cX7_findPlan 22 = .ok (.iinc 1 1, 3) := by decide +kernel
theorem dX7_findPlan_25 : decode cX7_findPlan 25 = .ok (.goto (-23), 3) := by decide +kernel
theorem dX7_findPlan_28 : decode cX7_findPlan 28 = .ok (.aload_n 0, 1) := by decide +kernel
theorem dX7_findPlan_29 : decode cX7_findPlan 29 = .ok (.iconst 0, 1) := by decide +kernel
theorem dX7_findPlan_30 : decode cX7_findPlan 30 = .ok (.invokevirtual 88, 3) := by decide +kernel
theorem dX7_findPlan_33 : decode cX7_findPlan 33 = .ok (.ifCond .le 5, 3) := by decide +kernel
theorem dX7_findPlan_36 : decode cX7_findPlan 36 = .ok (.iconst 0, 1) := by decide +kernel
theorem dX7_findPlan_37 : decode cX7_findPlan 37 = .ok (.ireturn, 1) := by decide +kernel
theorem dX7_findPlan_38 : decode cX7_findPlan 38 = .ok (.iconst 0, 1) := by decide +kernel
theorem dX7_findPlan_39 : decode cX7_findPlan 39 = .ok (.istore_n 1, 1) := by decide +kernel
theorem dX7_findPlan_40 : decode cX7_findPlan 40 = .ok (.iload_n 1, 1) := by decide +kernel
theorem dX7_findPlan_41 : decode cX7_findPlan 41 = .ok (.aload_n 0, 1) := by decide +kernel
theorem dX7_findPlan_42 : decode cX7_findPlan 42 = .ok (.getfield 7, 3) := by decide +kernel
theorem dX7_findPlan_45 : decode cX7_findPlan 45 = .ok (.if_icmp .ge 91, 3) := by decide +kernel
theorem dX7_findPlan_48 : decode cX7_findPlan 48 = .ok (.iconst 0, 1) := by decide +kernel
theorem dX7_findPlan_49 : decode cX7_findPlan 49 = .ok (.istore_n 2, 1) := by decide +kernel
theorem dX7_findPlan_50 : decode cX7_findPlan 50 = .ok (.iconst 1, 1) := by decide +kernel
theorem dX7_findPlan_51 : decode cX7_findPlan 51 = .ok (.istore_n 3, 1) := by decide +kernel
theorem dX7_findPlan_52 : decode cX7_findPlan 52 = .ok (.iload_n 3, 1) := by decide +kernel
theorem dX7_findPlan_53 : decode cX7_findPlan 53 = .ok (.iconst 1, 1) := by decide +kernel
theorem dX7_findPlan_54 : decode cX7_findPlan 54 = .ok (.aload_n 0, 1) := by decide +kernel
theorem dX7_findPlan_55 : decode cX7_findPlan 55 = .ok (.getfield 7, 3) := by decide +kernel
theorem dX7_findPlan_58 : decode cX7_findPlan 58 = .ok (.ishl, 1) := by decide +kernel
theorem dX7_findPlan_59 : decode cX7_findPlan 59 = .ok (.if_icmp .ge 58, 3) := by decide +kernel
theorem dX7_findPlan_62 : decode cX7_findPlan 62 = .ok (.aload_n 0, 1) := by decide +kernel
theorem dX7_findPlan_63 : decode cX7_findPlan 63 = .ok (.iload_n 1, 1) := by decide +kernel
theorem dX7_findPlan_64 : decode cX7_findPlan 64 = .ok (.iload_n 3, 1) := by decide +kernel
theorem dX7_findPlan_65 : decode cX7_findPlan 65 = .ok (.invokevirtual 91, 3) := by decide +kernel
theorem dX7_findPlan_68 : decode cX7_findPlan 68 = .ok (.ifCond .eq 43, 3) := by decide +kernel
theorem dX7_findPlan_71 : decode cX7_findPlan 71 = .ok (.iload_n 2, 1) := by decide +kernel
theorem dX7_findPlan_72 : decode cX7_findPlan 72 = .ok (.ifCond .eq 11, 3) := by decide +kernel
theorem dX7_findPlan_75 : decode cX7_findPlan 75 = .ok (.iload_n 3, 1) := by decide +kernel
theorem dX7_findPlan_76 : decode cX7_findPlan 76 = .ok (.iload_n 2, 1) := by decide +kernel
theorem dX7_findPlan_77 : decode cX7_findPlan 77 = .ok (.invokestatic 94, 3) := by decide +kernel
theorem dX7_findPlan_80 : decode cX7_findPlan 80 = .ok (.ifCond .eq 31, 3) := by decide +kernel
theorem dX7_findPlan_83 : decode cX7_findPlan 83 = .ok (.aload_n 0, 1) := by decide +kernel
theorem dX7_findPlan_84 : decode cX7_findPlan 84 = .ok (.iload_n 3, 1) := by decide +kernel
theorem dX7_findPlan_85 : decode cX7_findPlan 85 = .ok (.iconst 1, 1) := by decide +kernel
theorem dX7_findPlan_86 : decode cX7_findPlan 86 = .ok (.invokevirtual 97, 3) := by decide +kernel
theorem dX7_findPlan_89 : decode cX7_findPlan 89 = .ok (.aload_n 0, 1) := by decide +kernel
theorem dX7_findPlan_90 : decode cX7_findPlan 90 = .ok (.iload_n 1, 1) := by decide +kernel
theorem dX7_findPlan_91 : decode cX7_findPlan 91 = .ok (.iconst 1, 1) := by decide +kernel
theorem dX7_findPlan_92 : decode cX7_findPlan 92 = .ok (.iadd, 1) := by decide +kernel
theorem dX7_findPlan_93 : decode cX7_findPlan 93 = .ok (.invokevirtual 88, 3) := by decide +kernel
theorem dX7_findPlan_96 : decode cX7_findPlan 96 = .ok (.ifCond .ne 7, 3) := by decide +kernel
theorem dX7_findPlan_99 : decode cX7_findPlan 99 = .ok (.iload_n 3, 1) := by decide +kernel
theorem dX7_findPlan_100 : decode cX7_findPlan 100 = .ok (.goto 4, 3) := by decide +kernel
theorem dX7_findPlan_103 : decode cX7_findPlan 103 = .ok (.iload_n 2, 1) := by decide +kernel
theorem dX7_findPlan_104 : decode cX7_findPlan 104 = .ok (.istore_n 2, 1) := by decide +kernel
theorem dX7_findPlan_105 : decode cX7_findPlan 105 = .ok (.aload_n 0, 1) := by decide +kernel
theorem dX7_findPlan_106 : decode cX7_findPlan 106 = .ok (.iload_n 3, 1) := by decide +kernel
theorem dX7_findPlan_107 : decode cX7_findPlan 107 = .ok (.iconst (-1), 1) := by decide +kernel
theorem dX7_findPlan_108 : decode cX7_findPlan 108 = .ok (.invokevirtual 97, 3) := by decide +kernel
theorem dX7_findPlan_111 : decode cX7_findPlan 111 = .ok (.iinc 3 1, 3) := by decide +kernel
theorem dX7_findPlan_114 : decode cX7_findPlan 114 = .ok (.goto (-62), 3) := by decide +kernel
theorem dX7_findPlan_117 : decode cX7_findPlan 117 = .ok (.aload_n 0, 1) := by decide +kernel
theorem dX7_findPlan_118 : decode cX7_findPlan 118 = .ok (.getfield 30, 3) := by decide +kernel
theorem dX7_findPlan_121 : decode cX7_findPlan 121 = .ok (.iload_n 1, 1) := by decide +kernel
theorem dX7_findPlan_122 : decode cX7_findPlan 122 = .ok (.iload_n 2, 1) := by decide +kernel
theorem dX7_findPlan_123 : decode cX7_findPlan 123 = .ok (.iastore, 1) := by decide +kernel
theorem dX7_findPlan_124 : decode cX7_findPlan 124 = .ok (.aload_n 0, 1) := by decide +kernel
theorem dX7_findPlan_125 : decode cX7_findPlan 125 = .ok (.iload_n 2, 1) := by decide +kernel
theorem dX7_findPlan_126 : decode cX7_findPlan 126 = .ok (.iconst 1, 1) := by decide +kernel
theorem dX7_findPlan_127 : decode cX7_findPlan 127 = .ok (.invokevirtual 97, 3) := by decide +kernel
theorem dX7_findPlan_130 : decode cX7_findPlan 130 = .ok (.iinc 1 1, 3) := by decide +kernel
theorem dX7_findPlan_133 : decode cX7_findPlan 133 = .ok (.goto (-93), 3) := by decide +kernel
theorem dX7_findPlan_136 : decode cX7_findPlan 136 = .ok (.iconst 1, 1) := by decide +kernel
theorem dX7_findPlan_137 : decode cX7_findPlan 137 = .ok (.ireturn, 1) := by decide +kernel
theorem dX7_plan_0 : decode cX7_plan 0 = .ok (.aload_n 0, 1) := by decide +kernel
theorem dX7_plan_1 : decode cX7_plan 1 = .ok (.iload_n 1, 1) := by decide +kernel
theorem dX7_plan_2 : decode cX7_plan 2 = .ok (.invokevirtual 69, 3) := by decide +kernel
theorem dX7_plan_5 : decode cX7_plan 5 = .ok (.ifCond .ne 9, 3) := by decide +kernel
theorem dX7_plan_8 : decode cX7_plan 8 = .ok (.sipush (-1001), 3) := by decide +kernel
theorem dX7_plan_11 : decode cX7_plan 11 = .ok (.goto 22, 3) := by decide +kernel
theorem dX7_plan_14 : decode cX7_plan 14 = .ok (.aload_n 0, 1) := by decide +kernel
theorem dX7_plan_15 : decode cX7_plan 15 = .ok (.invokevirtual 101, 3) := by decide +kernel
theorem dX7_plan_18 : decode cX7_plan 18 = .ok (.ifCond .eq 12, 3) := by decide +kernel
theorem dX7_plan_21 : decode cX7_plan 21 = .ok (.aload_n 0, 1) := by decide +kernel
theorem dX7_plan_22 : decode cX7_plan 22 = .ok (.getfield 30, 3) := by decide +kernel
theorem dX7_plan_25 : decode cX7_plan 25 = .ok (.iload_n 1, 1) := by decide +kernel
theorem dX7_plan_26 : decode cX7_plan 26 = .ok (.iaload, 1) := by decide +kernel
theorem dX7_plan_27 : decode cX7_plan 27 = .ok (.goto 6, 3) := by decide +kernel
theorem dX7_plan_30 : decode cX7_plan 30 = .ok (.sipush (-1003), 3) := by decide +kernel
theorem dX7_plan_33 : decode cX7_plan 33 = .ok (.ireturn, 1) := by decide +kernel
theorem dX7_shared_0 : decode cX7_shared 0 = .ok (.aload_n 0, 1) := by decide +kernel
theorem dX7_shared_1 : decode cX7_shared 1 = .ok (.iload_n 1, 1) := by decide +kernel
theorem dX7_shared_2 : decode cX7_shared 2 = .ok (.invokevirtual 69, 3) := by decide +kernel
theorem dX7_shared_5 : decode cX7_shared 5 = .ok (.ifCond .ne 9, 3) := by decide +kernel
theorem dX7_shared_8 : decode cX7_shared 8 = .ok (.sipush (-1001), 3) := by decide +kernel
theorem dX7_shared_11 : decode cX7_shared 11 = .ok (.goto 29, 3) := by decide +kernel
theorem dX7_shared_14 : decode cX7_shared 14 = .ok (.aload_n 0, 1) := by decide +kernel
theorem dX7_shared_15 : decode cX7_shared 15 = .ok (.invokevirtual 101, 3) := by decide +kernel
theorem dX7_shared_18 : decode cX7_shared 18 = .ok (.ifCond .eq 19, 3) := by decide +kernel
theorem dX7_shared_21 : decode cX7_shared 21 = .ok (.aload_n 0, 1) := by decide +kernel
theorem dX7_shared_22 : decode cX7_shared 22 = .ok (.getfield 17, 3) := by decide +kernel
theorem dX7_shared_25 : decode cX7_shared 25 = .ok (.iconst 1, 1) := by decide +kernel
theorem dX7_shared_26 : decode cX7_shared 26 = .ok (.iaload, 1) := by decide +kernel
theorem dX7_shared_27 : decode cX7_shared 27 = .ok (.aload_n 0, 1) := by decide +kernel
theorem dX7_shared_28 : decode cX7_shared 28 = .ok (.getfield 27, 3) := by decide +kernel
theorem dX7_shared_31 : decode cX7_shared 31 = .ok (.iload_n 1, 1) := by decide +kernel
theorem dX7_shared_32 : decode cX7_shared 32 = .ok (.iaload, 1) := by decide +kernel
theorem dX7_shared_33 : decode cX7_shared 33 = .ok (.isub, 1) := by decide +kernel
theorem dX7_shared_34 : decode cX7_shared 34 = .ok (.goto 6, 3) := by decide +kernel
theorem dX7_shared_37 : decode cX7_shared 37 = .ok (.sipush (-1003), 3) := by decide +kernel
theorem dX7_shared_40 : decode cX7_shared 40 = .ok (.ireturn, 1) := by decide +kernel
theorem dX7_lack_0 : decode cX7_lack 0 = .ok (.iconst 0, 1) := by decide +kernel
theorem dX7_lack_1 : decode cX7_lack 1 = .ok (.istore_n 1, 1) := by decide +kernel
theorem dX7_lack_2 : decode cX7_lack 2 = .ok (.iload_n 1, 1) := by decide +kernel
theorem dX7_lack_3 : decode cX7_lack 3 = .ok (.aload_n 0, 1) := by decide +kernel
theorem dX7_lack_4 : decode cX7_lack 4 = .ok (.getfield 7, 3) := by decide +kernel
theorem dX7_lack_7 : decode cX7_lack 7 = .ok (.if_icmp .ge 21, 3) := by decide +kernel
theorem dX7_lack_10 : decode cX7_lack 10 = .ok (.aload_n 0, 1) := by decide +kernel
theorem dX7_lack_11 : decode cX7_lack 11 = .ok (.getfield 27, 3) := by decide +kernel
theorem dX7_lack_14 : decode cX7_lack 14 = .ok (.iload_n 1, 1) := by decide +kernel
theorem dX7_lack_15 : decode cX7_lack 15 = .ok (.aload_n 0, 1) := by decide +kernel
theorem dX7_lack_16 : decode cX7_lack 16 = .ok (.getfield 17, 3) := by decide +kernel
theorem dX7_lack_19 : decode cX7_lack 19 = .ok (.iconst 1, 1) := by decide +kernel
theorem dX7_lack_20 : decode cX7_lack 20 = .ok (.iaload, 1) := by decide +kernel
theorem dX7_lack_21 : decode cX7_lack 21 = .ok (.iastore, 1) := by decide +kernel
theorem dX7_lack_22 : decode cX7_lack 22 = .ok (.iinc 1 1, 3) := by decide +kernel
theorem dX7_lack_25 : decode cX7_lack 25 = .ok (.goto (-23), 3) := by decide +kernel
theorem dX7_lack_28 : decode cX7_lack 28 = .ok (.aload_n 0, 1) := by decide +kernel
theorem dX7_lack_29 : decode cX7_lack 29 = .ok (.iconst 0, 1) := by decide +kernel
theorem dX7_lack_30 : decode cX7_lack 30 = .ok (.invokevirtual 88, 3) := by decide +kernel
theorem dX7_lack_33 : decode cX7_lack 33 = .ok (.ireturn, 1) := by decide +kernel
theorem dX7_spread_0 : decode cX7_spread 0 = .ok (.iconst 0, 1) := by decide +kernel
theorem dX7_spread_1 : decode cX7_spread 1 = .ok (.istore_n 3, 1) := by decide +kernel
theorem dX7_spread_2 : decode cX7_spread 2 = .ok (.iload_n 3, 1) := by decide +kernel
theorem dX7_spread_3 : decode cX7_spread 3 = .ok (.bipush 16, 2) := by decide +kernel
theorem dX7_spread_5 : decode cX7_spread 5 = .ok (.if_icmp .ge 35, 3) := by decide +kernel
theorem dX7_spread_8 : decode cX7_spread 8 = .ok (.aload_n 0, 1) := by decide +kernel
theorem dX7_spread_9 : decode cX7_spread 9 = .ok (.getfield 33, 3) := by decide +kernel
theorem dX7_spread_12 : decode cX7_spread 12 = .ok (.iload_n 3, 1) := by decide +kernel
theorem dX7_spread_13 : decode cX7_spread 13 = .ok (.aload_n 0, 1) := by decide +kernel
theorem dX7_spread_14 : decode cX7_spread 14 = .ok (.getfield 33, 3) := by decide +kernel
theorem dX7_spread_17 : decode cX7_spread 17 = .ok (.iload_n 3, 1) := by decide +kernel
theorem dX7_spread_18 : decode cX7_spread 18 = .ok (.iaload, 1) := by decide +kernel
theorem dX7_spread_19 : decode cX7_spread 19 = .ok (.iload_n 1, 1) := by decide +kernel
theorem dX7_spread_20 : decode cX7_spread 20 = .ok (.if_icmp .ne 7, 3) := by decide +kernel
theorem dX7_spread_23 : decode cX7_spread 23 = .ok (.iload_n 2, 1) := by decide +kernel
theorem dX7_spread_24 : decode cX7_spread 24 = .ok (.goto 9, 3) := by decide +kernel
theorem dX7_spread_27 : decode cX7_spread 27 = .ok (.aload_n 0, 1) := by decide +kernel
theorem dX7_spread_28 : decode cX7_spread 28 = .ok (.getfield 33, 3) := by decide +kernel
theorem dX7_spread_31 : decode cX7_spread 31 = .ok (.iload_n 3, 1) := by decide +kernel
theorem dX7_spread_32 : decode cX7_spread 32 = .ok (.iaload, 1) := by decide +kernel
theorem dX7_spread_33 : decode cX7_spread 33 = .ok (.iastore, 1) := by decide +kernel
theorem dX7_spread_34 : decode cX7_spread 34 = .ok (.iinc 3 1, 3) := by decide +kernel
theorem dX7_spread_37 : decode cX7_spread 37 = .ok (.goto (-35), 3) := by decide +kernel
theorem dX7_spread_40 : decode cX7_spread 40 = .ok (.return_, 1) := by decide +kernel
theorem dX7_join_0 : decode cX7_join 0 = .ok (.aload_n 0, 1) := by decide +kernel
theorem dX7_join_1 : decode cX7_join 1 = .ok (.getfield 33, 3) := by decide +kernel
theorem dX7_join_4 : decode cX7_join 4 = .ok (.iload_n 2, 1) := by decide +kernel
theorem dX7_join_5 : decode cX7_join 5 = .ok (.iaload, 1) := by decide +kernel
theorem dX7_join_6 : decode cX7_join 6 = .ok (.istore_n 3, 1) := by decide +kernel
theorem dX7_join_7 : decode cX7_join 7 = .ok (.aload_n 0, 1) := by decide +kernel
theorem dX7_join_8 : decode cX7_join 8 = .ok (.getfield 33, 3) := by decide +kernel
theorem dX7_join_11 : decode cX7_join 11 = .ok (.bipush 8, 2) := by decide +kernel
theorem dX7_join_13 : decode cX7_join 13 = .ok (.iload_n 1, 1) := by decide +kernel
theorem dX7_join_14 : decode cX7_join 14 = .ok (.iadd, 1) := by decide +kernel
theorem dX7_join_15 : decode cX7_join 15 = .ok (.iaload, 1) := by decide +kernel
theorem dX7_join_16 : decode cX7_join 16 = .ok (.istore 4, 2) := by decide +kernel
theorem dX7_join_18 : decode cX7_join 18 = .ok (.aload_n 0, 1) := by decide +kernel
theorem dX7_join_19 : decode cX7_join 19 = .ok (.iload_n 3, 1) := by decide +kernel
theorem dX7_join_20 : decode cX7_join 20 = .ok (.iload 4, 2) := by decide +kernel
theorem dX7_join_22 : decode cX7_join 22 = .ok (.if_icmp .le 7, 3) := by decide +kernel
theorem dX7_join_25 : decode cX7_join 25 = .ok (.iload_n 3, 1) := by decide +kernel
theorem dX7_join_26 : decode cX7_join 26 = .ok (.goto 5, 3) := by decide +kernel
theorem dX7_join_29 : decode cX7_join 29 = .ok (.iload 4, 2) := by decide +kernel
theorem dX7_join_31 : decode cX7_join 31 = .ok (.iload_n 3, 1) := by decide +kernel
theorem dX7_join_32 : decode cX7_join 32 = .ok (.iload 4, 2) := by decide +kernel
theorem dX7_join_34 : decode cX7_join 34 = .ok (.if_icmp .le 8, 3) := by decide +kernel
theorem dX7_join_37 : decode cX7_join 37 = .ok (.iload 4, 2) := by decide +kernel
theorem dX7_join_39 : decode cX7_join 39 = .ok (.goto 4, 3) := by decide +kernel
theorem dX7_join_42 : decode cX7_join 42 = .ok (.iload_n 3, 1) := by decide +kernel
theorem dX7_join_43 : decode cX7_join 43 = .ok (.invokevirtual 105, 3) := by decide +kernel
theorem dX7_join_46 : decode cX7_join 46 = .ok (.return_, 1) := by decide +kernel
theorem dX7_parts_0 : decode cX7_parts 0 = .ok (.aload_n 0, 1) := by decide +kernel
theorem dX7_parts_1 : decode cX7_parts 1 = .ok (.invokevirtual 101, 3) := by decide +kernel
theorem dX7_parts_4 : decode cX7_parts 4 = .ok (.ifCond .ne 7, 3) := by decide +kernel
theorem dX7_parts_7 : decode cX7_parts 7 = .ok (.sipush (-1003), 3) := by decide +kernel
theorem dX7_parts_10 : decode cX7_parts 10 = .ok (.ireturn, 1) := by decide +kernel
theorem dX7_parts_11 : decode cX7_parts 11 = .ok (.iconst 0, 1) := by decide +kernel
theorem dX7_parts_12 : decode cX7_parts 12 = .ok (.istore_n 1, 1) := by decide +kernel
theorem dX7_parts_13 : decode cX7_parts 13 = .ok (.iload_n 1, 1) := by decide +kernel
theorem dX7_parts_14 : decode cX7_parts 14 = .ok (.bipush 16, 2) := by decide +kernel
theorem dX7_parts_16 : decode cX7_parts 16 = .ok (.if_icmp .ge 16, 3) := by decide +kernel
theorem dX7_parts_19 : decode cX7_parts 19 = .ok (.aload_n 0, 1) := by decide +kernel
theorem dX7_parts_20 : decode cX7_parts 20 = .ok (.getfield 33, 3) := by decide +kernel
theorem dX7_parts_23 : decode cX7_parts 23 = .ok (.iload_n 1, 1) := by decide +kernel
theorem dX7_parts_24 : decode cX7_parts 24 = .ok (.iload_n 1, 1) := by decide +kernel
theorem dX7_parts_25 : decode cX7_parts 25 = .ok (.iastore, 1) := by decide +kernel
theorem dX7_parts_26 : decode cX7_parts 26 = .ok (.iinc 1 1, 3) := by decide +kernel
theorem dX7_parts_29 : decode cX7_parts 29 = .ok (.goto (-16), 3) := by decide +kernel
theorem dX7_parts_32 : decode cX7_parts 32 = .ok (.iconst 0, 1) := by decide +kernel
theorem dX7_parts_33 : decode cX7_parts 33 = .ok (.istore_n 1, 1) := by decide +kernel
theorem dX7_parts_34 : decode cX7_parts 34 = .ok (.iload_n 1, 1) := by decide +kernel
theorem dX7_parts_35 : decode cX7_parts 35 = .ok (.aload_n 0, 1) := by decide +kernel
theorem dX7_parts_36 : decode cX7_parts 36 = .ok (.getfield 7, 3) := by decide +kernel
theorem dX7_parts_39 : decode cX7_parts 39 = .ok (.if_icmp .ge 45, 3) := by decide +kernel
theorem dX7_parts_42 : decode cX7_parts 42 = .ok (.iconst 0, 1) := by decide +kernel
theorem dX7_parts_43 : decode cX7_parts 43 = .ok (.istore_n 2, 1) := by decide +kernel
theorem dX7_parts_44 : decode cX7_parts 44 = .ok (.iload_n 2, 1) := by decide +kernel
theorem dX7_parts_45 : decode cX7_parts 45 = .ok (.aload_n 0, 1) := by decide +kernel
theorem dX7_parts_46 : decode cX7_parts 46 = .ok (.getfield 7, 3) := by decide +kernel
theorem dX7_parts_49 : decode cX7_parts 49 = .ok (.if_icmp .ge 29, 3) := by decide +kernel
theorem dX7_parts_52 : decode cX7_parts 52 = .ok (.aload_n 0, 1) := by decide +kernel
theorem dX7_parts_53 : decode cX7_parts 53 = .ok (.getfield 30, 3) := by decide +kernel
theorem dX7_parts_56 : decode cX7_parts 56 = .ok (.iload_n 1, 1) := by decide +kernel
theorem dX7_parts_57 : decode cX7_parts 57 = .ok (.iaload, 1) := by decide +kernel
theorem dX7_parts_58 : decode cX7_parts 58 = .ok (.iload_n 2, 1) := by decide +kernel
theorem dX7_parts_59 : decode cX7_parts 59 = .ok (.ishr, 1) := by decide +kernel
theorem dX7_parts_60 : decode cX7_parts 60 = .ok (.iconst 1, 1) := by decide +kernel
theorem dX7_parts_61 : decode cX7_parts 61 = .ok (.iand, 1) := by decide +kernel
theorem dX7_parts_62 : decode cX7_parts 62 = .ok (.iconst 1, 1) := by decide +kernel
theorem dX7_parts_63 : decode cX7_parts 63 = .ok (.if_icmp .ne 9, 3) := by decide +kernel
theorem dX7_parts_66 : decode cX7_parts 66 = .ok (.aload_n 0, 1) := by decide +kernel
theorem dX7_parts_67 : decode cX7_parts 67 = .ok (.iload_n 2, 1) := by decide +kernel
theorem dX7_parts_68 : decode cX7_parts 68 = .ok (.iload_n 1, 1) := by decide +kernel
theorem dX7_parts_69 : decode cX7_parts 69 = .ok (.invokevirtual 108, 3) := by decide +kernel
theorem dX7_parts_72 : decode cX7_parts 72 = .ok (.iinc 2 1, 3) := by decide +kernel
theorem dX7_parts_75 : decode cX7_parts 75 = .ok (.goto (-31), 3) := by decide +kernel
theorem dX7_parts_78 : decode cX7_parts 78 = .ok (.iinc 1 1, 3) := by decide +kernel
theorem dX7_parts_81 : decode cX7_parts 81 = .ok (.goto (-47), 3) := by decide +kernel
theorem dX7_parts_84 : decode cX7_parts 84 = .ok (.iconst 0, 1) := by decide +kernel
theorem dX7_parts_85 : decode cX7_parts 85 = .ok (.istore_n 1, 1) := by decide +kernel
theorem dX7_parts_86 : decode cX7_parts 86 = .ok (.iconst 0, 1) := by decide +kernel
theorem dX7_parts_87 : decode cX7_parts 87 = .ok (.istore_n 2, 1) := by decide +kernel
theorem dX7_parts_88 : decode cX7_parts 88 = .ok (.iload_n 2, 1) := by decide +kernel
theorem dX7_parts_89 : decode cX7_parts 89 = .ok (.aload_n 0, 1) := by decide +kernel
theorem dX7_parts_90 : decode cX7_parts 90 = .ok (.getfield 7, 3) := by decide +kernel
theorem dX7_parts_93 : decode cX7_parts 93 = .ok (.if_icmp .ge 27, 3) := by decide +kernel
theorem dX7_parts_96 : decode cX7_parts 96 = .ok (.iload_n 1, 1) := by decide +kernel
theorem dX7_parts_97 : decode cX7_parts 97 = .ok (.aload_n 0, 1) := by decide +kernel
theorem dX7_parts_98 : decode cX7_parts 98 = .ok (.getfield 33, 3) := by decide +kernel
theorem dX7_parts_101 : decode cX7_parts 101 = .ok (.iload_n 2, 1) := by decide +kernel
theorem dX7_parts_102 : decode cX7_parts 102 = .ok (.iaload, 1) := by decide +kernel
theorem dX7_parts_103 : decode cX7_parts 103 = .ok (.iload_n 2, 1) := by decide +kernel
theorem dX7_parts_104 : decode cX7_parts 104 = .ok (.if_icmp .ne 7, 3) := by decide +kernel
theorem dX7_parts_107 : decode cX7_parts 107 = .ok (.iconst 1, 1) := by decide +kernel
theorem dX7_parts_108 : decode cX7_parts 108 = .ok (.goto 4, 3) := by decide +kernel
theorem dX7_parts_111 : decode cX7_parts 111 = .ok (.iconst 0, 1) := by decide +kernel
theorem dX7_parts_112 : decode cX7_parts 112 = .ok (.iadd, 1) := by decide +kernel
theorem dX7_parts_113 : decode cX7_parts 113 = .ok (.istore_n 1, 1) := by decide +kernel
theorem dX7_parts_114 : decode cX7_parts 114 = .ok (.iinc 2 1, 3) := by decide +kernel
theorem dX7_parts_117 : decode cX7_parts 117 = .ok (.goto (-29), 3) := by decide +kernel
theorem dX7_parts_120 : decode cX7_parts 120 = .ok (.iload_n 1, 1) := by decide +kernel
theorem dX7_parts_121 : decode cX7_parts 121 = .ok (.ireturn, 1) := by decide +kernel
theorem dX7_mark_0 : decode cX7_mark 0 = .ok (.aload_n 0, 1) := by decide +kernel
theorem dX7_mark_1 : decode cX7_mark 1 = .ok (.iload_n 1, 1) := by decide +kernel
theorem dX7_mark_2 : decode cX7_mark 2 = .ok (.invokevirtual 69, 3) := by decide +kernel
theorem dX7_mark_5 : decode cX7_mark 5 = .ok (.ifCond .eq 11, 3) := by decide +kernel
theorem dX7_mark_8 : decode cX7_mark 8 = .ok (.aload_n 0, 1) := by decide +kernel
theorem dX7_mark_9 : decode cX7_mark 9 = .ok (.iload_n 2, 1) := by decide +kernel
theorem dX7_mark_10 : decode cX7_mark 10 = .ok (.invokevirtual 69, 3) := by decide +kernel
theorem dX7_mark_13 : decode cX7_mark 13 = .ok (.ifCond .ne 7, 3) := by decide +kernel
theorem dX7_mark_16 : decode cX7_mark 16 = .ok (.sipush (-1001), 3) := by decide +kernel
theorem dX7_mark_19 : decode cX7_mark 19 = .ok (.ireturn, 1) := by decide +kernel
theorem dX7_mark_20 : decode cX7_mark 20 = .ok (.iload_n 3, 1) := by decide +kernel
theorem dX7_mark_21 : decode cX7_mark 21 = .ok (.i2l, 1) := by decide +kernel
theorem dX7_mark_22 : decode cX7_mark 22 = .ok (.ldc2_w 111, 3) := by decide +kernel
theorem dX7_mark_25 : decode cX7_mark 25 = .ok (.ldc2_w 75, 3) := by decide +kernel
theorem dX7_mark_28 : decode cX7_mark 28 = .ok (.invokestatic 61, 3) := by decide +kernel
theorem dX7_mark_31 : decode cX7_mark 31 = .ok (.ifCond .ne 7, 3) := by decide +kernel
theorem dX7_mark_34 : decode cX7_mark 34 = .ok (.sipush (-1002), 3) := by decide +kernel
theorem dX7_mark_37 : decode cX7_mark 37 = .ok (.ireturn, 1) := by decide +kernel
theorem dX7_mark_38 : decode cX7_mark 38 = .ok (.iload_n 1, 1) := by decide +kernel
theorem dX7_mark_39 : decode cX7_mark 39 = .ok (.iload_n 2, 1) := by decide +kernel
theorem dX7_mark_40 : decode cX7_mark 40 = .ok (.if_icmp .ne 7, 3) := by decide +kernel
theorem dX7_mark_43 : decode cX7_mark 43 = .ok (.sipush (-1003), 3) := by decide +kernel
theorem dX7_mark_46 : decode cX7_mark 46 = .ok (.ireturn, 1) := by decide +kernel
theorem dX7_mark_47 : decode cX7_mark 47 = .ok (.aload_n 0, 1) := by decide +kernel
theorem dX7_mark_48 : decode cX7_mark 48 = .ok (.getfield 21, 3) := by decide +kernel
theorem dX7_mark_51 : decode cX7_mark 51 = .ok (.bipush 8, 2) := by decide +kernel
theorem dX7_mark_53 : decode cX7_mark 53 = .ok (.iload_n 1, 1) := by decide +kernel
theorem dX7_mark_54 : decode cX7_mark 54 = .ok (.imul, 1) := by decide +kernel
theorem dX7_mark_55 : decode cX7_mark 55 = .ok (.iload_n 2, 1) := by decide +kernel
theorem dX7_mark_56 : decode cX7_mark 56 = .ok (.iadd, 1) := by decide +kernel
theorem dX7_mark_57 : decode cX7_mark 57 = .ok (.iaload, 1) := by decide +kernel
theorem dX7_mark_58 : decode cX7_mark 58 = .ok (.istore 4, 2) := by decide +kernel
theorem dX7_mark_60 : decode cX7_mark 60 = .ok (.aload_n 0, 1) := by decide +kernel
theorem dX7_mark_61 : decode cX7_mark 61 = .ok (.getfield 21, 3) := by decide +kernel
theorem dX7_mark_64 : decode cX7_mark 64 = .ok (.bipush 8, 2) := by decide +kernel
theorem dX7_mark_66 : decode cX7_mark 66 = .ok (.iload_n 1, 1) := by decide +kernel
theorem dX7_mark_67 : decode cX7_mark 67 = .ok (.imul, 1) := by decide +kernel
theorem dX7_mark_68 : decode cX7_mark 68 = .ok (.iload_n 2, 1) := by decide +kernel
theorem dX7_mark_69 : decode cX7_mark 69 = .ok (.iadd, 1) := by decide +kernel
theorem dX7_mark_70 : decode cX7_mark 70 = .ok (.iload_n 3, 1) := by decide +kernel
theorem dX7_mark_71 : decode cX7_mark 71 = .ok (.iastore, 1) := by decide +kernel
theorem dX7_mark_72 : decode cX7_mark 72 = .ok (.iload 4, 2) := by decide +kernel
theorem dX7_mark_74 : decode cX7_mark 74 = .ok (.ireturn, 1) := by decide +kernel
theorem dX7_staff_0 : decode cX7_staff 0 = .ok (.aload_n 0, 1) := by decide +kernel
theorem dX7_staff_1 : decode cX7_staff 1 = .ok (.iload_n 1, 1) := by decide +kernel
theorem dX7_staff_2 : decode cX7_staff 2 = .ok (.invokevirtual 69, 3) := by decide +kernel
theorem dX7_staff_5 : decode cX7_staff 5 = .ok (.ifCond .ne 7, 3) := by decide +kernel
theorem dX7_staff_8 : decode cX7_staff 8 = .ok (.sipush (-1001), 3) := by decide +kernel
theorem dX7_staff_11 : decode cX7_staff 11 = .ok (.ireturn, 1) := by decide +kernel
theorem dX7_staff_12 : decode cX7_staff 12 = .ok (.iload_n 2, 1) := by decide +kernel
theorem dX7_staff_13 : decode cX7_staff 13 = .ok (.i2l, 1) := by decide +kernel
theorem dX7_staff_14 : decode cX7_staff 14 = .ok (.ldc2_w 111, 3) := by decide +kernel
theorem dX7_staff_17 : decode cX7_staff 17 = .ok (.ldc2_w 75, 3) := by decide +kernel
theorem dX7_staff_20 : decode cX7_staff 20 = .ok (.invokestatic 61, 3) := by decide +kernel
theorem dX7_staff_23 : decode cX7_staff 23 = .ok (.ifCond .ne 7, 3) := by decide +kernel
theorem dX7_staff_26 : decode cX7_staff 26 = .ok (.sipush (-1002), 3) := by decide +kernel
theorem dX7_staff_29 : decode cX7_staff 29 = .ok (.ireturn, 1) := by decide +kernel
theorem dX7_staff_30 : decode cX7_staff 30 = .ok (.aload_n 0, 1) := by decide +kernel
theorem dX7_staff_31 : decode cX7_staff 31 = .ok (.getfield 24, 3) := by decide +kernel
theorem dX7_staff_34 : decode cX7_staff 34 = .ok (.iload_n 1, 1) := by decide +kernel
theorem dX7_staff_35 : decode cX7_staff 35 = .ok (.iaload, 1) := by decide +kernel
theorem dX7_staff_36 : decode cX7_staff 36 = .ok (.istore_n 3, 1) := by decide +kernel
theorem dX7_staff_37 : decode cX7_staff 37 = .ok (.aload_n 0, 1) := by decide +kernel
theorem dX7_staff_38 : decode cX7_staff 38 = .ok (.getfield 24, 3) := by decide +kernel
theorem dX7_staff_41 : decode cX7_staff 41 = .ok (.iload_n 1, 1) := by decide +kernel
theorem dX7_staff_42 : decode cX7_staff 42 = .ok (.iload_n 2, 1) := by decide +kernel
theorem dX7_staff_43 : decode cX7_staff 43 = .ok (.iastore, 1) := by decide +kernel
theorem dX7_staff_44 : decode cX7_staff 44 = .ok (.iload_n 3, 1) := by decide +kernel
theorem dX7_staff_45 : decode cX7_staff 45 = .ok (.ireturn, 1) := by decide +kernel
theorem dX7_findParts_0 : decode cX7_findParts 0 = .ok (.iconst 0, 1) := by decide +kernel
theorem dX7_findParts_1 : decode cX7_findParts 1 = .ok (.istore_n 1, 1) := by decide +kernel
theorem dX7_findParts_2 : decode cX7_findParts 2 = .ok (.iload_n 1, 1) := by decide +kernel
theorem dX7_findParts_3 : decode cX7_findParts 3 = .ok (.bipush 16, 2) := by decide +kernel
theorem dX7_findParts_5 : decode cX7_findParts 5 = .ok (.if_icmp .ge 16, 3) := by decide +kernel
theorem dX7_findParts_8 : decode cX7_findParts 8 = .ok (.aload_n 0, 1) := by decide +kernel
theorem dX7_findParts_9 : decode cX7_findParts 9 = .ok (.getfield 33, 3) := by decide +kernel
theorem dX7_findParts_12 : decode cX7_findParts 12 = .ok (.iload_n 1, 1) := by decide +kernel
theorem dX7_findParts_13 : decode cX7_findParts 13 = .ok (.iload_n 1, 1) := by decide +kernel
theorem dX7_findParts_14 : decode cX7_findParts 14 = .ok (.iastore, 1) := by decide +kernel
theorem dX7_findParts_15 : decode cX7_findParts 15 = .ok (.iinc 1 1, 3) := by decide +kernel
theorem dX7_findParts_18 : decode cX7_findParts 18 = .ok (.goto (-16), 3) := by decide +kernel
theorem dX7_findParts_21 : decode cX7_findParts 21 = .ok (.iconst 0, 1) := by decide +kernel
theorem dX7_findParts_22 : decode cX7_findParts 22 = .ok (.istore_n 1, 1) := by decide +kernel
theorem dX7_findParts_23 : decode cX7_findParts 23 = .ok (.iload_n 1, 1) := by decide +kernel
theorem dX7_findParts_24 : decode cX7_findParts 24 = .ok (.aload_n 0, 1) := by decide +kernel
theorem dX7_findParts_25 : decode cX7_findParts 25 = .ok (.getfield 7, 3) := by decide +kernel
theorem dX7_findParts_28 : decode cX7_findParts 28 = .ok (.if_icmp .ge 45, 3) := by decide +kernel
theorem dX7_findParts_31 : decode cX7_findParts 31 = .ok (.iconst 0, 1) := by decide +kernel
theorem dX7_findParts_32 : decode cX7_findParts 32 = .ok (.istore_n 2, 1) := by decide +kernel
theorem dX7_findParts_33 : decode cX7_findParts 33 = .ok (.iload_n 2, 1) := by decide +kernel
theorem dX7_findParts_34 : decode cX7_findParts 34 = .ok (.aload_n 0, 1) := by decide +kernel
theorem dX7_findParts_35 : decode cX7_findParts 35 = .ok (.getfield 7, 3) := by decide +kernel
theorem dX7_findParts_38 : decode cX7_findParts 38 = .ok (.if_icmp .ge 29, 3) := by decide +kernel
theorem dX7_findParts_41 : decode cX7_findParts 41 = .ok (.aload_n 0, 1) := by decide +kernel
theorem dX7_findParts_42 : decode cX7_findParts 42 = .ok (.getfield 21, 3) := by decide +kernel
theorem dX7_findParts_45 : decode cX7_findParts 45 = .ok (.bipush 8, 2) := by decide +kernel
theorem dX7_findParts_47 : decode cX7_findParts 47 = .ok (.iload_n 2, 1) := by decide +kernel
theorem dX7_findParts_48 : decode cX7_findParts 48 = .ok (.imul, 1) := by decide +kernel
theorem dX7_findParts_49 : decode cX7_findParts 49 = .ok (.iload_n 1, 1) := by decide +kernel
theorem dX7_findParts_50 : decode cX7_findParts 50 = .ok (.iadd, 1) := by decide +kernel
theorem dX7_findParts_51 : decode cX7_findParts 51 = .ok (.iaload, 1) := by decide +kernel
theorem dX7_findParts_52 : decode cX7_findParts 52 = .ok (.ifCond .lt 9, 3) := by decide +kernel
theorem dX7_findParts_55 : decode cX7_findParts 55 = .ok (.aload_n 0, 1) := by decide +kernel
theorem dX7_findParts_56 : decode cX7_findParts 56 = .ok (.iload_n 2, 1) := by decide +kernel
theorem dX7_findParts_57 : decode cX7_findParts 57 = .ok (.iload_n 1, 1) := by decide +kernel
theorem dX7_findParts_58 : decode cX7_findParts 58 = .ok (.invokevirtual 108, 3) := by decide +kernel
theorem dX7_findParts_61 : decode cX7_findParts 61 = .ok (.iinc 2 1, 3) := by decide +kernel
theorem dX7_findParts_64 : decode cX7_findParts 64 = .ok (.goto (-31), 3) := by decide +kernel
theorem dX7_findParts_67 : decode cX7_findParts 67 = .ok (.iinc 1 1, 3) := by decide +kernel
theorem dX7_findParts_70 : decode cX7_findParts 70 = .ok (.goto (-47), 3) := by decide +kernel
theorem dX7_findParts_73 : decode cX7_findParts 73 = .ok (.return_, 1) := by decide +kernel
theorem dX7_sizeOf_0 : decode cX7_sizeOf 0 = .ok (.iconst 0, 1) := by decide +kernel
theorem dX7_sizeOf_1 : decode cX7_sizeOf 1 = .ok (.istore_n 2, 1) := by decide +kernel
theorem dX7_sizeOf_2 : decode cX7_sizeOf 2 = .ok (.iconst 0, 1) := by decide +kernel
theorem dX7_sizeOf_3 : decode cX7_sizeOf 3 = .ok (.istore_n 3, 1) := by decide +kernel
theorem dX7_sizeOf_4 : decode cX7_sizeOf 4 = .ok (.iload_n 3, 1) := by decide +kernel
theorem dX7_sizeOf_5 : decode cX7_sizeOf 5 = .ok (.bipush 16, 2) := by decide +kernel
theorem dX7_sizeOf_7 : decode cX7_sizeOf 7 = .ok (.if_icmp .ge 27, 3) := by decide +kernel
theorem dX7_sizeOf_10 : decode cX7_sizeOf 10 = .ok (.iload_n 2, 1) := by decide +kernel
theorem dX7_sizeOf_11 : decode cX7_sizeOf 11 = .ok (.aload_n 0, 1) := by decide +kernel
theorem dX7_sizeOf_12 : decode cX7_sizeOf 12 = .ok (.getfield 33, 3) := by decide +kernel
theorem dX7_sizeOf_15 : decode cX7_sizeOf 15 = .ok (.iload_n 3, 1) := by decide +kernel
theorem dX7_sizeOf_16 : decode cX7_sizeOf 16 = .ok (.iaload, 1) := by decide +kernel
theorem dX7_sizeOf_17 : decode cX7_sizeOf 17 = .ok (.iload_n 1, 1) := by decide +kernel
theorem dX7_sizeOf_18 : decode cX7_sizeOf 18 = .ok (.if_icmp .ne 7, 3) := by decide +kernel
theorem dX7_sizeOf_21 : decode cX7_sizeOf 21 = .ok (.iconst 1, 1) := by decide +kernel
theorem dX7_sizeOf_22 : decode cX7_sizeOf 22 = .ok (.goto 4, 3) := by decide +kernel
theorem dX7_sizeOf_25 : decode cX7_sizeOf 25 = .ok (.iconst 0, 1) := by decide +kernel
theorem dX7_sizeOf_26 : decode cX7_sizeOf 26 = .ok (.iadd, 1) := by decide +kernel
theorem dX7_sizeOf_27 : decode cX7_sizeOf 27 = .ok (.istore_n 2, 1) := by decide +kernel
theorem dX7_sizeOf_28 : decode cX7_sizeOf 28 = .ok (.iinc 3 1, 3) := by decide +kernel
theorem dX7_sizeOf_31 : decode cX7_sizeOf 31 = .ok (.goto (-27), 3) := by decide +kernel
theorem dX7_sizeOf_34 : decode cX7_sizeOf 34 = .ok (.iload_n 2, 1) := by decide +kernel
theorem dX7_sizeOf_35 : decode cX7_sizeOf 35 = .ok (.ireturn, 1) := by decide +kernel
theorem dX7_numberOf_0 : decode cX7_numberOf 0 = .ok (.iconst 0, 1) := by decide +kernel
theorem dX7_numberOf_1 : decode cX7_numberOf 1 = .ok (.istore_n 2, 1) := by decide +kernel
theorem dX7_numberOf_2 : decode cX7_numberOf 2 = .ok (.iconst 0, 1) := by decide +kernel
theorem dX7_numberOf_3 : decode cX7_numberOf 3 = .ok (.istore_n 3, 1) := by decide +kernel
theorem dX7_numberOf_4 : decode cX7_numberOf 4 = .ok (.iload_n 3, 1) := by decide +kernel
theorem dX7_numberOf_5 : decode cX7_numberOf 5 = .ok (.iload_n 1, 1) := by decide +kernel
theorem dX7_numberOf_6 : decode cX7_numberOf 6 = .ok (.if_icmp .ge 36, 3) := by decide +kernel
theorem dX7_numberOf_9 : decode cX7_numberOf 9 = .ok (.iload_n 2, 1) := by decide +kernel
theorem dX7_numberOf_10 : decode cX7_numberOf 10 = .ok (.aload_n 0, 1) := by decide +kernel
theorem dX7_numberOf_11 : decode cX7_numberOf 11 = .ok (.getfield 33, 3) := by decide +kernel
theorem dX7_numberOf_14 : decode cX7_numberOf 14 = .ok (.iload_n 3, 1) := by decide +kernel
theorem dX7_numberOf_15 : decode cX7_numberOf 15 = .ok (.iaload, 1) := by decide +kernel
theorem dX7_numberOf_16 : decode cX7_numberOf 16 = .ok (.iload_n 3, 1) := by decide +kernel
theorem dX7_numberOf_17 : decode cX7_numberOf 17 = .ok (.if_icmp .ne 16, 3) := by decide +kernel
theorem dX7_numberOf_20 : decode cX7_numberOf 20 = .ok (.aload_n 0, 1) := by decide +kernel
theorem dX7_numberOf_21 : decode cX7_numberOf 21 = .ok (.iload_n 3, 1) := by decide +kernel
theorem dX7_numberOf_22 : decode cX7_numberOf 22 = .ok (.invokevirtual 113, 3) := by decide +kernel
theorem dX7_numberOf_25 : decode cX7_numberOf 25 = .ok (.iconst 1, 1) := by decide +kernel
theorem dX7_numberOf_26 : decode cX7_numberOf 26 = .ok (.if_icmp .le 7, 3) := by decide +kernel
theorem dX7_numberOf_29 : decode cX7_numberOf 29 = .ok (.iconst 1, 1) := by decide +kernel
theorem dX7_numberOf_30 : decode cX7_numberOf 30 = .ok (.goto 4, 3) := by decide +kernel
theorem dX7_numberOf_33 : decode cX7_numberOf 33 = .ok (.iconst 0, 1) := by decide +kernel
theorem dX7_numberOf_34 : decode cX7_numberOf 34 = .ok (.iadd, 1) := by decide +kernel
theorem dX7_numberOf_35 : decode cX7_numberOf 35 = .ok (.istore_n 2, 1) := by decide +kernel
theorem dX7_numberOf_36 : decode cX7_numberOf 36 = .ok (.iinc 3 1, 3) := by decide +kernel
theorem dX7_numberOf_39 : decode cX7_numberOf 39 = .ok (.goto (-35), 3) := by decide +kernel
theorem dX7_numberOf_42 : decode cX7_numberOf 42 = .ok (.aload_n 0, 1) := by decide +kernel
theorem dX7_numberOf_43 : decode cX7_numberOf 43 = .ok (.iload_n 1, 1) := by decide +kernel
theorem dX7_numberOf_44 : decode cX7_numberOf 44 = .ok (.invokevirtual 113, 3) := by decide +kernel
theorem dX7_numberOf_47 : decode cX7_numberOf 47 = .ok (.iconst 1, 1) := by decide +kernel
theorem dX7_numberOf_48 : decode cX7_numberOf 48 = .ok (.if_icmp .le 7, 3) := by decide +kernel
theorem dX7_numberOf_51 : decode cX7_numberOf 51 = .ok (.iload_n 2, 1) := by decide +kernel
theorem dX7_numberOf_52 : decode cX7_numberOf 52 = .ok (.goto 4, 3) := by decide +kernel
theorem dX7_numberOf_55 : decode cX7_numberOf 55 = .ok (.iconst (-1), 1) := by decide +kernel
theorem dX7_numberOf_56 : decode cX7_numberOf 56 = .ok (.ireturn, 1) := by decide +kernel
theorem dX7_pieces_0 : decode cX7_pieces 0 = .ok (.iconst 0, 1) := by decide +kernel
theorem dX7_pieces_1 : decode cX7_pieces 1 = .ok (.istore_n 2, 1) := by decide +kernel
theorem dX7_pieces_2 : decode cX7_pieces 2 = .ok (.iconst 0, 1) := by decide +kernel
theorem dX7_pieces_3 : decode cX7_pieces 3 = .ok (.istore_n 3, 1) := by decide +kernel
theorem dX7_pieces_4 : decode cX7_pieces 4 = .ok (.iload_n 3, 1) := by decide +kernel
theorem dX7_pieces_5 : decode cX7_pieces 5 = .ok (.aload_n 0, 1) := by decide +kernel
theorem dX7_pieces_6 : decode cX7_pieces 6 = .ok (.getfield 7, 3) := by decide +kernel
theorem dX7_pieces_9 : decode cX7_pieces 9 = .ok (.if_icmp .ge 36, 3) := by decide +kernel
theorem dX7_pieces_12 : decode cX7_pieces 12 = .ok (.iload_n 2, 1) := by decide +kernel
theorem dX7_pieces_13 : decode cX7_pieces 13 = .ok (.aload_n 0, 1) := by decide +kernel
theorem dX7_pieces_14 : decode cX7_pieces 14 = .ok (.getfield 33, 3) := by decide +kernel
theorem dX7_pieces_17 : decode cX7_pieces 17 = .ok (.iload_n 3, 1) := by decide +kernel
theorem dX7_pieces_18 : decode cX7_pieces 18 = .ok (.iaload, 1) := by decide +kernel
theorem dX7_pieces_19 : decode cX7_pieces 19 = .ok (.iload_n 3, 1) := by decide +kernel
theorem dX7_pieces_20 : decode cX7_pieces 20 = .ok (.if_icmp .ne 16, 3) := by decide +kernel
theorem dX7_pieces_23 : decode cX7_pieces 23 = .ok (.aload_n 0, 1) := by decide +kernel
theorem dX7_pieces_24 : decode cX7_pieces 24 = .ok (.iload_n 3, 1) := by decide +kernel
theorem dX7_pieces_25 : decode cX7_pieces 25 = .ok (.invokevirtual 113, 3) := by decide +kernel
theorem dX7_pieces_28 : decode cX7_pieces 28 = .ok (.iload_n 1, 1) := by decide +kernel
theorem dX7_pieces_29 : decode cX7_pieces 29 = .ok (.if_icmp .le 7, 3) := by decide +kernel
theorem dX7_pieces_32 : decode cX7_pieces 32 = .ok (.iconst 1, 1) := by decide +kernel
theorem dX7_pieces_33 : decode cX7_pieces 33 = .ok (.goto 4, 3) := by decide +kernel
theorem dX7_pieces_36 : decode cX7_pieces 36 = .ok (.iconst 0, 1) := by decide +kernel
theorem dX7_pieces_37 : decode cX7_pieces 37 = .ok (.iadd, 1) := by decide +kernel
theorem dX7_pieces_38 : decode cX7_pieces 38 = .ok (.istore_n 2, 1) := by decide +kernel
theorem dX7_pieces_39 : decode cX7_pieces 39 = .ok (.iinc 3 1, 3) := by decide +kernel
theorem dX7_pieces_42 : decode cX7_pieces 42 = .ok (.goto (-38), 3) := by decide +kernel
theorem dX7_pieces_45 : decode cX7_pieces 45 = .ok (.iload_n 2, 1) := by decide +kernel
theorem dX7_pieces_46 : decode cX7_pieces 46 = .ok (.ireturn, 1) := by decide +kernel
theorem dX7_count_0 : decode cX7_count 0 = .ok (.aload_n 0, 1) := by decide +kernel
theorem dX7_count_1 : decode cX7_count 1 = .ok (.invokevirtual 116, 3) := by decide +kernel
theorem dX7_count_4 : decode cX7_count 4 = .ok (.iconst 0, 1) := by decide +kernel
theorem dX7_count_5 : decode cX7_count 5 = .ok (.istore_n 2, 1) := by decide +kernel
theorem dX7_count_6 : decode cX7_count 6 = .ok (.iconst 0, 1) := by decide +kernel
theorem dX7_count_7 : decode cX7_count 7 = .ok (.istore_n 3, 1) := by decide +kernel
theorem dX7_count_8 : decode cX7_count 8 = .ok (.iload_n 3, 1) := by decide +kernel
theorem dX7_count_9 : decode cX7_count 9 = .ok (.bipush 64, 2) := by decide +kernel
theorem dX7_count_11 : decode cX7_count 11 = .ok (.if_icmp .ge 57, 3) := by decide +kernel
theorem dX7_count_14 : decode cX7_count 14 = .ok (.iload_n 2, 1) := by decide +kernel
theorem dX7_count_15 : decode cX7_count 15 = .ok (.iload_n 1, 1) := by decide +kernel
theorem dX7_count_16 : decode cX7_count 16 = .ok (.iconst 1, 1) := by decide +kernel
theorem dX7_count_17 : decode cX7_count 17 = .ok (.if_icmp .ne 12, 3) := by decide +kernel
theorem dX7_count_20 : decode cX7_count 20 = .ok (.aload_n 0, 1) := by decide +kernel
theorem dX7_count_21 : decode cX7_count 21 = .ok (.getfield 21, 3) := by decide +kernel
theorem dX7_count_24 : decode cX7_count 24 = .ok (.iload_n 3, 1) := by decide +kernel
theorem dX7_count_25 : decode cX7_count 25 = .ok (.iaload, 1) := by decide +kernel
theorem dX7_count_26 : decode cX7_count 26 = .ok (.ifCond .ge 29, 3) := by decide +kernel
theorem dX7_count_29 : decode cX7_count 29 = .ok (.iload_n 1, 1) := by decide +kernel
theorem dX7_count_30 : decode cX7_count 30 = .ok (.bipush 6, 2) := by decide +kernel
theorem dX7_count_32 : decode cX7_count 32 = .ok (.if_icmp .ne 27, 3) := by decide +kernel
theorem dX7_count_35 : decode cX7_count 35 = .ok (.iload_n 3, 1) := by decide +kernel
theorem dX7_count_36 : decode cX7_count 36 = .ok (.bipush 8, 2) := by decide +kernel
theorem dX7_count_38 : decode cX7_count 38 = .ok (.idiv, 1) := by decide +kernel
theorem dX7_count_39 : decode cX7_count 39 = .ok (.iload_n 3, 1) := by decide +kernel
theorem dX7_count_40 : decode cX7_count 40 = .ok (.bipush 8, 2) := by decide +kernel
theorem dX7_count_42 : decode cX7_count 42 = .ok (.irem, 1) := by decide +kernel
theorem dX7_count_43 : decode cX7_count 43 = .ok (.if_icmp .ge 16, 3) := by decide +kernel
theorem dX7_count_46 : decode cX7_count 46 = .ok (.aload_n 0, 1) := by decide +kernel
theorem dX7_count_47 : decode cX7_count 47 = .ok (.getfield 13, 3) := by decide +kernel
theorem dX7_count_50 : decode cX7_count 50 = .ok (.iload_n 3, 1) := by decide +kernel
theorem dX7_count_51 : decode cX7_count 51 = .ok (.baload, 1) := by decide +kernel
theorem dX7_count_52 : decode cX7_count 52 = .ok (.ifCond .eq 7, 3) := by decide +kernel
theorem dX7_count_55 : decode cX7_count 55 = .ok (.iconst 1, 1) := by decide +kernel
theorem dX7_count_56 : decode cX7_count 56 = .ok (.goto 4, 3) := by decide +kernel
theorem dX7_count_59 : decode cX7_count 59 = .ok (.iconst 0, 1) := by decide +kernel
theorem dX7_count_60 : decode cX7_count 60 = .ok (.iadd, 1) := by decide +kernel
theorem dX7_count_61 : decode cX7_count 61 = .ok (.istore_n 2, 1) := by decide +kernel
theorem dX7_count_62 : decode cX7_count 62 = .ok (.iinc 3 1, 3) := by decide +kernel
theorem dX7_count_65 : decode cX7_count 65 = .ok (.goto (-57), 3) := by decide +kernel
theorem dX7_count_68 : decode cX7_count 68 = .ok (.iconst 0, 1) := by decide +kernel
theorem dX7_count_69 : decode cX7_count 69 = .ok (.istore_n 3, 1) := by decide +kernel
theorem dX7_count_70 : decode cX7_count 70 = .ok (.iload_n 3, 1) := by decide +kernel
theorem dX7_count_71 : decode cX7_count 71 = .ok (.aload_n 0, 1) := by decide +kernel
theorem dX7_count_72 : decode cX7_count 72 = .ok (.getfield 7, 3) := by decide +kernel
theorem dX7_count_75 : decode cX7_count 75 = .ok (.if_icmp .ge 50, 3) := by decide +kernel
theorem dX7_count_78 : decode cX7_count 78 = .ok (.iload_n 2, 1) := by decide +kernel
theorem dX7_count_79 : decode cX7_count 79 = .ok (.iload_n 1, 1) := by decide +kernel
theorem dX7_count_80 : decode cX7_count 80 = .ok (.iconst 2, 1) := by decide +kernel
theorem dX7_count_81 : decode cX7_count 81 = .ok (.if_icmp .ne 12, 3) := by decide +kernel
theorem dX7_count_84 : decode cX7_count 84 = .ok (.aload_n 0, 1) := by decide +kernel
theorem dX7_count_85 : decode cX7_count 85 = .ok (.getfield 24, 3) := by decide +kernel
theorem dX7_count_88 : decode cX7_count 88 = .ok (.iload_n 3, 1) := by decide +kernel
theorem dX7_count_89 : decode cX7_count 89 = .ok (.iaload, 1) := by decide +kernel
theorem dX7_count_90 : decode cX7_count 90 = .ok (.ifCond .ge 22, 3) := by decide +kernel
theorem dX7_count_93 : decode cX7_count 93 = .ok (.iload_n 1, 1) := by decide +kernel
theorem dX7_count_94 : decode cX7_count 94 = .ok (.iconst 5, 1) := by decide +kernel
theorem dX7_count_95 : decode cX7_count 95 = .ok (.if_icmp .ne 21, 3) := by decide +kernel
theorem dX7_count_98 : decode cX7_count 98 = .ok (.aload_n 0, 1) := by decide +kernel
theorem dX7_count_99 : decode cX7_count 99 = .ok (.iload_n 3, 1) := by decide +kernel
theorem dX7_count_100 : decode cX7_count 100 = .ok (.invokevirtual 119, 3) := by decide +kernel
theorem dX7_count_103 : decode cX7_count 103 = .ok (.aload_n 0, 1) := by decide +kernel
theorem dX7_count_104 : decode cX7_count 104 = .ok (.getfield 17, 3) := by decide +kernel
theorem dX7_count_107 : decode cX7_count 107 = .ok (.iconst 2, 1) := by decide +kernel
theorem dX7_count_108 : decode cX7_count 108 = .ok (.iaload, 1) := by decide +kernel
theorem dX7_count_109 : decode cX7_count 109 = .ok (.if_icmp .le 7, 3) := by decide +kernel
theorem dX7_count_112 : decode cX7_count 112 = .ok (.iconst 1, 1) := by decide +kernel
theorem dX7_count_113 : decode cX7_count 113 = .ok (.goto 4, 3) := by decide +kernel
theorem dX7_count_116 : decode cX7_count 116 = .ok (.iconst 0, 1) := by decide +kernel
theorem dX7_count_117 : decode cX7_count 117 = .ok (.iadd, 1) := by decide +kernel
theorem dX7_count_118 : decode cX7_count 118 = .ok (.istore_n 2, 1) := by decide +kernel
theorem dX7_count_119 : decode cX7_count 119 = .ok (.iinc 3 1, 3) := by decide +kernel
theorem dX7_count_122 : decode cX7_count 122 = .ok (.goto (-52), 3) := by decide +kernel
theorem dX7_count_125 : decode cX7_count 125 = .ok (.iload_n 1, 1) := by decide +kernel
theorem dX7_count_126 : decode cX7_count 126 = .ok (.tableswitch 62 0 6 #[42, 60, 60, 47, 53, 60, 60], 42) := by decide +kernel
theorem dX7_count_168 : decode cX7_count 168 = .ok (.aload_n 0, 1) := by decide +kernel
theorem dX7_count_169 : decode cX7_count 169 = .ok (.getfield 7, 3) := by decide +kernel
theorem dX7_count_172 : decode cX7_count 172 = .ok (.ireturn, 1) := by decide +kernel
theorem dX7_count_173 : decode cX7_count 173 = .ok (.aload_n 0, 1) := by decide +kernel
theorem dX7_count_174 : decode cX7_count 174 = .ok (.iconst 1, 1) := by decide +kernel
theorem dX7_count_175 : decode cX7_count 175 = .ok (.invokevirtual 122, 3) := by decide +kernel
theorem dX7_count_178 : decode cX7_count 178 = .ok (.ireturn, 1) := by decide +kernel
theorem dX7_count_179 : decode cX7_count 179 = .ok (.aload_n 0, 1) := by decide +kernel
theorem dX7_count_180 : decode cX7_count 180 = .ok (.bipush 10, 2) := by decide +kernel
theorem dX7_count_182 : decode cX7_count 182 = .ok (.invokevirtual 122, 3) := by decide +kernel
theorem dX7_count_185 : decode cX7_count 185 = .ok (.ireturn, 1) := by decide +kernel
theorem dX7_count_186 : decode cX7_count 186 = .ok (.iload_n 2, 1) := by decide +kernel
theorem dX7_count_187 : decode cX7_count 187 = .ok (.ireturn, 1) := by decide +kernel
theorem dX7_count_188 : decode cX7_count 188 = .ok (.sipush (-1002), 3) := by decide +kernel
theorem dX7_count_191 : decode cX7_count 191 = .ok (.ireturn, 1) := by decide +kernel
theorem dX7_piece_0 : decode cX7_piece 0 = .ok (.aload_n 0, 1) := by decide +kernel
theorem dX7_piece_1 : decode cX7_piece 1 = .ok (.iload_n 1, 1) := by decide +kernel
theorem dX7_piece_2 : decode cX7_piece 2 = .ok (.invokevirtual 69, 3) := by decide +kernel
theorem dX7_piece_5 : decode cX7_piece 5 = .ok (.ifCond .ne 7, 3) := by decide +kernel
theorem dX7_piece_8 : decode cX7_piece 8 = .ok (.sipush (-1001), 3) := by decide +kernel
theorem dX7_piece_11 : decode cX7_piece 11 = .ok (.ireturn, 1) := by decide +kernel
theorem dX7_piece_12 : decode cX7_piece 12 = .ok (.iload_n 2, 1) := by decide +kernel
theorem dX7_piece_13 : decode cX7_piece 13 = .ok (.i2l, 1) := by decide +kernel
theorem dX7_piece_14 : decode cX7_piece 14 = .ok (.lconst 0, 1) := by decide +kernel
theorem dX7_piece_15 : decode cX7_piece 15 = .ok (.lconst 1, 1) := by decide +kernel
theorem dX7_piece_16 : decode cX7_piece 16 = .ok (.invokestatic 61, 3) := by decide +kernel
theorem dX7_piece_19 : decode cX7_piece 19 = .ok (.ifCond .ne 7, 3) := by decide +kernel
theorem dX7_piece_22 : decode cX7_piece 22 = .ok (.sipush (-1002), 3) := by decide +kernel
theorem dX7_piece_25 : decode cX7_piece 25 = .ok (.ireturn, 1) := by decide +kernel
theorem dX7_piece_26 : decode cX7_piece 26 = .ok (.aload_n 0, 1) := by decide +kernel
theorem dX7_piece_27 : decode cX7_piece 27 = .ok (.invokevirtual 116, 3) := by decide +kernel
theorem dX7_piece_30 : decode cX7_piece 30 = .ok (.aload_n 0, 1) := by decide +kernel
theorem dX7_piece_31 : decode cX7_piece 31 = .ok (.aload_n 0, 1) := by decide +kernel
theorem dX7_piece_32 : decode cX7_piece 32 = .ok (.getfield 33, 3) := by decide +kernel
theorem dX7_piece_35 : decode cX7_piece 35 = .ok (.bipush 8, 2) := by decide +kernel
theorem dX7_piece_37 : decode cX7_piece 37 = .ok (.iload_n 2, 1) := by decide +kernel
theorem dX7_piece_38 : decode cX7_piece 38 = .ok (.imul, 1) := by decide +kernel
theorem dX7_piece_39 : decode cX7_piece 39 = .ok (.iload_n 1, 1) := by decide +kernel
theorem dX7_piece_40 : decode cX7_piece 40 = .ok (.iadd, 1) := by decide +kernel
theorem dX7_piece_41 : decode cX7_piece 41 = .ok (.iaload, 1) := by decide +kernel
theorem dX7_piece_42 : decode cX7_piece 42 = .ok (.invokevirtual 125, 3) := by decide +kernel
theorem dX7_piece_45 : decode cX7_piece 45 = .ok (.ireturn, 1) := by decide +kernel
theorem dX7_place_0 : decode cX7_place 0 = .ok (.aload_n 0, 1) := by decide +kernel
theorem dX7_place_1 : decode cX7_place 1 = .ok (.getfield 36, 3) := by decide +kernel
theorem dX7_place_4 : decode cX7_place 4 = .ok (.iload_n 1, 1) := by decide +kernel
theorem dX7_place_5 : decode cX7_place 5 = .ok (.aload_n 0, 1) := by decide +kernel
theorem dX7_place_6 : decode cX7_place 6 = .ok (.getfield 128, 3) := by decide +kernel
theorem dX7_place_9 : decode cX7_place 9 = .ok (.iastore, 1) := by decide +kernel
theorem dX7_place_10 : decode cX7_place 10 = .ok (.aload_n 0, 1) := by decide +kernel
theorem dX7_place_11 : decode cX7_place 11 = .ok (.dup, 1) := by decide +kernel
theorem dX7_place_12 : decode cX7_place 12 = .ok (.getfield 128, 3) := by decide +kernel
theorem dX7_place_15 : decode cX7_place 15 = .ok (.iconst 1, 1) := by decide +kernel
theorem dX7_place_16 : decode cX7_place 16 = .ok (.iadd, 1) := by decide +kernel
theorem dX7_place_17 : decode cX7_place 17 = .ok (.putfield 128, 3) := by decide +kernel
theorem dX7_place_20 : decode cX7_place 20 = .ok (.return_, 1) := by decide +kernel
theorem dX7_add_0 : decode cX7_add 0 = .ok (.aload_n 0, 1) := by decide +kernel
theorem dX7_add_1 : decode cX7_add 1 = .ok (.getfield 39, 3) := by decide +kernel
theorem dX7_add_4 : decode cX7_add 4 = .ok (.bipush 11, 2) := by decide +kernel
theorem dX7_add_6 : decode cX7_add 6 = .ok (.iload_n 1, 1) := by decide +kernel
theorem dX7_add_7 : decode cX7_add 7 = .ok (.imul, 1) := by decide +kernel
theorem dX7_add_8 : decode cX7_add 8 = .ok (.iload_n 2, 1) := by decide +kernel
theorem dX7_add_9 : decode cX7_add 9 = .ok (.iadd, 1) := by decide +kernel
theorem dX7_add_10 : decode cX7_add 10 = .ok (.dup2, 1) := by decide +kernel
theorem dX7_add_11 : decode cX7_add 11 = .ok (.laload, 1) := by decide +kernel
theorem dX7_add_12 : decode cX7_add 12 = .ok (.lload_n 3, 1) := by decide +kernel
theorem dX7_add_13 : decode cX7_add 13 = .ok (.ladd, 1) := by decide +kernel
theorem dX7_add_14 : decode cX7_add 14 = .ok (.lastore, 1) := by decide +kernel
theorem dX7_add_15 : decode cX7_add 15 = .ok (.return_, 1) := by decide +kernel
theorem dX7_setUp_0 : decode cX7_setUp 0 = .ok (.iconst 0, 1) := by decide +kernel
theorem dX7_setUp_1 : decode cX7_setUp 1 = .ok (.istore_n 2, 1) := by decide +kernel
theorem dX7_setUp_2 : decode cX7_setUp 2 = .ok (.iload_n 2, 1) := by decide +kernel
theorem dX7_setUp_3 : decode cX7_setUp 3 = .ok (.bipush 110, 2) := by decide +kernel
theorem dX7_setUp_5 : decode cX7_setUp 5 = .ok (.if_icmp .ge 16, 3) := by decide +kernel
theorem dX7_setUp_8 : decode cX7_setUp 8 = .ok (.aload_n 0, 1) := by decide +kernel
theorem dX7_setUp_9 : decode cX7_setUp 9 = .ok (.getfield 39, 3) := by decide +kernel
theorem dX7_setUp_12 : decode cX7_setUp 12 = .ok (.iload_n 2, 1) := by decide +kernel
theorem dX7_setUp_13 : decode cX7_setUp 13 = .ok (.lconst 0, 1) := by decide +kernel
theorem dX7_setUp_14 : decode cX7_setUp 14 = .ok (.lastore, 1) := by decide +kernel
theorem dX7_setUp_15 : decode cX7_setUp 15 = .ok (.iinc 2 1, 3) := by decide +kernel
theorem dX7_setUp_18 : decode cX7_setUp 18 = .ok (.goto (-16), 3) := by decide +kernel
theorem dX7_setUp_21 : decode cX7_setUp 21 = .ok (.iconst 0, 1) := by decide +kernel
theorem dX7_setUp_22 : decode cX7_setUp 22 = .ok (.istore_n 2, 1) := by decide +kernel
theorem dX7_setUp_23 : decode cX7_setUp 23 = .ok (.iload_n 2, 1) := by decide +kernel
theorem dX7_setUp_24 : decode cX7_setUp 24 = .ok (.aload_n 0, 1) := by decide +kernel
theorem dX7_setUp_25 : decode cX7_setUp 25 = .ok (.getfield 7, 3) := by decide +kernel
theorem dX7_setUp_28 : decode cX7_setUp 28 = .ok (.if_icmp .ge 169, 3) := by decide +kernel
theorem dX7_setUp_31 : decode cX7_setUp 31 = .ok (.iconst 0, 1) := by decide +kernel
theorem dX7_setUp_32 : decode cX7_setUp 32 = .ok (.istore_n 3, 1) := by decide +kernel
theorem dX7_setUp_33 : decode cX7_setUp 33 = .ok (.iload_n 3, 1) := by decide +kernel
theorem dX7_setUp_34 : decode cX7_setUp 34 = .ok (.aload_n 0, 1) := by decide +kernel
theorem dX7_setUp_35 : decode cX7_setUp 35 = .ok (.getfield 7, 3) := by decide +kernel
theorem dX7_setUp_38 : decode cX7_setUp 38 = .ok (.if_icmp .ge 153, 3) := by decide +kernel
theorem dX7_setUp_41 : decode cX7_setUp 41 = .ok (.aload_n 0, 1) := by decide +kernel
theorem dX7_setUp_42 : decode cX7_setUp 42 = .ok (.getfield 21, 3) := by decide +kernel
theorem dX7_setUp_45 : decode cX7_setUp 45 = .ok (.bipush 8, 2) := by decide +kernel
theorem dX7_setUp_47 : decode cX7_setUp 47 = .ok (.iload_n 3, 1) := by decide +kernel
theorem dX7_setUp_48 : decode cX7_setUp 48 = .ok (.imul, 1) := by decide +kernel
theorem dX7_setUp_49 : decode cX7_setUp 49 = .ok (.iload_n 2, 1) := by decide +kernel
theorem dX7_setUp_50 : decode cX7_setUp 50 = .ok (.iadd, 1) := by decide +kernel
theorem dX7_setUp_51 : decode cX7_setUp 51 = .ok (.iaload, 1) := by decide +kernel
theorem dX7_setUp_52 : decode cX7_setUp 52 = .ok (.istore 4, 2) := by decide +kernel
theorem dX7_setUp_54 : decode cX7_setUp 54 = .ok (.iload 4, 2) := by decide +kernel
theorem dX7_setUp_56 : decode cX7_setUp 56 = .ok (.ifCond .lt 129, 3) := by decide +kernel
theorem dX7_setUp_59 : decode cX7_setUp 59 = .ok (.aload_n 0, 1) := by decide +kernel
theorem dX7_setUp_60 : decode cX7_setUp 60 = .ok (.getfield 33, 3) := by decide +kernel
theorem dX7_setUp_63 : decode cX7_setUp 63 = .ok (.iload_n 2, 1) := by decide +kernel
theorem dX7_setUp_64 : decode cX7_setUp 64 = .ok (.iaload, 1) := by decide +kernel
theorem dX7_setUp_65 : decode cX7_setUp 65 = .ok (.iload_n 1, 1) := by decide +kernel
theorem dX7_setUp_66 : decode cX7_setUp 66 = .ok (.if_icmp .ne 119, 3) := by decide +kernel
theorem dX7_setUp_69 : decode cX7_setUp 69 = .ok (.aload_n 0, 1) := by decide +kernel
theorem dX7_setUp_70 : decode cX7_setUp 70 = .ok (.getfield 36, 3) := by decide +kernel
theorem dX7_setUp_73 : decode cX7_setUp 73 = .ok (.iload_n 2, 1) := by decide +kernel
theorem dX7_setUp_74 : decode cX7_setUp 74 = .ok (.iaload, 1) := by decide +kernel
theorem dX7_setUp_75 : decode cX7_setUp 75 = .ok (.istore 5, 2) := by decide +kernel
theorem dX7_setUp_77 : decode cX7_setUp 77 = .ok (.aload_n 0, 1) := by decide +kernel
theorem dX7_setUp_78 : decode cX7_setUp 78 = .ok (.getfield 36, 3) := by decide +kernel
theorem dX7_setUp_81 : decode cX7_setUp 81 = .ok (.bipush 8, 2) := by decide +kernel
theorem dX7_setUp_83 : decode cX7_setUp 83 = .ok (.iload_n 3, 1) := by decide +kernel
theorem dX7_setUp_84 : decode cX7_setUp 84 = .ok (.iadd, 1) := by decide +kernel
theorem dX7_setUp_85 : decode cX7_setUp 85 = .ok (.iaload, 1) := by decide +kernel
theorem dX7_setUp_86 : decode cX7_setUp 86 = .ok (.istore 6, 2) := by decide +kernel
theorem dX7_setUp_88 : decode cX7_setUp 88 = .ok (.iload 4, 2) := by decide +kernel
theorem dX7_setUp_90 : decode cX7_setUp 90 = .ok (.iload 5, 2) := by decide +kernel
theorem dX7_setUp_92 : decode cX7_setUp 92 = .ok (.ifCond .ge 12, 3) := by decide +kernel
theorem dX7_setUp_95 : decode cX7_setUp 95 = .ok (.aload_n 0, 1) := by decide +kernel
theorem dX7_setUp_96 : decode cX7_setUp 96 = .ok (.getfield 24, 3) := by decide +kernel
theorem dX7_setUp_99 : decode cX7_setUp 99 = .ok (.iload_n 2, 1) := by decide +kernel
theorem dX7_setUp_100 : decode cX7_setUp 100 = .ok (.iaload, 1) := by decide +kernel
theorem dX7_setUp_101 : decode cX7_setUp 101 = .ok (.goto 4, 3) := by decide +kernel
theorem dX7_setUp_104 : decode cX7_setUp 104 = .ok (.iconst 0, 1) := by decide +kernel
theorem dX7_setUp_105 : decode cX7_setUp 105 = .ok (.isub, 1) := by decide +kernel
theorem dX7_setUp_106 : decode cX7_setUp 106 = .ok (.i2l, 1) := by decide +kernel
theorem dX7_setUp_107 : decode cX7_setUp 107 = .ok (.lstore 7, 2) := by decide +kernel
theorem dX7_setUp_109 : decode cX7_setUp 109 = .ok (.iload 5, 2) := by decide +kernel
theorem dX7_setUp_111 : decode cX7_setUp 111 = .ok (.ifCond .lt 22, 3) := by decide +kernel
theorem dX7_setUp_114 : decode cX7_setUp 114 = .ok (.aload_n 0, 1) := by decide +kernel
theorem dX7_setUp_115 : decode cX7_setUp 115 = .ok (.iload 5, 2) := by decide +kernel
theorem dX7_setUp_117 : decode cX7_setUp 117 = .ok (.iload 5, 2) := by decide +kernel
theorem dX7_setUp_119 : decode cX7_setUp 119 = .ok (.lconst 1, 1) := by decide +kernel
theorem dX7_setUp_120 : decode cX7_setUp 120 = .ok (.invokevirtual 131, 3) := by decide +kernel
theorem dX7_setUp_123 : decode cX7_setUp 123 = .ok (.aload_n 0, 1) := by decide +kernel
theorem dX7_setUp_124 : decode cX7_setUp 124 = .ok (.iload 5, 2) := by decide +kernel
theorem dX7_setUp_126 : decode cX7_setUp 126 = .ok (.bipush 10, 2) := by decide +kernel
theorem dX7_setUp_128 : decode cX7_setUp 128 = .ok (.lload 7, 2) := by decide +kernel
theorem dX7_setUp_130 : decode cX7_setUp 130 = .ok (.invokevirtual 131, 3) := by decide +kernel
theorem dX7_setUp_133 : decode cX7_setUp 133 = .ok (.iload 6, 2) := by decide +kernel
theorem dX7_setUp_135 : decode cX7_setUp 135 = .ok (.ifCond .lt 22, 3) := by decide +kernel
theorem dX7_setUp_138 : decode cX7_setUp 138 = .ok (.aload_n 0, 1) := by decide +kernel
theorem dX7_setUp_139 : decode cX7_setUp 139 = .ok (.iload 6, 2) := by decide +kernel
theorem dX7_setUp_141 : decode cX7_setUp 141 = .ok (.iload 6, 2) := by decide +kernel
theorem dX7_setUp_143 : decode cX7_setUp 143 = .ok (.lconst 1, 1) := by decide +kernel
theorem dX7_setUp_144 : decode cX7_setUp 144 = .ok (.invokevirtual 131, 3) := by decide +kernel
theorem dX7_setUp_147 : decode cX7_setUp 147 = .ok (.aload_n 0, 1) := by decide +kernel
theorem dX7_setUp_148 : decode cX7_setUp 148 = .ok (.iload 6, 2) := by decide +kernel
theorem dX7_setUp_150 : decode cX7_setUp 150 = .ok (.bipush 10, 2) := by decide +kernel
theorem dX7_setUp_152 : decode cX7_setUp 152 = .ok (.lload 7, 2) := by decide +kernel
theorem dX7_setUp_154 : decode cX7_setUp 154 = .ok (.invokevirtual 131, 3) := by decide +kernel
theorem dX7_setUp_157 : decode cX7_setUp 157 = .ok (.iload 5, 2) := by decide +kernel
theorem dX7_setUp_159 : decode cX7_setUp 159 = .ok (.ifCond .lt 26, 3) := by decide +kernel
theorem dX7_setUp_162 : decode cX7_setUp 162 = .ok (.iload 6, 2) := by decide +kernel
theorem dX7_setUp_164 : decode cX7_setUp 164 = .ok (.ifCond .lt 21, 3) := by decide +kernel
theorem dX7_setUp_167 : decode cX7_setUp 167 = .ok (.aload_n 0, 1) := by decide +kernel
theorem dX7_setUp_168 : decode cX7_setUp 168 = .ok (.iload 5, 2) := by decide +kernel
theorem dX7_setUp_170 : decode cX7_setUp 170 = .ok (.iload 6, 2) := by decide +kernel
theorem dX7_setUp_172 : decode cX7_setUp 172 = .ok (.lconst 1, 1) := by decide +kernel
theorem dX7_setUp_173 : decode cX7_setUp 173 = .ok (.invokevirtual 131, 3) := by decide +kernel
theorem dX7_setUp_176 : decode cX7_setUp 176 = .ok (.aload_n 0, 1) := by decide +kernel
theorem dX7_setUp_177 : decode cX7_setUp 177 = .ok (.iload 6, 2) := by decide +kernel
theorem dX7_setUp_179 : decode cX7_setUp 179 = .ok (.iload 5, 2) := by decide +kernel
theorem dX7_setUp_181 : decode cX7_setUp 181 = .ok (.lconst 1, 1) := by decide +kernel
theorem dX7_setUp_182 : decode cX7_setUp 182 = .ok (.invokevirtual 131, 3) := by decide +kernel
theorem dX7_setUp_185 : decode cX7_setUp 185 = .ok (.iinc 3 1, 3) := by decide +kernel
theorem dX7_setUp_188 : decode cX7_setUp 188 = .ok (.goto (-155), 3) := by decide +kernel
theorem dX7_setUp_191 : decode cX7_setUp 191 = .ok (.iinc 2 1, 3) := by decide +kernel
theorem dX7_setUp_194 : decode cX7_setUp 194 = .ok (.goto (-171), 3) := by decide +kernel
theorem dX7_setUp_197 : decode cX7_setUp 197 = .ok (.return_, 1) := by decide +kernel
theorem dX7_solveCells_0 : decode cX7_solveCells 0 = .ok (.lconst 1, 1) := by decide +kernel
theorem dX7_solveCells_1 : decode cX7_solveCells 1 = .ok (.lstore_n 1, 1) := by decide +kernel
theorem dX7_solveCells_2 : decode cX7_solveCells 2 = .ok (.iconst 0, 1) := by decide +kernel
theorem dX7_solveCells_3 : decode cX7_solveCells 3 = .ok (.istore_n 3, 1) := by decide +kernel
theorem dX7_solveCells_4 : decode cX7_solveCells 4 = .ok (.iload_n 3, 1) := by decide +kernel
theorem dX7_solveCells_5 : decode cX7_solveCells 5 = .ok (.aload_n 0, 1) := by decide +kernel
theorem dX7_solveCells_6 : decode cX7_solveCells 6 = .ok (.getfield 128, 3) := by decide +kernel
theorem dX7_solveCells_9 : decode cX7_solveCells 9 = .ok (.if_icmp .ge 124, 3) := by decide +kernel
theorem dX7_solveCells_12 : decode cX7_solveCells 12 = .ok (.aload_n 0, 1) := by decide +kernel
theorem dX7_solveCells_13 : decode cX7_solveCells 13 = .ok (.getfield 39, 3) := by decide +kernel
theorem dX7_solveCells_16 : decode cX7_solveCells 16 = .ok (.bipush 12, 2) := by decide +kernel
theorem dX7_solveCells_18 : decode cX7_solveCells 18 = .ok (.iload_n 3, 1) := by decide +kernel
theorem dX7_solveCells_19 : decode cX7_solveCells 19 = .ok (.imul, 1) := by decide +kernel
theorem dX7_solveCells_20 : decode cX7_solveCells 20 = .ok (.laload, 1) := by decide +kernel
theorem dX7_solveCells_21 : decode cX7_solveCells 21 = .ok (.lstore 4, 2) := by decide +kernel
theorem dX7_solveCells_23 : decode cX7_solveCells 23 = .ok (.iconst 0, 1) := by decide +kernel
theorem dX7_solveCells_24 : decode cX7_solveCells 24 = .ok (.istore 6, 2) := by decide +kernel
theorem dX7_solveCells_26 : decode cX7_solveCells 26 = .ok (.iload 6, 2) := by decide +kernel
theorem dX7_solveCells_28 : decode cX7_solveCells 28 = .ok (.aload_n 0, 1) := by decide +kernel
theorem dX7_solveCells_29 : decode cX7_solveCells 29 = .ok (.getfield 128, 3) := by decide +kernel
theorem dX7_solveCells_32 : decode cX7_solveCells 32 = .ok (.if_icmp .ge 92, 3) := by decide +kernel
theorem dX7_solveCells_35 : decode cX7_solveCells 35 = .ok (.aload_n 0, 1) := by decide +kernel
theorem dX7_solveCells_36 : decode cX7_solveCells 36 = .ok (.getfield 39, 3) := by decide +kernel
theorem dX7_solveCells_39 : decode cX7_solveCells 39 = .ok (.bipush 11, 2) := by decide +kernel
theorem dX7_solveCells_41 : decode cX7_solveCells 41 = .ok (.iload 6, 2) := by decide +kernel
theorem dX7_solveCells_43 : decode cX7_solveCells 43 = .ok (.imul, 1) := by decide +kernel
theorem dX7_solveCells_44 : decode cX7_solveCells 44 = .ok (.iload_n 3, 1) := by decide +kernel
theorem dX7_solveCells_45 : decode cX7_solveCells 45 = .ok (.iadd, 1) := by decide +kernel
theorem dX7_solveCells_46 : decode cX7_solveCells 46 = .ok (.laload, 1) := by decide +kernel
theorem dX7_solveCells_47 : decode cX7_solveCells 47 = .ok (.lstore 7, 2) := by decide +kernel
theorem dX7_solveCells_49 : decode cX7_solveCells 49 = .ok (.iconst 0, 1) := by decide +kernel
theorem dX7_solveCells_50 : decode cX7_solveCells 50 = .ok (.istore 9, 2) := by decide +kernel
theorem dX7_solveCells_52 : decode cX7_solveCells 52 = .ok (.iload 9, 2) := by decide +kernel
theorem dX7_solveCells_54 : decode cX7_solveCells 54 = .ok (.bipush 11, 2) := by decide +kernel
theorem dX7_solveCells_56 : decode cX7_solveCells 56 = .ok (.if_icmp .ge 62, 3) := by decide +kernel
theorem dX7_solveCells_59 : decode cX7_solveCells 59 = .ok (.iload 6, 2) := by decide +kernel
theorem dX7_solveCells_61 : decode cX7_solveCells 61 = .ok (.iload_n 3, 1) := by decide +kernel
theorem dX7_solveCells_62 : decode cX7_solveCells 62 = .ok (.if_icmp .eq 56, 3) := by decide +kernel
theorem dX7_solveCells_65 : decode cX7_solveCells 65 = .ok (.aload_n 0, 1) := by decide +kernel
theorem dX7_solveCells_66 : decode cX7_solveCells 66 = .ok (.getfield 39, 3) := by decide +kernel
theorem dX7_solveCells_69 : decode cX7_solveCells 69 = .ok (.bipush 11, 2) := by decide +kernel
theorem dX7_solveCells_71 : decode cX7_solveCells 71 = .ok (.iload 6, 2) := by decide +kernel
theorem dX7_solveCells_73 : decode cX7_solveCells 73 = .ok (.imul, 1) := by decide +kernel
theorem dX7_solveCells_74 : decode cX7_solveCells 74 = .ok (.iload 9, 2) := by decide +kernel
theorem dX7_solveCells_76 : decode cX7_solveCells 76 = .ok (.iadd, 1) := by decide +kernel
theorem dX7_solveCells_77 : decode cX7_solveCells 77 = .ok (.lload 4, 2) := by decide +kernel
theorem dX7_solveCells_79 : decode cX7_solveCells 79 = .ok (.aload_n 0, 1) := by decide +kernel
theorem dX7_solveCells_80 : decode cX7_solveCells 80 = .ok (.getfield 39, 3) := by decide +kernel
theorem dX7_solveCells_83 : decode cX7_solveCells 83 = .ok (.bipush 11, 2) := by decide +kernel
theorem dX7_solveCells_85 : decode cX7_solveCells 85 = .ok (.iload 6, 2) := by decide +kernel
theorem dX7_solveCells_87 : decode cX7_solveCells 87 = .ok (.imul, 1) := by decide +kernel
theorem dX7_solveCells_88 : decode cX7_solveCells 88 = .ok (.iload 9, 2) := by decide +kernel
theorem dX7_solveCells_90 : decode cX7_solveCells 90 = .ok (.iadd, 1) := by decide +kernel
theorem dX7_solveCells_91 : decode cX7_solveCells 91 = .ok (.laload, 1) := by decide +kernel
theorem dX7_solveCells_92 : decode cX7_solveCells 92 = .ok (.lmul, 1) := by decide +kernel
theorem dX7_solveCells_93 : decode cX7_solveCells 93 = .ok (.lload 7, 2) := by decide +kernel
theorem dX7_solveCells_95 : decode cX7_solveCells 95 = .ok (.aload_n 0, 1) := by decide +kernel
theorem dX7_solveCells_96 : decode cX7_solveCells 96 = .ok (.getfield 39, 3) := by decide +kernel
theorem dX7_solveCells_99 : decode cX7_solveCells 99 = .ok (.bipush 11, 2) := by decide +kernel
theorem dX7_solveCells_101 : decode cX7_solveCells 101 = .ok (.iload_n 3, 1) := by decide +kernel
theorem dX7_solveCells_102 : decode cX7_solveCells 102 = .ok (.imul, 1) := by decide +kernel
theorem dX7_solveCells_103 : decode cX7_solveCells 103 = .ok (.iload 9, 2) := by decide +kernel
theorem dX7_solveCells_105 : decode cX7_solveCells 105 = .ok (.iadd, 1) := by decide +kernel
theorem dX7_solveCells_106 : decode cX7_solveCells 106 = .ok (.laload, 1) := by decide +kernel
theorem dX7_solveCells_107 : decode cX7_solveCells 107 = .ok (.lmul, 1) := by decide +kernel
theorem dX7_solveCells_108 : decode cX7_solveCells 108 = .ok (.lsub, 1) := by decide +kernel
theorem dX7_solveCells_109 : decode cX7_solveCells 109 = .ok (.lload_n 1, 1) := by decide +kernel
theorem dX7_solveCells_110 : decode cX7_solveCells 110 = .ok (.ldiv, 1) := by decide +kernel
theorem dX7_solveCells_111 : decode cX7_solveCells 111 = .ok (.lastore, 1) := by decide +kernel
theorem dX7_solveCells_112 : decode cX7_solveCells 112 = .ok (.iinc 9 1, 3) := by decide +kernel
theorem dX7_solveCells_115 : decode cX7_solveCells 115 = .ok (.goto (-63), 3) := by decide +kernel
theorem dX7_solveCells_118 : decode cX7_solveCells 118 = .ok (.iinc 6 1, 3) := by decide +kernel
theorem dX7_solveCells_121 : decode cX7_solveCells 121 = .ok (.goto (-95), 3) := by decide +kernel
theorem dX7_solveCells_124 : decode cX7_solveCells 124 = .ok (.lload 4, 2) := by decide +kernel
theorem dX7_solveCells_126 : decode cX7_solveCells 126 = .ok (.lstore_n 1, 1) := by decide +kernel
theorem dX7_solveCells_127 : decode cX7_solveCells 127 = .ok (.iinc 3 1, 3) := by decide +kernel
theorem dX7_solveCells_130 : decode cX7_solveCells 130 = .ok (.goto (-126), 3) := by decide +kernel
theorem dX7_solveCells_133 : decode cX7_solveCells 133 = .ok (.aload_n 0, 1) := by decide +kernel
theorem dX7_solveCells_134 : decode cX7_solveCells 134 = .ok (.lload_n 1, 1) := by decide +kernel
theorem dX7_solveCells_135 : decode cX7_solveCells 135 = .ok (.putfield 135, 3) := by decide +kernel
theorem dX7_solveCells_138 : decode cX7_solveCells 138 = .ok (.return_, 1) := by decide +kernel
theorem dX7_solve_0 : decode cX7_solve 0 = .ok (.aload_n 0, 1) := by decide +kernel
theorem dX7_solve_1 : decode cX7_solve 1 = .ok (.invokevirtual 116, 3) := by decide +kernel
theorem dX7_solve_4 : decode cX7_solve 4 = .ok (.aload_n 0, 1) := by decide +kernel
theorem dX7_solve_5 : decode cX7_solve 5 = .ok (.iload_n 1, 1) := by decide +kernel
theorem dX7_solve_6 : decode cX7_solve 6 = .ok (.invokevirtual 113, 3) := by decide +kernel
theorem dX7_solve_9 : decode cX7_solve 9 = .ok (.bipush 10, 2) := by decide +kernel
theorem dX7_solve_11 : decode cX7_solve 11 = .ok (.if_icmp .le 5, 3) := by decide +kernel
theorem dX7_solve_14 : decode cX7_solve 14 = .ok (.iconst 0, 1) := by decide +kernel
theorem dX7_solve_15 : decode cX7_solve 15 = .ok (.ireturn, 1) := by decide +kernel
theorem dX7_solve_16 : decode cX7_solve 16 = .ok (.iconst 0, 1) := by decide +kernel
theorem dX7_solve_17 : decode cX7_solve 17 = .ok (.istore_n 2, 1) := by decide +kernel
theorem dX7_solve_18 : decode cX7_solve 18 = .ok (.iconst 0, 1) := by decide +kernel
theorem dX7_solve_19 : decode cX7_solve 19 = .ok (.istore_n 3, 1) := by decide +kernel
theorem dX7_solve_20 : decode cX7_solve 20 = .ok (.iconst (-1), 1) := by decide +kernel
theorem dX7_solve_21 : decode cX7_solve 21 = .ok (.istore 4, 2) := by decide +kernel
theorem dX7_solve_23 : decode cX7_solve 23 = .ok (.aload_n 0, 1) := by decide +kernel
theorem dX7_solve_24 : decode cX7_solve 24 = .ok (.iconst 0, 1) := by decide +kernel
theorem dX7_solve_25 : decode cX7_solve 25 = .ok (.putfield 128, 3) := by decide +kernel
theorem dX7_solve_28 : decode cX7_solve 28 = .ok (.iconst 0, 1) := by decide +kernel
theorem dX7_solve_29 : decode cX7_solve 29 = .ok (.istore 5, 2) := by decide +kernel
theorem dX7_solve_31 : decode cX7_solve 31 = .ok (.iload 5, 2) := by decide +kernel
theorem dX7_solve_33 : decode cX7_solve 33 = .ok (.bipush 16, 2) := by decide +kernel
theorem dX7_solve_35 : decode cX7_solve 35 = .ok (.if_icmp .ge 108, 3) := by decide +kernel
theorem dX7_solve_38 : decode cX7_solve 38 = .ok (.aload_n 0, 1) := by decide +kernel
theorem dX7_solve_39 : decode cX7_solve 39 = .ok (.getfield 36, 3) := by decide +kernel
theorem dX7_solve_42 : decode cX7_solve 42 = .ok (.iload 5, 2) := by decide +kernel
theorem dX7_solve_44 : decode cX7_solve 44 = .ok (.iconst (-1), 1) := by decide +kernel
theorem dX7_solve_45 : decode cX7_solve 45 = .ok (.iastore, 1) := by decide +kernel
theorem dX7_solve_46 : decode cX7_solve 46 = .ok (.aload_n 0, 1) := by decide +kernel
theorem dX7_solve_47 : decode cX7_solve 47 = .ok (.getfield 33, 3) := by decide +kernel
theorem dX7_solve_50 : decode cX7_solve 50 = .ok (.iload 5, 2) := by decide +kernel
theorem dX7_solve_52 : decode cX7_solve 52 = .ok (.iaload, 1) := by decide +kernel
theorem dX7_solve_53 : decode cX7_solve 53 = .ok (.iload_n 1, 1) := by decide +kernel
theorem dX7_solve_54 : decode cX7_solve 54 = .ok (.if_icmp .ne 7, 3) := by decide +kernel
theorem dX7_solve_57 : decode cX7_solve 57 = .ok (.iconst 1, 1) := by decide +kernel
theorem dX7_solve_58 : decode cX7_solve 58 = .ok (.goto 4, 3) := by decide +kernel
theorem dX7_solve_61 : decode cX7_solve 61 = .ok (.iconst 0, 1) := by decide +kernel
theorem dX7_solve_62 : decode cX7_solve 62 = .ok (.istore 6, 2) := by decide +kernel
theorem dX7_solve_64 : decode cX7_solve 64 = .ok (.iload_n 2, 1) := by decide +kernel
theorem dX7_solve_65 : decode cX7_solve 65 = .ok (.ifCond .ne 25, 3) := by decide +kernel
theorem dX7_solve_68 : decode cX7_solve 68 = .ok (.iload 6, 2) := by decide +kernel
theorem dX7_solve_70 : decode cX7_solve 70 = .ok (.ifCond .eq 24, 3) := by decide +kernel
theorem dX7_solve_73 : decode cX7_solve 73 = .ok (.iload 5, 2) := by decide +kernel
theorem dX7_solve_75 : decode cX7_solve 75 = .ok (.bipush 8, 2) := by decide +kernel
theorem dX7_solve_77 : decode cX7_solve 77 = .ok (.if_icmp .ge 17, 3) := by decide +kernel
theorem dX7_solve_80 : decode cX7_solve 80 = .ok (.aload_n 0, 1) := by decide +kernel
theorem dX7_solve_81 : decode cX7_solve 81 = .ok (.getfield 24, 3) := by decide +kernel
theorem dX7_solve_84 : decode cX7_solve 84 = .ok (.iload 5, 2) := by decide +kernel
theorem dX7_solve_86 : decode cX7_solve 86 = .ok (.iaload, 1) := by decide +kernel
theorem dX7_solve_87 : decode cX7_solve 87 = .ok (.ifCond .lt 7, 3) := by decide +kernel
theorem dX7_solve_90 : decode cX7_solve 90 = .ok (.iconst 1, 1) := by decide +kernel
theorem dX7_solve_91 : decode cX7_solve 91 = .ok (.goto 4, 3) := by decide +kernel
theorem dX7_solve_94 : decode cX7_solve 94 = .ok (.iconst 0, 1) := by decide +kernel
theorem dX7_solve_95 : decode cX7_solve 95 = .ok (.istore_n 2, 1) := by decide +kernel
theorem dX7_solve_96 : decode cX7_solve 96 = .ok (.iload_n 3, 1) := by decide +kernel
theorem dX7_solve_97 : decode cX7_solve 97 = .ok (.iload 6, 2) := by decide +kernel
theorem dX7_solve_99 : decode cX7_solve 99 = .ok (.ifCond .eq 14, 3) := by decide +kernel
theorem dX7_solve_102 : decode cX7_solve 102 = .ok (.iload 5, 2) := by decide +kernel
theorem dX7_solve_104 : decode cX7_solve 104 = .ok (.bipush 8, 2) := by decide +kernel
theorem dX7_solve_106 : decode cX7_solve 106 = .ok (.if_icmp .lt 7, 3) := by decide +kernel
theorem dX7_solve_109 : decode cX7_solve 109 = .ok (.iconst 1, 1) := by decide +kernel
theorem dX7_solve_110 : decode cX7_solve 110 = .ok (.goto 4, 3) := by decide +kernel
theorem dX7_solve_113 : decode cX7_solve 113 = .ok (.iconst 0, 1) := by decide +kernel
theorem dX7_solve_114 : decode cX7_solve 114 = .ok (.iadd, 1) := by decide +kernel
theorem dX7_solve_115 : decode cX7_solve 115 = .ok (.istore_n 3, 1) := by decide +kernel
theorem dX7_solve_116 : decode cX7_solve 116 = .ok (.iload 6, 2) := by decide +kernel
theorem dX7_solve_118 : decode cX7_solve 118 = .ok (.ifCond .eq 15, 3) := by decide +kernel
theorem dX7_solve_121 : decode cX7_solve 121 = .ok (.iload 5, 2) := by decide +kernel
theorem dX7_solve_123 : decode cX7_solve 123 = .ok (.bipush 8, 2) := by decide +kernel
theorem dX7_solve_125 : decode cX7_solve 125 = .ok (.if_icmp .lt 8, 3) := by decide +kernel
theorem dX7_solve_128 : decode cX7_solve 128 = .ok (.iload 5, 2) := by decide +kernel
theorem dX7_solve_130 : decode cX7_solve 130 = .ok (.goto 5, 3) := by decide +kernel
theorem dX7_solve_133 : decode cX7_solve 133 = .ok (.iload 4, 2) := by decide +kernel
theorem dX7_solve_135 : decode cX7_solve 135 = .ok (.istore 4, 2) := by decide +kernel
theorem dX7_solve_137 : decode cX7_solve 137 = .ok (.iinc 5 1, 3) := by decide +kernel
theorem dX7_solve_140 : decode cX7_solve 140 = .ok (.goto (-109), 3) := by decide +kernel
theorem dX7_solve_143 : decode cX7_solve 143 = .ok (.iconst 0, 1) := by decide +kernel
theorem dX7_solve_144 : decode cX7_solve 144 = .ok (.istore 5, 2) := by decide +kernel
theorem dX7_solve_146 : decode cX7_solve 146 = .ok (.iload 5, 2) := by decide +kernel
theorem dX7_solve_148 : decode cX7_solve 148 = .ok (.bipush 16, 2) := by decide +kernel
theorem dX7_solve_150 : decode cX7_solve 150 = .ok (.if_icmp .ge 69, 3) := by decide +kernel
theorem dX7_solve_153 : decode cX7_solve 153 = .ok (.aload_n 0, 1) := by decide +kernel
theorem dX7_solve_154 : decode cX7_solve 154 = .ok (.getfield 33, 3) := by decide +kernel
theorem dX7_solve_157 : decode cX7_solve 157 = .ok (.iload 5, 2) := by decide +kernel
theorem dX7_solve_159 : decode cX7_solve 159 = .ok (.iaload, 1) := by decide +kernel
theorem dX7_solve_160 : decode cX7_solve 160 = .ok (.iload_n 1, 1) := by decide +kernel
theorem dX7_solve_161 : decode cX7_solve 161 = .ok (.if_icmp .ne 7, 3) := by decide +kernel
theorem dX7_solve_164 : decode cX7_solve 164 = .ok (.iconst 1, 1) := by decide +kernel
theorem dX7_solve_165 : decode cX7_solve 165 = .ok (.goto 4, 3) := by decide +kernel
theorem dX7_solve_168 : decode cX7_solve 168 = .ok (.iconst 0, 1) := by decide +kernel
theorem dX7_solve_169 : decode cX7_solve 169 = .ok (.istore 6, 2) := by decide +kernel
theorem dX7_solve_171 : decode cX7_solve 171 = .ok (.iload 6, 2) := by decide +kernel
theorem dX7_solve_173 : decode cX7_solve 173 = .ok (.ifCond .eq 40, 3) := by decide +kernel
theorem dX7_solve_176 : decode cX7_solve 176 = .ok (.iload 5, 2) := by decide +kernel
theorem dX7_solve_178 : decode cX7_solve 178 = .ok (.bipush 8, 2) := by decide +kernel
theorem dX7_solve_180 : decode cX7_solve 180 = .ok (.if_icmp .ge 16, 3) := by decide +kernel
theorem dX7_solve_183 : decode cX7_solve 183 = .ok (.aload_n 0, 1) := by decide +kernel
theorem dX7_solve_184 : decode cX7_solve 184 = .ok (.getfield 24, 3) := by decide +kernel
theorem dX7_solve_187 : decode cX7_solve 187 = .ok (.iload 5, 2) := by decide +kernel
theorem dX7_solve_189 : decode cX7_solve 189 = .ok (.iaload, 1) := by decide +kernel
theorem dX7_solve_190 : decode cX7_solve 190 = .ok (.ifCond .ge 23, 3) := by decide +kernel
theorem dX7_solve_193 : decode cX7_solve 193 = .ok (.goto 14, 3) := by decide +kernel
theorem dX7_solve_196 : decode cX7_solve 196 = .ok (.iload_n 2, 1) := by decide +kernel
theorem dX7_solve_197 : decode cX7_solve 197 = .ok (.ifCond .ne 10, 3) := by decide +kernel
theorem dX7_solve_200 : decode cX7_solve 200 = .ok (.iload 5, 2) := by decide +kernel
theorem dX7_solve_202 : decode cX7_solve 202 = .ok (.iload 4, 2) := by decide +kernel
theorem dX7_solve_204 : decode cX7_solve 204 = .ok (.if_icmp .eq 9, 3) := by decide +kernel
theorem dX7_solve_207 : decode cX7_solve 207 = .ok (.aload_n 0, 1) := by decide +kernel
theorem dX7_solve_208 : decode cX7_solve 208 = .ok (.iload 5, 2) := by decide +kernel
theorem dX7_solve_210 : decode cX7_solve 210 = .ok (.invokevirtual 139, 3) := by decide +kernel
theorem dX7_solve_213 : decode cX7_solve 213 = .ok (.iinc 5 1, 3) := by decide +kernel
theorem dX7_solve_216 : decode cX7_solve 216 = .ok (.goto (-70), 3) := by decide +kernel
theorem dX7_solve_219 : decode cX7_solve 219 = .ok (.aload_n 0, 1) := by decide +kernel
theorem dX7_solve_220 : decode cX7_solve 220 = .ok (.iload_n 1, 1) := by decide +kernel
theorem dX7_solve_221 : decode cX7_solve 221 = .ok (.invokevirtual 143, 3) := by decide +kernel
theorem dX7_solve_224 : decode cX7_solve 224 = .ok (.aload_n 0, 1) := by decide +kernel
theorem dX7_solve_225 : decode cX7_solve 225 = .ok (.invokevirtual 146, 3) := by decide +kernel
theorem dX7_solve_228 : decode cX7_solve 228 = .ok (.lconst 0, 1) := by decide +kernel
theorem dX7_solve_229 : decode cX7_solve 229 = .ok (.lstore 5, 2) := by decide +kernel
theorem dX7_solve_231 : decode cX7_solve 231 = .ok (.iconst 0, 1) := by decide +kernel
theorem dX7_solve_232 : decode cX7_solve 232 = .ok (.istore 7, 2) := by decide +kernel
theorem dX7_solve_234 : decode cX7_solve 234 = .ok (.iload 7, 2) := by decide +kernel
theorem dX7_solve_236 : decode cX7_solve 236 = .ok (.bipush 16, 2) := by decide +kernel
theorem dX7_solve_238 : decode cX7_solve 238 = .ok (.if_icmp .ge 115, 3) := by decide +kernel
theorem dX7_solve_241 : decode cX7_solve 241 = .ok (.aload_n 0, 1) := by decide +kernel
theorem dX7_solve_242 : decode cX7_solve 242 = .ok (.getfield 43, 3) := by decide +kernel
theorem dX7_solve_245 : decode cX7_solve 245 = .ok (.iload 7, 2) := by decide +kernel
theorem dX7_solve_247 : decode cX7_solve 247 = .ok (.aload_n 0, 1) := by decide +kernel
theorem dX7_solve_248 : decode cX7_solve 248 = .ok (.getfield 36, 3) := by decide +kernel
theorem dX7_solve_251 : decode cX7_solve 251 = .ok (.iload 7, 2) := by decide +kernel
theorem dX7_solve_253 : decode cX7_solve 253 = .ok (.iaload, 1) := by decide +kernel
theorem dX7_solve_254 : decode cX7_solve 254 = .ok (.ifCond .lt 24, 3) := by decide +kernel
theorem dX7_solve_257 : decode cX7_solve 257 = .ok (.aload_n 0, 1) := by decide +kernel
theorem dX7_solve_258 : decode cX7_solve 258 = .ok (.getfield 39, 3) := by decide +kernel
theorem dX7_solve_261 : decode cX7_solve 261 = .ok (.bipush 11, 2) := by decide +kernel
theorem dX7_solve_263 : decode cX7_solve 263 = .ok (.aload_n 0, 1) := by decide +kernel
theorem dX7_solve_264 : decode cX7_solve 264 = .ok (.getfield 36, 3) := by decide +kernel
theorem dX7_solve_267 : decode cX7_solve 267 = .ok (.iload 7, 2) := by decide +kernel
theorem dX7_solve_269 : decode cX7_solve 269 = .ok (.iaload, 1) := by decide +kernel
theorem dX7_solve_270 : decode cX7_solve 270 = .ok (.imul, 1) := by decide +kernel
theorem dX7_solve_271 : decode cX7_solve 271 = .ok (.bipush 10, 2) := by decide +kernel
theorem dX7_solve_273 : decode cX7_solve 273 = .ok (.iadd, 1) := by decide +kernel
theorem dX7_solve_274 : decode cX7_solve 274 = .ok (.laload, 1) := by decide +kernel
theorem dX7_solve_275 : decode cX7_solve 275 = .ok (.goto 37, 3) := by decide +kernel
theorem dX7_solve_278 : decode cX7_solve 278 = .ok (.iload 7, 2) := by decide +kernel
theorem dX7_solve_280 : decode cX7_solve 280 = .ok (.bipush 8, 2) := by decide +kernel
theorem dX7_solve_282 : decode cX7_solve 282 = .ok (.if_icmp .ge 29, 3) := by decide +kernel
theorem dX7_solve_285 : decode cX7_solve 285 = .ok (.aload_n 0, 1) := by decide +kernel
theorem dX7_solve_286 : decode cX7_solve 286 = .ok (.getfield 24, 3) := by decide +kernel
theorem dX7_solve_289 : decode cX7_solve 289 = .ok (.iload 7, 2) := by decide +kernel
theorem dX7_solve_291 : decode cX7_solve 291 = .ok (.iaload, 1) := by decide +kernel
theorem dX7_solve_292 : decode cX7_solve 292 = .ok (.ifCond .lt 19, 3) := by decide +kernel
theorem dX7_solve_295 : decode cX7_solve 295 = .ok (.aload_n 0, 1) := by decide +kernel
theorem dX7_solve_296 : decode cX7_solve 296 = .ok (.getfield 24, 3) := by decide +kernel
theorem dX7_solve_299 : decode cX7_solve 299 = .ok (.iload 7, 2) := by decide +kernel
theorem dX7_solve_301 : decode cX7_solve 301 = .ok (.iaload, 1) := by decide +kernel
theorem dX7_solve_302 : decode cX7_solve 302 = .ok (.i2l, 1) := by decide +kernel
theorem dX7_solve_303 : decode cX7_solve 303 = .ok (.aload_n 0, 1) := by decide +kernel
theorem dX7_solve_304 : decode cX7_solve 304 = .ok (.getfield 135, 3) := by decide +kernel
theorem dX7_solve_307 : decode cX7_solve 307 = .ok (.lmul, 1) := by decide +kernel
theorem dX7_solve_308 : decode cX7_solve 308 = .ok (.goto 4, 3) := by decide +kernel
theorem dX7_solve_311 : decode cX7_solve 311 = .ok (.lconst 0, 1) := by decide +kernel
theorem dX7_solve_312 : decode cX7_solve 312 = .ok (.lastore, 1) := by decide +kernel
theorem dX7_solve_313 : decode cX7_solve 313 = .ok (.lload 5, 2) := by decide +kernel
theorem dX7_solve_315 : decode cX7_solve 315 = .ok (.iload 7, 2) := by decide +kernel
theorem dX7_solve_317 : decode cX7_solve 317 = .ok (.bipush 8, 2) := by decide +kernel
theorem dX7_solve_319 : decode cX7_solve 319 = .ok (.if_icmp .lt 24, 3) := by decide +kernel
theorem dX7_solve_322 : decode cX7_solve 322 = .ok (.aload_n 0, 1) := by decide +kernel
theorem dX7_solve_323 : decode cX7_solve 323 = .ok (.getfield 33, 3) := by decide +kernel
theorem dX7_solve_326 : decode cX7_solve 326 = .ok (.iload 7, 2) := by decide +kernel
theorem dX7_solve_328 : decode cX7_solve 328 = .ok (.iaload, 1) := by decide +kernel
theorem dX7_solve_329 : decode cX7_solve 329 = .ok (.iload_n 1, 1) := by decide +kernel
theorem dX7_solve_330 : decode cX7_solve 330 = .ok (.if_icmp .ne 13, 3) := by decide +kernel
theorem dX7_solve_333 : decode cX7_solve 333 = .ok (.aload_n 0, 1) := by decide +kernel
theorem dX7_solve_334 : decode cX7_solve 334 = .ok (.getfield 43, 3) := by decide +kernel
theorem dX7_solve_337 : decode cX7_solve 337 = .ok (.iload 7, 2) := by decide +kernel
theorem dX7_solve_339 : decode cX7_solve 339 = .ok (.laload, 1) := by decide +kernel
theorem dX7_solve_340 : decode cX7_solve 340 = .ok (.goto 4, 3) := by decide +kernel
theorem dX7_solve_343 : decode cX7_solve 343 = .ok (.lconst 0, 1) := by decide +kernel
theorem dX7_solve_344 : decode cX7_solve 344 = .ok (.ladd, 1) := by decide +kernel
theorem dX7_solve_345 : decode cX7_solve 345 = .ok (.lstore 5, 2) := by decide +kernel
theorem dX7_solve_347 : decode cX7_solve 347 = .ok (.iinc 7 1, 3) := by decide +kernel
theorem dX7_solve_350 : decode cX7_solve 350 = .ok (.goto (-116), 3) := by decide +kernel
theorem dX7_solve_353 : decode cX7_solve 353 = .ok (.iload_n 2, 1) := by decide +kernel
theorem dX7_solve_354 : decode cX7_solve 354 = .ok (.ifCond .ne 74, 3) := by decide +kernel
theorem dX7_solve_357 : decode cX7_solve 357 = .ok (.iconst 0, 1) := by decide +kernel
theorem dX7_solve_358 : decode cX7_solve 358 = .ok (.istore 7, 2) := by decide +kernel
theorem dX7_solve_360 : decode cX7_solve 360 = .ok (.iload 7, 2) := by decide +kernel
theorem dX7_solve_362 : decode cX7_solve 362 = .ok (.bipush 16, 2) := by decide +kernel
theorem dX7_solve_364 : decode cX7_solve 364 = .ok (.if_icmp .ge 53, 3) := by decide +kernel
theorem dX7_solve_367 : decode cX7_solve 367 = .ok (.aload_n 0, 1) := by decide +kernel
theorem dX7_solve_368 : decode cX7_solve 368 = .ok (.getfield 33, 3) := by decide +kernel
theorem dX7_solve_371 : decode cX7_solve 371 = .ok (.iload 7, 2) := by decide +kernel
theorem dX7_solve_373 : decode cX7_solve 373 = .ok (.iaload, 1) := by decide +kernel
theorem dX7_solve_374 : decode cX7_solve 374 = .ok (.iload_n 1, 1) := by decide +kernel
theorem dX7_solve_375 : decode cX7_solve 375 = .ok (.if_icmp .ne 36, 3) := by decide +kernel
theorem dX7_solve_378 : decode cX7_solve 378 = .ok (.aload_n 0, 1) := by decide +kernel
theorem dX7_solve_379 : decode cX7_solve 379 = .ok (.getfield 43, 3) := by decide +kernel
theorem dX7_solve_382 : decode cX7_solve 382 = .ok (.iload 7, 2) := by decide +kernel
theorem dX7_solve_384 : decode cX7_solve 384 = .ok (.aload_n 0, 1) := by decide +kernel
theorem dX7_solve_385 : decode cX7_solve 385 = .ok (.getfield 43, 3) := by decide +kernel
theorem dX7_solve_388 : decode cX7_solve 388 = .ok (.iload 7, 2) := by decide +kernel
theorem dX7_solve_390 : decode cX7_solve 390 = .ok (.laload, 1) := by decide +kernel
theorem dX7_solve_391 : decode cX7_solve 391 = .ok (.iload_n 3, 1) := by decide +kernel
theorem dX7_solve_392 : decode cX7_solve 392 = .ok (.i2l, 1) := by decide +kernel
theorem dX7_solve_393 : decode cX7_solve 393 = .ok (.lmul, 1) := by decide +kernel
theorem dX7_solve_394 : decode cX7_solve 394 = .ok (.iload 7, 2) := by decide +kernel
theorem dX7_solve_396 : decode cX7_solve 396 = .ok (.bipush 8, 2) := by decide +kernel
theorem dX7_solve_398 : decode cX7_solve 398 = .ok (.if_icmp .ge 8, 3) := by decide +kernel
theorem dX7_solve_401 : decode cX7_solve 401 = .ok (.lload 5, 2) := by decide +kernel
theorem dX7_solve_403 : decode cX7_solve 403 = .ok (.goto 6, 3) := by decide +kernel
theorem dX7_solve_406 : decode cX7_solve 406 = .ok (.lload 5, 2) := by decide +kernel
theorem dX7_solve_408 : decode cX7_solve 408 = .ok (.lneg, 1) := by decide +kernel
theorem dX7_solve_409 : decode cX7_solve 409 = .ok (.ladd, 1) := by decide +kernel
theorem dX7_solve_410 : decode cX7_solve 410 = .ok (.lastore, 1) := by decide +kernel
theorem dX7_solve_411 : decode cX7_solve 411 = .ok (.iinc 7 1, 3) := by decide +kernel
theorem dX7_solve_414 : decode cX7_solve 414 = .ok (.goto (-54), 3) := by decide +kernel
theorem dX7_solve_417 : decode cX7_solve 417 = .ok (.aload_n 0, 1) := by decide +kernel
theorem dX7_solve_418 : decode cX7_solve 418 = .ok (.dup, 1) := by decide +kernel
theorem dX7_solve_419 : decode cX7_solve 419 = .ok (.getfield 135, 3) := by decide +kernel
theorem dX7_solve_422 : decode cX7_solve 422 = .ok (.iload_n 3, 1) := by decide +kernel
theorem dX7_solve_423 : decode cX7_solve 423 = .ok (.i2l, 1) := by decide +kernel
theorem dX7_solve_424 : decode cX7_solve 424 = .ok (.lmul, 1) := by decide +kernel
theorem dX7_solve_425 : decode cX7_solve 425 = .ok (.putfield 135, 3) := by decide +kernel
theorem dX7_solve_428 : decode cX7_solve 428 = .ok (.iconst 1, 1) := by decide +kernel
theorem dX7_solve_429 : decode cX7_solve 429 = .ok (.ireturn, 1) := by decide +kernel
theorem dX7_common_0 : decode cX7_common 0 = .ok (.lload_n 0, 1) := by decide +kernel
theorem dX7_common_1 : decode cX7_common 1 = .ok (.lconst 0, 1) := by decide +kernel
theorem dX7_common_2 : decode cX7_common 2 = .ok (.lcmp, 1) := by decide +kernel
theorem dX7_common_3 : decode cX7_common 3 = .ok (.ifCond .ge 8, 3) := by decide +kernel
theorem dX7_common_6 : decode cX7_common 6 = .ok (.lload_n 0, 1) := by decide +kernel
theorem dX7_common_7 : decode cX7_common 7 = .ok (.lneg, 1) := by decide +kernel
theorem dX7_common_8 : decode cX7_common 8 = .ok (.goto 4, 3) := by decide +kernel
theorem dX7_common_11 : decode cX7_common 11 = .ok (.lload_n 0, 1) := by decide +kernel
theorem dX7_common_12 : decode cX7_common 12 = .ok (.lstore 4, 2) := by decide +kernel
theorem dX7_common_14 : decode cX7_common 14 = .ok (.lload_n 2, 1) := by decide +kernel
theorem dX7_common_15 : decode cX7_common 15 = .ok (.lstore 6, 2) := by decide +kernel
theorem dX7_common_17 : decode cX7_common 17 = .ok (.lload 6, 2) := by decide +kernel
theorem dX7_common_19 : decode cX7_common 19 = .ok (.lconst 0, 1) := by decide +kernel
theorem dX7_common_20 : decode cX7_common 20 = .ok (.lcmp, 1) := by decide +kernel
theorem dX7_common_21 : decode cX7_common 21 = .ok (.ifCond .eq 21, 3) := by decide +kernel
theorem dX7_common_24 : decode cX7_common 24 = .ok (.lload 4, 2) := by decide +kernel
theorem dX7_common_26 : decode cX7_common 26 = .ok (.lload 6, 2) := by decide +kernel
theorem dX7_common_28 : decode cX7_common 28 = .ok (.lrem, 1) := by decide +kernel
theorem dX7_common_29 : decode cX7_common 29 = .ok (.lstore 8, 2) := by decide +kernel
theorem dX7_common_31 : decode cX7_common 31 = .ok (.lload 6, 2) := by decide +kernel
theorem dX7_common_33 : decode cX7_common 33 = .ok (.lstore 4, 2) := by decide +kernel
theorem dX7_common_35 : decode cX7_common 35 = .ok (.lload 8, 2) := by decide +kernel
theorem dX7_common_37 : decode cX7_common 37 = .ok (.lstore 6, 2) := by decide +kernel
theorem dX7_common_39 : decode cX7_common 39 = .ok (.goto (-22), 3) := by decide +kernel
theorem dX7_common_42 : decode cX7_common 42 = .ok (.lload 4, 2) := by decide +kernel
theorem dX7_common_44 : decode cX7_common 44 = .ok (.lreturn, 1) := by decide +kernel
theorem dX7_told_0 : decode cX7_told 0 = .ok (.lload_n 1, 1) := by decide +kernel
theorem dX7_told_1 : decode cX7_told 1 = .ok (.aload_n 0, 1) := by decide +kernel
theorem dX7_told_2 : decode cX7_told 2 = .ok (.getfield 135, 3) := by decide +kernel
theorem dX7_told_5 : decode cX7_told 5 = .ok (.invokestatic 149, 3) := by decide +kernel
theorem dX7_told_8 : decode cX7_told 8 = .ok (.lstore 4, 2) := by decide +kernel
theorem dX7_told_10 : decode cX7_told 10 = .ok (.iload_n 3, 1) := by decide +kernel
theorem dX7_told_11 : decode cX7_told 11 = .ok (.ifCond .ne 10, 3) := by decide +kernel
theorem dX7_told_14 : decode cX7_told 14 = .ok (.lload_n 1, 1) := by decide +kernel
theorem dX7_told_15 : decode cX7_told 15 = .ok (.lload 4, 2) := by decide +kernel
theorem dX7_told_17 : decode cX7_told 17 = .ok (.ldiv, 1) := by decide +kernel
theorem dX7_told_18 : decode cX7_told 18 = .ok (.goto 10, 3) := by decide +kernel
theorem dX7_told_21 : decode cX7_told 21 = .ok (.aload_n 0, 1) := by decide +kernel
theorem dX7_told_22 : decode cX7_told 22 = .ok (.getfield 135, 3) := by decide +kernel
theorem dX7_told_25 : decode cX7_told 25 = .ok (.lload 4, 2) := by decide +kernel
theorem dX7_told_27 : decode cX7_told 27 = .ok (.ldiv, 1) := by decide +kernel
theorem dX7_told_28 : decode cX7_told 28 = .ok (.lreturn, 1) := by decide +kernel
theorem dX7_worth_0 : decode cX7_worth 0 = .ok (.aload_n 0, 1) := by decide +kernel
theorem dX7_worth_1 : decode cX7_worth 1 = .ok (.iload_n 1, 1) := by decide +kernel
theorem dX7_worth_2 : decode cX7_worth 2 = .ok (.invokevirtual 69, 3) := by decide +kernel
theorem dX7_worth_5 : decode cX7_worth 5 = .ok (.ifCond .ne 7, 3) := by decide +kernel
theorem dX7_worth_8 : decode cX7_worth 8 = .ok (.ldc2_w 153, 3) := by decide +kernel
theorem dX7_worth_11 : decode cX7_worth 11 = .ok (.lreturn, 1) := by decide +kernel
theorem dX7_worth_12 : decode cX7_worth 12 = .ok (.iload_n 2, 1) := by decide +kernel
theorem dX7_worth_13 : decode cX7_worth 13 = .ok (.i2l, 1) := by decide +kernel
theorem dX7_worth_14 : decode cX7_worth 14 = .ok (.lconst 0, 1) := by decide +kernel
theorem dX7_worth_15 : decode cX7_worth 15 = .ok (.lconst 1, 1) := by decide +kernel
theorem dX7_worth_16 : decode cX7_worth 16 = .ok (.invokestatic 61, 3) := by decide +kernel
theorem dX7_worth_19 : decode cX7_worth 19 = .ok (.ifCond .ne 7, 3) := by decide +kernel
theorem dX7_worth_22 : decode cX7_worth 22 = .ok (.ldc2_w 155, 3) := by decide +kernel
theorem dX7_worth_25 : decode cX7_worth 25 = .ok (.lreturn, 1) := by decide +kernel
theorem dX7_worth_26 : decode cX7_worth 26 = .ok (.aload_n 0, 1) := by decide +kernel
theorem dX7_worth_27 : decode cX7_worth 27 = .ok (.invokevirtual 116, 3) := by decide +kernel
theorem dX7_worth_30 : decode cX7_worth 30 = .ok (.aload_n 0, 1) := by decide +kernel
theorem dX7_worth_31 : decode cX7_worth 31 = .ok (.getfield 33, 3) := by decide +kernel
theorem dX7_worth_34 : decode cX7_worth 34 = .ok (.iload_n 1, 1) := by decide +kernel
theorem dX7_worth_35 : decode cX7_worth 35 = .ok (.iaload, 1) := by decide +kernel
theorem dX7_worth_36 : decode cX7_worth 36 = .ok (.istore_n 3, 1) := by decide +kernel
theorem dX7_worth_37 : decode cX7_worth 37 = .ok (.aload_n 0, 1) := by decide +kernel
theorem dX7_worth_38 : decode cX7_worth 38 = .ok (.iload_n 3, 1) := by decide +kernel
theorem dX7_worth_39 : decode cX7_worth 39 = .ok (.invokevirtual 113, 3) := by decide +kernel
theorem dX7_worth_42 : decode cX7_worth 42 = .ok (.iconst 1, 1) := by decide +kernel
theorem dX7_worth_43 : decode cX7_worth 43 = .ok (.if_icmp .ne 34, 3) := by decide +kernel
theorem dX7_worth_46 : decode cX7_worth 46 = .ok (.aload_n 0, 1) := by decide +kernel
theorem dX7_worth_47 : decode cX7_worth 47 = .ok (.getfield 24, 3) := by decide +kernel
theorem dX7_worth_50 : decode cX7_worth 50 = .ok (.iload_n 1, 1) := by decide +kernel
theorem dX7_worth_51 : decode cX7_worth 51 = .ok (.iaload, 1) := by decide +kernel
theorem dX7_worth_52 : decode cX7_worth 52 = .ok (.ifCond .ge 9, 3) := by decide +kernel
theorem dX7_worth_55 : decode cX7_worth 55 = .ok (.ldc2_w 157, 3) := by decide +kernel
theorem dX7_worth_58 : decode cX7_worth 58 = .ok (.goto 18, 3) := by decide +kernel
theorem dX7_worth_61 : decode cX7_worth 61 = .ok (.iload_n 2, 1) := by decide +kernel
theorem dX7_worth_62 : decode cX7_worth 62 = .ok (.ifCond .ne 13, 3) := by decide +kernel
theorem dX7_worth_65 : decode cX7_worth 65 = .ok (.aload_n 0, 1) := by decide +kernel
theorem dX7_worth_66 : decode cX7_worth 66 = .ok (.getfield 24, 3) := by decide +kernel
theorem dX7_worth_69 : decode cX7_worth 69 = .ok (.iload_n 1, 1) := by decide +kernel
theorem dX7_worth_70 : decode cX7_worth 70 = .ok (.iaload, 1) := by decide +kernel
theorem dX7_worth_71 : decode cX7_worth 71 = .ok (.i2l, 1) := by decide +kernel
theorem dX7_worth_72 : decode cX7_worth 72 = .ok (.goto 4, 3) := by decide +kernel
theorem dX7_worth_75 : decode cX7_worth 75 = .ok (.lconst 1, 1) := by decide +kernel
theorem dX7_worth_76 : decode cX7_worth 76 = .ok (.lreturn, 1) := by decide +kernel
theorem dX7_worth_77 : decode cX7_worth 77 = .ok (.aload_n 0, 1) := by decide +kernel
theorem dX7_worth_78 : decode cX7_worth 78 = .ok (.iload_n 3, 1) := by decide +kernel
theorem dX7_worth_79 : decode cX7_worth 79 = .ok (.invokevirtual 159, 3) := by decide +kernel
theorem dX7_worth_82 : decode cX7_worth 82 = .ok (.ifCond .eq 17, 3) := by decide +kernel
theorem dX7_worth_85 : decode cX7_worth 85 = .ok (.aload_n 0, 1) := by decide +kernel
theorem dX7_worth_86 : decode cX7_worth 86 = .ok (.aload_n 0, 1) := by decide +kernel
theorem dX7_worth_87 : decode cX7_worth 87 = .ok (.getfield 43, 3) := by decide +kernel
theorem dX7_worth_90 : decode cX7_worth 90 = .ok (.iload_n 1, 1) := by decide +kernel
theorem dX7_worth_91 : decode cX7_worth 91 = .ok (.laload, 1) := by decide +kernel
theorem dX7_worth_92 : decode cX7_worth 92 = .ok (.iload_n 2, 1) := by decide +kernel
theorem dX7_worth_93 : decode cX7_worth 93 = .ok (.invokevirtual 162, 3) := by decide +kernel
theorem dX7_worth_96 : decode cX7_worth 96 = .ok (.goto 6, 3) := by decide +kernel
theorem dX7_worth_99 : decode cX7_worth 99 = .ok (.ldc2_w 157, 3) := by decide +kernel
theorem dX7_worth_102 : decode cX7_worth 102 = .ok (.lreturn, 1) := by decide +kernel
theorem dX7_lean_0 : decode cX7_lean 0 = .ok (.aload_n 0, 1) := by decide +kernel
theorem dX7_lean_1 : decode cX7_lean 1 = .ok (.iload_n 1, 1) := by decide +kernel
theorem dX7_lean_2 : decode cX7_lean 2 = .ok (.invokevirtual 69, 3) := by decide +kernel
theorem dX7_lean_5 : decode cX7_lean 5 = .ok (.ifCond .ne 7, 3) := by decide +kernel
theorem dX7_lean_8 : decode cX7_lean 8 = .ok (.ldc2_w 153, 3) := by decide +kernel
theorem dX7_lean_11 : decode cX7_lean 11 = .ok (.lreturn, 1) := by decide +kernel
theorem dX7_lean_12 : decode cX7_lean 12 = .ok (.iload_n 2, 1) := by decide +kernel
theorem dX7_lean_13 : decode cX7_lean 13 = .ok (.i2l, 1) := by decide +kernel
theorem dX7_lean_14 : decode cX7_lean 14 = .ok (.lconst 0, 1) := by decide +kernel
theorem dX7_lean_15 : decode cX7_lean 15 = .ok (.lconst 1, 1) := by decide +kernel
theorem dX7_lean_16 : decode cX7_lean 16 = .ok (.invokestatic 61, 3) := by decide +kernel
theorem dX7_lean_19 : decode cX7_lean 19 = .ok (.ifCond .ne 7, 3) := by decide +kernel
theorem dX7_lean_22 : decode cX7_lean 22 = .ok (.ldc2_w 155, 3) := by decide +kernel
theorem dX7_lean_25 : decode cX7_lean 25 = .ok (.lreturn, 1) := by decide +kernel
theorem dX7_lean_26 : decode cX7_lean 26 = .ok (.aload_n 0, 1) := by decide +kernel
theorem dX7_lean_27 : decode cX7_lean 27 = .ok (.invokevirtual 116, 3) := by decide +kernel
theorem dX7_lean_30 : decode cX7_lean 30 = .ok (.aload_n 0, 1) := by decide +kernel
theorem dX7_lean_31 : decode cX7_lean 31 = .ok (.getfield 33, 3) := by decide +kernel
theorem dX7_lean_34 : decode cX7_lean 34 = .ok (.bipush 8, 2) := by decide +kernel
theorem dX7_lean_36 : decode cX7_lean 36 = .ok (.iload_n 1, 1) := by decide +kernel
theorem dX7_lean_37 : decode cX7_lean 37 = .ok (.iadd, 1) := by decide +kernel
theorem dX7_lean_38 : decode cX7_lean 38 = .ok (.iaload, 1) := by decide +kernel
theorem dX7_lean_39 : decode cX7_lean 39 = .ok (.istore_n 3, 1) := by decide +kernel
theorem dX7_lean_40 : decode cX7_lean 40 = .ok (.aload_n 0, 1) := by decide +kernel
theorem dX7_lean_41 : decode cX7_lean 41 = .ok (.iload_n 3, 1) := by decide +kernel
theorem dX7_lean_42 : decode cX7_lean 42 = .ok (.invokevirtual 113, 3) := by decide +kernel
theorem dX7_lean_45 : decode cX7_lean 45 = .ok (.iconst 1, 1) := by decide +kernel
theorem dX7_lean_46 : decode cX7_lean 46 = .ok (.if_icmp .le 28, 3) := by decide +kernel
theorem dX7_lean_49 : decode cX7_lean 49 = .ok (.aload_n 0, 1) := by decide +kernel
theorem dX7_lean_50 : decode cX7_lean 50 = .ok (.iload_n 3, 1) := by decide +kernel
theorem dX7_lean_51 : decode cX7_lean 51 = .ok (.invokevirtual 159, 3) := by decide +kernel
theorem dX7_lean_54 : decode cX7_lean 54 = .ok (.ifCond .eq 20, 3) := by decide +kernel
theorem dX7_lean_57 : decode cX7_lean 57 = .ok (.aload_n 0, 1) := by decide +kernel
theorem dX7_lean_58 : decode cX7_lean 58 = .ok (.aload_n 0, 1) := by decide +kernel
theorem dX7_lean_59 : decode cX7_lean 59 = .ok (.getfield 43, 3) := by decide +kernel
theorem dX7_lean_62 : decode cX7_lean 62 = .ok (.bipush 8, 2) := by decide +kernel
theorem dX7_lean_64 : decode cX7_lean 64 = .ok (.iload_n 1, 1) := by decide +kernel
theorem dX7_lean_65 : decode cX7_lean 65 = .ok (.iadd, 1) := by decide +kernel
theorem dX7_lean_66 : decode cX7_lean 66 = .ok (.laload, 1) := by decide +kernel
theorem dX7_lean_67 : decode cX7_lean 67 = .ok (.iload_n 2, 1) := by decide +kernel
theorem dX7_lean_68 : decode cX7_lean 68 = .ok (.invokevirtual 162, 3) := by decide +kernel
theorem dX7_lean_71 : decode cX7_lean 71 = .ok (.goto 6, 3) := by decide +kernel
theorem dX7_lean_74 : decode cX7_lean 74 = .ok (.ldc2_w 157, 3) := by decide +kernel
theorem dX7_lean_77 : decode cX7_lean 77 = .ok (.lreturn, 1) := by decide +kernel
theorem dX7_left_0 : decode cX7_left 0 = .ok (.aload_n 0, 1) := by decide +kernel
theorem dX7_left_1 : decode cX7_left 1 = .ok (.iload_n 1, 1) := by decide +kernel
theorem dX7_left_2 : decode cX7_left 2 = .ok (.invokevirtual 69, 3) := by decide +kernel
theorem dX7_left_5 : decode cX7_left 5 = .ok (.ifCond .eq 11, 3) := by decide +kernel
theorem dX7_left_8 : decode cX7_left 8 = .ok (.aload_n 0, 1) := by decide +kernel
theorem dX7_left_9 : decode cX7_left 9 = .ok (.iload_n 2, 1) := by decide +kernel
theorem dX7_left_10 : decode cX7_left 10 = .ok (.invokevirtual 69, 3) := by decide +kernel
theorem dX7_left_13 : decode cX7_left 13 = .ok (.ifCond .ne 7, 3) := by decide +kernel
theorem dX7_left_16 : decode cX7_left 16 = .ok (.ldc2_w 153, 3) := by decide +kernel
theorem dX7_left_19 : decode cX7_left 19 = .ok (.lreturn, 1) := by decide +kernel
theorem dX7_left_20 : decode cX7_left 20 = .ok (.iload_n 3, 1) := by decide +kernel
theorem dX7_left_21 : decode cX7_left 21 = .ok (.i2l, 1) := by decide +kernel
theorem dX7_left_22 : decode cX7_left 22 = .ok (.lconst 0, 1) := by decide +kernel
theorem dX7_left_23 : decode cX7_left 23 = .ok (.lconst 1, 1) := by decide +kernel
theorem dX7_left_24 : decode cX7_left 24 = .ok (.invokestatic 61, 3) := by decide +kernel
theorem dX7_left_27 : decode cX7_left 27 = .ok (.ifCond .ne 7, 3) := by decide +kernel
theorem dX7_left_30 : decode cX7_left 30 = .ok (.ldc2_w 155, 3) := by decide +kernel
theorem dX7_left_33 : decode cX7_left 33 = .ok (.lreturn, 1) := by decide +kernel
theorem dX7_left_34 : decode cX7_left 34 = .ok (.aload_n 0, 1) := by decide +kernel
theorem dX7_left_35 : decode cX7_left 35 = .ok (.getfield 21, 3) := by decide +kernel
theorem dX7_left_38 : decode cX7_left 38 = .ok (.bipush 8, 2) := by decide +kernel
theorem dX7_left_40 : decode cX7_left 40 = .ok (.iload_n 1, 1) := by decide +kernel
theorem dX7_left_41 : decode cX7_left 41 = .ok (.imul, 1) := by decide +kernel
theorem dX7_left_42 : decode cX7_left 42 = .ok (.iload_n 2, 1) := by decide +kernel
theorem dX7_left_43 : decode cX7_left 43 = .ok (.iadd, 1) := by decide +kernel
theorem dX7_left_44 : decode cX7_left 44 = .ok (.iaload, 1) := by decide +kernel
theorem dX7_left_45 : decode cX7_left 45 = .ok (.istore 4, 2) := by decide +kernel
theorem dX7_left_47 : decode cX7_left 47 = .ok (.aload_n 0, 1) := by decide +kernel
theorem dX7_left_48 : decode cX7_left 48 = .ok (.invokevirtual 116, 3) := by decide +kernel
theorem dX7_left_51 : decode cX7_left 51 = .ok (.iload 4, 2) := by decide +kernel
theorem dX7_left_53 : decode cX7_left 53 = .ok (.ifCond .lt 49, 3) := by decide +kernel
theorem dX7_left_56 : decode cX7_left 56 = .ok (.aload_n 0, 1) := by decide +kernel
theorem dX7_left_57 : decode cX7_left 57 = .ok (.aload_n 0, 1) := by decide +kernel
theorem dX7_left_58 : decode cX7_left 58 = .ok (.getfield 33, 3) := by decide +kernel
theorem dX7_left_61 : decode cX7_left 61 = .ok (.iload_n 2, 1) := by decide +kernel
theorem dX7_left_62 : decode cX7_left 62 = .ok (.iaload, 1) := by decide +kernel
theorem dX7_left_63 : decode cX7_left 63 = .ok (.invokevirtual 159, 3) := by decide +kernel
theorem dX7_left_66 : decode cX7_left 66 = .ok (.ifCond .eq 36, 3) := by decide +kernel
theorem dX7_left_69 : decode cX7_left 69 = .ok (.aload_n 0, 1) := by decide +kernel
theorem dX7_left_70 : decode cX7_left 70 = .ok (.iload 4, 2) := by decide +kernel
theorem dX7_left_72 : decode cX7_left 72 = .ok (.i2l, 1) := by decide +kernel
theorem dX7_left_73 : decode cX7_left 73 = .ok (.aload_n 0, 1) := by decide +kernel
theorem dX7_left_74 : decode cX7_left 74 = .ok (.getfield 135, 3) := by decide +kernel
theorem dX7_left_77 : decode cX7_left 77 = .ok (.lmul, 1) := by decide +kernel
theorem dX7_left_78 : decode cX7_left 78 = .ok (.aload_n 0, 1) := by decide +kernel
theorem dX7_left_79 : decode cX7_left 79 = .ok (.getfield 43, 3) := by decide +kernel
theorem dX7_left_82 : decode cX7_left 82 = .ok (.iload_n 2, 1) := by decide +kernel
theorem dX7_left_83 : decode cX7_left 83 = .ok (.laload, 1) := by decide +kernel
theorem dX7_left_84 : decode cX7_left 84 = .ok (.lsub, 1) := by decide +kernel
theorem dX7_left_85 : decode cX7_left 85 = .ok (.aload_n 0, 1) := by decide +kernel
theorem dX7_left_86 : decode cX7_left 86 = .ok (.getfield 43, 3) := by decide +kernel
theorem dX7_left_89 : decode cX7_left 89 = .ok (.bipush 8, 2) := by decide +kernel
theorem dX7_left_91 : decode cX7_left 91 = .ok (.iload_n 1, 1) := by decide +kernel
theorem dX7_left_92 : decode cX7_left 92 = .ok (.iadd, 1) := by decide +kernel
theorem dX7_left_93 : decode cX7_left 93 = .ok (.laload, 1) := by decide +kernel
theorem dX7_left_94 : decode cX7_left 94 = .ok (.lsub, 1) := by decide +kernel
theorem dX7_left_95 : decode cX7_left 95 = .ok (.iload_n 3, 1) := by decide +kernel
theorem dX7_left_96 : decode cX7_left 96 = .ok (.invokevirtual 162, 3) := by decide +kernel
theorem dX7_left_99 : decode cX7_left 99 = .ok (.goto 6, 3) := by decide +kernel
theorem dX7_left_102 : decode cX7_left 102 = .ok (.ldc2_w 157, 3) := by decide +kernel
theorem dX7_left_105 : decode cX7_left 105 = .ok (.lreturn, 1) := by decide +kernel
theorem dX7_turns_0 : decode cX7_turns 0 = .ok (.aload_n 0, 1) := by decide +kernel
theorem dX7_turns_1 : decode cX7_turns 1 = .ok (.getfield 21, 3) := by decide +kernel
theorem dX7_turns_4 : decode cX7_turns 4 = .ok (.bipush 8, 2) := by decide +kernel
theorem dX7_turns_6 : decode cX7_turns 6 = .ok (.iload_n 1, 1) := by decide +kernel
theorem dX7_turns_7 : decode cX7_turns 7 = .ok (.imul, 1) := by decide +kernel
theorem dX7_turns_8 : decode cX7_turns 8 = .ok (.iload_n 2, 1) := by decide +kernel
theorem dX7_turns_9 : decode cX7_turns 9 = .ok (.iadd, 1) := by decide +kernel
theorem dX7_turns_10 : decode cX7_turns 10 = .ok (.iaload, 1) := by decide +kernel
theorem dX7_turns_11 : decode cX7_turns 11 = .ok (.ifCond .lt 46, 3) := by decide +kernel
theorem dX7_turns_14 : decode cX7_turns 14 = .ok (.aload_n 0, 1) := by decide +kernel
theorem dX7_turns_15 : decode cX7_turns 15 = .ok (.getfield 21, 3) := by decide +kernel
theorem dX7_turns_18 : decode cX7_turns 18 = .ok (.bipush 8, 2) := by decide +kernel
theorem dX7_turns_20 : decode cX7_turns 20 = .ok (.iload_n 1, 1) := by decide +kernel
theorem dX7_turns_21 : decode cX7_turns 21 = .ok (.imul, 1) := by decide +kernel
theorem dX7_turns_22 : decode cX7_turns 22 = .ok (.iload_n 3, 1) := by decide +kernel
theorem dX7_turns_23 : decode cX7_turns 23 = .ok (.iadd, 1) := by decide +kernel
theorem dX7_turns_24 : decode cX7_turns 24 = .ok (.iaload, 1) := by decide +kernel
theorem dX7_turns_25 : decode cX7_turns 25 = .ok (.ifCond .lt 32, 3) := by decide +kernel
theorem dX7_turns_28 : decode cX7_turns 28 = .ok (.aload_n 0, 1) := by decide +kernel
theorem dX7_turns_29 : decode cX7_turns 29 = .ok (.getfield 21, 3) := by decide +kernel
theorem dX7_turns_32 : decode cX7_turns 32 = .ok (.bipush 8, 2) := by decide +kernel
theorem dX7_turns_34 : decode cX7_turns 34 = .ok (.iload_n 1, 1) := by decide +kernel
theorem dX7_turns_35 : decode cX7_turns 35 = .ok (.imul, 1) := by decide +kernel
theorem dX7_turns_36 : decode cX7_turns 36 = .ok (.iload_n 2, 1) := by decide +kernel
theorem dX7_turns_37 : decode cX7_turns 37 = .ok (.iadd, 1) := by decide +kernel
theorem dX7_turns_38 : decode cX7_turns 38 = .ok (.iaload, 1) := by decide +kernel
theorem dX7_turns_39 : decode cX7_turns 39 = .ok (.aload_n 0, 1) := by decide +kernel
theorem dX7_turns_40 : decode cX7_turns 40 = .ok (.getfield 21, 3) := by decide +kernel
theorem dX7_turns_43 : decode cX7_turns 43 = .ok (.bipush 8, 2) := by decide +kernel
theorem dX7_turns_45 : decode cX7_turns 45 = .ok (.iload_n 1, 1) := by decide +kernel
theorem dX7_turns_46 : decode cX7_turns 46 = .ok (.imul, 1) := by decide +kernel
theorem dX7_turns_47 : decode cX7_turns 47 = .ok (.iload_n 3, 1) := by decide +kernel
theorem dX7_turns_48 : decode cX7_turns 48 = .ok (.iadd, 1) := by decide +kernel
theorem dX7_turns_49 : decode cX7_turns 49 = .ok (.iaload, 1) := by decide +kernel
theorem dX7_turns_50 : decode cX7_turns 50 = .ok (.if_icmp .ge 7, 3) := by decide +kernel
theorem dX7_turns_53 : decode cX7_turns 53 = .ok (.iconst 1, 1) := by decide +kernel
theorem dX7_turns_54 : decode cX7_turns 54 = .ok (.goto 4, 3) := by decide +kernel
theorem dX7_turns_57 : decode cX7_turns 57 = .ok (.iconst 0, 1) := by decide +kernel
theorem dX7_turns_58 : decode cX7_turns 58 = .ok (.ireturn, 1) := by decide +kernel
theorem dX7_cost_0 : decode cX7_cost 0 = .ok (.iconst 0, 1) := by decide +kernel
theorem dX7_cost_1 : decode cX7_cost 1 = .ok (.istore_n 3, 1) := by decide +kernel
theorem dX7_cost_2 : decode cX7_cost 2 = .ok (.iconst 0, 1) := by decide +kernel
theorem dX7_cost_3 : decode cX7_cost 3 = .ok (.istore 4, 2) := by decide +kernel
theorem dX7_cost_5 : decode cX7_cost 5 = .ok (.iload 4, 2) := by decide +kernel
theorem dX7_cost_7 : decode cX7_cost 7 = .ok (.aload_n 0, 1) := by decide +kernel
theorem dX7_cost_8 : decode cX7_cost 8 = .ok (.getfield 7, 3) := by decide +kernel
theorem dX7_cost_11 : decode cX7_cost 11 = .ok (.if_icmp .ge 38, 3) := by decide +kernel
theorem dX7_cost_14 : decode cX7_cost 14 = .ok (.iload_n 3, 1) := by decide +kernel
theorem dX7_cost_15 : decode cX7_cost 15 = .ok (.iload_n 2, 1) := by decide +kernel
theorem dX7_cost_16 : decode cX7_cost 16 = .ok (.iload 4, 2) := by decide +kernel
theorem dX7_cost_18 : decode cX7_cost 18 = .ok (.ishr, 1) := by decide +kernel
theorem dX7_cost_19 : decode cX7_cost 19 = .ok (.iconst 1, 1) := by decide +kernel
theorem dX7_cost_20 : decode cX7_cost 20 = .ok (.iand, 1) := by decide +kernel
theorem dX7_cost_21 : decode cX7_cost 21 = .ok (.iconst 1, 1) := by decide +kernel
theorem dX7_cost_22 : decode cX7_cost 22 = .ok (.if_icmp .ne 18, 3) := by decide +kernel
theorem dX7_cost_25 : decode cX7_cost 25 = .ok (.aload_n 0, 1) := by decide +kernel
theorem dX7_cost_26 : decode cX7_cost 26 = .ok (.getfield 46, 3) := by decide +kernel
theorem dX7_cost_29 : decode cX7_cost 29 = .ok (.bipush 8, 2) := by decide +kernel
theorem dX7_cost_31 : decode cX7_cost 31 = .ok (.iload_n 1, 1) := by decide +kernel
theorem dX7_cost_32 : decode cX7_cost 32 = .ok (.imul, 1) := by decide +kernel
theorem dX7_cost_33 : decode cX7_cost 33 = .ok (.iload 4, 2) := by decide +kernel
theorem dX7_cost_35 : decode cX7_cost 35 = .ok (.iadd, 1) := by decide +kernel
theorem dX7_cost_36 : decode cX7_cost 36 = .ok (.iaload, 1) := by decide +kernel
theorem dX7_cost_37 : decode cX7_cost 37 = .ok (.goto 4, 3) := by decide +kernel
theorem dX7_cost_40 : decode cX7_cost 40 = .ok (.iconst 0, 1) := by decide +kernel
theorem dX7_cost_41 : decode cX7_cost 41 = .ok (.iadd, 1) := by decide +kernel
theorem dX7_cost_42 : decode cX7_cost 42 = .ok (.istore_n 3, 1) := by decide +kernel
theorem dX7_cost_43 : decode cX7_cost 43 = .ok (.iinc 4 1, 3) := by decide +kernel
theorem dX7_cost_46 : decode cX7_cost 46 = .ok (.goto (-41), 3) := by decide +kernel
theorem dX7_cost_49 : decode cX7_cost 49 = .ok (.iload_n 3, 1) := by decide +kernel
theorem dX7_cost_50 : decode cX7_cost 50 = .ok (.aload_n 0, 1) := by decide +kernel
theorem dX7_cost_51 : decode cX7_cost 51 = .ok (.getfield 49, 3) := by decide +kernel
theorem dX7_cost_54 : decode cX7_cost 54 = .ok (.iload_n 2, 1) := by decide +kernel
theorem dX7_cost_55 : decode cX7_cost 55 = .ok (.iaload, 1) := by decide +kernel
theorem dX7_cost_56 : decode cX7_cost 56 = .ok (.iadd, 1) := by decide +kernel
theorem dX7_cost_57 : decode cX7_cost 57 = .ok (.ireturn, 1) := by decide +kernel
theorem dX7_findOrder_0 : decode cX7_findOrder 0 = .ok (.iconst 0, 1) := by decide +kernel
theorem dX7_findOrder_1 : decode cX7_findOrder 1 = .ok (.istore_n 2, 1) := by decide +kernel
theorem dX7_findOrder_2 : decode cX7_findOrder 2 = .ok (.iload_n 2, 1) := by decide +kernel
theorem dX7_findOrder_3 : decode cX7_findOrder 3 = .ok (.bipush 64, 2) := by decide +kernel
theorem dX7_findOrder_5 : decode cX7_findOrder 5 = .ok (.if_icmp .ge 16, 3) := by decide +kernel
theorem dX7_findOrder_8 : decode cX7_findOrder 8 = .ok (.aload_n 0, 1) := by decide +kernel
theorem dX7_findOrder_9 : decode cX7_findOrder 9 = .ok (.getfield 46, 3) := by decide +kernel
theorem dX7_findOrder_12 : decode cX7_findOrder 12 = .ok (.iload_n 2, 1) := by decide +kernel
theorem dX7_findOrder_13 : decode cX7_findOrder 13 = .ok (.iconst 0, 1) := by decide +kernel
theorem dX7_findOrder_14 : decode cX7_findOrder 14 = .ok (.iastore, 1) := by decide +kernel
theorem dX7_findOrder_15 : decode cX7_findOrder 15 = .ok (.iinc 2 1, 3) := by decide +kernel
theorem dX7_findOrder_18 : decode cX7_findOrder 18 = .ok (.goto (-16), 3) := by decide +kernel
theorem dX7_findOrder_21 : decode cX7_findOrder 21 = .ok (.iconst 0, 1) := by decide +kernel
theorem dX7_findOrder_22 : decode cX7_findOrder 22 = .ok (.istore_n 2, 1) := by decide +kernel
theorem dX7_findOrder_23 : decode cX7_findOrder 23 = .ok (.iload_n 2, 1) := by decide +kernel
theorem dX7_findOrder_24 : decode cX7_findOrder 24 = .ok (.aload_n 0, 1) := by decide +kernel
theorem dX7_findOrder_25 : decode cX7_findOrder 25 = .ok (.getfield 7, 3) := by decide +kernel
theorem dX7_findOrder_28 : decode cX7_findOrder 28 = .ok (.if_icmp .ge 80, 3) := by decide +kernel
theorem dX7_findOrder_31 : decode cX7_findOrder 31 = .ok (.iconst 0, 1) := by decide +kernel
theorem dX7_findOrder_32 : decode cX7_findOrder 32 = .ok (.istore_n 3, 1) := by decide +kernel
theorem dX7_findOrder_33 : decode cX7_findOrder 33 = .ok (.iload_n 3, 1) := by decide +kernel
theorem dX7_findOrder_34 : decode cX7_findOrder 34 = .ok (.bipush 64, 2) := by decide +kernel
theorem dX7_findOrder_36 : decode cX7_findOrder 36 = .ok (.if_icmp .ge 66, 3) := by decide +kernel
theorem dX7_findOrder_39 : decode cX7_findOrder 39 = .ok (.iload_n 2, 1) := by decide +kernel
theorem dX7_findOrder_40 : decode cX7_findOrder 40 = .ok (.iload_n 1, 1) := by decide +kernel
theorem dX7_findOrder_41 : decode cX7_findOrder 41 = .ok (.if_icmp .eq 61, 3) := by decide +kernel
theorem dX7_findOrder_44 : decode cX7_findOrder 44 = .ok (.aload_n 0, 1) := by decide +kernel
theorem dX7_findOrder_45 : decode cX7_findOrder 45 = .ok (.getfield 46, 3) := by decide +kernel
theorem dX7_findOrder_48 : decode cX7_findOrder 48 = .ok (.iload_n 3, 1) := by decide +kernel
theorem dX7_findOrder_49 : decode cX7_findOrder 49 = .ok (.dup2, 1) := by decide +kernel
theorem dX7_findOrder_50 : decode cX7_findOrder 50 = .ok (.iaload, 1) := by decide +kernel
theorem dX7_findOrder_51 : decode cX7_findOrder 51 = .ok (.iload_n 3, 1) := by decide +kernel
theorem dX7_findOrder_52 : decode cX7_findOrder 52 = .ok (.bipush 8, 2) := by decide +kernel
theorem dX7_findOrder_54 : decode cX7_findOrder 54 = .ok (.idiv, 1) := by decide +kernel
theorem dX7_findOrder_55 : decode cX7_findOrder 55 = .ok (.aload_n 0, 1) := by decide +kernel
theorem dX7_findOrder_56 : decode cX7_findOrder 56 = .ok (.getfield 7, 3) := by decide +kernel
theorem dX7_findOrder_59 : decode cX7_findOrder 59 = .ok (.if_icmp .ge 34, 3) := by decide +kernel
theorem dX7_findOrder_62 : decode cX7_findOrder 62 = .ok (.iload_n 3, 1) := by decide +kernel
theorem dX7_findOrder_63 : decode cX7_findOrder 63 = .ok (.bipush 8, 2) := by decide +kernel
theorem dX7_findOrder_65 : decode cX7_findOrder 65 = .ok (.irem, 1) := by decide +kernel
theorem dX7_findOrder_66 : decode cX7_findOrder 66 = .ok (.aload_n 0, 1) := by decide +kernel
theorem dX7_findOrder_67 : decode cX7_findOrder 67 = .ok (.getfield 7, 3) := by decide +kernel
theorem dX7_findOrder_70 : decode cX7_findOrder 70 = .ok (.if_icmp .ge 23, 3) := by decide +kernel
theorem dX7_findOrder_73 : decode cX7_findOrder 73 = .ok (.aload_n 0, 1) := by decide +kernel
theorem dX7_findOrder_74 : decode cX7_findOrder 74 = .ok (.iload_n 2, 1) := by decide +kernel
theorem dX7_findOrder_75 : decode cX7_findOrder 75 = .ok (.iload_n 3, 1) := by decide +kernel
theorem dX7_findOrder_76 : decode cX7_findOrder 76 = .ok (.bipush 8, 2) := by decide +kernel
theorem dX7_findOrder_78 : decode cX7_findOrder 78 = .ok (.idiv, 1) := by decide +kernel
theorem dX7_findOrder_79 : decode cX7_findOrder 79 = .ok (.iload_n 3, 1) := by decide +kernel
theorem dX7_findOrder_80 : decode cX7_findOrder 80 = .ok (.bipush 8, 2) := by decide +kernel
theorem dX7_findOrder_82 : decode cX7_findOrder 82 = .ok (.irem, 1) := by decide +kernel
theorem dX7_findOrder_83 : decode cX7_findOrder 83 = .ok (.invokevirtual 166, 3) := by decide +kernel
theorem dX7_findOrder_86 : decode cX7_findOrder 86 = .ok (.ifCond .eq 7, 3) := by decide +kernel
theorem dX7_findOrder_89 : decode cX7_findOrder 89 = .ok (.iconst 1, 1) := by decide +kernel
theorem dX7_findOrder_90 : decode cX7_findOrder 90 = .ok (.goto 4, 3) := by decide +kernel
theorem dX7_findOrder_93 : decode cX7_findOrder 93 = .ok (.iconst 0, 1) := by decide +kernel
theorem dX7_findOrder_94 : decode cX7_findOrder 94 = .ok (.iadd, 1) := by decide +kernel
theorem dX7_findOrder_95 : decode cX7_findOrder 95 = .ok (.iastore, 1) := by decide +kernel
theorem dX7_findOrder_96 : decode cX7_findOrder 96 = .ok (.iinc 3 1, 3) := by decide +kernel
theorem dX7_findOrder_99 : decode cX7_findOrder 99 = .ok (.goto (-66), 3) := by decide +kernel
theorem dX7_findOrder_102 : decode cX7_findOrder 102 = .ok (.iinc 2 1, 3) := by decide +kernel
theorem dX7_findOrder_105 : decode cX7_findOrder 105 = .ok (.goto (-82), 3) := by decide +kernel
theorem dX7_findOrder_108 : decode cX7_findOrder 108 = .ok (.aload_n 0, 1) := by decide +kernel
theorem dX7_findOrder_109 : decode cX7_findOrder 109 = .ok (.getfield 49, 3) := by decide +kernel
theorem dX7_findOrder_112 : decode cX7_findOrder 112 = .ok (.iconst 0, 1) := by decide +kernel
theorem dX7_findOrder_113 : decode cX7_findOrder 113 = .ok (.iconst 0, 1) := by decide +kernel
theorem dX7_findOrder_114 : decode cX7_findOrder 114 = .ok (.iastore, 1) := by decide +kernel
theorem dX7_findOrder_115 : decode cX7_findOrder 115 = .ok (.iconst 1, 1) := by decide +kernel
theorem dX7_findOrder_116 : decode cX7_findOrder 116 = .ok (.istore_n 2, 1) := by decide +kernel
theorem dX7_findOrder_117 : decode cX7_findOrder 117 = .ok (.iload_n 2, 1) := by decide +kernel
theorem dX7_findOrder_118 : decode cX7_findOrder 118 = .ok (.iconst 1, 1) := by decide +kernel
theorem dX7_findOrder_119 : decode cX7_findOrder 119 = .ok (.aload_n 0, 1) := by decide +kernel
theorem dX7_findOrder_120 : decode cX7_findOrder 120 = .ok (.getfield 7, 3) := by decide +kernel
theorem dX7_findOrder_123 : decode cX7_findOrder 123 = .ok (.ishl, 1) := by decide +kernel
theorem dX7_findOrder_124 : decode cX7_findOrder 124 = .ok (.if_icmp .ge 101, 3) := by decide +kernel
theorem dX7_findOrder_127 : decode cX7_findOrder 127 = .ok (.aload_n 0, 1) := by decide +kernel
theorem dX7_findOrder_128 : decode cX7_findOrder 128 = .ok (.getfield 49, 3) := by decide +kernel
theorem dX7_findOrder_131 : decode cX7_findOrder 131 = .ok (.iload_n 2, 1) := by decide +kernel
theorem dX7_findOrder_132 : decode cX7_findOrder 132 = .ok (.ldc 170, 2) := by decide +kernel
theorem dX7_findOrder_134 : decode cX7_findOrder 134 = .ok (.iastore, 1) := by decide +kernel
theorem dX7_findOrder_135 : decode cX7_findOrder 135 = .ok (.iconst 0, 1) := by decide +kernel
theorem dX7_findOrder_136 : decode cX7_findOrder 136 = .ok (.istore_n 3, 1) := by decide +kernel
theorem dX7_findOrder_137 : decode cX7_findOrder 137 = .ok (.iload_n 3, 1) := by decide +kernel
theorem dX7_findOrder_138 : decode cX7_findOrder 138 = .ok (.aload_n 0, 1) := by decide +kernel
theorem dX7_findOrder_139 : decode cX7_findOrder 139 = .ok (.getfield 7, 3) := by decide +kernel
theorem dX7_findOrder_142 : decode cX7_findOrder 142 = .ok (.if_icmp .ge 77, 3) := by decide +kernel
theorem dX7_findOrder_145 : decode cX7_findOrder 145 = .ok (.iload_n 2, 1) := by decide +kernel
theorem dX7_findOrder_146 : decode cX7_findOrder 146 = .ok (.iconst 1, 1) := by decide +kernel
theorem dX7_findOrder_147 : decode cX7_findOrder 147 = .ok (.iload_n 3, 1) := by decide +kernel
theorem dX7_findOrder_148 : decode cX7_findOrder 148 = .ok (.ishl, 1) := by decide +kernel
theorem dX7_findOrder_149 : decode cX7_findOrder 149 = .ok (.iconst (-1), 1) := by decide +kernel
theorem dX7_findOrder_150 : decode cX7_findOrder 150 = .ok (.ixor, 1) := by decide +kernel
theorem dX7_findOrder_151 : decode cX7_findOrder 151 = .ok (.iand, 1) := by decide +kernel
theorem dX7_findOrder_152 : decode cX7_findOrder 152 = .ok (.istore 4, 2) := by decide +kernel
theorem dX7_findOrder_154 : decode cX7_findOrder 154 = .ok (.iload_n 2, 1) := by decide +kernel
theorem dX7_findOrder_155 : decode cX7_findOrder 155 = .ok (.iload_n 3, 1) := by decide +kernel
theorem dX7_findOrder_156 : decode cX7_findOrder 156 = .ok (.ishr, 1) := by decide +kernel
theorem dX7_findOrder_157 : decode cX7_findOrder 157 = .ok (.iconst 1, 1) := by decide +kernel
theorem dX7_findOrder_158 : decode cX7_findOrder 158 = .ok (.iand, 1) := by decide +kernel
theorem dX7_findOrder_159 : decode cX7_findOrder 159 = .ok (.iconst 1, 1) := by decide +kernel
theorem dX7_findOrder_160 : decode cX7_findOrder 160 = .ok (.if_icmp .ne 23, 3) := by decide +kernel
theorem dX7_findOrder_163 : decode cX7_findOrder 163 = .ok (.aload_n 0, 1) := by decide +kernel
theorem dX7_findOrder_164 : decode cX7_findOrder 164 = .ok (.iload_n 3, 1) := by decide +kernel
theorem dX7_findOrder_165 : decode cX7_findOrder 165 = .ok (.iload 4, 2) := by decide +kernel
theorem dX7_findOrder_167 : decode cX7_findOrder 167 = .ok (.invokevirtual 171, 3) := by decide +kernel
theorem dX7_findOrder_170 : decode cX7_findOrder 170 = .ok (.aload_n 0, 1) := by decide +kernel
theorem dX7_findOrder_171 : decode cX7_findOrder 171 = .ok (.getfield 49, 3) := by decide +kernel
theorem dX7_findOrder_174 : decode cX7_findOrder 174 = .ok (.iload_n 2, 1) := by decide +kernel
theorem dX7_findOrder_175 : decode cX7_findOrder 175 = .ok (.iaload, 1) := by decide +kernel
theorem dX7_findOrder_176 : decode cX7_findOrder 176 = .ok (.if_icmp .ge 7, 3) := by decide +kernel
theorem dX7_findOrder_179 : decode cX7_findOrder 179 = .ok (.iconst 1, 1) := by decide +kernel
theorem dX7_findOrder_180 : decode cX7_findOrder 180 = .ok (.goto 4, 3) := by decide +kernel
theorem dX7_findOrder_183 : decode cX7_findOrder 183 = .ok (.iconst 0, 1) := by decide +kernel
theorem dX7_findOrder_184 : decode cX7_findOrder 184 = .ok (.istore 5, 2) := by decide +kernel
theorem dX7_findOrder_186 : decode cX7_findOrder 186 = .ok (.aload_n 0, 1) := by decide +kernel
theorem dX7_findOrder_187 : decode cX7_findOrder 187 = .ok (.getfield 49, 3) := by decide +kernel
theorem dX7_findOrder_190 : decode cX7_findOrder 190 = .ok (.iload_n 2, 1) := by decide +kernel
theorem dX7_findOrder_191 : decode cX7_findOrder 191 = .ok (.iload 5, 2) := by decide +kernel
theorem dX7_findOrder_193 : decode cX7_findOrder 193 = .ok (.ifCond .eq 13, 3) := by decide +kernel
theorem dX7_findOrder_196 : decode cX7_findOrder 196 = .ok (.aload_n 0, 1) := by decide +kernel
theorem dX7_findOrder_197 : decode cX7_findOrder 197 = .ok (.iload_n 3, 1) := by decide +kernel
theorem dX7_findOrder_198 : decode cX7_findOrder 198 = .ok (.iload 4, 2) := by decide +kernel
theorem dX7_findOrder_200 : decode cX7_findOrder 200 = .ok (.invokevirtual 171, 3) := by decide +kernel
theorem dX7_findOrder_203 : decode cX7_findOrder 203 = .ok (.goto 9, 3) := by decide +kernel
theorem dX7_findOrder_206 : decode cX7_findOrder 206 = .ok (.aload_n 0, 1) := by decide +kernel
theorem dX7_findOrder_207 : decode cX7_findOrder 207 = .ok (.getfield 49, 3) := by decide +kernel
theorem dX7_findOrder_210 : decode cX7_findOrder 210 = .ok (.iload_n 2, 1) := by decide +kernel
theorem dX7_findOrder_211 : decode cX7_findOrder 211 = .ok (.iaload, 1) := by decide +kernel
theorem dX7_findOrder_212 : decode cX7_findOrder 212 = .ok (.iastore, 1) := by decide +kernel
theorem dX7_findOrder_213 : decode cX7_findOrder 213 = .ok (.iinc 3 1, 3) := by decide +kernel
theorem dX7_findOrder_216 : decode cX7_findOrder 216 = .ok (.goto (-79), 3) := by decide +kernel
theorem dX7_findOrder_219 : decode cX7_findOrder 219 = .ok (.iinc 2 1, 3) := by decide +kernel
theorem dX7_findOrder_222 : decode cX7_findOrder 222 = .ok (.goto (-105), 3) := by decide +kernel
theorem dX7_findOrder_225 : decode cX7_findOrder 225 = .ok (.iconst 1, 1) := by decide +kernel
theorem dX7_findOrder_226 : decode cX7_findOrder 226 = .ok (.aload_n 0, 1) := by decide +kernel
theorem dX7_findOrder_227 : decode cX7_findOrder 227 = .ok (.getfield 7, 3) := by decide +kernel
theorem dX7_findOrder_230 : decode cX7_findOrder 230 = .ok (.ishl, 1) := by decide +kernel
theorem dX7_findOrder_231 : decode cX7_findOrder 231 = .ok (.iconst 1, 1) := by decide +kernel
theorem dX7_findOrder_232 : decode cX7_findOrder 232 = .ok (.isub, 1) := by decide +kernel
theorem dX7_findOrder_233 : decode cX7_findOrder 233 = .ok (.istore_n 2, 1) := by decide +kernel
theorem dX7_findOrder_234 : decode cX7_findOrder 234 = .ok (.iconst 0, 1) := by decide +kernel
theorem dX7_findOrder_235 : decode cX7_findOrder 235 = .ok (.istore_n 3, 1) := by decide +kernel
theorem dX7_findOrder_236 : decode cX7_findOrder 236 = .ok (.iload_n 3, 1) := by decide +kernel
theorem dX7_findOrder_237 : decode cX7_findOrder 237 = .ok (.aload_n 0, 1) := by decide +kernel
theorem dX7_findOrder_238 : decode cX7_findOrder 238 = .ok (.getfield 7, 3) := by decide +kernel
theorem dX7_findOrder_241 : decode cX7_findOrder 241 = .ok (.if_icmp .ge 67, 3) := by decide +kernel
theorem dX7_findOrder_244 : decode cX7_findOrder 244 = .ok (.iconst 0, 1) := by decide +kernel
theorem dX7_findOrder_245 : decode cX7_findOrder 245 = .ok (.istore 4, 2) := by decide +kernel
theorem dX7_findOrder_247 : decode cX7_findOrder 247 = .ok (.iload_n 2, 1) := by decide +kernel
theorem dX7_findOrder_248 : decode cX7_findOrder 248 = .ok (.iload 4, 2) := by decide +kernel
theorem dX7_findOrder_250 : decode cX7_findOrder 250 = .ok (.ishr, 1) := by decide +kernel
theorem dX7_findOrder_251 : decode cX7_findOrder 251 = .ok (.iconst 1, 1) := by decide +kernel
theorem dX7_findOrder_252 : decode cX7_findOrder 252 = .ok (.iand, 1) := by decide +kernel
theorem dX7_findOrder_253 : decode cX7_findOrder 253 = .ok (.ifCond .eq 26, 3) := by decide +kernel
theorem dX7_findOrder_256 : decode cX7_findOrder 256 = .ok (.aload_n 0, 1) := by decide +kernel
theorem dX7_findOrder_257 : decode cX7_findOrder 257 = .ok (.iload 4, 2) := by decide +kernel
theorem dX7_findOrder_259 : decode cX7_findOrder 259 = .ok (.iload_n 2, 1) := by decide +kernel
theorem dX7_findOrder_260 : decode cX7_findOrder 260 = .ok (.iconst 1, 1) := by decide +kernel
theorem dX7_findOrder_261 : decode cX7_findOrder 261 = .ok (.iload 4, 2) := by decide +kernel
theorem dX7_findOrder_263 : decode cX7_findOrder 263 = .ok (.ishl, 1) := by decide +kernel
theorem dX7_findOrder_264 : decode cX7_findOrder 264 = .ok (.iconst (-1), 1) := by decide +kernel
theorem dX7_findOrder_265 : decode cX7_findOrder 265 = .ok (.ixor, 1) := by decide +kernel
theorem dX7_findOrder_266 : decode cX7_findOrder 266 = .ok (.iand, 1) := by decide +kernel
theorem dX7_findOrder_267 : decode cX7_findOrder 267 = .ok (.invokevirtual 171, 3) := by decide +kernel
theorem dX7_findOrder_270 : decode cX7_findOrder 270 = .ok (.aload_n 0, 1) := by decide +kernel
theorem dX7_findOrder_271 : decode cX7_findOrder 271 = .ok (.getfield 49, 3) := by decide +kernel
theorem dX7_findOrder_274 : decode cX7_findOrder 274 = .ok (.iload_n 2, 1) := by decide +kernel
theorem dX7_findOrder_275 : decode cX7_findOrder 275 = .ok (.iaload, 1) := by decide +kernel
theorem dX7_findOrder_276 : decode cX7_findOrder 276 = .ok (.if_icmp .eq 9, 3) := by decide +kernel
theorem dX7_findOrder_279 : decode cX7_findOrder 279 = .ok (.iinc 4 1, 3) := by decide +kernel
theorem dX7_findOrder_282 : decode cX7_findOrder 282 = .ok (.goto (-35), 3) := by decide +kernel
theorem dX7_findOrder_285 : decode cX7_findOrder 285 = .ok (.aload_n 0, 1) := by decide +kernel
theorem dX7_findOrder_286 : decode cX7_findOrder 286 = .ok (.getfield 52, 3) := by decide +kernel
theorem dX7_findOrder_289 : decode cX7_findOrder 289 = .ok (.iload 4, 2) := by decide +kernel
theorem dX7_findOrder_291 : decode cX7_findOrder 291 = .ok (.iload_n 3, 1) := by decide +kernel
theorem dX7_findOrder_292 : decode cX7_findOrder 292 = .ok (.iastore, 1) := by decide +kernel
theorem dX7_findOrder_293 : decode cX7_findOrder 293 = .ok (.iload_n 2, 1) := by decide +kernel
theorem dX7_findOrder_294 : decode cX7_findOrder 294 = .ok (.iconst 1, 1) := by decide +kernel
theorem dX7_findOrder_295 : decode cX7_findOrder 295 = .ok (.iload 4, 2) := by decide +kernel
theorem dX7_findOrder_297 : decode cX7_findOrder 297 = .ok (.ishl, 1) := by decide +kernel
theorem dX7_findOrder_298 : decode cX7_findOrder 298 = .ok (.iconst (-1), 1) := by decide +kernel
theorem dX7_findOrder_299 : decode cX7_findOrder 299 = .ok (.ixor, 1) := by decide +kernel
theorem dX7_findOrder_300 : decode cX7_findOrder 300 = .ok (.iand, 1) := by decide +kernel
theorem dX7_findOrder_301 : decode cX7_findOrder 301 = .ok (.istore_n 2, 1) := by decide +kernel
theorem dX7_findOrder_302 : decode cX7_findOrder 302 = .ok (.iinc 3 1, 3) := by decide +kernel
theorem dX7_findOrder_305 : decode cX7_findOrder 305 = .ok (.goto (-69), 3) := by decide +kernel
theorem dX7_findOrder_308 : decode cX7_findOrder 308 = .ok (.return_, 1) := by decide +kernel
theorem dX7_order_0 : decode cX7_order 0 = .ok (.aload_n 0, 1) := by decide +kernel
theorem dX7_order_1 : decode cX7_order 1 = .ok (.iload_n 1, 1) := by decide +kernel
theorem dX7_order_2 : decode cX7_order 2 = .ok (.invokevirtual 69, 3) := by decide +kernel
theorem dX7_order_5 : decode cX7_order 5 = .ok (.ifCond .ne 7, 3) := by decide +kernel
theorem dX7_order_8 : decode cX7_order 8 = .ok (.sipush (-1002), 3) := by decide +kernel
theorem dX7_order_11 : decode cX7_order 11 = .ok (.ireturn, 1) := by decide +kernel
theorem dX7_order_12 : decode cX7_order 12 = .ok (.aload_n 0, 1) := by decide +kernel
theorem dX7_order_13 : decode cX7_order 13 = .ok (.iconst (-1), 1) := by decide +kernel
theorem dX7_order_14 : decode cX7_order 14 = .ok (.invokevirtual 175, 3) := by decide +kernel
theorem dX7_order_17 : decode cX7_order 17 = .ok (.iconst (-1), 1) := by decide +kernel
theorem dX7_order_18 : decode cX7_order 18 = .ok (.istore_n 2, 1) := by decide +kernel
theorem dX7_order_19 : decode cX7_order 19 = .ok (.iconst 0, 1) := by decide +kernel
theorem dX7_order_20 : decode cX7_order 20 = .ok (.istore_n 3, 1) := by decide +kernel
theorem dX7_order_21 : decode cX7_order 21 = .ok (.iload_n 3, 1) := by decide +kernel
theorem dX7_order_22 : decode cX7_order 22 = .ok (.aload_n 0, 1) := by decide +kernel
theorem dX7_order_23 : decode cX7_order 23 = .ok (.getfield 7, 3) := by decide +kernel
theorem dX7_order_26 : decode cX7_order 26 = .ok (.if_icmp .ge 25, 3) := by decide +kernel
theorem dX7_order_29 : decode cX7_order 29 = .ok (.aload_n 0, 1) := by decide +kernel
theorem dX7_order_30 : decode cX7_order 30 = .ok (.getfield 52, 3) := by decide +kernel
theorem dX7_order_33 : decode cX7_order 33 = .ok (.iload_n 3, 1) := by decide +kernel
theorem dX7_order_34 : decode cX7_order 34 = .ok (.iaload, 1) := by decide +kernel
theorem dX7_order_35 : decode cX7_order 35 = .ok (.iload_n 1, 1) := by decide +kernel
theorem dX7_order_36 : decode cX7_order 36 = .ok (.if_icmp .ne 7, 3) := by decide +kernel
theorem dX7_order_39 : decode cX7_order 39 = .ok (.iload_n 3, 1) := by decide +kernel
theorem dX7_order_40 : decode cX7_order 40 = .ok (.goto 4, 3) := by decide +kernel
theorem dX7_order_43 : decode cX7_order 43 = .ok (.iload_n 2, 1) := by decide +kernel
theorem dX7_order_44 : decode cX7_order 44 = .ok (.istore_n 2, 1) := by decide +kernel
theorem dX7_order_45 : decode cX7_order 45 = .ok (.iinc 3 1, 3) := by decide +kernel
theorem dX7_order_48 : decode cX7_order 48 = .ok (.goto (-27), 3) := by decide +kernel
theorem dX7_order_51 : decode cX7_order 51 = .ok (.iload_n 2, 1) := by decide +kernel
theorem dX7_order_52 : decode cX7_order 52 = .ok (.ireturn, 1) := by decide +kernel
theorem dX7_quarrel_0 : decode cX7_quarrel 0 = .ok (.aload_n 0, 1) := by decide +kernel
theorem dX7_quarrel_1 : decode cX7_quarrel 1 = .ok (.iconst (-1), 1) := by decide +kernel
theorem dX7_quarrel_2 : decode cX7_quarrel 2 = .ok (.invokevirtual 175, 3) := by decide +kernel
theorem dX7_quarrel_5 : decode cX7_quarrel 5 = .ok (.aload_n 0, 1) := by decide +kernel
theorem dX7_quarrel_6 : decode cX7_quarrel 6 = .ok (.getfield 49, 3) := by decide +kernel
theorem dX7_quarrel_9 : decode cX7_quarrel 9 = .ok (.iconst 1, 1) := by decide +kernel
theorem dX7_quarrel_10 : decode cX7_quarrel 10 = .ok (.aload_n 0, 1) := by decide +kernel
theorem dX7_quarrel_11 : decode cX7_quarrel 11 = .ok (.getfield 7, 3) := by decide +kernel
theorem dX7_quarrel_14 : decode cX7_quarrel 14 = .ok (.ishl, 1) := by decide +kernel
theorem dX7_quarrel_15 : decode cX7_quarrel 15 = .ok (.iconst 1, 1) := by decide +kernel
theorem dX7_quarrel_16 : decode cX7_quarrel 16 = .ok (.isub, 1) := by decide +kernel
theorem dX7_quarrel_17 : decode cX7_quarrel 17 = .ok (.iaload, 1) := by decide +kernel
theorem dX7_quarrel_18 : decode cX7_quarrel 18 = .ok (.ireturn, 1) := by decide +kernel
theorem dX7_turned_0 : decode cX7_turned 0 = .ok (.aload_n 0, 1) := by decide +kernel
theorem dX7_turned_1 : decode cX7_turned 1 = .ok (.iload_n 1, 1) := by decide +kernel
theorem dX7_turned_2 : decode cX7_turned 2 = .ok (.invokevirtual 69, 3) := by decide +kernel
theorem dX7_turned_5 : decode cX7_turned 5 = .ok (.ifCond .ne 7, 3) := by decide +kernel
theorem dX7_turned_8 : decode cX7_turned 8 = .ok (.sipush (-1001), 3) := by decide +kernel
theorem dX7_turned_11 : decode cX7_turned 11 = .ok (.ireturn, 1) := by decide +kernel
theorem dX7_turned_12 : decode cX7_turned 12 = .ok (.aload_n 0, 1) := by decide +kernel
theorem dX7_turned_13 : decode cX7_turned 13 = .ok (.iconst (-1), 1) := by decide +kernel
theorem dX7_turned_14 : decode cX7_turned 14 = .ok (.invokevirtual 175, 3) := by decide +kernel
theorem dX7_turned_17 : decode cX7_turned 17 = .ok (.iconst 0, 1) := by decide +kernel
theorem dX7_turned_18 : decode cX7_turned 18 = .ok (.istore_n 2, 1) := by decide +kernel
theorem dX7_turned_19 : decode cX7_turned 19 = .ok (.iconst 0, 1) := by decide +kernel
theorem dX7_turned_20 : decode cX7_turned 20 = .ok (.istore_n 3, 1) := by decide +kernel
theorem dX7_turned_21 : decode cX7_turned 21 = .ok (.iload_n 3, 1) := by decide +kernel
theorem dX7_turned_22 : decode cX7_turned 22 = .ok (.aload_n 0, 1) := by decide +kernel
theorem dX7_turned_23 : decode cX7_turned 23 = .ok (.getfield 7, 3) := by decide +kernel
theorem dX7_turned_26 : decode cX7_turned 26 = .ok (.if_icmp .ge 62, 3) := by decide +kernel
theorem dX7_turned_29 : decode cX7_turned 29 = .ok (.iconst 0, 1) := by decide +kernel
theorem dX7_turned_30 : decode cX7_turned 30 = .ok (.istore 4, 2) := by decide +kernel
theorem dX7_turned_32 : decode cX7_turned 32 = .ok (.iload 4, 2) := by decide +kernel
theorem dX7_turned_34 : decode cX7_turned 34 = .ok (.aload_n 0, 1) := by decide +kernel
theorem dX7_turned_35 : decode cX7_turned 35 = .ok (.getfield 7, 3) := by decide +kernel
theorem dX7_turned_38 : decode cX7_turned 38 = .ok (.if_icmp .ge 44, 3) := by decide +kernel
theorem dX7_turned_41 : decode cX7_turned 41 = .ok (.iload_n 2, 1) := by decide +kernel
theorem dX7_turned_42 : decode cX7_turned 42 = .ok (.aload_n 0, 1) := by decide +kernel
theorem dX7_turned_43 : decode cX7_turned 43 = .ok (.getfield 52, 3) := by decide +kernel
theorem dX7_turned_46 : decode cX7_turned 46 = .ok (.iload_n 3, 1) := by decide +kernel
theorem dX7_turned_47 : decode cX7_turned 47 = .ok (.iaload, 1) := by decide +kernel
theorem dX7_turned_48 : decode cX7_turned 48 = .ok (.aload_n 0, 1) := by decide +kernel
theorem dX7_turned_49 : decode cX7_turned 49 = .ok (.getfield 52, 3) := by decide +kernel
theorem dX7_turned_52 : decode cX7_turned 52 = .ok (.iload 4, 2) := by decide +kernel
theorem dX7_turned_54 : decode cX7_turned 54 = .ok (.iaload, 1) := by decide +kernel
theorem dX7_turned_55 : decode cX7_turned 55 = .ok (.if_icmp .ge 18, 3) := by decide +kernel
theorem dX7_turned_58 : decode cX7_turned 58 = .ok (.aload_n 0, 1) := by decide +kernel
theorem dX7_turned_59 : decode cX7_turned 59 = .ok (.iload_n 1, 1) := by decide +kernel
theorem dX7_turned_60 : decode cX7_turned 60 = .ok (.iload_n 3, 1) := by decide +kernel
theorem dX7_turned_61 : decode cX7_turned 61 = .ok (.iload 4, 2) := by decide +kernel
theorem dX7_turned_63 : decode cX7_turned 63 = .ok (.invokevirtual 166, 3) := by decide +kernel
theorem dX7_turned_66 : decode cX7_turned 66 = .ok (.ifCond .eq 7, 3) := by decide +kernel
theorem dX7_turned_69 : decode cX7_turned 69 = .ok (.iconst 1, 1) := by decide +kernel
theorem dX7_turned_70 : decode cX7_turned 70 = .ok (.goto 4, 3) := by decide +kernel
theorem dX7_turned_73 : decode cX7_turned 73 = .ok (.iconst 0, 1) := by decide +kernel
theorem dX7_turned_74 : decode cX7_turned 74 = .ok (.iadd, 1) := by decide +kernel
theorem dX7_turned_75 : decode cX7_turned 75 = .ok (.istore_n 2, 1) := by decide +kernel
theorem dX7_turned_76 : decode cX7_turned 76 = .ok (.iinc 4 1, 3) := by decide +kernel
theorem dX7_turned_79 : decode cX7_turned 79 = .ok (.goto (-47), 3) := by decide +kernel
theorem dX7_turned_82 : decode cX7_turned 82 = .ok (.iinc 3 1, 3) := by decide +kernel
theorem dX7_turned_85 : decode cX7_turned 85 = .ok (.goto (-64), 3) := by decide +kernel
theorem dX7_turned_88 : decode cX7_turned 88 = .ok (.iload_n 2, 1) := by decide +kernel
theorem dX7_turned_89 : decode cX7_turned 89 = .ok (.ireturn, 1) := by decide +kernel
theorem dX7_moves_0 : decode cX7_moves 0 = .ok (.aload_n 0, 1) := by decide +kernel
theorem dX7_moves_1 : decode cX7_moves 1 = .ok (.iload_n 1, 1) := by decide +kernel
theorem dX7_moves_2 : decode cX7_moves 2 = .ok (.invokevirtual 69, 3) := by decide +kernel
theorem dX7_moves_5 : decode cX7_moves 5 = .ok (.ifCond .ne 7, 3) := by decide +kernel
theorem dX7_moves_8 : decode cX7_moves 8 = .ok (.sipush (-1001), 3) := by decide +kernel
theorem dX7_moves_11 : decode cX7_moves 11 = .ok (.ireturn, 1) := by decide +kernel
theorem dX7_moves_12 : decode cX7_moves 12 = .ok (.aload_n 0, 1) := by decide +kernel
theorem dX7_moves_13 : decode cX7_moves 13 = .ok (.iload_n 1, 1) := by decide +kernel
theorem dX7_moves_14 : decode cX7_moves 14 = .ok (.invokevirtual 175, 3) := by decide +kernel
theorem dX7_moves_17 : decode cX7_moves 17 = .ok (.iconst 0, 1) := by decide +kernel
theorem dX7_moves_18 : decode cX7_moves 18 = .ok (.istore_n 2, 1) := by decide +kernel
theorem dX7_moves_19 : decode cX7_moves 19 = .ok (.iload_n 2, 1) := by decide +kernel
theorem dX7_moves_20 : decode cX7_moves 20 = .ok (.aload_n 0, 1) := by decide +kernel
theorem dX7_moves_21 : decode cX7_moves 21 = .ok (.getfield 7, 3) := by decide +kernel
theorem dX7_moves_24 : decode cX7_moves 24 = .ok (.if_icmp .ge 21, 3) := by decide +kernel
theorem dX7_moves_27 : decode cX7_moves 27 = .ok (.aload_n 0, 1) := by decide +kernel
theorem dX7_moves_28 : decode cX7_moves 28 = .ok (.getfield 55, 3) := by decide +kernel
theorem dX7_moves_31 : decode cX7_moves 31 = .ok (.iload_n 2, 1) := by decide +kernel
theorem dX7_moves_32 : decode cX7_moves 32 = .ok (.aload_n 0, 1) := by decide +kernel
theorem dX7_moves_33 : decode cX7_moves 33 = .ok (.getfield 52, 3) := by decide +kernel
theorem dX7_moves_36 : decode cX7_moves 36 = .ok (.iload_n 2, 1) := by decide +kernel
theorem dX7_moves_37 : decode cX7_moves 37 = .ok (.iaload, 1) := by decide +kernel
theorem dX7_moves_38 : decode cX7_moves 38 = .ok (.iastore, 1) := by decide +kernel
theorem dX7_moves_39 : decode cX7_moves 39 = .ok (.iinc 2 1, 3) := by decide +kernel
theorem dX7_moves_42 : decode cX7_moves 42 = .ok (.goto (-23), 3) := by decide +kernel
theorem dX7_moves_45 : decode cX7_moves 45 = .ok (.aload_n 0, 1) := by decide +kernel
theorem dX7_moves_46 : decode cX7_moves 46 = .ok (.iconst (-1), 1) := by decide +kernel
theorem dX7_moves_47 : decode cX7_moves 47 = .ok (.invokevirtual 175, 3) := by decide +kernel
theorem dX7_moves_50 : decode cX7_moves 50 = .ok (.iconst 0, 1) := by decide +kernel
theorem dX7_moves_51 : decode cX7_moves 51 = .ok (.istore_n 2, 1) := by decide +kernel
theorem dX7_moves_52 : decode cX7_moves 52 = .ok (.iconst 0, 1) := by decide +kernel
theorem dX7_moves_53 : decode cX7_moves 53 = .ok (.istore_n 3, 1) := by decide +kernel
theorem dX7_moves_54 : decode cX7_moves 54 = .ok (.iload_n 3, 1) := by decide +kernel
theorem dX7_moves_55 : decode cX7_moves 55 = .ok (.aload_n 0, 1) := by decide +kernel
theorem dX7_moves_56 : decode cX7_moves 56 = .ok (.getfield 7, 3) := by decide +kernel
theorem dX7_moves_59 : decode cX7_moves 59 = .ok (.if_icmp .ge 52, 3) := by decide +kernel
theorem dX7_moves_62 : decode cX7_moves 62 = .ok (.aload_n 0, 1) := by decide +kernel
theorem dX7_moves_63 : decode cX7_moves 63 = .ok (.getfield 52, 3) := by decide +kernel
theorem dX7_moves_66 : decode cX7_moves 66 = .ok (.iload_n 3, 1) := by decide +kernel
theorem dX7_moves_67 : decode cX7_moves 67 = .ok (.iaload, 1) := by decide +kernel
theorem dX7_moves_68 : decode cX7_moves 68 = .ok (.aload_n 0, 1) := by decide +kernel
theorem dX7_moves_69 : decode cX7_moves 69 = .ok (.getfield 55, 3) := by decide +kernel
theorem dX7_moves_72 : decode cX7_moves 72 = .ok (.iload_n 3, 1) := by decide +kernel
theorem dX7_moves_73 : decode cX7_moves 73 = .ok (.iaload, 1) := by decide +kernel
theorem dX7_moves_74 : decode cX7_moves 74 = .ok (.isub, 1) := by decide +kernel
theorem dX7_moves_75 : decode cX7_moves 75 = .ok (.istore 4, 2) := by decide +kernel
theorem dX7_moves_77 : decode cX7_moves 77 = .ok (.iload 4, 2) := by decide +kernel
theorem dX7_moves_79 : decode cX7_moves 79 = .ok (.ifCond .ge 9, 3) := by decide +kernel
theorem dX7_moves_82 : decode cX7_moves 82 = .ok (.iload 4, 2) := by decide +kernel
theorem dX7_moves_84 : decode cX7_moves 84 = .ok (.ineg, 1) := by decide +kernel
theorem dX7_moves_85 : decode cX7_moves 85 = .ok (.goto 5, 3) := by decide +kernel
theorem dX7_moves_88 : decode cX7_moves 88 = .ok (.iload 4, 2) := by decide +kernel
theorem dX7_moves_90 : decode cX7_moves 90 = .ok (.istore 4, 2) := by decide +kernel
theorem dX7_moves_92 : decode cX7_moves 92 = .ok (.iload 4, 2) := by decide +kernel
theorem dX7_moves_94 : decode cX7_moves 94 = .ok (.iload_n 2, 1) := by decide +kernel
theorem dX7_moves_95 : decode cX7_moves 95 = .ok (.if_icmp .le 8, 3) := by decide +kernel
theorem dX7_moves_98 : decode cX7_moves 98 = .ok (.iload 4, 2) := by decide +kernel
theorem dX7_moves_100 : decode cX7_moves 100 = .ok (.goto 4, 3) := by decide +kernel
theorem dX7_moves_103 : decode cX7_moves 103 = .ok (.iload_n 2, 1) := by decide +kernel
theorem dX7_moves_104 : decode cX7_moves 104 = .ok (.istore_n 2, 1) := by decide +kernel
theorem dX7_moves_105 : decode cX7_moves 105 = .ok (.iinc 3 1, 3) := by decide +kernel
theorem dX7_moves_108 : decode cX7_moves 108 = .ok (.goto (-54), 3) := by decide +kernel
theorem dX7_moves_111 : decode cX7_moves 111 = .ok (.iload_n 2, 1) := by decide +kernel
theorem dX7_moves_112 : decode cX7_moves 112 = .ok (.ireturn, 1) := by decide +kernel
theorem dX7_spreadOf_0 : decode cX7_spreadOf 0 = .ok (.bipush 101, 2) := by decide +kernel
theorem dX7_spreadOf_2 : decode cX7_spreadOf 2 = .ok (.istore_n 2, 1) := by decide +kernel
theorem dX7_spreadOf_3 : decode cX7_spreadOf 3 = .ok (.iconst (-1), 1) := by decide +kernel
theorem dX7_spreadOf_4 : decode cX7_spreadOf 4 = .ok (.istore_n 3, 1) := by decide +kernel
theorem dX7_spreadOf_5 : decode cX7_spreadOf 5 = .ok (.iconst 0, 1) := by decide +kernel
theorem dX7_spreadOf_6 : decode cX7_spreadOf 6 = .ok (.istore 4, 2) := by decide +kernel
theorem dX7_spreadOf_8 : decode cX7_spreadOf 8 = .ok (.iload 4, 2) := by decide +kernel
theorem dX7_spreadOf_10 : decode cX7_spreadOf 10 = .ok (.aload_n 0, 1) := by decide +kernel
theorem dX7_spreadOf_11 : decode cX7_spreadOf 11 = .ok (.getfield 7, 3) := by decide +kernel
theorem dX7_spreadOf_14 : decode cX7_spreadOf 14 = .ok (.if_icmp .ge 54, 3) := by decide +kernel
theorem dX7_spreadOf_17 : decode cX7_spreadOf 17 = .ok (.aload_n 0, 1) := by decide +kernel
theorem dX7_spreadOf_18 : decode cX7_spreadOf 18 = .ok (.getfield 21, 3) := by decide +kernel
theorem dX7_spreadOf_21 : decode cX7_spreadOf 21 = .ok (.bipush 8, 2) := by decide +kernel
theorem dX7_spreadOf_23 : decode cX7_spreadOf 23 = .ok (.iload 4, 2) := by decide +kernel
theorem dX7_spreadOf_25 : decode cX7_spreadOf 25 = .ok (.imul, 1) := by decide +kernel
theorem dX7_spreadOf_26 : decode cX7_spreadOf 26 = .ok (.iload_n 1, 1) := by decide +kernel
theorem dX7_spreadOf_27 : decode cX7_spreadOf 27 = .ok (.iadd, 1) := by decide +kernel
theorem dX7_spreadOf_28 : decode cX7_spreadOf 28 = .ok (.iaload, 1) := by decide +kernel
theorem dX7_spreadOf_29 : decode cX7_spreadOf 29 = .ok (.istore 5, 2) := by decide +kernel
theorem dX7_spreadOf_31 : decode cX7_spreadOf 31 = .ok (.iload 5, 2) := by decide +kernel
theorem dX7_spreadOf_33 : decode cX7_spreadOf 33 = .ok (.ifCond .lt 14, 3) := by decide +kernel
theorem dX7_spreadOf_36 : decode cX7_spreadOf 36 = .ok (.iload 5, 2) := by decide +kernel
theorem dX7_spreadOf_38 : decode cX7_spreadOf 38 = .ok (.iload_n 2, 1) := by decide +kernel
theorem dX7_spreadOf_39 : decode cX7_spreadOf 39 = .ok (.if_icmp .ge 8, 3) := by decide +kernel
theorem dX7_spreadOf_42 : decode cX7_spreadOf 42 = .ok (.iload 5, 2) := by decide +kernel
theorem dX7_spreadOf_44 : decode cX7_spreadOf 44 = .ok (.goto 4, 3) := by decide +kernel
theorem dX7_spreadOf_47 : decode cX7_spreadOf 47 = .ok (.iload_n 2, 1) := by decide +kernel
theorem dX7_spreadOf_48 : decode cX7_spreadOf 48 = .ok (.istore_n 2, 1) := by decide +kernel
theorem dX7_spreadOf_49 : decode cX7_spreadOf 49 = .ok (.iload 5, 2) := by decide +kernel
theorem dX7_spreadOf_51 : decode cX7_spreadOf 51 = .ok (.iload_n 3, 1) := by decide +kernel
theorem dX7_spreadOf_52 : decode cX7_spreadOf 52 = .ok (.if_icmp .le 8, 3) := by decide +kernel
theorem dX7_spreadOf_55 : decode cX7_spreadOf 55 = .ok (.iload 5, 2) := by decide +kernel
theorem dX7_spreadOf_57 : decode cX7_spreadOf 57 = .ok (.goto 4, 3) := by decide +kernel
theorem dX7_spreadOf_60 : decode cX7_spreadOf 60 = .ok (.iload_n 3, 1) := by decide +kernel
theorem dX7_spreadOf_61 : decode cX7_spreadOf 61 = .ok (.istore_n 3, 1) := by decide +kernel
theorem dX7_spreadOf_62 : decode cX7_spreadOf 62 = .ok (.iinc 4 1, 3) := by decide +kernel
theorem dX7_spreadOf_65 : decode cX7_spreadOf 65 = .ok (.goto (-57), 3) := by decide +kernel
theorem dX7_spreadOf_68 : decode cX7_spreadOf 68 = .ok (.iload_n 3, 1) := by decide +kernel
theorem dX7_spreadOf_69 : decode cX7_spreadOf 69 = .ok (.ifCond .ge 7, 3) := by decide +kernel
theorem dX7_spreadOf_72 : decode cX7_spreadOf 72 = .ok (.iconst 0, 1) := by decide +kernel
theorem dX7_spreadOf_73 : decode cX7_spreadOf 73 = .ok (.goto 6, 3) := by decide +kernel
theorem dX7_spreadOf_76 : decode cX7_spreadOf 76 = .ok (.iload_n 3, 1) := by decide +kernel
theorem dX7_spreadOf_77 : decode cX7_spreadOf 77 = .ok (.iload_n 2, 1) := by decide +kernel
theorem dX7_spreadOf_78 : decode cX7_spreadOf 78 = .ok (.isub, 1) := by decide +kernel
theorem dX7_spreadOf_79 : decode cX7_spreadOf 79 = .ok (.ireturn, 1) := by decide +kernel
theorem dX7_spread__0 : decode cX7_spread_ 0 = .ok (.aload_n 0, 1) := by decide +kernel
theorem dX7_spread__1 : decode cX7_spread_ 1 = .ok (.iload_n 1, 1) := by decide +kernel
theorem dX7_spread__2 : decode cX7_spread_ 2 = .ok (.invokevirtual 69, 3) := by decide +kernel
theorem dX7_spread__5 : decode cX7_spread_ 5 = .ok (.ifCond .eq 11, 3) := by decide +kernel
theorem dX7_spread__8 : decode cX7_spread_ 8 = .ok (.aload_n 0, 1) := by decide +kernel
theorem dX7_spread__9 : decode cX7_spread_ 9 = .ok (.iload_n 1, 1) := by decide +kernel
theorem dX7_spread__10 : decode cX7_spread_ 10 = .ok (.invokevirtual 119, 3) := by decide +kernel
theorem dX7_spread__13 : decode cX7_spread_ 13 = .ok (.goto 6, 3) := by decide +kernel
theorem dX7_spread__16 : decode cX7_spread_ 16 = .ok (.sipush (-1001), 3) := by decide +kernel
theorem dX7_spread__19 : decode cX7_spread_ 19 = .ok (.ireturn, 1) := by decide +kernel
theorem dX7_marksOf_0 : decode cX7_marksOf 0 = .ok (.iconst 0, 1) := by decide +kernel
theorem dX7_marksOf_1 : decode cX7_marksOf 1 = .ok (.istore_n 2, 1) := by decide +kernel
theorem dX7_marksOf_2 : decode cX7_marksOf 2 = .ok (.iconst 0, 1) := by decide +kernel
theorem dX7_marksOf_3 : decode cX7_marksOf 3 = .ok (.istore_n 3, 1) := by decide +kernel
theorem dX7_marksOf_4 : decode cX7_marksOf 4 = .ok (.iload_n 3, 1) := by decide +kernel
theorem dX7_marksOf_5 : decode cX7_marksOf 5 = .ok (.aload_n 0, 1) := by decide +kernel
theorem dX7_marksOf_6 : decode cX7_marksOf 6 = .ok (.getfield 7, 3) := by decide +kernel
theorem dX7_marksOf_9 : decode cX7_marksOf 9 = .ok (.if_icmp .ge 31, 3) := by decide +kernel
theorem dX7_marksOf_12 : decode cX7_marksOf 12 = .ok (.iload_n 2, 1) := by decide +kernel
theorem dX7_marksOf_13 : decode cX7_marksOf 13 = .ok (.aload_n 0, 1) := by decide +kernel
theorem dX7_marksOf_14 : decode cX7_marksOf 14 = .ok (.getfield 21, 3) := by decide +kernel
theorem dX7_marksOf_17 : decode cX7_marksOf 17 = .ok (.bipush 8, 2) := by decide +kernel
theorem dX7_marksOf_19 : decode cX7_marksOf 19 = .ok (.iload_n 1, 1) := by decide +kernel
theorem dX7_marksOf_20 : decode cX7_marksOf 20 = .ok (.imul, 1) := by decide +kernel
theorem dX7_marksOf_21 : decode cX7_marksOf 21 = .ok (.iload_n 3, 1) := by decide +kernel
theorem dX7_marksOf_22 : decode cX7_marksOf 22 = .ok (.iadd, 1) := by decide +kernel
theorem dX7_marksOf_23 : decode cX7_marksOf 23 = .ok (.iaload, 1) := by decide +kernel
theorem dX7_marksOf_24 : decode cX7_marksOf 24 = .ok (.ifCond .lt 7, 3) := by decide +kernel
theorem dX7_marksOf_27 : decode cX7_marksOf 27 = .ok (.iconst 1, 1) := by decide +kernel
theorem dX7_marksOf_28 : decode cX7_marksOf 28 = .ok (.goto 4, 3) := by decide +kernel
theorem dX7_marksOf_31 : decode cX7_marksOf 31 = .ok (.iconst 0, 1) := by decide +kernel
theorem dX7_marksOf_32 : decode cX7_marksOf 32 = .ok (.iadd, 1) := by decide +kernel
theorem dX7_marksOf_33 : decode cX7_marksOf 33 = .ok (.istore_n 2, 1) := by decide +kernel
theorem dX7_marksOf_34 : decode cX7_marksOf 34 = .ok (.iinc 3 1, 3) := by decide +kernel
theorem dX7_marksOf_37 : decode cX7_marksOf 37 = .ok (.goto (-33), 3) := by decide +kernel
theorem dX7_marksOf_40 : decode cX7_marksOf 40 = .ok (.iload_n 2, 1) := by decide +kernel
theorem dX7_marksOf_41 : decode cX7_marksOf 41 = .ok (.ireturn, 1) := by decide +kernel
theorem dX7_next_0 : decode cX7_next 0 = .ok (.aload_n 0, 1) := by decide +kernel
theorem dX7_next_1 : decode cX7_next 1 = .ok (.iload_n 1, 1) := by decide +kernel
theorem dX7_next_2 : decode cX7_next 2 = .ok (.invokevirtual 69, 3) := by decide +kernel
theorem dX7_next_5 : decode cX7_next 5 = .ok (.ifCond .ne 7, 3) := by decide +kernel
theorem dX7_next_8 : decode cX7_next 8 = .ok (.sipush (-1001), 3) := by decide +kernel
theorem dX7_next_11 : decode cX7_next 11 = .ok (.ireturn, 1) := by decide +kernel
theorem dX7_next_12 : decode cX7_next 12 = .ok (.iconst (-1), 1) := by decide +kernel
theorem dX7_next_13 : decode cX7_next 13 = .ok (.istore_n 2, 1) := by decide +kernel
theorem dX7_next_14 : decode cX7_next 14 = .ok (.iconst 0, 1) := by decide +kernel
theorem dX7_next_15 : decode cX7_next 15 = .ok (.istore_n 3, 1) := by decide +kernel
theorem dX7_next_16 : decode cX7_next 16 = .ok (.iload_n 3, 1) := by decide +kernel
theorem dX7_next_17 : decode cX7_next 17 = .ok (.aload_n 0, 1) := by decide +kernel
theorem dX7_next_18 : decode cX7_next 18 = .ok (.getfield 7, 3) := by decide +kernel
theorem dX7_next_21 : decode cX7_next 21 = .ok (.if_icmp .ge 51, 3) := by decide +kernel
theorem dX7_next_24 : decode cX7_next 24 = .ok (.aload_n 0, 1) := by decide +kernel
theorem dX7_next_25 : decode cX7_next 25 = .ok (.iload_n 3, 1) := by decide +kernel
theorem dX7_next_26 : decode cX7_next 26 = .ok (.iload_n 1, 1) := by decide +kernel
theorem dX7_next_27 : decode cX7_next 27 = .ok (.invokevirtual 77, 3) := by decide +kernel
theorem dX7_next_30 : decode cX7_next 30 = .ok (.ifCond .eq 36, 3) := by decide +kernel
theorem dX7_next_33 : decode cX7_next 33 = .ok (.aload_n 0, 1) := by decide +kernel
theorem dX7_next_34 : decode cX7_next 34 = .ok (.getfield 21, 3) := by decide +kernel
theorem dX7_next_37 : decode cX7_next 37 = .ok (.bipush 8, 2) := by decide +kernel
theorem dX7_next_39 : decode cX7_next 39 = .ok (.iload_n 3, 1) := by decide +kernel
theorem dX7_next_40 : decode cX7_next 40 = .ok (.imul, 1) := by decide +kernel
theorem dX7_next_41 : decode cX7_next 41 = .ok (.iload_n 1, 1) := by decide +kernel
theorem dX7_next_42 : decode cX7_next 42 = .ok (.iadd, 1) := by decide +kernel
theorem dX7_next_43 : decode cX7_next 43 = .ok (.iaload, 1) := by decide +kernel
theorem dX7_next_44 : decode cX7_next 44 = .ok (.ifCond .ge 22, 3) := by decide +kernel
theorem dX7_next_47 : decode cX7_next 47 = .ok (.iload_n 2, 1) := by decide +kernel
theorem dX7_next_48 : decode cX7_next 48 = .ok (.ifCond .lt 16, 3) := by decide +kernel
theorem dX7_next_51 : decode cX7_next 51 = .ok (.aload_n 0, 1) := by decide +kernel
theorem dX7_next_52 : decode cX7_next 52 = .ok (.iload_n 3, 1) := by decide +kernel
theorem dX7_next_53 : decode cX7_next 53 = .ok (.invokevirtual 178, 3) := by decide +kernel
theorem dX7_next_56 : decode cX7_next 56 = .ok (.aload_n 0, 1) := by decide +kernel
theorem dX7_next_57 : decode cX7_next 57 = .ok (.iload_n 2, 1) := by decide +kernel
theorem dX7_next_58 : decode cX7_next 58 = .ok (.invokevirtual 178, 3) := by decide +kernel
theorem dX7_next_61 : decode cX7_next 61 = .ok (.if_icmp .ge 5, 3) := by decide +kernel
theorem dX7_next_64 : decode cX7_next 64 = .ok (.iload_n 3, 1) := by decide +kernel
theorem dX7_next_65 : decode cX7_next 65 = .ok (.istore_n 2, 1) := by decide +kernel
theorem dX7_next_66 : decode cX7_next 66 = .ok (.iinc 3 1, 3) := by decide +kernel
theorem dX7_next_69 : decode cX7_next 69 = .ok (.goto (-53), 3) := by decide +kernel
theorem dX7_next_72 : decode cX7_next 72 = .ok (.iload_n 2, 1) := by decide +kernel
theorem dX7_next_73 : decode cX7_next 73 = .ok (.ireturn, 1) := by decide +kernel
theorem dX7_digest_0 : decode cX7_digest 0 = .ok (.bipush 7, 2) := by decide +kernel
theorem dX7_digest_2 : decode cX7_digest 2 = .ok (.istore_n 1, 1) := by decide +kernel
theorem dX7_digest_3 : decode cX7_digest 3 = .ok (.iconst 0, 1) := by decide +kernel
theorem dX7_digest_4 : decode cX7_digest 4 = .ok (.istore_n 2, 1) := by decide +kernel
theorem dX7_digest_5 : decode cX7_digest 5 = .ok (.iload_n 2, 1) := by decide +kernel
theorem dX7_digest_6 : decode cX7_digest 6 = .ok (.aload_n 0, 1) := by decide +kernel
theorem dX7_digest_7 : decode cX7_digest 7 = .ok (.getfield 7, 3) := by decide +kernel
theorem dX7_digest_10 : decode cX7_digest 10 = .ok (.if_icmp .ge 54, 3) := by decide +kernel
theorem dX7_digest_13 : decode cX7_digest 13 = .ok (.iconst 0, 1) := by decide +kernel
theorem dX7_digest_14 : decode cX7_digest 14 = .ok (.istore_n 3, 1) := by decide +kernel
theorem dX7_digest_15 : decode cX7_digest 15 = .ok (.iload_n 3, 1) := by decide +kernel
theorem dX7_digest_16 : decode cX7_digest 16 = .ok (.aload_n 0, 1) := by decide +kernel
theorem dX7_digest_17 : decode cX7_digest 17 = .ok (.getfield 7, 3) := by decide +kernel
theorem dX7_digest_20 : decode cX7_digest 20 = .ok (.if_icmp .ge 26, 3) := by decide +kernel
theorem dX7_digest_23 : decode cX7_digest 23 = .ok (.bipush 31, 2) := by decide +kernel
theorem dX7_digest_25 : decode cX7_digest 25 = .ok (.iload_n 1, 1) := by decide +kernel
theorem dX7_digest_26 : decode cX7_digest 26 = .ok (.imul, 1) := by decide +kernel
theorem dX7_digest_27 : decode cX7_digest 27 = .ok (.aload_n 0, 1) := by decide +kernel
theorem dX7_digest_28 : decode cX7_digest 28 = .ok (.getfield 21, 3) := by decide +kernel
theorem dX7_digest_31 : decode cX7_digest 31 = .ok (.bipush 8, 2) := by decide +kernel
theorem dX7_digest_33 : decode cX7_digest 33 = .ok (.iload_n 3, 1) := by decide +kernel
theorem dX7_digest_34 : decode cX7_digest 34 = .ok (.imul, 1) := by decide +kernel
theorem dX7_digest_35 : decode cX7_digest 35 = .ok (.iload_n 2, 1) := by decide +kernel
theorem dX7_digest_36 : decode cX7_digest 36 = .ok (.iadd, 1) := by decide +kernel
theorem dX7_digest_37 : decode cX7_digest 37 = .ok (.iaload, 1) := by decide +kernel
theorem dX7_digest_38 : decode cX7_digest 38 = .ok (.iadd, 1) := by decide +kernel
theorem dX7_digest_39 : decode cX7_digest 39 = .ok (.istore_n 1, 1) := by decide +kernel
theorem dX7_digest_40 : decode cX7_digest 40 = .ok (.iinc 3 1, 3) := by decide +kernel
theorem dX7_digest_43 : decode cX7_digest 43 = .ok (.goto (-28), 3) := by decide +kernel
theorem dX7_digest_46 : decode cX7_digest 46 = .ok (.bipush 31, 2) := by decide +kernel
theorem dX7_digest_48 : decode cX7_digest 48 = .ok (.iload_n 1, 1) := by decide +kernel
theorem dX7_digest_49 : decode cX7_digest 49 = .ok (.imul, 1) := by decide +kernel
theorem dX7_digest_50 : decode cX7_digest 50 = .ok (.aload_n 0, 1) := by decide +kernel
theorem dX7_digest_51 : decode cX7_digest 51 = .ok (.getfield 24, 3) := by decide +kernel
theorem dX7_digest_54 : decode cX7_digest 54 = .ok (.iload_n 2, 1) := by decide +kernel
theorem dX7_digest_55 : decode cX7_digest 55 = .ok (.iaload, 1) := by decide +kernel
theorem dX7_digest_56 : decode cX7_digest 56 = .ok (.iadd, 1) := by decide +kernel
theorem dX7_digest_57 : decode cX7_digest 57 = .ok (.istore_n 1, 1) := by decide +kernel
theorem dX7_digest_58 : decode cX7_digest 58 = .ok (.iinc 2 1, 3) := by decide +kernel
theorem dX7_digest_61 : decode cX7_digest 61 = .ok (.goto (-56), 3) := by decide +kernel
theorem dX7_digest_64 : decode cX7_digest 64 = .ok (.iload_n 1, 1) := by decide +kernel
theorem dX7_digest_65 : decode cX7_digest 65 = .ok (.ireturn, 1) := by decide +kernel
theorem dJ6_bitCount_0f7a4_0 : decode cJ6_bitCount_0f7a4 0 = .ok (.iload_n 0, 1) := by decide +kernel
theorem dJ6_bitCount_0f7a4_1 : decode cJ6_bitCount_0f7a4 1 = .ok (.iload_n 0, 1) := by decide +kernel
theorem dJ6_bitCount_0f7a4_2 : decode cJ6_bitCount_0f7a4 2 = .ok (.iconst 1, 1) := by decide +kernel
theorem dJ6_bitCount_0f7a4_3 : decode cJ6_bitCount_0f7a4 3 = .ok (.iushr, 1) := by decide +kernel
theorem dJ6_bitCount_0f7a4_4 : decode cJ6_bitCount_0f7a4 4 = .ok (.ldc_w 265, 3) := by decide +kernel
theorem dJ6_bitCount_0f7a4_7 : decode cJ6_bitCount_0f7a4 7 = .ok (.iand, 1) := by decide +kernel
theorem dJ6_bitCount_0f7a4_8 : decode cJ6_bitCount_0f7a4 8 = .ok (.isub, 1) := by decide +kernel
theorem dJ6_bitCount_0f7a4_9 : decode cJ6_bitCount_0f7a4 9 = .ok (.istore_n 0, 1) := by decide +kernel
theorem dJ6_bitCount_0f7a4_10 : decode cJ6_bitCount_0f7a4 10 = .ok (.iload_n 0, 1) := by decide +kernel
theorem dJ6_bitCount_0f7a4_11 : decode cJ6_bitCount_0f7a4 11 = .ok (.ldc_w 266, 3) := by decide +kernel
theorem dJ6_bitCount_0f7a4_14 : decode cJ6_bitCount_0f7a4 14 = .ok (.iand, 1) := by decide +kernel
theorem dJ6_bitCount_0f7a4_15 : decode cJ6_bitCount_0f7a4 15 = .ok (.iload_n 0, 1) := by decide +kernel
theorem dJ6_bitCount_0f7a4_16 : decode cJ6_bitCount_0f7a4 16 = .ok (.iconst 2, 1) := by decide +kernel
theorem dJ6_bitCount_0f7a4_17 : decode cJ6_bitCount_0f7a4 17 = .ok (.iushr, 1) := by decide +kernel
theorem dJ6_bitCount_0f7a4_18 : decode cJ6_bitCount_0f7a4 18 = .ok (.ldc_w 266, 3) := by decide +kernel
theorem dJ6_bitCount_0f7a4_21 : decode cJ6_bitCount_0f7a4 21 = .ok (.iand, 1) := by decide +kernel
theorem dJ6_bitCount_0f7a4_22 : decode cJ6_bitCount_0f7a4 22 = .ok (.iadd, 1) := by decide +kernel
theorem dJ6_bitCount_0f7a4_23 : decode cJ6_bitCount_0f7a4 23 = .ok (.istore_n 0, 1) := by decide +kernel
theorem dJ6_bitCount_0f7a4_24 : decode cJ6_bitCount_0f7a4 24 = .ok (.iload_n 0, 1) := by decide +kernel
theorem dJ6_bitCount_0f7a4_25 : decode cJ6_bitCount_0f7a4 25 = .ok (.iload_n 0, 1) := by decide +kernel
theorem dJ6_bitCount_0f7a4_26 : decode cJ6_bitCount_0f7a4 26 = .ok (.iconst 4, 1) := by decide +kernel
theorem dJ6_bitCount_0f7a4_27 : decode cJ6_bitCount_0f7a4 27 = .ok (.iushr, 1) := by decide +kernel
theorem dJ6_bitCount_0f7a4_28 : decode cJ6_bitCount_0f7a4 28 = .ok (.iadd, 1) := by decide +kernel
theorem dJ6_bitCount_0f7a4_29 : decode cJ6_bitCount_0f7a4 29 = .ok (.ldc_w 267, 3) := by decide +kernel
theorem dJ6_bitCount_0f7a4_32 : decode cJ6_bitCount_0f7a4 32 = .ok (.iand, 1) := by decide +kernel
theorem dJ6_bitCount_0f7a4_33 : decode cJ6_bitCount_0f7a4 33 = .ok (.istore_n 0, 1) := by decide +kernel
theorem dJ6_bitCount_0f7a4_34 : decode cJ6_bitCount_0f7a4 34 = .ok (.iload_n 0, 1) := by decide +kernel
theorem dJ6_bitCount_0f7a4_35 : decode cJ6_bitCount_0f7a4 35 = .ok (.iload_n 0, 1) := by decide +kernel
theorem dJ6_bitCount_0f7a4_36 : decode cJ6_bitCount_0f7a4 36 = .ok (.bipush 8, 2) := by decide +kernel
theorem dJ6_bitCount_0f7a4_38 : decode cJ6_bitCount_0f7a4 38 = .ok (.iushr, 1) := by decide +kernel
theorem dJ6_bitCount_0f7a4_39 : decode cJ6_bitCount_0f7a4 39 = .ok (.iadd, 1) := by decide +kernel
theorem dJ6_bitCount_0f7a4_40 : decode cJ6_bitCount_0f7a4 40 = .ok (.istore_n 0, 1) := by decide +kernel
theorem dJ6_bitCount_0f7a4_41 : decode cJ6_bitCount_0f7a4 41 = .ok (.iload_n 0, 1) := by decide +kernel
theorem dJ6_bitCount_0f7a4_42 : decode cJ6_bitCount_0f7a4 42 = .ok (.iload_n 0, 1) := by decide +kernel
theorem dJ6_bitCount_0f7a4_43 : decode cJ6_bitCount_0f7a4 43 = .ok (.bipush 16, 2) := by decide +kernel
theorem dJ6_bitCount_0f7a4_45 : decode cJ6_bitCount_0f7a4 45 = .ok (.iushr, 1) := by decide +kernel
theorem dJ6_bitCount_0f7a4_46 : decode cJ6_bitCount_0f7a4 46 = .ok (.iadd, 1) := by decide +kernel
theorem dJ6_bitCount_0f7a4_47 : decode cJ6_bitCount_0f7a4 47 = .ok (.istore_n 0, 1) := by decide +kernel
theorem dJ6_bitCount_0f7a4_48 : decode cJ6_bitCount_0f7a4 48 = .ok (.iload_n 0, 1) := by decide +kernel
theorem dJ6_bitCount_0f7a4_49 : decode cJ6_bitCount_0f7a4 49 = .ok (.bipush 63, 2) := by decide +kernel
theorem dJ6_bitCount_0f7a4_51 : decode cJ6_bitCount_0f7a4 51 = .ok (.iand, 1) := by decide +kernel
theorem dJ6_bitCount_0f7a4_52 : decode cJ6_bitCount_0f7a4 52 = .ok (.ireturn, 1) := by decide +kernel
theorem dJ9_abs_0f7a4_0 : decode cJ9_abs_0f7a4 0 = .ok (.iload_n 0, 1) := by decide +kernel
theorem dJ9_abs_0f7a4_1 : decode cJ9_abs_0f7a4 1 = .ok (.ifCond .ge 8, 3) := by decide +kernel
theorem dJ9_abs_0f7a4_4 : decode cJ9_abs_0f7a4 4 = .ok (.iload_n 0, 1) := by decide +kernel
theorem dJ9_abs_0f7a4_5 : decode cJ9_abs_0f7a4 5 = .ok (.ineg, 1) := by decide +kernel
theorem dJ9_abs_0f7a4_6 : decode cJ9_abs_0f7a4 6 = .ok (.goto 4, 3) := by decide +kernel
theorem dJ9_abs_0f7a4_9 : decode cJ9_abs_0f7a4 9 = .ok (.iload_n 0, 1) := by decide +kernel
theorem dJ9_abs_0f7a4_10 : decode cJ9_abs_0f7a4 10 = .ok (.ireturn, 1) := by decide +kernel
theorem dJ9_abs_067f4_0 : decode cJ9_abs_067f4 0 = .ok (.lload_n 0, 1) := by decide +kernel
theorem dJ9_abs_067f4_1 : decode cJ9_abs_067f4 1 = .ok (.lconst 0, 1) := by decide +kernel
theorem dJ9_abs_067f4_2 : decode cJ9_abs_067f4 2 = .ok (.lcmp, 1) := by decide +kernel
theorem dJ9_abs_067f4_3 : decode cJ9_abs_067f4 3 = .ok (.ifCond .ge 8, 3) := by decide +kernel
theorem dJ9_abs_067f4_6 : decode cJ9_abs_067f4 6 = .ok (.lload_n 0, 1) := by decide +kernel
theorem dJ9_abs_067f4_7 : decode cJ9_abs_067f4 7 = .ok (.lneg, 1) := by decide +kernel
theorem dJ9_abs_067f4_8 : decode cJ9_abs_067f4 8 = .ok (.goto 4, 3) := by decide +kernel
theorem dJ9_abs_067f4_11 : decode cJ9_abs_067f4 11 = .ok (.lload_n 0, 1) := by decide +kernel
theorem dJ9_abs_067f4_12 : decode cJ9_abs_067f4 12 = .ok (.lreturn, 1) := by decide +kernel
theorem dJ9_max_7cf53_0 : decode cJ9_max_7cf53 0 = .ok (.iload_n 0, 1) := by decide +kernel
theorem dJ9_max_7cf53_1 : decode cJ9_max_7cf53 1 = .ok (.iload_n 1, 1) := by decide +kernel
theorem dJ9_max_7cf53_2 : decode cJ9_max_7cf53 2 = .ok (.if_icmp .lt 7, 3) := by decide +kernel
theorem dJ9_max_7cf53_5 : decode cJ9_max_7cf53 5 = .ok (.iload_n 0, 1) := by decide +kernel
theorem dJ9_max_7cf53_6 : decode cJ9_max_7cf53 6 = .ok (.goto 4, 3) := by decide +kernel
theorem dJ9_max_7cf53_9 : decode cJ9_max_7cf53 9 = .ok (.iload_n 1, 1) := by decide +kernel
theorem dJ9_max_7cf53_10 : decode cJ9_max_7cf53 10 = .ok (.ireturn, 1) := by decide +kernel
theorem dJ9_min_7cf53_0 : decode cJ9_min_7cf53 0 = .ok (.iload_n 0, 1) := by decide +kernel
theorem dJ9_min_7cf53_1 : decode cJ9_min_7cf53 1 = .ok (.iload_n 1, 1) := by decide +kernel
theorem dJ9_min_7cf53_2 : decode cJ9_min_7cf53 2 = .ok (.if_icmp .gt 7, 3) := by decide +kernel
theorem dJ9_min_7cf53_5 : decode cJ9_min_7cf53 5 = .ok (.iload_n 0, 1) := by decide +kernel
theorem dJ9_min_7cf53_6 : decode cJ9_min_7cf53 6 = .ok (.goto 4, 3) := by decide +kernel
theorem dJ9_min_7cf53_9 : decode cJ9_min_7cf53 9 = .ok (.iload_n 1, 1) := by decide +kernel
theorem dJ9_min_7cf53_10 : decode cJ9_min_7cf53 10 = .ok (.ireturn, 1) := by decide +kernel
theorem dJ7_fill_d0a16_0 : decode cJ7_fill_d0a16 0 = .ok (.iconst 0, 1) := by decide +kernel
theorem dJ7_fill_d0a16_1 : decode cJ7_fill_d0a16 1 = .ok (.istore_n 3, 1) := by decide +kernel
theorem dJ7_fill_d0a16_2 : decode cJ7_fill_d0a16 2 = .ok (.aload_n 0, 1) := by decide +kernel
theorem dJ7_fill_d0a16_3 : decode cJ7_fill_d0a16 3 = .ok (.arraylength, 1) := by decide +kernel
theorem dJ7_fill_d0a16_4 : decode cJ7_fill_d0a16 4 = .ok (.istore 4, 2) := by decide +kernel
theorem dJ7_fill_d0a16_6 : decode cJ7_fill_d0a16 6 = .ok (.iload_n 3, 1) := by decide +kernel
theorem dJ7_fill_d0a16_7 : decode cJ7_fill_d0a16 7 = .ok (.iload 4, 2) := by decide +kernel
theorem dJ7_fill_d0a16_9 : decode cJ7_fill_d0a16 9 = .ok (.if_icmp .ge 13, 3) := by decide +kernel
theorem dJ7_fill_d0a16_12 : decode cJ7_fill_d0a16 12 = .ok (.aload_n 0, 1) := by decide +kernel
theorem dJ7_fill_d0a16_13 : decode cJ7_fill_d0a16 13 = .ok (.iload_n 3, 1) := by decide +kernel
theorem dJ7_fill_d0a16_14 : decode cJ7_fill_d0a16 14 = .ok (.lload_n 1, 1) := by decide +kernel
theorem dJ7_fill_d0a16_15 : decode cJ7_fill_d0a16 15 = .ok (.lastore, 1) := by decide +kernel
theorem dJ7_fill_d0a16_16 : decode cJ7_fill_d0a16 16 = .ok (.iinc 3 1, 3) := by decide +kernel
theorem dJ7_fill_d0a16_19 : decode cJ7_fill_d0a16 19 = .ok (.goto (-13), 3) := by decide +kernel
theorem dJ7_fill_d0a16_22 : decode cJ7_fill_d0a16 22 = .ok (.return_, 1) := by decide +kernel
theorem dJ7_fill_53178_0 : decode cJ7_fill_53178 0 = .ok (.iconst 0, 1) := by decide +kernel
theorem dJ7_fill_53178_1 : decode cJ7_fill_53178 1 = .ok (.istore_n 2, 1) := by decide +kernel
theorem dJ7_fill_53178_2 : decode cJ7_fill_53178 2 = .ok (.aload_n 0, 1) := by decide +kernel
theorem dJ7_fill_53178_3 : decode cJ7_fill_53178 3 = .ok (.arraylength, 1) := by decide +kernel
theorem dJ7_fill_53178_4 : decode cJ7_fill_53178 4 = .ok (.istore_n 3, 1) := by decide +kernel
theorem dJ7_fill_53178_5 : decode cJ7_fill_53178 5 = .ok (.iload_n 2, 1) := by decide +kernel
theorem dJ7_fill_53178_6 : decode cJ7_fill_53178 6 = .ok (.iload_n 3, 1) := by decide +kernel
theorem dJ7_fill_53178_7 : decode cJ7_fill_53178 7 = .ok (.if_icmp .ge 13, 3) := by decide +kernel
theorem dJ7_fill_53178_10 : decode cJ7_fill_53178 10 = .ok (.aload_n 0, 1) := by decide +kernel
theorem dJ7_fill_53178_11 : decode cJ7_fill_53178 11 = .ok (.iload_n 2, 1) := by decide +kernel
theorem dJ7_fill_53178_12 : decode cJ7_fill_53178 12 = .ok (.iload_n 1, 1) := by decide +kernel
theorem dJ7_fill_53178_13 : decode cJ7_fill_53178 13 = .ok (.iastore, 1) := by decide +kernel
theorem dJ7_fill_53178_14 : decode cJ7_fill_53178 14 = .ok (.iinc 2 1, 3) := by decide +kernel
theorem dJ7_fill_53178_17 : decode cJ7_fill_53178 17 = .ok (.goto (-12), 3) := by decide +kernel
theorem dJ7_fill_53178_20 : decode cJ7_fill_53178 20 = .ok (.return_, 1) := by decide +kernel
theorem dL_law_0 : decode cL_law 0 = .ok (.new 7, 3) := by decide +kernel
theorem dL_law_3 : decode cL_law 3 = .ok (.dup, 1) := by decide +kernel
theorem dL_law_4 : decode cL_law 4 = .ok (.invokespecial 9, 3) := by decide +kernel
theorem dL_law_7 : decode cL_law 7 = .ok (.astore_n 1, 1) := by decide +kernel
theorem dL_law_8 : decode cL_law 8 = .ok (.new 10, 3) := by decide +kernel
theorem dL_law_11 : decode cL_law 11 = .ok (.dup, 1) := by decide +kernel
theorem dL_law_12 : decode cL_law 12 = .ok (.invokespecial 12, 3) := by decide +kernel
theorem dL_law_15 : decode cL_law 15 = .ok (.astore_n 2, 1) := by decide +kernel
theorem dL_law_16 : decode cL_law 16 = .ok (.iconst 0, 1) := by decide +kernel
theorem dL_law_17 : decode cL_law 17 = .ok (.istore_n 3, 1) := by decide +kernel
theorem dL_law_18 : decode cL_law 18 = .ok (.iload_n 3, 1) := by decide +kernel
theorem dL_law_19 : decode cL_law 19 = .ok (.aload_n 0, 1) := by decide +kernel
theorem dL_law_20 : decode cL_law 20 = .ok (.arraylength, 1) := by decide +kernel
theorem dL_law_21 : decode cL_law 21 = .ok (.iconst 4, 1) := by decide +kernel
theorem dL_law_22 : decode cL_law 22 = .ok (.isub, 1) := by decide +kernel
theorem dL_law_23 : decode cL_law 23 = .ok (.if_icmp .gt 714, 3) := by decide +kernel
theorem dL_law_26 : decode cL_law 26 = .ok (.aload_n 0, 1) := by decide +kernel
theorem dL_law_27 : decode cL_law 27 = .ok (.iload_n 3, 1) := by decide +kernel
theorem dL_law_28 : decode cL_law 28 = .ok (.iaload, 1) := by decide +kernel
theorem dL_law_29 : decode cL_law 29 = .ok (.bipush 31, 2) := by decide +kernel
theorem dL_law_31 : decode cL_law 31 = .ok (.iand, 1) := by decide +kernel
theorem dL_law_32 : decode cL_law 32 = .ok (.tableswitch 699 0 21 #[104, 127, 186, 219, 242, 265, 288, 301, 314, 357, 390, 413, 446, 480, 514, 558, 581, 594, 617, 640, 663, 686], 104) := by decide +kernel
theorem dL_law_136 : decode cL_law 136 = .ok (.aload_n 1, 1) := by decide +kernel
theorem dL_law_137 : decode cL_law 137 = .ok (.aload_n 0, 1) := by decide +kernel
theorem dL_law_138 : decode cL_law 138 = .ok (.iload_n 3, 1) := by decide +kernel
theorem dL_law_139 : decode cL_law 139 = .ok (.iconst 1, 1) := by decide +kernel
theorem dL_law_140 : decode cL_law 140 = .ok (.iadd, 1) := by decide +kernel
theorem dL_law_141 : decode cL_law 141 = .ok (.iaload, 1) := by decide +kernel
theorem dL_law_142 : decode cL_law 142 = .ok (.invokevirtual 13, 3) := by decide +kernel
theorem dL_law_145 : decode cL_law 145 = .ok (.aload_n 2, 1) := by decide +kernel
theorem dL_law_146 : decode cL_law 146 = .ok (.aload_n 0, 1) := by decide +kernel
theorem dL_law_147 : decode cL_law 147 = .ok (.iload_n 3, 1) := by decide +kernel
theorem dL_law_148 : decode cL_law 148 = .ok (.iconst 1, 1) := by decide +kernel
theorem dL_law_149 : decode cL_law 149 = .ok (.iadd, 1) := by decide +kernel
theorem dL_law_150 : decode cL_law 150 = .ok (.iaload, 1) := by decide +kernel
theorem dL_law_151 : decode cL_law 151 = .ok (.invokevirtual 17, 3) := by decide +kernel
theorem dL_law_154 : decode cL_law 154 = .ok (.if_icmp .eq 577, 3) := by decide +kernel
theorem dL_law_157 : decode cL_law 157 = .ok (.iconst 0, 1) := by decide +kernel
theorem dL_law_158 : decode cL_law 158 = .ok (.ireturn, 1) := by decide +kernel
theorem dL_law_159 : decode cL_law 159 = .ok (.aload_n 1, 1) := by decide +kernel
theorem dL_law_160 : decode cL_law 160 = .ok (.aload_n 0, 1) := by decide +kernel
theorem dL_law_161 : decode cL_law 161 = .ok (.iload_n 3, 1) := by decide +kernel
theorem dL_law_162 : decode cL_law 162 = .ok (.iconst 1, 1) := by decide +kernel
theorem dL_law_163 : decode cL_law 163 = .ok (.iadd, 1) := by decide +kernel
theorem dL_law_164 : decode cL_law 164 = .ok (.iaload, 1) := by decide +kernel
theorem dL_law_165 : decode cL_law 165 = .ok (.aload_n 0, 1) := by decide +kernel
theorem dL_law_166 : decode cL_law 166 = .ok (.iload_n 3, 1) := by decide +kernel
theorem dL_law_167 : decode cL_law 167 = .ok (.iconst 2, 1) := by decide +kernel
theorem dL_law_168 : decode cL_law 168 = .ok (.iadd, 1) := by decide +kernel
theorem dL_law_169 : decode cL_law 169 = .ok (.iaload, 1) := by decide +kernel
theorem dL_law_170 : decode cL_law 170 = .ok (.aload_n 0, 1) := by decide +kernel
theorem dL_law_171 : decode cL_law 171 = .ok (.iload_n 3, 1) := by decide +kernel
theorem dL_law_172 : decode cL_law 172 = .ok (.iconst 3, 1) := by decide +kernel
theorem dL_law_173 : decode cL_law 173 = .ok (.iadd, 1) := by decide +kernel
theorem dL_law_174 : decode cL_law 174 = .ok (.iaload, 1) := by decide +kernel
theorem dL_law_175 : decode cL_law 175 = .ok (.ifCond .eq 7, 3) := by decide +kernel
theorem dL_law_178 : decode cL_law 178 = .ok (.iconst 1, 1) := by decide +kernel
theorem dL_law_179 : decode cL_law 179 = .ok (.goto 4, 3) := by decide +kernel
theorem dL_law_182 : decode cL_law 182 = .ok (.iconst 0, 1) := by decide +kernel
theorem dL_law_183 : decode cL_law 183 = .ok (.invokevirtual 18, 3) := by decide +kernel
theorem dL_law_186 : decode cL_law 186 = .ok (.aload_n 2, 1) := by decide +kernel
theorem dL_law_187 : decode cL_law 187 = .ok (.aload_n 0, 1) := by decide +kernel
theorem dL_law_188 : decode cL_law 188 = .ok (.iload_n 3, 1) := by decide +kernel
theorem dL_law_189 : decode cL_law 189 = .ok (.iconst 1, 1) := by decide +kernel
theorem dL_law_190 : decode cL_law 190 = .ok (.iadd, 1) := by decide +kernel
theorem dL_law_191 : decode cL_law 191 = .ok (.iaload, 1) := by decide +kernel
theorem dL_law_192 : decode cL_law 192 = .ok (.aload_n 0, 1) := by decide +kernel
theorem dL_law_193 : decode cL_law 193 = .ok (.iload_n 3, 1) := by decide +kernel
theorem dL_law_194 : decode cL_law 194 = .ok (.iconst 2, 1) := by decide +kernel
theorem dL_law_195 : decode cL_law 195 = .ok (.iadd, 1) := by decide +kernel
theorem dL_law_196 : decode cL_law 196 = .ok (.iaload, 1) := by decide +kernel
theorem dL_law_197 : decode cL_law 197 = .ok (.aload_n 0, 1) := by decide +kernel
theorem dL_law_198 : decode cL_law 198 = .ok (.iload_n 3, 1) := by decide +kernel
theorem dL_law_199 : decode cL_law 199 = .ok (.iconst 3, 1) := by decide +kernel
theorem dL_law_200 : decode cL_law 200 = .ok (.iadd, 1) := by decide +kernel
theorem dL_law_201 : decode cL_law 201 = .ok (.iaload, 1) := by decide +kernel
theorem dL_law_202 : decode cL_law 202 = .ok (.ifCond .eq 7, 3) := by decide +kernel
theorem dL_law_205 : decode cL_law 205 = .ok (.iconst 1, 1) := by decide +kernel
theorem dL_law_206 : decode cL_law 206 = .ok (.goto 4, 3) := by decide +kernel
theorem dL_law_209 : decode cL_law 209 = .ok (.iconst 0, 1) := by decide +kernel
theorem dL_law_210 : decode cL_law 210 = .ok (.invokevirtual 22, 3) := by decide +kernel
theorem dL_law_213 : decode cL_law 213 = .ok (.if_icmp .eq 518, 3) := by decide +kernel
theorem dL_law_216 : decode cL_law 216 = .ok (.iconst 0, 1) := by decide +kernel
theorem dL_law_217 : decode cL_law 217 = .ok (.ireturn, 1) := by decide +kernel
theorem dL_law_218 : decode cL_law 218 = .ok (.aload_n 1, 1) := by decide +kernel
theorem dL_law_219 : decode cL_law 219 = .ok (.aload_n 0, 1) := by decide +kernel
theorem dL_law_220 : decode cL_law 220 = .ok (.iload_n 3, 1) := by decide +kernel
theorem dL_law_221 : decode cL_law 221 = .ok (.iconst 1, 1) := by decide +kernel
theorem dL_law_222 : decode cL_law 222 = .ok (.iadd, 1) := by decide +kernel
theorem dL_law_223 : decode cL_law 223 = .ok (.iaload, 1) := by decide +kernel
theorem dL_law_224 : decode cL_law 224 = .ok (.aload_n 0, 1) := by decide +kernel
theorem dL_law_225 : decode cL_law 225 = .ok (.iload_n 3, 1) := by decide +kernel
theorem dL_law_226 : decode cL_law 226 = .ok (.iconst 2, 1) := by decide +kernel
theorem dL_law_227 : decode cL_law 227 = .ok (.iadd, 1) := by decide +kernel
theorem dL_law_228 : decode cL_law 228 = .ok (.iaload, 1) := by decide +kernel
theorem dL_law_229 : decode cL_law 229 = .ok (.invokevirtual 23, 3) := by decide +kernel
theorem dL_law_232 : decode cL_law 232 = .ok (.aload_n 2, 1) := by decide +kernel
theorem dL_law_233 : decode cL_law 233 = .ok (.aload_n 0, 1) := by decide +kernel
theorem dL_law_234 : decode cL_law 234 = .ok (.iload_n 3, 1) := by decide +kernel
theorem dL_law_235 : decode cL_law 235 = .ok (.iconst 1, 1) := by decide +kernel
theorem dL_law_236 : decode cL_law 236 = .ok (.iadd, 1) := by decide +kernel
theorem dL_law_237 : decode cL_law 237 = .ok (.iaload, 1) := by decide +kernel
theorem dL_law_238 : decode cL_law 238 = .ok (.aload_n 0, 1) := by decide +kernel
theorem dL_law_239 : decode cL_law 239 = .ok (.iload_n 3, 1) := by decide +kernel
theorem dL_law_240 : decode cL_law 240 = .ok (.iconst 2, 1) := by decide +kernel
theorem dL_law_241 : decode cL_law 241 = .ok (.iadd, 1) := by decide +kernel
theorem dL_law_242 : decode cL_law 242 = .ok (.iaload, 1) := by decide +kernel
theorem dL_law_243 : decode cL_law 243 = .ok (.invokevirtual 27, 3) := by decide +kernel
theorem dL_law_246 : decode cL_law 246 = .ok (.if_icmp .eq 485, 3) := by decide +kernel
theorem dL_law_249 : decode cL_law 249 = .ok (.iconst 0, 1) := by decide +kernel
theorem dL_law_250 : decode cL_law 250 = .ok (.ireturn, 1) := by decide +kernel
theorem dL_law_251 : decode cL_law 251 = .ok (.aload_n 1, 1) := by decide +kernel
theorem dL_law_252 : decode cL_law 252 = .ok (.aload_n 0, 1) := by decide +kernel
theorem dL_law_253 : decode cL_law 253 = .ok (.iload_n 3, 1) := by decide +kernel
theorem dL_law_254 : decode cL_law 254 = .ok (.iconst 1, 1) := by decide +kernel
theorem dL_law_255 : decode cL_law 255 = .ok (.iadd, 1) := by decide +kernel
theorem dL_law_256 : decode cL_law 256 = .ok (.iaload, 1) := by decide +kernel
theorem dL_law_257 : decode cL_law 257 = .ok (.invokevirtual 28, 3) := by decide +kernel
theorem dL_law_260 : decode cL_law 260 = .ok (.aload_n 2, 1) := by decide +kernel
theorem dL_law_261 : decode cL_law 261 = .ok (.aload_n 0, 1) := by decide +kernel
theorem dL_law_262 : decode cL_law 262 = .ok (.iload_n 3, 1) := by decide +kernel
theorem dL_law_263 : decode cL_law 263 = .ok (.iconst 1, 1) := by decide +kernel
theorem dL_law_264 : decode cL_law 264 = .ok (.iadd, 1) := by decide +kernel
theorem dL_law_265 : decode cL_law 265 = .ok (.iaload, 1) := by decide +kernel
theorem dL_law_266 : decode cL_law 266 = .ok (.invokevirtual 31, 3) := by decide +kernel
theorem dL_law_269 : decode cL_law 269 = .ok (.if_icmp .eq 462, 3) := by decide +kernel
theorem dL_law_272 : decode cL_law 272 = .ok (.iconst 0, 1) := by decide +kernel
theorem dL_law_273 : decode cL_law 273 = .ok (.ireturn, 1) := by decide +kernel
theorem dL_law_274 : decode cL_law 274 = .ok (.aload_n 1, 1) := by decide +kernel
theorem dL_law_275 : decode cL_law 275 = .ok (.aload_n 0, 1) := by decide +kernel
theorem dL_law_276 : decode cL_law 276 = .ok (.iload_n 3, 1) := by decide +kernel
theorem dL_law_277 : decode cL_law 277 = .ok (.iconst 1, 1) := by decide +kernel
theorem dL_law_278 : decode cL_law 278 = .ok (.iadd, 1) := by decide +kernel
theorem dL_law_279 : decode cL_law 279 = .ok (.iaload, 1) := by decide +kernel
theorem dL_law_280 : decode cL_law 280 = .ok (.invokevirtual 32, 3) := by decide +kernel
theorem dL_law_283 : decode cL_law 283 = .ok (.aload_n 2, 1) := by decide +kernel
theorem dL_law_284 : decode cL_law 284 = .ok (.aload_n 0, 1) := by decide +kernel
theorem dL_law_285 : decode cL_law 285 = .ok (.iload_n 3, 1) := by decide +kernel
theorem dL_law_286 : decode cL_law 286 = .ok (.iconst 1, 1) := by decide +kernel
theorem dL_law_287 : decode cL_law 287 = .ok (.iadd, 1) := by decide +kernel
theorem dL_law_288 : decode cL_law 288 = .ok (.iaload, 1) := by decide +kernel
theorem dL_law_289 : decode cL_law 289 = .ok (.invokevirtual 35, 3) := by decide +kernel
theorem dL_law_292 : decode cL_law 292 = .ok (.if_icmp .eq 439, 3) := by decide +kernel
theorem dL_law_295 : decode cL_law 295 = .ok (.iconst 0, 1) := by decide +kernel
theorem dL_law_296 : decode cL_law 296 = .ok (.ireturn, 1) := by decide +kernel
theorem dL_law_297 : decode cL_law 297 = .ok (.aload_n 1, 1) := by decide +kernel
theorem dL_law_298 : decode cL_law 298 = .ok (.aload_n 0, 1) := by decide +kernel
theorem dL_law_299 : decode cL_law 299 = .ok (.iload_n 3, 1) := by decide +kernel
theorem dL_law_300 : decode cL_law 300 = .ok (.iconst 1, 1) := by decide +kernel
theorem dL_law_301 : decode cL_law 301 = .ok (.iadd, 1) := by decide +kernel
theorem dL_law_302 : decode cL_law 302 = .ok (.iaload, 1) := by decide +kernel
theorem dL_law_303 : decode cL_law 303 = .ok (.invokevirtual 36, 3) := by decide +kernel
theorem dL_law_306 : decode cL_law 306 = .ok (.aload_n 2, 1) := by decide +kernel
theorem dL_law_307 : decode cL_law 307 = .ok (.aload_n 0, 1) := by decide +kernel
theorem dL_law_308 : decode cL_law 308 = .ok (.iload_n 3, 1) := by decide +kernel
theorem dL_law_309 : decode cL_law 309 = .ok (.iconst 1, 1) := by decide +kernel
theorem dL_law_310 : decode cL_law 310 = .ok (.iadd, 1) := by decide +kernel
theorem dL_law_311 : decode cL_law 311 = .ok (.iaload, 1) := by decide +kernel
theorem dL_law_312 : decode cL_law 312 = .ok (.invokevirtual 39, 3) := by decide +kernel
theorem dL_law_315 : decode cL_law 315 = .ok (.if_icmp .eq 416, 3) := by decide +kernel
theorem dL_law_318 : decode cL_law 318 = .ok (.iconst 0, 1) := by decide +kernel
theorem dL_law_319 : decode cL_law 319 = .ok (.ireturn, 1) := by decide +kernel
theorem dL_law_320 : decode cL_law 320 = .ok (.aload_n 1, 1) := by decide +kernel
theorem dL_law_321 : decode cL_law 321 = .ok (.invokevirtual 40, 3) := by decide +kernel
theorem dL_law_324 : decode cL_law 324 = .ok (.aload_n 2, 1) := by decide +kernel
theorem dL_law_325 : decode cL_law 325 = .ok (.invokevirtual 44, 3) := by decide +kernel
theorem dL_law_328 : decode cL_law 328 = .ok (.if_icmp .eq 403, 3) := by decide +kernel
theorem dL_law_331 : decode cL_law 331 = .ok (.iconst 0, 1) := by decide +kernel
theorem dL_law_332 : decode cL_law 332 = .ok (.ireturn, 1) := by decide +kernel
theorem dL_law_333 : decode cL_law 333 = .ok (.aload_n 1, 1) := by decide +kernel
theorem dL_law_334 : decode cL_law 334 = .ok (.invokevirtual 45, 3) := by decide +kernel
theorem dL_law_337 : decode cL_law 337 = .ok (.aload_n 2, 1) := by decide +kernel
theorem dL_law_338 : decode cL_law 338 = .ok (.invokevirtual 48, 3) := by decide +kernel
theorem dL_law_341 : decode cL_law 341 = .ok (.if_icmp .eq 390, 3) := by decide +kernel
theorem dL_law_344 : decode cL_law 344 = .ok (.iconst 0, 1) := by decide +kernel
theorem dL_law_345 : decode cL_law 345 = .ok (.ireturn, 1) := by decide +kernel
theorem dL_law_346 : decode cL_law 346 = .ok (.aload_n 1, 1) := by decide +kernel
theorem dL_law_347 : decode cL_law 347 = .ok (.aload_n 0, 1) := by decide +kernel
theorem dL_law_348 : decode cL_law 348 = .ok (.iload_n 3, 1) := by decide +kernel
theorem dL_law_349 : decode cL_law 349 = .ok (.iconst 1, 1) := by decide +kernel
theorem dL_law_350 : decode cL_law 350 = .ok (.iadd, 1) := by decide +kernel
theorem dL_law_351 : decode cL_law 351 = .ok (.iaload, 1) := by decide +kernel
theorem dL_law_352 : decode cL_law 352 = .ok (.aload_n 0, 1) := by decide +kernel
theorem dL_law_353 : decode cL_law 353 = .ok (.iload_n 3, 1) := by decide +kernel
theorem dL_law_354 : decode cL_law 354 = .ok (.iconst 2, 1) := by decide +kernel
theorem dL_law_355 : decode cL_law 355 = .ok (.iadd, 1) := by decide +kernel
theorem dL_law_356 : decode cL_law 356 = .ok (.iaload, 1) := by decide +kernel
theorem dL_law_357 : decode cL_law 357 = .ok (.aload_n 0, 1) := by decide +kernel
theorem dL_law_358 : decode cL_law 358 = .ok (.iload_n 3, 1) := by decide +kernel
theorem dL_law_359 : decode cL_law 359 = .ok (.iconst 3, 1) := by decide +kernel
theorem dL_law_360 : decode cL_law 360 = .ok (.iadd, 1) := by decide +kernel
theorem dL_law_361 : decode cL_law 361 = .ok (.iaload, 1) := by decide +kernel
theorem dL_law_362 : decode cL_law 362 = .ok (.invokevirtual 49, 3) := by decide +kernel
theorem dL_law_365 : decode cL_law 365 = .ok (.aload_n 2, 1) := by decide +kernel
theorem dL_law_366 : decode cL_law 366 = .ok (.aload_n 0, 1) := by decide +kernel
theorem dL_law_367 : decode cL_law 367 = .ok (.iload_n 3, 1) := by decide +kernel
theorem dL_law_368 : decode cL_law 368 = .ok (.iconst 1, 1) := by decide +kernel
theorem dL_law_369 : decode cL_law 369 = .ok (.iadd, 1) := by decide +kernel
theorem dL_law_370 : decode cL_law 370 = .ok (.iaload, 1) := by decide +kernel
theorem dL_law_371 : decode cL_law 371 = .ok (.aload_n 0, 1) := by decide +kernel
theorem dL_law_372 : decode cL_law 372 = .ok (.iload_n 3, 1) := by decide +kernel
theorem dL_law_373 : decode cL_law 373 = .ok (.iconst 2, 1) := by decide +kernel
theorem dL_law_374 : decode cL_law 374 = .ok (.iadd, 1) := by decide +kernel
theorem dL_law_375 : decode cL_law 375 = .ok (.iaload, 1) := by decide +kernel
theorem dL_law_376 : decode cL_law 376 = .ok (.aload_n 0, 1) := by decide +kernel
theorem dL_law_377 : decode cL_law 377 = .ok (.iload_n 3, 1) := by decide +kernel
theorem dL_law_378 : decode cL_law 378 = .ok (.iconst 3, 1) := by decide +kernel
theorem dL_law_379 : decode cL_law 379 = .ok (.iadd, 1) := by decide +kernel
theorem dL_law_380 : decode cL_law 380 = .ok (.iaload, 1) := by decide +kernel
theorem dL_law_381 : decode cL_law 381 = .ok (.invokevirtual 53, 3) := by decide +kernel
theorem dL_law_384 : decode cL_law 384 = .ok (.if_icmp .eq 347, 3) := by decide +kernel
theorem dL_law_387 : decode cL_law 387 = .ok (.iconst 0, 1) := by decide +kernel
theorem dL_law_388 : decode cL_law 388 = .ok (.ireturn, 1) := by decide +kernel
theorem dL_law_389 : decode cL_law 389 = .ok (.aload_n 1, 1) := by decide +kernel
theorem dL_law_390 : decode cL_law 390 = .ok (.aload_n 0, 1) := by decide +kernel
theorem dL_law_391 : decode cL_law 391 = .ok (.iload_n 3, 1) := by decide +kernel
theorem dL_law_392 : decode cL_law 392 = .ok (.iconst 1, 1) := by decide +kernel
theorem dL_law_393 : decode cL_law 393 = .ok (.iadd, 1) := by decide +kernel
theorem dL_law_394 : decode cL_law 394 = .ok (.iaload, 1) := by decide +kernel
theorem dL_law_395 : decode cL_law 395 = .ok (.aload_n 0, 1) := by decide +kernel
theorem dL_law_396 : decode cL_law 396 = .ok (.iload_n 3, 1) := by decide +kernel
theorem dL_law_397 : decode cL_law 397 = .ok (.iconst 2, 1) := by decide +kernel
theorem dL_law_398 : decode cL_law 398 = .ok (.iadd, 1) := by decide +kernel
theorem dL_law_399 : decode cL_law 399 = .ok (.iaload, 1) := by decide +kernel
theorem dL_law_400 : decode cL_law 400 = .ok (.invokevirtual 54, 3) := by decide +kernel
theorem dL_law_403 : decode cL_law 403 = .ok (.aload_n 2, 1) := by decide +kernel
theorem dL_law_404 : decode cL_law 404 = .ok (.aload_n 0, 1) := by decide +kernel
theorem dL_law_405 : decode cL_law 405 = .ok (.iload_n 3, 1) := by decide +kernel
theorem dL_law_406 : decode cL_law 406 = .ok (.iconst 1, 1) := by decide +kernel
theorem dL_law_407 : decode cL_law 407 = .ok (.iadd, 1) := by decide +kernel
theorem dL_law_408 : decode cL_law 408 = .ok (.iaload, 1) := by decide +kernel
theorem dL_law_409 : decode cL_law 409 = .ok (.aload_n 0, 1) := by decide +kernel
theorem dL_law_410 : decode cL_law 410 = .ok (.iload_n 3, 1) := by decide +kernel
theorem dL_law_411 : decode cL_law 411 = .ok (.iconst 2, 1) := by decide +kernel
theorem dL_law_412 : decode cL_law 412 = .ok (.iadd, 1) := by decide +kernel
theorem dL_law_413 : decode cL_law 413 = .ok (.iaload, 1) := by decide +kernel
theorem dL_law_414 : decode cL_law 414 = .ok (.invokevirtual 57, 3) := by decide +kernel
theorem dL_law_417 : decode cL_law 417 = .ok (.if_icmp .eq 314, 3) := by decide +kernel
theorem dL_law_420 : decode cL_law 420 = .ok (.iconst 0, 1) := by decide +kernel
theorem dL_law_421 : decode cL_law 421 = .ok (.ireturn, 1) := by decide +kernel
theorem dL_law_422 : decode cL_law 422 = .ok (.aload_n 1, 1) := by decide +kernel
theorem dL_law_423 : decode cL_law 423 = .ok (.aload_n 0, 1) := by decide +kernel
theorem dL_law_424 : decode cL_law 424 = .ok (.iload_n 3, 1) := by decide +kernel
theorem dL_law_425 : decode cL_law 425 = .ok (.iconst 1, 1) := by decide +kernel
theorem dL_law_426 : decode cL_law 426 = .ok (.iadd, 1) := by decide +kernel
theorem dL_law_427 : decode cL_law 427 = .ok (.iaload, 1) := by decide +kernel
theorem dL_law_428 : decode cL_law 428 = .ok (.invokevirtual 58, 3) := by decide +kernel
theorem dL_law_431 : decode cL_law 431 = .ok (.aload_n 2, 1) := by decide +kernel
theorem dL_law_432 : decode cL_law 432 = .ok (.aload_n 0, 1) := by decide +kernel
theorem dL_law_433 : decode cL_law 433 = .ok (.iload_n 3, 1) := by decide +kernel
theorem dL_law_434 : decode cL_law 434 = .ok (.iconst 1, 1) := by decide +kernel
theorem dL_law_435 : decode cL_law 435 = .ok (.iadd, 1) := by decide +kernel
theorem dL_law_436 : decode cL_law 436 = .ok (.iaload, 1) := by decide +kernel
theorem dL_law_437 : decode cL_law 437 = .ok (.invokevirtual 61, 3) := by decide +kernel
theorem dL_law_440 : decode cL_law 440 = .ok (.if_icmp .eq 291, 3) := by decide +kernel
theorem dL_law_443 : decode cL_law 443 = .ok (.iconst 0, 1) := by decide +kernel
theorem dL_law_444 : decode cL_law 444 = .ok (.ireturn, 1) := by decide +kernel
theorem dL_law_445 : decode cL_law 445 = .ok (.aload_n 1, 1) := by decide +kernel
theorem dL_law_446 : decode cL_law 446 = .ok (.aload_n 0, 1) := by decide +kernel
theorem dL_law_447 : decode cL_law 447 = .ok (.iload_n 3, 1) := by decide +kernel
theorem dL_law_448 : decode cL_law 448 = .ok (.iconst 1, 1) := by decide +kernel
theorem dL_law_449 : decode cL_law 449 = .ok (.iadd, 1) := by decide +kernel
theorem dL_law_450 : decode cL_law 450 = .ok (.iaload, 1) := by decide +kernel
theorem dL_law_451 : decode cL_law 451 = .ok (.aload_n 0, 1) := by decide +kernel
theorem dL_law_452 : decode cL_law 452 = .ok (.iload_n 3, 1) := by decide +kernel
theorem dL_law_453 : decode cL_law 453 = .ok (.iconst 2, 1) := by decide +kernel
theorem dL_law_454 : decode cL_law 454 = .ok (.iadd, 1) := by decide +kernel
theorem dL_law_455 : decode cL_law 455 = .ok (.iaload, 1) := by decide +kernel
theorem dL_law_456 : decode cL_law 456 = .ok (.invokevirtual 62, 3) := by decide +kernel
theorem dL_law_459 : decode cL_law 459 = .ok (.aload_n 2, 1) := by decide +kernel
theorem dL_law_460 : decode cL_law 460 = .ok (.aload_n 0, 1) := by decide +kernel
theorem dL_law_461 : decode cL_law 461 = .ok (.iload_n 3, 1) := by decide +kernel
theorem dL_law_462 : decode cL_law 462 = .ok (.iconst 1, 1) := by decide +kernel
theorem dL_law_463 : decode cL_law 463 = .ok (.iadd, 1) := by decide +kernel
theorem dL_law_464 : decode cL_law 464 = .ok (.iaload, 1) := by decide +kernel
theorem dL_law_465 : decode cL_law 465 = .ok (.aload_n 0, 1) := by decide +kernel
theorem dL_law_466 : decode cL_law 466 = .ok (.iload_n 3, 1) := by decide +kernel
theorem dL_law_467 : decode cL_law 467 = .ok (.iconst 2, 1) := by decide +kernel
theorem dL_law_468 : decode cL_law 468 = .ok (.iadd, 1) := by decide +kernel
theorem dL_law_469 : decode cL_law 469 = .ok (.iaload, 1) := by decide +kernel
theorem dL_law_470 : decode cL_law 470 = .ok (.invokevirtual 65, 3) := by decide +kernel
theorem dL_law_473 : decode cL_law 473 = .ok (.if_icmp .eq 258, 3) := by decide +kernel
theorem dL_law_476 : decode cL_law 476 = .ok (.iconst 0, 1) := by decide +kernel
theorem dL_law_477 : decode cL_law 477 = .ok (.ireturn, 1) := by decide +kernel
theorem dL_law_478 : decode cL_law 478 = .ok (.aload_n 1, 1) := by decide +kernel
theorem dL_law_479 : decode cL_law 479 = .ok (.aload_n 0, 1) := by decide +kernel
theorem dL_law_480 : decode cL_law 480 = .ok (.iload_n 3, 1) := by decide +kernel
theorem dL_law_481 : decode cL_law 481 = .ok (.iconst 1, 1) := by decide +kernel
theorem dL_law_482 : decode cL_law 482 = .ok (.iadd, 1) := by decide +kernel
theorem dL_law_483 : decode cL_law 483 = .ok (.iaload, 1) := by decide +kernel
theorem dL_law_484 : decode cL_law 484 = .ok (.aload_n 0, 1) := by decide +kernel
theorem dL_law_485 : decode cL_law 485 = .ok (.iload_n 3, 1) := by decide +kernel
theorem dL_law_486 : decode cL_law 486 = .ok (.iconst 2, 1) := by decide +kernel
theorem dL_law_487 : decode cL_law 487 = .ok (.iadd, 1) := by decide +kernel
theorem dL_law_488 : decode cL_law 488 = .ok (.iaload, 1) := by decide +kernel
theorem dL_law_489 : decode cL_law 489 = .ok (.invokevirtual 66, 3) := by decide +kernel
theorem dL_law_492 : decode cL_law 492 = .ok (.aload_n 2, 1) := by decide +kernel
theorem dL_law_493 : decode cL_law 493 = .ok (.aload_n 0, 1) := by decide +kernel
theorem dL_law_494 : decode cL_law 494 = .ok (.iload_n 3, 1) := by decide +kernel
theorem dL_law_495 : decode cL_law 495 = .ok (.iconst 1, 1) := by decide +kernel
theorem dL_law_496 : decode cL_law 496 = .ok (.iadd, 1) := by decide +kernel
theorem dL_law_497 : decode cL_law 497 = .ok (.iaload, 1) := by decide +kernel
theorem dL_law_498 : decode cL_law 498 = .ok (.aload_n 0, 1) := by decide +kernel
theorem dL_law_499 : decode cL_law 499 = .ok (.iload_n 3, 1) := by decide +kernel
theorem dL_law_500 : decode cL_law 500 = .ok (.iconst 2, 1) := by decide +kernel
theorem dL_law_501 : decode cL_law 501 = .ok (.iadd, 1) := by decide +kernel
theorem dL_law_502 : decode cL_law 502 = .ok (.iaload, 1) := by decide +kernel
theorem dL_law_503 : decode cL_law 503 = .ok (.invokevirtual 70, 3) := by decide +kernel
theorem dL_law_506 : decode cL_law 506 = .ok (.lcmp, 1) := by decide +kernel
theorem dL_law_507 : decode cL_law 507 = .ok (.ifCond .eq 224, 3) := by decide +kernel
theorem dL_law_510 : decode cL_law 510 = .ok (.iconst 0, 1) := by decide +kernel
theorem dL_law_511 : decode cL_law 511 = .ok (.ireturn, 1) := by decide +kernel
theorem dL_law_512 : decode cL_law 512 = .ok (.aload_n 1, 1) := by decide +kernel
theorem dL_law_513 : decode cL_law 513 = .ok (.aload_n 0, 1) := by decide +kernel
theorem dL_law_514 : decode cL_law 514 = .ok (.iload_n 3, 1) := by decide +kernel
theorem dL_law_515 : decode cL_law 515 = .ok (.iconst 1, 1) := by decide +kernel
theorem dL_law_516 : decode cL_law 516 = .ok (.iadd, 1) := by decide +kernel
theorem dL_law_517 : decode cL_law 517 = .ok (.iaload, 1) := by decide +kernel
theorem dL_law_518 : decode cL_law 518 = .ok (.aload_n 0, 1) := by decide +kernel
theorem dL_law_519 : decode cL_law 519 = .ok (.iload_n 3, 1) := by decide +kernel
theorem dL_law_520 : decode cL_law 520 = .ok (.iconst 2, 1) := by decide +kernel
theorem dL_law_521 : decode cL_law 521 = .ok (.iadd, 1) := by decide +kernel
theorem dL_law_522 : decode cL_law 522 = .ok (.iaload, 1) := by decide +kernel
theorem dL_law_523 : decode cL_law 523 = .ok (.invokevirtual 71, 3) := by decide +kernel
theorem dL_law_526 : decode cL_law 526 = .ok (.aload_n 2, 1) := by decide +kernel
theorem dL_law_527 : decode cL_law 527 = .ok (.aload_n 0, 1) := by decide +kernel
theorem dL_law_528 : decode cL_law 528 = .ok (.iload_n 3, 1) := by decide +kernel
theorem dL_law_529 : decode cL_law 529 = .ok (.iconst 1, 1) := by decide +kernel
theorem dL_law_530 : decode cL_law 530 = .ok (.iadd, 1) := by decide +kernel
theorem dL_law_531 : decode cL_law 531 = .ok (.iaload, 1) := by decide +kernel
theorem dL_law_532 : decode cL_law 532 = .ok (.aload_n 0, 1) := by decide +kernel
theorem dL_law_533 : decode cL_law 533 = .ok (.iload_n 3, 1) := by decide +kernel
theorem dL_law_534 : decode cL_law 534 = .ok (.iconst 2, 1) := by decide +kernel
theorem dL_law_535 : decode cL_law 535 = .ok (.iadd, 1) := by decide +kernel
theorem dL_law_536 : decode cL_law 536 = .ok (.iaload, 1) := by decide +kernel
theorem dL_law_537 : decode cL_law 537 = .ok (.invokevirtual 74, 3) := by decide +kernel
theorem dL_law_540 : decode cL_law 540 = .ok (.lcmp, 1) := by decide +kernel
theorem dL_law_541 : decode cL_law 541 = .ok (.ifCond .eq 190, 3) := by decide +kernel
theorem dL_law_544 : decode cL_law 544 = .ok (.iconst 0, 1) := by decide +kernel
theorem dL_law_545 : decode cL_law 545 = .ok (.ireturn, 1) := by decide +kernel
theorem dL_law_546 : decode cL_law 546 = .ok (.aload_n 1, 1) := by decide +kernel
theorem dL_law_547 : decode cL_law 547 = .ok (.aload_n 0, 1) := by decide +kernel
theorem dL_law_548 : decode cL_law 548 = .ok (.iload_n 3, 1) := by decide +kernel
theorem dL_law_549 : decode cL_law 549 = .ok (.iconst 1, 1) := by decide +kernel
theorem dL_law_550 : decode cL_law 550 = .ok (.iadd, 1) := by decide +kernel
theorem dL_law_551 : decode cL_law 551 = .ok (.iaload, 1) := by decide +kernel
theorem dL_law_552 : decode cL_law 552 = .ok (.aload_n 0, 1) := by decide +kernel
theorem dL_law_553 : decode cL_law 553 = .ok (.iload_n 3, 1) := by decide +kernel
theorem dL_law_554 : decode cL_law 554 = .ok (.iconst 2, 1) := by decide +kernel
theorem dL_law_555 : decode cL_law 555 = .ok (.iadd, 1) := by decide +kernel
theorem dL_law_556 : decode cL_law 556 = .ok (.iaload, 1) := by decide +kernel
theorem dL_law_557 : decode cL_law 557 = .ok (.aload_n 0, 1) := by decide +kernel
theorem dL_law_558 : decode cL_law 558 = .ok (.iload_n 3, 1) := by decide +kernel
theorem dL_law_559 : decode cL_law 559 = .ok (.iconst 3, 1) := by decide +kernel
theorem dL_law_560 : decode cL_law 560 = .ok (.iadd, 1) := by decide +kernel
theorem dL_law_561 : decode cL_law 561 = .ok (.iaload, 1) := by decide +kernel
theorem dL_law_562 : decode cL_law 562 = .ok (.invokevirtual 75, 3) := by decide +kernel
theorem dL_law_565 : decode cL_law 565 = .ok (.aload_n 2, 1) := by decide +kernel
theorem dL_law_566 : decode cL_law 566 = .ok (.aload_n 0, 1) := by decide +kernel
theorem dL_law_567 : decode cL_law 567 = .ok (.iload_n 3, 1) := by decide +kernel
theorem dL_law_568 : decode cL_law 568 = .ok (.iconst 1, 1) := by decide +kernel
theorem dL_law_569 : decode cL_law 569 = .ok (.iadd, 1) := by decide +kernel
theorem dL_law_570 : decode cL_law 570 = .ok (.iaload, 1) := by decide +kernel
theorem dL_law_571 : decode cL_law 571 = .ok (.aload_n 0, 1) := by decide +kernel
theorem dL_law_572 : decode cL_law 572 = .ok (.iload_n 3, 1) := by decide +kernel
theorem dL_law_573 : decode cL_law 573 = .ok (.iconst 2, 1) := by decide +kernel
theorem dL_law_574 : decode cL_law 574 = .ok (.iadd, 1) := by decide +kernel
theorem dL_law_575 : decode cL_law 575 = .ok (.iaload, 1) := by decide +kernel
theorem dL_law_576 : decode cL_law 576 = .ok (.aload_n 0, 1) := by decide +kernel
theorem dL_law_577 : decode cL_law 577 = .ok (.iload_n 3, 1) := by decide +kernel
theorem dL_law_578 : decode cL_law 578 = .ok (.iconst 3, 1) := by decide +kernel
theorem dL_law_579 : decode cL_law 579 = .ok (.iadd, 1) := by decide +kernel
theorem dL_law_580 : decode cL_law 580 = .ok (.iaload, 1) := by decide +kernel
theorem dL_law_581 : decode cL_law 581 = .ok (.invokevirtual 79, 3) := by decide +kernel
theorem dL_law_584 : decode cL_law 584 = .ok (.lcmp, 1) := by decide +kernel
theorem dL_law_585 : decode cL_law 585 = .ok (.ifCond .eq 146, 3) := by decide +kernel
theorem dL_law_588 : decode cL_law 588 = .ok (.iconst 0, 1) := by decide +kernel
theorem dL_law_589 : decode cL_law 589 = .ok (.ireturn, 1) := by decide +kernel
theorem dL_law_590 : decode cL_law 590 = .ok (.aload_n 1, 1) := by decide +kernel
theorem dL_law_591 : decode cL_law 591 = .ok (.aload_n 0, 1) := by decide +kernel
theorem dL_law_592 : decode cL_law 592 = .ok (.iload_n 3, 1) := by decide +kernel
theorem dL_law_593 : decode cL_law 593 = .ok (.iconst 1, 1) := by decide +kernel
theorem dL_law_594 : decode cL_law 594 = .ok (.iadd, 1) := by decide +kernel
theorem dL_law_595 : decode cL_law 595 = .ok (.iaload, 1) := by decide +kernel
theorem dL_law_596 : decode cL_law 596 = .ok (.invokevirtual 80, 3) := by decide +kernel
theorem dL_law_599 : decode cL_law 599 = .ok (.aload_n 2, 1) := by decide +kernel
theorem dL_law_600 : decode cL_law 600 = .ok (.aload_n 0, 1) := by decide +kernel
theorem dL_law_601 : decode cL_law 601 = .ok (.iload_n 3, 1) := by decide +kernel
theorem dL_law_602 : decode cL_law 602 = .ok (.iconst 1, 1) := by decide +kernel
theorem dL_law_603 : decode cL_law 603 = .ok (.iadd, 1) := by decide +kernel
theorem dL_law_604 : decode cL_law 604 = .ok (.iaload, 1) := by decide +kernel
theorem dL_law_605 : decode cL_law 605 = .ok (.invokevirtual 83, 3) := by decide +kernel
theorem dL_law_608 : decode cL_law 608 = .ok (.if_icmp .eq 123, 3) := by decide +kernel
theorem dL_law_611 : decode cL_law 611 = .ok (.iconst 0, 1) := by decide +kernel
theorem dL_law_612 : decode cL_law 612 = .ok (.ireturn, 1) := by decide +kernel
theorem dL_law_613 : decode cL_law 613 = .ok (.aload_n 1, 1) := by decide +kernel
theorem dL_law_614 : decode cL_law 614 = .ok (.invokevirtual 84, 3) := by decide +kernel
theorem dL_law_617 : decode cL_law 617 = .ok (.aload_n 2, 1) := by decide +kernel
theorem dL_law_618 : decode cL_law 618 = .ok (.invokevirtual 87, 3) := by decide +kernel
theorem dL_law_621 : decode cL_law 621 = .ok (.if_icmp .eq 110, 3) := by decide +kernel
theorem dL_law_624 : decode cL_law 624 = .ok (.iconst 0, 1) := by decide +kernel
theorem dL_law_625 : decode cL_law 625 = .ok (.ireturn, 1) := by decide +kernel
theorem dL_law_626 : decode cL_law 626 = .ok (.aload_n 1, 1) := by decide +kernel
theorem dL_law_627 : decode cL_law 627 = .ok (.aload_n 0, 1) := by decide +kernel
theorem dL_law_628 : decode cL_law 628 = .ok (.iload_n 3, 1) := by decide +kernel
theorem dL_law_629 : decode cL_law 629 = .ok (.iconst 1, 1) := by decide +kernel
theorem dL_law_630 : decode cL_law 630 = .ok (.iadd, 1) := by decide +kernel
theorem dL_law_631 : decode cL_law 631 = .ok (.iaload, 1) := by decide +kernel
theorem dL_law_632 : decode cL_law 632 = .ok (.invokevirtual 88, 3) := by decide +kernel
theorem dL_law_635 : decode cL_law 635 = .ok (.aload_n 2, 1) := by decide +kernel
theorem dL_law_636 : decode cL_law 636 = .ok (.aload_n 0, 1) := by decide +kernel
theorem dL_law_637 : decode cL_law 637 = .ok (.iload_n 3, 1) := by decide +kernel
theorem dL_law_638 : decode cL_law 638 = .ok (.iconst 1, 1) := by decide +kernel
theorem dL_law_639 : decode cL_law 639 = .ok (.iadd, 1) := by decide +kernel
theorem dL_law_640 : decode cL_law 640 = .ok (.iaload, 1) := by decide +kernel
theorem dL_law_641 : decode cL_law 641 = .ok (.invokevirtual 91, 3) := by decide +kernel
theorem dL_law_644 : decode cL_law 644 = .ok (.if_icmp .eq 87, 3) := by decide +kernel
theorem dL_law_647 : decode cL_law 647 = .ok (.iconst 0, 1) := by decide +kernel
theorem dL_law_648 : decode cL_law 648 = .ok (.ireturn, 1) := by decide +kernel
theorem dL_law_649 : decode cL_law 649 = .ok (.aload_n 1, 1) := by decide +kernel
theorem dL_law_650 : decode cL_law 650 = .ok (.aload_n 0, 1) := by decide +kernel
theorem dL_law_651 : decode cL_law 651 = .ok (.iload_n 3, 1) := by decide +kernel
theorem dL_law_652 : decode cL_law 652 = .ok (.iconst 1, 1) := by decide +kernel
theorem dL_law_653 : decode cL_law 653 = .ok (.iadd, 1) := by decide +kernel
theorem dL_law_654 : decode cL_law 654 = .ok (.iaload, 1) := by decide +kernel
theorem dL_law_655 : decode cL_law 655 = .ok (.invokevirtual 92, 3) := by decide +kernel
theorem dL_law_658 : decode cL_law 658 = .ok (.aload_n 2, 1) := by decide +kernel
theorem dL_law_659 : decode cL_law 659 = .ok (.aload_n 0, 1) := by decide +kernel
theorem dL_law_660 : decode cL_law 660 = .ok (.iload_n 3, 1) := by decide +kernel
theorem dL_law_661 : decode cL_law 661 = .ok (.iconst 1, 1) := by decide +kernel
theorem dL_law_662 : decode cL_law 662 = .ok (.iadd, 1) := by decide +kernel
theorem dL_law_663 : decode cL_law 663 = .ok (.iaload, 1) := by decide +kernel
theorem dL_law_664 : decode cL_law 664 = .ok (.invokevirtual 95, 3) := by decide +kernel
theorem dL_law_667 : decode cL_law 667 = .ok (.if_icmp .eq 64, 3) := by decide +kernel
theorem dL_law_670 : decode cL_law 670 = .ok (.iconst 0, 1) := by decide +kernel
theorem dL_law_671 : decode cL_law 671 = .ok (.ireturn, 1) := by decide +kernel
theorem dL_law_672 : decode cL_law 672 = .ok (.aload_n 1, 1) := by decide +kernel
theorem dL_law_673 : decode cL_law 673 = .ok (.aload_n 0, 1) := by decide +kernel
theorem dL_law_674 : decode cL_law 674 = .ok (.iload_n 3, 1) := by decide +kernel
theorem dL_law_675 : decode cL_law 675 = .ok (.iconst 1, 1) := by decide +kernel
theorem dL_law_676 : decode cL_law 676 = .ok (.iadd, 1) := by decide +kernel
theorem dL_law_677 : decode cL_law 677 = .ok (.iaload, 1) := by decide +kernel
theorem dL_law_678 : decode cL_law 678 = .ok (.invokevirtual 96, 3) := by decide +kernel
theorem dL_law_681 : decode cL_law 681 = .ok (.aload_n 2, 1) := by decide +kernel
theorem dL_law_682 : decode cL_law 682 = .ok (.aload_n 0, 1) := by decide +kernel
theorem dL_law_683 : decode cL_law 683 = .ok (.iload_n 3, 1) := by decide +kernel
theorem dL_law_684 : decode cL_law 684 = .ok (.iconst 1, 1) := by decide +kernel
theorem dL_law_685 : decode cL_law 685 = .ok (.iadd, 1) := by decide +kernel
theorem dL_law_686 : decode cL_law 686 = .ok (.iaload, 1) := by decide +kernel
theorem dL_law_687 : decode cL_law 687 = .ok (.invokevirtual 99, 3) := by decide +kernel
theorem dL_law_690 : decode cL_law 690 = .ok (.if_icmp .eq 41, 3) := by decide +kernel
theorem dL_law_693 : decode cL_law 693 = .ok (.iconst 0, 1) := by decide +kernel
theorem dL_law_694 : decode cL_law 694 = .ok (.ireturn, 1) := by decide +kernel
theorem dL_law_695 : decode cL_law 695 = .ok (.aload_n 1, 1) := by decide +kernel
theorem dL_law_696 : decode cL_law 696 = .ok (.aload_n 0, 1) := by decide +kernel
theorem dL_law_697 : decode cL_law 697 = .ok (.iload_n 3, 1) := by decide +kernel
theorem dL_law_698 : decode cL_law 698 = .ok (.iconst 1, 1) := by decide +kernel
theorem dL_law_699 : decode cL_law 699 = .ok (.iadd, 1) := by decide +kernel
theorem dL_law_700 : decode cL_law 700 = .ok (.iaload, 1) := by decide +kernel
theorem dL_law_701 : decode cL_law 701 = .ok (.invokevirtual 100, 3) := by decide +kernel
theorem dL_law_704 : decode cL_law 704 = .ok (.aload_n 2, 1) := by decide +kernel
theorem dL_law_705 : decode cL_law 705 = .ok (.aload_n 0, 1) := by decide +kernel
theorem dL_law_706 : decode cL_law 706 = .ok (.iload_n 3, 1) := by decide +kernel
theorem dL_law_707 : decode cL_law 707 = .ok (.iconst 1, 1) := by decide +kernel
theorem dL_law_708 : decode cL_law 708 = .ok (.iadd, 1) := by decide +kernel
theorem dL_law_709 : decode cL_law 709 = .ok (.iaload, 1) := by decide +kernel
theorem dL_law_710 : decode cL_law 710 = .ok (.invokevirtual 103, 3) := by decide +kernel
theorem dL_law_713 : decode cL_law 713 = .ok (.if_icmp .eq 18, 3) := by decide +kernel
theorem dL_law_716 : decode cL_law 716 = .ok (.iconst 0, 1) := by decide +kernel
theorem dL_law_717 : decode cL_law 717 = .ok (.ireturn, 1) := by decide +kernel
theorem dL_law_718 : decode cL_law 718 = .ok (.aload_n 1, 1) := by decide +kernel
theorem dL_law_719 : decode cL_law 719 = .ok (.invokevirtual 104, 3) := by decide +kernel
theorem dL_law_722 : decode cL_law 722 = .ok (.aload_n 2, 1) := by decide +kernel
theorem dL_law_723 : decode cL_law 723 = .ok (.invokevirtual 107, 3) := by decide +kernel
theorem dL_law_726 : decode cL_law 726 = .ok (.if_icmp .eq 5, 3) := by decide +kernel
theorem dL_law_729 : decode cL_law 729 = .ok (.iconst 0, 1) := by decide +kernel
theorem dL_law_730 : decode cL_law 730 = .ok (.ireturn, 1) := by decide +kernel
theorem dL_law_731 : decode cL_law 731 = .ok (.iinc 3 4, 3) := by decide +kernel
theorem dL_law_734 : decode cL_law 734 = .ok (.goto (-716), 3) := by decide +kernel
theorem dL_law_737 : decode cL_law 737 = .ok (.iconst 1, 1) := by decide +kernel
theorem dL_law_738 : decode cL_law 738 = .ok (.ireturn, 1) := by decide +kernel
abbrev vwCl : List vw_C := [(RX0, TX0, 2), (RX1, TX1, 3), (RX2, TX2, 3), (RX3, TX3, 9), (RX4, TX4, 13), (RX5, TX5, 7), (RX6, TX6, 5), (RX7, TX7, 17)]
end
section
/-! ===== Wp: from a frame with these values over a small heap of numbered cells the method comes to its end ===== -/
def wl_gw : List Cond := lw_tbl.filter goodWord
def wl_ws (y : MethodName) (cc : ByteArray) (nL : Nat) (ret : Option FieldType) : List Cond := .code y cc nL ret :: wl_gw
theorem wl_gw_good {w : Cond} (h : w ∈ wl_gw) : goodWord w = true := (List.mem_filter.mp h).2
theorem wl_gw_in {w : Cond} (h : w ∈ wl_gw) : w ∈ lw_tbl := (List.mem_filter.mp h).1
theorem wl_good {y : MethodName} {cc : ByteArray} {nL : Nat} {ret : Option FieldType} (hc : Cond.code y cc nL ret ∈ wl_gw) : GoodIn wl_gw (wl_ws y cc nL ret) := by
  intro w hw
  rcases List.mem_cons.mp hw with rfl | h
  · exact ⟨hc, good_of_word (wl_gw_good hc)⟩
  · exact ⟨h, good_of_word (wl_gw_good h)⟩
theorem wl_good1 {w : Cond} (h : w ∈ wl_gw) : w ∈ wl_gw ∧ ((w.onTables && w.keeps) = true ∨ ∃ ty, w = .arrayClass ty) := ⟨h, good_of_word (wl_gw_good h)⟩
abbrev wl_G : Type := Nat × Nat × (Nat → Int32) × Nat × Nat × va_G
abbrev wl_Lk : Type := List (Nat × ClassId)
abbrev wl_H : Type := List va_E
def wl_ad (G : wl_G) (lk : wl_Lk) (i : Nat) : Nat := if i < 1000 then (lk.getD i (0, 0)).1 else if i = 1000 then G.1 else if i = 1001 then G.2.2.2.1 else G.2.2.2.2.1
def wl_tv (G : wl_G) (lk : wl_Lk) (v : Value) : Value := match v with
  | .ref i => .ref (wl_ad G lk i)
  | v => v
theorem wl_tv_cat (G : wl_G) (lk : wl_Lk) (v : Value) : (wl_tv G lk v).category = v.category := by cases v <;> rfl
def wl_ty (tg : Nat) : FieldType := match tg with
  | 0 => .int
  | 1 => .long
  | 2 => .boolean
  | 3 => .array .int
  | _ => .array .long
def wl_cell (G : wl_G) (lk : wl_Lk) (a : Nat × ClassId) (e : va_E) : Nat × va_E := (a.1, match e with
  | .inl (_, n, .inl f) => .inl (a.2, n, .inl f)
  | .inl (_, n, .inr (.inl f)) => .inl (a.2, n, .inr (.inl f))
  | .inl (_, n, .inr (.inr (.inl f))) => .inl (a.2, n, .inr (.inr (.inl f)))
  | .inl (_, n, .inr (.inr (.inr (.inl f)))) => .inl (a.2, n, .inr (.inr (.inr (.inl f))))
  | .inl (_, n, .inr (.inr (.inr (.inr f)))) => .inl (a.2, n, .inr (.inr (.inr (.inr (fun j => (f j).map (wl_ad G lk))))))
  | .inr (ci, fs) => .inr (ci, fs.map (wl_tv G lk)))
def wl_conc (G : wl_G) (lk : wl_Lk) (mh : wl_H) : va_W := List.zipWith (wl_cell G lk) lk mh
theorem wl_conc_get {G : wl_G} {lk : wl_Lk} {mh : wl_H} (hl : lk.length = mh.length) {q : Nat} {e : va_E} (h : mh[q]? = some e) : ∃ a, lk[q]? = some a ∧ (wl_conc G lk mh)[q]? = some (wl_cell G lk a e) := by
  have h1 : q < mh.length := (List.getElem?_eq_some_iff.mp h).1
  have h2 : q < lk.length := by omega
  refine ⟨lk[q], List.getElem?_eq_getElem h2, ?_⟩
  rw [wl_conc, List.getElem?_zipWith, List.getElem?_eq_getElem h2, h]
theorem wl_conc_inv {G : wl_G} {lk : wl_Lk} {mh : wl_H} {k : Nat} {x : Nat × va_E} (h : (wl_conc G lk mh)[k]? = some x) : ∃ a e, lk[k]? = some a ∧ mh[k]? = some e ∧ x = wl_cell G lk a e := by
  rw [wl_conc, List.getElem?_zipWith] at h
  cases h1 : lk[k]? with
  | none => rw [h1] at h; cases h
  | some a =>
    cases h2 : mh[k]? with
    | none => rw [h1, h2] at h; cases h
    | some e => rw [h1, h2] at h; exact ⟨a, e, rfl, rfl, (Option.some.inj h).symm⟩
theorem wl_conc_set {G : wl_G} {lk : wl_Lk} {mh : wl_H} {q : Nat} {a : Nat × ClassId} {e0 e : va_E} (ha : lk[q]? = some a) (h0 : mh[q]? = some e0) : (wl_conc G lk mh).set q (wl_cell G lk a e) = wl_conc G lk (mh.set q e) := by
  have h1 : q < mh.length := (List.getElem?_eq_some_iff.mp h0).1
  have h2 : q < lk.length := (List.getElem?_eq_some_iff.mp ha).1
  apply List.ext_getElem?
  intro j
  by_cases hj : q = j
  · subst hj
    rw [List.getElem?_set_self (by rw [wl_conc, List.length_zipWith]; omega), wl_conc, List.getElem?_zipWith, ha, List.getElem?_set_self h1]
  · rw [List.getElem?_set_ne hj, wl_conc, wl_conc, List.getElem?_zipWith, List.getElem?_zipWith, List.getElem?_set_ne hj]
def wl_D (A : Nat → Prop) (lk : wl_Lk) : Prop := (∀ (i j : Nat) (a b : Nat × ClassId), lk[i]? = some a → lk[j]? = some b → a.1 = b.1 → i = j) ∧ ∀ (i : Nat) (a : Nat × ClassId), lk[i]? = some a → A a.1
theorem wl_D.va {A : Nat → Prop} {lk : wl_Lk} (h : wl_D A lk) (G : wl_G) (mh : wl_H) : va_D A (wl_conc G lk mh) := by
  refine ⟨fun i j x y hi hj hxy => ?_, fun k x hk => ?_⟩
  · obtain ⟨a, e, h1, -, rfl⟩ := wl_conc_inv hi
    obtain ⟨b, f, h2, -, rfl⟩ := wl_conc_inv hj
    exact h.1 i j a b h1 h2 hxy
  · obtain ⟨a, e, h1, -, rfl⟩ := wl_conc_inv hk
    exact h.2 k a h1
def wl_Ty (lk : wl_Lk) (mh : wl_H) (U : State) : Prop := ∀ (i : Nat) (a : Nat × ClassId) (tg : Nat) (z : vp_A), lk[i]? = some a → mh[i]? = some (.inl (tg, z)) → ArrOfT U a.2 (wl_ty tg) ∧ va_RA U a.2 (wl_ty tg)
theorem wl_Ty.moved {lk : wl_Lk} {mh : wl_H} {u U : State} (hvm : u.vm.Alike U.vm) (h : wl_Ty lk mh u) : wl_Ty lk mh U := fun i a tg z h1 h2 => ⟨arrOfT_moved hvm (h i a tg z h1 h2).1, (h i a tg z h1 h2).2.moved hvm⟩
theorem wl_Ty.set {lk : wl_Lk} {mh : wl_H} {U : State} (h : wl_Ty lk mh U) {q tg : Nat} {z z' : vp_A} (h0 : mh[q]? = some (.inl (tg, z))) : wl_Ty lk (mh.set q (.inl (tg, z'))) U := by
  intro i a tg' z2 h1 h2
  by_cases hj : q = i
  · subst hj
    rw [List.getElem?_set_self (List.getElem?_eq_some_iff.mp h0).1] at h2
    cases h2
    exact h q a tg z h1 h0
  · rw [List.getElem?_set_ne hj] at h2
    exact h i a tg' z2 h1 h2
theorem wl_Ty.seto {lk : wl_Lk} {mh : wl_H} {U : State} (h : wl_Ty lk mh U) {q : Nat} {o : Nat × List Value} : wl_Ty lk (mh.set q (.inr o)) U := by
  intro i a tg' z2 h1 h2
  by_cases hj : q = i
  · subst hj
    by_cases hl : q < mh.length
    · rw [List.getElem?_set_self hl] at h2
      cases h2
    · rw [List.getElem?_eq_none (by rw [List.length_set]; omega)] at h2
      cases h2
  · rw [List.getElem?_set_ne hj] at h2
    exact h i a tg' z2 h1 h2
/-- the nest's links, as the tables have them -/
def wl_Nst (U : State) : Prop := ∀ (a : String) (i : Nat) (x : MethodName) (h : String), Cond.methodLinkNest a i x h ∈ lw_tbl → va_Nw (.methodLinkNest a i x h) U
def wl_lr (k : Nat) : Value := .int (([1, 1, 0] : List Int32).getD k 0)
def wl_gr (k : Nat) : Value := .int (([4, 8, 100] : List Int32).getD k 0)
/-- what stays over every call: the classes, the nest, the two tables, the script -/
def wl_K (G : wl_G) (A : Nat → Prop) (U : State) (H : Heap) : Prop := va_K G.2.2.2.2.2 vwCl [] U ∧ wl_Nst U ∧ (va_Z "PeerMarks" "LEAST_RULE" "[I" (.ref G.2.2.2.1) A U H ∧ va_T .int G.2.2.2.1 3 wl_lr A U H) ∧ (va_Z "PeerMarks" "GREATEST_RULE" "[I" (.ref G.2.2.2.2.1) A U H ∧ va_T .int G.2.2.2.2.1 3 wl_gr A U H) ∧ va_X G.1 G.2.1 G.2.2.1 U H ∧ G.1 < H.size ∧ ¬ A G.1
theorem wl_K.warm {G : wl_G} {A : Nat → Prop} {s U : State} {H : Heap} (hW : s.WarmedH U.vm) (h : wl_K G A s H) : wl_K G A U H := by
  obtain ⟨h1, h2, ⟨h3, h4⟩, ⟨h5, h6⟩, h7, h8⟩ := h
  exact ⟨va_K.moved hW.alike h1, fun a i x h hm => va_Nw.warmM hW (h2 a i x h hm), ⟨h3.moved hW.alike, h4.moved hW.alike⟩, ⟨h5.moved hW.alike, h6.moved hW.alike⟩, h7.moved hW.alike, h8⟩
theorem wl_K.same {G : wl_G} {A : Nat → Prop} {s U : State} {H : Heap} (hv : s.vm = U.vm) (h : wl_K G A s H) : wl_K G A U H := by
  obtain ⟨h1, h2, ⟨h3, h4⟩, ⟨h5, h6⟩, h7, h8⟩ := h
  have hW : s.vm.Alike U.vm := hv ▸ Vm.Alike.refl s.vm
  exact ⟨va_K.moved hW h1, fun a i x h hm => va_Nw.same rfl hv (h2 a i x h hm), ⟨h3.moved hW, h4.moved hW⟩, ⟨h5.moved hW, h6.moved hW⟩, h7.moved hW, h8⟩
theorem wl_K.kept {G : wl_G} {A B : Nat → Prop} {s : State} {H H1 : Heap} (h : wl_K G A s H) (hz : H.size ≤ H1.size) (hq : ∀ q : Nat, q < H.size → ¬ A q → H1[q]? = H[q]?) (hAB : ∀ q, B q → A q) : wl_K G B s H1 := by
  obtain ⟨h1, h2, ⟨h3, h4⟩, ⟨h5, h6⟩, h7, h8, h9⟩ := h
  exact ⟨h1, h2, ⟨(h3.kept hq).narrow hAB, (h4.kept hq).narrow hAB⟩, ⟨(h5.kept hq).narrow hAB, (h6.kept hq).narrow hAB⟩, h7.kept (hq _ h8 h9), Nat.lt_of_lt_of_le h8 hz, fun z => h9 (hAB _ z)⟩
/-- the frame's locals: a list, .retAddr where nothing is known -/
def wl_du (v : Value) : Bool := match v with
  | .retAddr _ => true
  | _ => false
def wl_pairs (l : List Value) : List (Nat × Value) := (l.zipIdx.filter (fun x => !wl_du x.1)).map (fun x => (x.2, x.1))
theorem wl_pairs_mem {l : List Value} {i : Nat} {v : Value} : (i, v) ∈ wl_pairs l ↔ l[i]? = some v ∧ wl_du v = false := by
  rw [wl_pairs, List.mem_map]
  constructor
  · rintro ⟨⟨u, j⟩, h1, h2⟩
    cases h2
    obtain ⟨h3, h4⟩ := List.mem_filter.mp h1
    exact ⟨List.mem_zipIdx_iff_getElem?.mp h3, by simpa using h4⟩
  · rintro ⟨h1, h2⟩
    exact ⟨(v, i), List.mem_filter.mpr ⟨List.mem_zipIdx_iff_getElem?.mpr h1, by simp [h2]⟩, rfl⟩
def wl_L (G : wl_G) (lk : wl_Lk) (nL : Nat) (Ls : List Value) (ls : Array Slot) : Prop := lv_has ls nL (wl_pairs (Ls.map (wl_tv G lk)))
theorem wl_du_tv (G : wl_G) (lk : wl_Lk) (v : Value) : wl_du (wl_tv G lk v) = wl_du v := by cases v <;> rfl
theorem wl_L.get {G : wl_G} {lk : wl_Lk} {nL : Nat} {Ls : List Value} {ls : Array Slot} (h : wl_L G lk nL Ls ls) {i : Nat} {v : Value} (hv : Ls[i]? = some v) (hd : wl_du v = false) : ls[i]? = some (.val (wl_tv G lk v)) :=
  h.2.2 (i, wl_tv G lk v) (wl_pairs_mem.mpr ⟨by rw [List.getElem?_map, hv]; rfl, by rw [wl_du_tv]; exact hd⟩)
def wl_cl (Ls : List Value) (i : Nat) : List Value := match i with
  | 0 => Ls
  | j + 1 => match Ls[j]? with
    | some u => if u.category = 2 then Ls.set j (.retAddr 0) else Ls
    | none => Ls
def wl_st1 (Ls : List Value) (i : Nat) (v : Value) : List Value := (wl_cl Ls i).set i v
def wl_st2 (Ls : List Value) (i : Nat) (v : Value) : List Value := ((wl_cl Ls i).set i v).set (i + 1) (.retAddr 0)
theorem wl_cl_get {Ls : List Value} {i j : Nat} {u : Value} (hj : j ≠ i) (h : (wl_cl Ls i)[j]? = some u) (hd : wl_du u = false) : Ls[j]? = some u ∧ ¬ (j + 1 = i ∧ u.category = 2) := by
  cases i with
  | zero => exact ⟨h, fun q => by omega⟩
  | succ k =>
    unfold wl_cl at h
    cases hk : Ls[k]? with
    | none =>
      simp only [hk] at h
      refine ⟨h, fun q => ?_⟩
      have e : j = k := by omega
      subst e
      rw [hk] at h
      cases h
    | some x =>
      simp only [hk] at h
      by_cases hc : x.category = 2
      · rw [if_pos hc] at h
        by_cases e : j = k
        · subst e
          rw [List.getElem?_set_self (List.getElem?_eq_some_iff.mp hk).1] at h
          cases h
          cases hd
        · rw [List.getElem?_set_ne (fun z => e z.symm)] at h
          exact ⟨h, fun q => e (by omega)⟩
      · rw [if_neg hc] at h
        refine ⟨h, fun q => ?_⟩
        have e : j = k := by omega
        subst e
        rw [hk] at h
        cases h
        exact hc q.2
theorem wl_st1_ok {G : wl_G} {lk : wl_Lk} {nL : Nat} {Ls : List Value} {ls' : Array Slot} {i : Nat} {v : Value} (h : lv_has ls' nL ((i, wl_tv G lk v) :: (wl_pairs (Ls.map (wl_tv G lk))).filter (fun q => !(q.1 == i) && !(q.1 + 1 == i && q.2.category == 2)))) : wl_L G lk nL (wl_st1 Ls i v) ls' := by
  refine ⟨h.1, h.2.1, fun q hq => h.2.2 q ?_⟩
  obtain ⟨j, w⟩ := q
  obtain ⟨h1, h2⟩ := wl_pairs_mem.mp hq
  rw [List.getElem?_map] at h1
  cases hu : (wl_st1 Ls i v)[j]? with
  | none => rw [hu] at h1; cases h1
  | some u =>
    rw [hu] at h1
    have e : w = wl_tv G lk u := (Option.some.inj h1).symm
    subst e
    rw [wl_du_tv] at h2
    by_cases hj : j = i
    · subst hj
      unfold wl_st1 at hu
      have hl : j < (wl_cl Ls j).length := by
        have := (List.getElem?_eq_some_iff.mp hu).1
        rw [List.length_set] at this
        exact this
      rw [List.getElem?_set_self hl] at hu
      cases hu
      exact List.mem_cons_self
    · unfold wl_st1 at hu
      rw [List.getElem?_set_ne (fun z => hj z.symm)] at hu
      obtain ⟨g1, g2⟩ := wl_cl_get hj hu h2
      refine List.mem_cons_of_mem _ (List.mem_filter.mpr ⟨wl_pairs_mem.mpr ⟨by rw [List.getElem?_map, g1]; rfl, by rw [wl_du_tv]; exact h2⟩, ?_⟩)
      simp only [wl_tv_cat, Bool.and_eq_true, Bool.not_eq_true', beq_eq_false_iff_ne, ne_eq, Bool.and_eq_false_iff]
      refine ⟨hj, ?_⟩
      by_cases z : j + 1 = i
      · exact Or.inr (fun z2 => g2 ⟨z, z2⟩)
      · exact Or.inl z
theorem wl_st2_ok {G : wl_G} {lk : wl_Lk} {nL : Nat} {Ls : List Value} {ls' : Array Slot} {i : Nat} {v : Value} (h : lv_has ls' nL ((i, wl_tv G lk v) :: (wl_pairs (Ls.map (wl_tv G lk))).filter (fun q => !(q.1 == i) && (!(q.1 == i + 1) && !(q.1 + 1 == i && q.2.category == 2))))) : wl_L G lk nL (wl_st2 Ls i v) ls' := by
  refine ⟨h.1, h.2.1, fun q hq => h.2.2 q ?_⟩
  obtain ⟨j, w⟩ := q
  obtain ⟨h1, h2⟩ := wl_pairs_mem.mp hq
  rw [List.getElem?_map] at h1
  cases hu : (wl_st2 Ls i v)[j]? with
  | none => rw [hu] at h1; cases h1
  | some u =>
    rw [hu] at h1
    have e : w = wl_tv G lk u := (Option.some.inj h1).symm
    subst e
    rw [wl_du_tv] at h2
    unfold wl_st2 at hu
    by_cases hj2 : j = i + 1
    · subst hj2
      by_cases hl : i + 1 < ((wl_cl Ls i).set i v).length
      · rw [List.getElem?_set_self hl] at hu
        cases hu
        cases h2
      · rw [List.getElem?_eq_none (by rw [List.length_set]; omega)] at hu
        cases hu
    rw [List.getElem?_set_ne (fun z => hj2 z.symm)] at hu
    by_cases hj : j = i
    · subst hj
      have hl : j < (wl_cl Ls j).length := by
        have := (List.getElem?_eq_some_iff.mp hu).1
        rw [List.length_set] at this
        exact this
      rw [List.getElem?_set_self hl] at hu
      cases hu
      exact List.mem_cons_self
    · rw [List.getElem?_set_ne (fun z => hj z.symm)] at hu
      obtain ⟨g1, g2⟩ := wl_cl_get hj hu h2
      refine List.mem_cons_of_mem _ (List.mem_filter.mpr ⟨wl_pairs_mem.mpr ⟨by rw [List.getElem?_map, g1]; rfl, by rw [wl_du_tv]; exact h2⟩, ?_⟩)
      simp only [wl_tv_cat, Bool.and_eq_true, Bool.not_eq_true', beq_eq_false_iff_ne, ne_eq, Bool.and_eq_false_iff]
      refine ⟨hj, hj2, ?_⟩
      by_cases z : j + 1 = i
      · exact Or.inr (fun z2 => g2 ⟨z, z2⟩)
      · exact Or.inl z
/-- fewer values known of the frame -/
theorem wl_L.less {G : wl_G} {lk : wl_Lk} {nL : Nat} {Ls Ms : List Value} {ls : Array Slot} (h : wl_L G lk nL Ls ls) (hm : ∀ (i : Nat) (v : Value), Ms[i]? = some v → wl_du v = false → Ls[i]? = some v) : wl_L G lk nL Ms ls := by
  refine ⟨h.1, h.2.1, fun q hq => h.2.2 q ?_⟩
  obtain ⟨j, w⟩ := q
  obtain ⟨h1, h2⟩ := wl_pairs_mem.mp hq
  rw [List.getElem?_map] at h1
  cases hu : Ms[j]? with
  | none => rw [hu] at h1; cases h1
  | some u =>
    rw [hu] at h1
    have e : w = wl_tv G lk u := (Option.some.inj h1).symm
    subst e
    rw [wl_du_tv] at h2
    exact wl_pairs_mem.mpr ⟨by rw [List.getElem?_map, hm j u hu h2]; rfl, by rw [wl_du_tv]; exact h2⟩
def wl_lessb : List Value → List Value → Bool
  | [], _ => true
  | _ :: _, [] => false
  | a :: l, b :: m => (wl_du a || decide (a = b)) && wl_lessb l m
def wl_C (G : wl_G) (A : Nat → Prop) (p : Program) (s : State) (m : MethodId) (args : Array Value) (meth : Method) (c : Code) (cc : ByteArray) (own : String) (nL : Nat) : Prop := p.tables.exec = Jvm.exec ∧ c.code = cc ∧ c.maxLocals = nL ∧ s.vm.findClass own = some m.cls ∧ (∀ w ∈ wl_gw, w.before args s = true) ∧ wl_K G A s s.heap ∧ (∀ q, s.heap.size ≤ q → A q) ∧ meth.locks = false
def wl_R (G : wl_G) (lk : wl_Lk) (A : Nat → Prop) (s : State) (mh : wl_H) (H : Heap) (locs : List Loc) : Prop := lk.length = mh.length ∧ mh.length ≤ 1000 ∧ va_P G.2.2.2.2.2 vwCl (wl_conc G lk mh) H ∧ wl_D A lk ∧ va_S A s.heap H locs ∧ wl_Ty lk mh s
abbrev wl_Fn : Type := wl_G → wl_Lk → (Nat → Prop) → Program → Launch → Env → Room → State → MethodId → Array Value → List Frame → Method → Code → Nat → Nat → (State → Prop) → Prop
def Wp (cc : ByteArray) (own : String) (nL : Nat) (R : Room) (Fn : wl_Fn) (pc : Nat) (Ls stk : List Value) (mh : wl_H) : Prop :=
  ∀ (G : wl_G) (lk : wl_Lk) (A : Nat → Prop) (p : Program) (l : Launch) (e : Env) (s : State) (m : MethodId) (args : Array Value) (below : List Frame) (meth : Method) (c : Code) (kc ks : Nat) (Z : State → Prop),
    wl_C G A p s m args meth c cc own nL → Fn G lk A p l e R s m args below meth c kc ks Z → kc ≤ R.cells ∧ ks ≤ R.slots → ∀ (H : Heap) (locs : List Loc) (ls : Array Slot), wl_R G lk A s mh H locs → wl_L G lk nL Ls ls → W p l e R s m args below meth c H locs kc ks Z (F0 m pc ls (stk.map (wl_tv G lk)))
section WPR
variable {cc : ByteArray} {own : String} {nL : Nat} {R : Room} {Fn : wl_Fn} {pc : Nat} {Ls rest : List Value} {mh : wl_H}
theorem wp_less {Ms : List Value} (hm : ∀ (i : Nat) (v : Value), Ms[i]? = some v → wl_du v = false → Ls[i]? = some v) (k : Wp cc own nL R Fn pc Ms rest mh) : Wp cc own nL R Fn pc Ls rest mh :=
  fun G lk A p l e s m args below meth c kc ks Z hC hF hk H locs ls hR hL => k G lk A p l e s m args below meth c kc ks Z hC hF hk H locs ls hR (hL.less hm)
theorem wp_mh {mh' : wl_H} (h : mh = mh') (k : Wp cc own nL R Fn pc Ls rest mh') : Wp cc own nL R Fn pc Ls rest mh := h ▸ k

theorem wp_iconst {n : Int} {v : Int32} (hd : decode cc pc = .ok (.iconst n, 1)) (hv : Int32.ofInt n = v) (kk : Wp cc own nL R Fn (pc + 1) Ls (.int v :: rest) mh) : Wp cc own nL R Fn pc Ls (rest) mh :=
  fun G lk A p l e s m args below meth c kc ks Z hC hF hk H locs ls hR hL => lv_iconst hC.1 hC.2.1 hd hv (kk G lk A p l e s m args below meth c kc ks Z hC hF hk H locs ls hR hL)
theorem wp_bipush {n : Int} {v : Int32} (hd : decode cc pc = .ok (.bipush n, 2)) (hv : (Int8.ofInt n).toInt32 = v) (kk : Wp cc own nL R Fn (pc + 2) Ls (.int v :: rest) mh) : Wp cc own nL R Fn pc Ls (rest) mh :=
  fun G lk A p l e s m args below meth c kc ks Z hC hF hk H locs ls hR hL => lv_bipush hC.1 hC.2.1 hd hv (kk G lk A p l e s m args below meth c kc ks Z hC hF hk H locs ls hR hL)
theorem wp_sipush {n : Int} {v : Int32} (hd : decode cc pc = .ok (.sipush n, 3)) (hv : (Int16.ofInt n).toInt32 = v) (kk : Wp cc own nL R Fn (pc + 3) Ls (.int v :: rest) mh) : Wp cc own nL R Fn pc Ls (rest) mh :=
  fun G lk A p l e s m args below meth c kc ks Z hC hF hk H locs ls hR hL => lv_sipush hC.1 hC.2.1 hd hv (kk G lk A p l e s m args below meth c kc ks Z hC hF hk H locs ls hR hL)
theorem wp_lconst {n : Fin 2} {v : Int64} (hd : decode cc pc = .ok (.lconst n, 1)) (hv : Int64.ofNat (n : Nat) = v) (kk : Wp cc own nL R Fn (pc + 1) Ls (.long v :: rest) mh) : Wp cc own nL R Fn pc Ls (rest) mh :=
  fun G lk A p l e s m args below meth c kc ks Z hC hF hk H locs ls hR hL => lv_lconst hC.1 hC.2.1 hd hv (kk G lk A p l e s m args below meth c kc ks Z hC hF hk H locs ls hR hL)
theorem wp_iadd {x y : Int32} (hd : decode cc pc = .ok (.iadd, 1)) (kk : Wp cc own nL R Fn (pc + 1) Ls (.int (x + y) :: rest) mh) : Wp cc own nL R Fn pc Ls (.int y :: .int x :: rest) mh :=
  fun G lk A p l e s m args below meth c kc ks Z hC hF hk H locs ls hR hL => lv_iadd hC.1 hC.2.1 hd (kk G lk A p l e s m args below meth c kc ks Z hC hF hk H locs ls hR hL)
theorem wp_isub {x y : Int32} (hd : decode cc pc = .ok (.isub, 1)) (kk : Wp cc own nL R Fn (pc + 1) Ls (.int (x - y) :: rest) mh) : Wp cc own nL R Fn pc Ls (.int y :: .int x :: rest) mh :=
  fun G lk A p l e s m args below meth c kc ks Z hC hF hk H locs ls hR hL => lv_isub hC.1 hC.2.1 hd (kk G lk A p l e s m args below meth c kc ks Z hC hF hk H locs ls hR hL)
theorem wp_imul {x y : Int32} (hd : decode cc pc = .ok (.imul, 1)) (kk : Wp cc own nL R Fn (pc + 1) Ls (.int (x * y) :: rest) mh) : Wp cc own nL R Fn pc Ls (.int y :: .int x :: rest) mh :=
  fun G lk A p l e s m args below meth c kc ks Z hC hF hk H locs ls hR hL => lv_imul hC.1 hC.2.1 hd (kk G lk A p l e s m args below meth c kc ks Z hC hF hk H locs ls hR hL)
theorem wp_iand {x y : Int32} (hd : decode cc pc = .ok (.iand, 1)) (kk : Wp cc own nL R Fn (pc + 1) Ls (.int (x &&& y) :: rest) mh) : Wp cc own nL R Fn pc Ls (.int y :: .int x :: rest) mh :=
  fun G lk A p l e s m args below meth c kc ks Z hC hF hk H locs ls hR hL => lv_iand hC.1 hC.2.1 hd (kk G lk A p l e s m args below meth c kc ks Z hC hF hk H locs ls hR hL)
theorem wp_ior {x y : Int32} (hd : decode cc pc = .ok (.ior, 1)) (kk : Wp cc own nL R Fn (pc + 1) Ls (.int (x ||| y) :: rest) mh) : Wp cc own nL R Fn pc Ls (.int y :: .int x :: rest) mh :=
  fun G lk A p l e s m args below meth c kc ks Z hC hF hk H locs ls hR hL => lv_ior hC.1 hC.2.1 hd (kk G lk A p l e s m args below meth c kc ks Z hC hF hk H locs ls hR hL)
theorem wp_ixor {x y : Int32} (hd : decode cc pc = .ok (.ixor, 1)) (kk : Wp cc own nL R Fn (pc + 1) Ls (.int (x ^^^ y) :: rest) mh) : Wp cc own nL R Fn pc Ls (.int y :: .int x :: rest) mh :=
  fun G lk A p l e s m args below meth c kc ks Z hC hF hk H locs ls hR hL => lv_ixor hC.1 hC.2.1 hd (kk G lk A p l e s m args below meth c kc ks Z hC hF hk H locs ls hR hL)
theorem wp_ishl {x y : Int32} (hd : decode cc pc = .ok (.ishl, 1)) (kk : Wp cc own nL R Fn (pc + 1) Ls (.int (x <<< (y &&& 31)) :: rest) mh) : Wp cc own nL R Fn pc Ls (.int y :: .int x :: rest) mh :=
  fun G lk A p l e s m args below meth c kc ks Z hC hF hk H locs ls hR hL => lv_ishl hC.1 hC.2.1 hd (kk G lk A p l e s m args below meth c kc ks Z hC hF hk H locs ls hR hL)
theorem wp_ishr {x y : Int32} (hd : decode cc pc = .ok (.ishr, 1)) (kk : Wp cc own nL R Fn (pc + 1) Ls (.int (x >>> (y &&& 31)) :: rest) mh) : Wp cc own nL R Fn pc Ls (.int y :: .int x :: rest) mh :=
  fun G lk A p l e s m args below meth c kc ks Z hC hF hk H locs ls hR hL => lv_ishr hC.1 hC.2.1 hd (kk G lk A p l e s m args below meth c kc ks Z hC hF hk H locs ls hR hL)
theorem wp_iushr {x y : Int32} (hd : decode cc pc = .ok (.iushr, 1)) (kk : Wp cc own nL R Fn (pc + 1) Ls (.int ((x.toUInt32 >>> (y.toUInt32 &&& Int32.toUInt32 31)).toInt32) :: rest) mh) : Wp cc own nL R Fn pc Ls (.int y :: .int x :: rest) mh :=
  fun G lk A p l e s m args below meth c kc ks Z hC hF hk H locs ls hR hL => lv_iushr hC.1 hC.2.1 hd rfl (kk G lk A p l e s m args below meth c kc ks Z hC hF hk H locs ls hR hL)
theorem wp_idiv {x y : Int32} (hd : decode cc pc = .ok (.idiv, 1)) (hne : ¬ y = 0) (kk : Wp cc own nL R Fn (pc + 1) Ls (.int (x / y) :: rest) mh) : Wp cc own nL R Fn pc Ls (.int y :: .int x :: rest) mh :=
  fun G lk A p l e s m args below meth c kc ks Z hC hF hk H locs ls hR hL => lv_idiv hC.1 hC.2.1 hd hne (kk G lk A p l e s m args below meth c kc ks Z hC hF hk H locs ls hR hL)
theorem wp_irem {x y : Int32} (hd : decode cc pc = .ok (.irem, 1)) (hne : ¬ y = 0) (kk : Wp cc own nL R Fn (pc + 1) Ls (.int (x - x / y * y) :: rest) mh) : Wp cc own nL R Fn pc Ls (.int y :: .int x :: rest) mh :=
  fun G lk A p l e s m args below meth c kc ks Z hC hF hk H locs ls hR hL => lv_irem hC.1 hC.2.1 hd hne (kk G lk A p l e s m args below meth c kc ks Z hC hF hk H locs ls hR hL)
theorem wp_ineg {x : Int32} (hd : decode cc pc = .ok (.ineg, 1)) (kk : Wp cc own nL R Fn (pc + 1) Ls (.int (-x) :: rest) mh) : Wp cc own nL R Fn pc Ls (.int x :: rest) mh :=
  fun G lk A p l e s m args below meth c kc ks Z hC hF hk H locs ls hR hL => lv_ineg hC.1 hC.2.1 hd (kk G lk A p l e s m args below meth c kc ks Z hC hF hk H locs ls hR hL)
theorem wp_ladd {x y : Int64} (hd : decode cc pc = .ok (.ladd, 1)) (kk : Wp cc own nL R Fn (pc + 1) Ls (.long (x + y) :: rest) mh) : Wp cc own nL R Fn pc Ls (.long y :: .long x :: rest) mh :=
  fun G lk A p l e s m args below meth c kc ks Z hC hF hk H locs ls hR hL => lv_ladd hC.1 hC.2.1 hd (kk G lk A p l e s m args below meth c kc ks Z hC hF hk H locs ls hR hL)
theorem wp_lsub {x y : Int64} (hd : decode cc pc = .ok (.lsub, 1)) (kk : Wp cc own nL R Fn (pc + 1) Ls (.long (x - y) :: rest) mh) : Wp cc own nL R Fn pc Ls (.long y :: .long x :: rest) mh :=
  fun G lk A p l e s m args below meth c kc ks Z hC hF hk H locs ls hR hL => lv_lsub hC.1 hC.2.1 hd (kk G lk A p l e s m args below meth c kc ks Z hC hF hk H locs ls hR hL)
theorem wp_lmul {x y : Int64} (hd : decode cc pc = .ok (.lmul, 1)) (kk : Wp cc own nL R Fn (pc + 1) Ls (.long (x * y) :: rest) mh) : Wp cc own nL R Fn pc Ls (.long y :: .long x :: rest) mh :=
  fun G lk A p l e s m args below meth c kc ks Z hC hF hk H locs ls hR hL => lv_lmul hC.1 hC.2.1 hd (kk G lk A p l e s m args below meth c kc ks Z hC hF hk H locs ls hR hL)
theorem wp_land {x y : Int64} (hd : decode cc pc = .ok (.land, 1)) (kk : Wp cc own nL R Fn (pc + 1) Ls (.long (x &&& y) :: rest) mh) : Wp cc own nL R Fn pc Ls (.long y :: .long x :: rest) mh :=
  fun G lk A p l e s m args below meth c kc ks Z hC hF hk H locs ls hR hL => lv_land hC.1 hC.2.1 hd (kk G lk A p l e s m args below meth c kc ks Z hC hF hk H locs ls hR hL)
theorem wp_ldiv {x y : Int64} (hd : decode cc pc = .ok (.ldiv, 1)) (hne : ¬ y = 0) (kk : Wp cc own nL R Fn (pc + 1) Ls (.long (x / y) :: rest) mh) : Wp cc own nL R Fn pc Ls (.long y :: .long x :: rest) mh :=
  fun G lk A p l e s m args below meth c kc ks Z hC hF hk H locs ls hR hL => lv_ldiv hC.1 hC.2.1 hd hne (kk G lk A p l e s m args below meth c kc ks Z hC hF hk H locs ls hR hL)
theorem wp_lrem {x y : Int64} (hd : decode cc pc = .ok (.lrem, 1)) (hne : ¬ y = 0) (kk : Wp cc own nL R Fn (pc + 1) Ls (.long (x - x / y * y) :: rest) mh) : Wp cc own nL R Fn pc Ls (.long y :: .long x :: rest) mh :=
  fun G lk A p l e s m args below meth c kc ks Z hC hF hk H locs ls hR hL => lv_lrem hC.1 hC.2.1 hd hne (kk G lk A p l e s m args below meth c kc ks Z hC hF hk H locs ls hR hL)
theorem wp_lneg {x : Int64} (hd : decode cc pc = .ok (.lneg, 1)) (kk : Wp cc own nL R Fn (pc + 1) Ls (.long (-x) :: rest) mh) : Wp cc own nL R Fn pc Ls (.long x :: rest) mh :=
  fun G lk A p l e s m args below meth c kc ks Z hC hF hk H locs ls hR hL => lv_lneg hC.1 hC.2.1 hd (kk G lk A p l e s m args below meth c kc ks Z hC hF hk H locs ls hR hL)
theorem wp_lshl {x : Int64} {y : Int32} (hd : decode cc pc = .ok (.lshl, 1)) (kk : Wp cc own nL R Fn (pc + 1) Ls (.long (x <<< (y.toInt64 &&& 63)) :: rest) mh) : Wp cc own nL R Fn pc Ls (.int y :: .long x :: rest) mh :=
  fun G lk A p l e s m args below meth c kc ks Z hC hF hk H locs ls hR hL => lv_lshl hC.1 hC.2.1 hd rfl (kk G lk A p l e s m args below meth c kc ks Z hC hF hk H locs ls hR hL)
theorem wp_lshr {x : Int64} {y : Int32} (hd : decode cc pc = .ok (.lshr, 1)) (kk : Wp cc own nL R Fn (pc + 1) Ls (.long (x >>> (y.toInt64 &&& 63)) :: rest) mh) : Wp cc own nL R Fn pc Ls (.int y :: .long x :: rest) mh :=
  fun G lk A p l e s m args below meth c kc ks Z hC hF hk H locs ls hR hL => lv_lshr hC.1 hC.2.1 hd rfl (kk G lk A p l e s m args below meth c kc ks Z hC hF hk H locs ls hR hL)
theorem wp_i2l {x : Int32} (hd : decode cc pc = .ok (.i2l, 1)) (kk : Wp cc own nL R Fn (pc + 1) Ls (.long x.toInt64 :: rest) mh) : Wp cc own nL R Fn pc Ls (.int x :: rest) mh :=
  fun G lk A p l e s m args below meth c kc ks Z hC hF hk H locs ls hR hL => lv_i2l hC.1 hC.2.1 hd rfl (kk G lk A p l e s m args below meth c kc ks Z hC hF hk H locs ls hR hL)
theorem wp_l2i {x : Int64} (hd : decode cc pc = .ok (.l2i, 1)) (kk : Wp cc own nL R Fn (pc + 1) Ls (.int x.toInt32 :: rest) mh) : Wp cc own nL R Fn pc Ls (.long x :: rest) mh :=
  fun G lk A p l e s m args below meth c kc ks Z hC hF hk H locs ls hR hL => lv_l2i hC.1 hC.2.1 hd rfl (kk G lk A p l e s m args below meth c kc ks Z hC hF hk H locs ls hR hL)
theorem wp_lcmp {x y : Int64} (hd : decode cc pc = .ok (.lcmp, 1)) (kk : Wp cc own nL R Fn (pc + 1) Ls (.int (lg_cmp x y) :: rest) mh) : Wp cc own nL R Fn pc Ls (.long y :: .long x :: rest) mh :=
  fun G lk A p l e s m args below meth c kc ks Z hC hF hk H locs ls hR hL => W.lcmp hC.1 hC.2.1 hd (kk G lk A p l e s m args below meth c kc ks Z hC hF hk H locs ls hR hL)
theorem wp_dup {va : Value} (hd : decode cc pc = .ok (.dup, 1)) (hc : va.category = 1) (kk : Wp cc own nL R Fn (pc + 1) Ls (va :: va :: rest) mh) : Wp cc own nL R Fn pc Ls (va :: rest) mh :=
  fun G lk A p l e s m args below meth c kc ks Z hC hF hk H locs ls hR hL => lv_dup hC.1 hC.2.1 hd (by rw [wl_tv_cat]; exact hc) (kk G lk A p l e s m args below meth c kc ks Z hC hF hk H locs ls hR hL)
theorem wp_pop {va : Value} (hd : decode cc pc = .ok (.pop, 1)) (hc : va.category = 1) (kk : Wp cc own nL R Fn (pc + 1) Ls rest mh) : Wp cc own nL R Fn pc Ls (va :: rest) mh :=
  fun G lk A p l e s m args below meth c kc ks Z hC hF hk H locs ls hR hL => lv_pop hC.1 hC.2.1 hd (by rw [wl_tv_cat]; exact hc) (kk G lk A p l e s m args below meth c kc ks Z hC hF hk H locs ls hR hL)
theorem wp_dup2 {va vb : Value} (hd : decode cc pc = .ok (.dup2, 1)) (hc : va.category = 1) (hc2 : vb.category = 1) (kk : Wp cc own nL R Fn (pc + 1) Ls (va :: vb :: va :: vb :: rest) mh) : Wp cc own nL R Fn pc Ls (va :: vb :: rest) mh :=
  fun G lk A p l e s m args below meth c kc ks Z hC hF hk H locs ls hR hL => lv_dup2_11 hC.1 hC.2.1 hd (by rw [wl_tv_cat]; exact hc) (by rw [wl_tv_cat]; exact hc2) (kk G lk A p l e s m args below meth c kc ks Z hC hF hk H locs ls hR hL)
theorem wp_iload_n {k : Fin 4} {i : Nat} {x : Int32} (hd : decode cc pc = .ok (.iload_n k, 1)) (hi : (k : Nat) = i) (hl : Ls[i]? = some (.int x)) (kk : Wp cc own nL R Fn (pc + 1) Ls (.int x :: rest) mh) : Wp cc own nL R Fn pc Ls rest mh :=
  fun G lk A p l e s m args below meth c kc ks Z hC hF hk H locs ls hR hL => lv_iload_n hC.1 hC.2.1 hd hi (hL.get hl rfl) (kk G lk A p l e s m args below meth c kc ks Z hC hF hk H locs ls hR hL)
theorem wp_iload {i : Nat} {x : Int32} (hd : decode cc pc = .ok (.iload i, 2)) (hl : Ls[i]? = some (.int x)) (kk : Wp cc own nL R Fn (pc + 2) Ls (.int x :: rest) mh) : Wp cc own nL R Fn pc Ls rest mh :=
  fun G lk A p l e s m args below meth c kc ks Z hC hF hk H locs ls hR hL => lv_iload hC.1 hC.2.1 hd (hL.get hl rfl) (kk G lk A p l e s m args below meth c kc ks Z hC hF hk H locs ls hR hL)
theorem wp_lload_n {k : Fin 4} {i : Nat} {x : Int64} (hd : decode cc pc = .ok (.lload_n k, 1)) (hi : (k : Nat) = i) (hl : Ls[i]? = some (.long x)) (kk : Wp cc own nL R Fn (pc + 1) Ls (.long x :: rest) mh) : Wp cc own nL R Fn pc Ls rest mh :=
  fun G lk A p l e s m args below meth c kc ks Z hC hF hk H locs ls hR hL => lv_lload_n hC.1 hC.2.1 hd hi (hL.get hl rfl) (kk G lk A p l e s m args below meth c kc ks Z hC hF hk H locs ls hR hL)
theorem wp_lload {i : Nat} {x : Int64} (hd : decode cc pc = .ok (.lload i, 2)) (hl : Ls[i]? = some (.long x)) (kk : Wp cc own nL R Fn (pc + 2) Ls (.long x :: rest) mh) : Wp cc own nL R Fn pc Ls rest mh :=
  fun G lk A p l e s m args below meth c kc ks Z hC hF hk H locs ls hR hL => lv_lload hC.1 hC.2.1 hd (hL.get hl rfl) (kk G lk A p l e s m args below meth c kc ks Z hC hF hk H locs ls hR hL)
theorem wp_aload_n {k : Fin 4} {i : Nat} {x : Nat} (hd : decode cc pc = .ok (.aload_n k, 1)) (hi : (k : Nat) = i) (hl : Ls[i]? = some (.ref x)) (kk : Wp cc own nL R Fn (pc + 1) Ls (.ref x :: rest) mh) : Wp cc own nL R Fn pc Ls rest mh :=
  fun G lk A p l e s m args below meth c kc ks Z hC hF hk H locs ls hR hL => lv_aload_n hC.1 hC.2.1 hd hi (hL.get hl rfl) (kk G lk A p l e s m args below meth c kc ks Z hC hF hk H locs ls hR hL)
theorem wp_aload {i : Nat} {x : Nat} (hd : decode cc pc = .ok (.aload i, 2)) (hl : Ls[i]? = some (.ref x)) (kk : Wp cc own nL R Fn (pc + 2) Ls (.ref x :: rest) mh) : Wp cc own nL R Fn pc Ls rest mh :=
  fun G lk A p l e s m args below meth c kc ks Z hC hF hk H locs ls hR hL => lv_aload hC.1 hC.2.1 hd (hL.get hl rfl) (kk G lk A p l e s m args below meth c kc ks Z hC hF hk H locs ls hR hL)
theorem wp_istore_n {k : Fin 4} {i : Nat} {x : Int32} {Ms : List Value} (hd : decode cc pc = .ok (.istore_n k, 1)) (hi : (k : Nat) = i) (hn : i < nL) (hm : wl_st1 Ls i (.int x) = Ms) (kk : Wp cc own nL R Fn (pc + 1) Ms rest mh) : Wp cc own nL R Fn pc Ls (.int x :: rest) mh :=
  fun G lk A p l e s m args below meth c kc ks Z hC hF hk H locs ls hR hL => lv_istore_n hC.1 hC.2.1 hd hi hL hn rfl (fun ls' hl' => kk G lk A p l e s m args below meth c kc ks Z hC hF hk H locs ls' hR (hm ▸ wl_st1_ok (v := .int x) hl'))
theorem wp_istore {i : Nat} {x : Int32} {Ms : List Value} (hd : decode cc pc = .ok (.istore i, 2)) (hn : i < nL) (hm : wl_st1 Ls i (.int x) = Ms) (kk : Wp cc own nL R Fn (pc + 2) Ms rest mh) : Wp cc own nL R Fn pc Ls (.int x :: rest) mh :=
  fun G lk A p l e s m args below meth c kc ks Z hC hF hk H locs ls hR hL => lv_istore hC.1 hC.2.1 hd hL hn rfl (fun ls' hl' => kk G lk A p l e s m args below meth c kc ks Z hC hF hk H locs ls' hR (hm ▸ wl_st1_ok (v := .int x) hl'))
theorem wp_lstore_n {k : Fin 4} {i : Nat} {x : Int64} {Ms : List Value} (hd : decode cc pc = .ok (.lstore_n k, 1)) (hi : (k : Nat) = i) (hn : i + 1 < nL) (hm : wl_st2 Ls i (.long x) = Ms) (kk : Wp cc own nL R Fn (pc + 1) Ms rest mh) : Wp cc own nL R Fn pc Ls (.long x :: rest) mh :=
  fun G lk A p l e s m args below meth c kc ks Z hC hF hk H locs ls hR hL => lv_lstore_n hC.1 hC.2.1 hd hi hL hn rfl (fun ls' hl' => kk G lk A p l e s m args below meth c kc ks Z hC hF hk H locs ls' hR (hm ▸ wl_st2_ok (v := .long x) hl'))
theorem wp_lstore {i : Nat} {x : Int64} {Ms : List Value} (hd : decode cc pc = .ok (.lstore i, 2)) (hn : i + 1 < nL) (hm : wl_st2 Ls i (.long x) = Ms) (kk : Wp cc own nL R Fn (pc + 2) Ms rest mh) : Wp cc own nL R Fn pc Ls (.long x :: rest) mh :=
  fun G lk A p l e s m args below meth c kc ks Z hC hF hk H locs ls hR hL => lv_lstore hC.1 hC.2.1 hd hL hn rfl (fun ls' hl' => kk G lk A p l e s m args below meth c kc ks Z hC hF hk H locs ls' hR (hm ▸ wl_st2_ok (v := .long x) hl'))
theorem wp_astore_n {k : Fin 4} {i : Nat} {x : Nat} {Ms : List Value} (hd : decode cc pc = .ok (.astore_n k, 1)) (hi : (k : Nat) = i) (hn : i < nL) (hm : wl_st1 Ls i (.ref x) = Ms) (kk : Wp cc own nL R Fn (pc + 1) Ms rest mh) : Wp cc own nL R Fn pc Ls (.ref x :: rest) mh :=
  fun G lk A p l e s m args below meth c kc ks Z hC hF hk H locs ls hR hL => lv_astore_n hC.1 hC.2.1 hd hi hL hn rfl (fun ls' hl' => kk G lk A p l e s m args below meth c kc ks Z hC hF hk H locs ls' hR (hm ▸ wl_st1_ok (v := .ref x) hl'))
theorem wp_astore {i : Nat} {x : Nat} {Ms : List Value} (hd : decode cc pc = .ok (.astore i, 2)) (hn : i < nL) (hm : wl_st1 Ls i (.ref x) = Ms) (kk : Wp cc own nL R Fn (pc + 2) Ms rest mh) : Wp cc own nL R Fn pc Ls (.ref x :: rest) mh :=
  fun G lk A p l e s m args below meth c kc ks Z hC hF hk H locs ls hR hL => lv_astore hC.1 hC.2.1 hd hL hn rfl (fun ls' hl' => kk G lk A p l e s m args below meth c kc ks Z hC hF hk H locs ls' hR (hm ▸ wl_st1_ok (v := .ref x) hl'))
theorem wp_iinc {i : Nat} {n : Int} {x v : Int32} {Ms : List Value} (hd : decode cc pc = .ok (.iinc i n, 3)) (hl : Ls[i]? = some (.int x)) (hv : x + Int32.ofInt n = v) (hn : i < nL) (hm : wl_st1 Ls i (.int v) = Ms) (kk : Wp cc own nL R Fn (pc + 3) Ms rest mh) : Wp cc own nL R Fn pc Ls rest mh := by
  intro G lk A p l e s m args below meth c kc ks Z hC hF hk H locs ls hR hL
  have hmem : (i, Value.int x) ∈ wl_pairs (Ls.map (wl_tv G lk)) := wl_pairs_mem.mpr ⟨by rw [List.getElem?_map, hl]; rfl, rfl⟩
  obtain ⟨k, hk9⟩ := List.getElem?_of_mem hmem
  exact lv_iinc hC.1 hC.2.1 hd hL hk9 hv hn rfl (fun ls' hl' => kk G lk A p l e s m args below meth c kc ks Z hC hF hk H locs ls' hR (hm ▸ wl_st1_ok (v := .int v) hl'))
theorem wp_goto {off : Int} {tgt : Nat} (hd : decode cc pc = .ok (.goto off, 3)) (ht : (pc : Int) + off = (tgt : Int)) (kk : Wp cc own nL R Fn tgt Ls rest mh) : Wp cc own nL R Fn pc Ls rest mh :=
  fun G lk A p l e s m args below meth c kc ks Z hC hF hk H locs ls hR hL => lv_goto hC.1 hC.2.1 hd ht (kk G lk A p l e s m args below meth c kc ks Z hC hF hk H locs ls hR hL)
theorem wp_if_eq {x : Int32} {off : Int} {tgt : Nat} (hd : decode cc pc = .ok (.ifCond .eq off, 3)) (ht : (pc : Int) + off = (tgt : Int)) (kt : x = 0 → Wp cc own nL R Fn tgt Ls rest mh) (kf : ¬ x = 0 → Wp cc own nL R Fn (pc + 3) Ls rest mh) : Wp cc own nL R Fn pc Ls (.int x :: rest) mh :=
  fun G lk A p l e s m args below meth c kc ks Z hC hF hk H locs ls hR hL => lv_if_eq hC.1 hC.2.1 hd ht (fun h => kt h G lk A p l e s m args below meth c kc ks Z hC hF hk H locs ls hR hL) (fun h => kf h G lk A p l e s m args below meth c kc ks Z hC hF hk H locs ls hR hL)
theorem wp_icmp_eq {x y : Int32} {off : Int} {tgt : Nat} (hd : decode cc pc = .ok (.if_icmp .eq off, 3)) (ht : (pc : Int) + off = (tgt : Int)) (kt : x = y → Wp cc own nL R Fn tgt Ls rest mh) (kf : ¬ x = y → Wp cc own nL R Fn (pc + 3) Ls rest mh) : Wp cc own nL R Fn pc Ls (.int y :: .int x :: rest) mh :=
  fun G lk A p l e s m args below meth c kc ks Z hC hF hk H locs ls hR hL => lv_icmp_eq hC.1 hC.2.1 hd ht (fun h => kt h G lk A p l e s m args below meth c kc ks Z hC hF hk H locs ls hR hL) (fun h => kf h G lk A p l e s m args below meth c kc ks Z hC hF hk H locs ls hR hL)
theorem wp_if_ne {x : Int32} {off : Int} {tgt : Nat} (hd : decode cc pc = .ok (.ifCond .ne off, 3)) (ht : (pc : Int) + off = (tgt : Int)) (kt : ¬ x = 0 → Wp cc own nL R Fn tgt Ls rest mh) (kf : x = 0 → Wp cc own nL R Fn (pc + 3) Ls rest mh) : Wp cc own nL R Fn pc Ls (.int x :: rest) mh :=
  fun G lk A p l e s m args below meth c kc ks Z hC hF hk H locs ls hR hL => lv_if_ne hC.1 hC.2.1 hd ht (fun h => kt h G lk A p l e s m args below meth c kc ks Z hC hF hk H locs ls hR hL) (fun h => kf h G lk A p l e s m args below meth c kc ks Z hC hF hk H locs ls hR hL)
theorem wp_icmp_ne {x y : Int32} {off : Int} {tgt : Nat} (hd : decode cc pc = .ok (.if_icmp .ne off, 3)) (ht : (pc : Int) + off = (tgt : Int)) (kt : ¬ x = y → Wp cc own nL R Fn tgt Ls rest mh) (kf : x = y → Wp cc own nL R Fn (pc + 3) Ls rest mh) : Wp cc own nL R Fn pc Ls (.int y :: .int x :: rest) mh :=
  fun G lk A p l e s m args below meth c kc ks Z hC hF hk H locs ls hR hL => lv_icmp_ne hC.1 hC.2.1 hd ht (fun h => kt h G lk A p l e s m args below meth c kc ks Z hC hF hk H locs ls hR hL) (fun h => kf h G lk A p l e s m args below meth c kc ks Z hC hF hk H locs ls hR hL)
theorem wp_if_lt {x : Int32} {off : Int} {tgt : Nat} (hd : decode cc pc = .ok (.ifCond .lt off, 3)) (ht : (pc : Int) + off = (tgt : Int)) (kt : x < 0 → Wp cc own nL R Fn tgt Ls rest mh) (kf : ¬ x < 0 → Wp cc own nL R Fn (pc + 3) Ls rest mh) : Wp cc own nL R Fn pc Ls (.int x :: rest) mh :=
  fun G lk A p l e s m args below meth c kc ks Z hC hF hk H locs ls hR hL => lv_if_lt hC.1 hC.2.1 hd ht (fun h => kt h G lk A p l e s m args below meth c kc ks Z hC hF hk H locs ls hR hL) (fun h => kf h G lk A p l e s m args below meth c kc ks Z hC hF hk H locs ls hR hL)
theorem wp_icmp_lt {x y : Int32} {off : Int} {tgt : Nat} (hd : decode cc pc = .ok (.if_icmp .lt off, 3)) (ht : (pc : Int) + off = (tgt : Int)) (kt : x < y → Wp cc own nL R Fn tgt Ls rest mh) (kf : ¬ x < y → Wp cc own nL R Fn (pc + 3) Ls rest mh) : Wp cc own nL R Fn pc Ls (.int y :: .int x :: rest) mh :=
  fun G lk A p l e s m args below meth c kc ks Z hC hF hk H locs ls hR hL => lv_icmp_lt hC.1 hC.2.1 hd ht (fun h => kt h G lk A p l e s m args below meth c kc ks Z hC hF hk H locs ls hR hL) (fun h => kf h G lk A p l e s m args below meth c kc ks Z hC hF hk H locs ls hR hL)
theorem wp_if_ge {x : Int32} {off : Int} {tgt : Nat} (hd : decode cc pc = .ok (.ifCond .ge off, 3)) (ht : (pc : Int) + off = (tgt : Int)) (kt : 0 ≤ x → Wp cc own nL R Fn tgt Ls rest mh) (kf : ¬ 0 ≤ x → Wp cc own nL R Fn (pc + 3) Ls rest mh) : Wp cc own nL R Fn pc Ls (.int x :: rest) mh :=
  fun G lk A p l e s m args below meth c kc ks Z hC hF hk H locs ls hR hL => lv_if_ge hC.1 hC.2.1 hd ht (fun h => kt h G lk A p l e s m args below meth c kc ks Z hC hF hk H locs ls hR hL) (fun h => kf h G lk A p l e s m args below meth c kc ks Z hC hF hk H locs ls hR hL)
theorem wp_icmp_ge {x y : Int32} {off : Int} {tgt : Nat} (hd : decode cc pc = .ok (.if_icmp .ge off, 3)) (ht : (pc : Int) + off = (tgt : Int)) (kt : y ≤ x → Wp cc own nL R Fn tgt Ls rest mh) (kf : ¬ y ≤ x → Wp cc own nL R Fn (pc + 3) Ls rest mh) : Wp cc own nL R Fn pc Ls (.int y :: .int x :: rest) mh :=
  fun G lk A p l e s m args below meth c kc ks Z hC hF hk H locs ls hR hL => lv_icmp_ge hC.1 hC.2.1 hd ht (fun h => kt h G lk A p l e s m args below meth c kc ks Z hC hF hk H locs ls hR hL) (fun h => kf h G lk A p l e s m args below meth c kc ks Z hC hF hk H locs ls hR hL)
theorem wp_if_gt {x : Int32} {off : Int} {tgt : Nat} (hd : decode cc pc = .ok (.ifCond .gt off, 3)) (ht : (pc : Int) + off = (tgt : Int)) (kt : 0 < x → Wp cc own nL R Fn tgt Ls rest mh) (kf : ¬ 0 < x → Wp cc own nL R Fn (pc + 3) Ls rest mh) : Wp cc own nL R Fn pc Ls (.int x :: rest) mh :=
  fun G lk A p l e s m args below meth c kc ks Z hC hF hk H locs ls hR hL => lv_if_gt hC.1 hC.2.1 hd ht (fun h => kt h G lk A p l e s m args below meth c kc ks Z hC hF hk H locs ls hR hL) (fun h => kf h G lk A p l e s m args below meth c kc ks Z hC hF hk H locs ls hR hL)
theorem wp_icmp_gt {x y : Int32} {off : Int} {tgt : Nat} (hd : decode cc pc = .ok (.if_icmp .gt off, 3)) (ht : (pc : Int) + off = (tgt : Int)) (kt : y < x → Wp cc own nL R Fn tgt Ls rest mh) (kf : ¬ y < x → Wp cc own nL R Fn (pc + 3) Ls rest mh) : Wp cc own nL R Fn pc Ls (.int y :: .int x :: rest) mh :=
  fun G lk A p l e s m args below meth c kc ks Z hC hF hk H locs ls hR hL => lv_icmp_gt hC.1 hC.2.1 hd ht (fun h => kt h G lk A p l e s m args below meth c kc ks Z hC hF hk H locs ls hR hL) (fun h => kf h G lk A p l e s m args below meth c kc ks Z hC hF hk H locs ls hR hL)
theorem wp_if_le {x : Int32} {off : Int} {tgt : Nat} (hd : decode cc pc = .ok (.ifCond .le off, 3)) (ht : (pc : Int) + off = (tgt : Int)) (kt : x ≤ 0 → Wp cc own nL R Fn tgt Ls rest mh) (kf : ¬ x ≤ 0 → Wp cc own nL R Fn (pc + 3) Ls rest mh) : Wp cc own nL R Fn pc Ls (.int x :: rest) mh :=
  fun G lk A p l e s m args below meth c kc ks Z hC hF hk H locs ls hR hL => lv_if_le hC.1 hC.2.1 hd ht (fun h => kt h G lk A p l e s m args below meth c kc ks Z hC hF hk H locs ls hR hL) (fun h => kf h G lk A p l e s m args below meth c kc ks Z hC hF hk H locs ls hR hL)
theorem wp_icmp_le {x y : Int32} {off : Int} {tgt : Nat} (hd : decode cc pc = .ok (.if_icmp .le off, 3)) (ht : (pc : Int) + off = (tgt : Int)) (kt : x ≤ y → Wp cc own nL R Fn tgt Ls rest mh) (kf : ¬ x ≤ y → Wp cc own nL R Fn (pc + 3) Ls rest mh) : Wp cc own nL R Fn pc Ls (.int y :: .int x :: rest) mh :=
  fun G lk A p l e s m args below meth c kc ks Z hC hF hk H locs ls hR hL => lv_icmp_le hC.1 hC.2.1 hd ht (fun h => kt h G lk A p l e s m args below meth c kc ks Z hC hF hk H locs ls hR hL) (fun h => kf h G lk A p l e s m args below meth c kc ks Z hC hF hk H locs ls hR hL)
theorem wp_ldc {index : Nat} {v : Int32} (hd : decode cc pc = .ok (.ldc index, 2)) (hw : Cond.constant own index v ∈ wl_gw) (kk : Wp cc own nL R Fn (pc + 2) Ls (.int v :: rest) mh) : Wp cc own nL R Fn pc Ls rest mh :=
  fun G lk A p l e s m args below meth c kc ks Z hC hF hk H locs ls hR hL => lv_ldc hC.1 hC.2.1 hC.2.2.2.1 (hC.2.2.2.2.1 _ hw) hd (kk G lk A p l e s m args below meth c kc ks Z hC hF hk H locs ls hR hL)
theorem wp_ldcw {index : Nat} {v : Int32} (hd : decode cc pc = .ok (.ldc_w index, 3)) (hw : Cond.constant own index v ∈ wl_gw) (kk : Wp cc own nL R Fn (pc + 3) Ls (.int v :: rest) mh) : Wp cc own nL R Fn pc Ls rest mh :=
  fun G lk A p l e s m args below meth c kc ks Z hC hF hk H locs ls hR hL => lv_ldcw hC.1 hC.2.1 hC.2.2.2.1 (hC.2.2.2.2.1 _ hw) hd (kk G lk A p l e s m args below meth c kc ks Z hC hF hk H locs ls hR hL)
theorem wp_ldc2 {index : Nat} {v : Int64} (hd : decode cc pc = .ok (.ldc2_w index, 3)) (hw : Cond.constantLong own index v ∈ wl_gw) (kk : Wp cc own nL R Fn (pc + 3) Ls (.long v :: rest) mh) : Wp cc own nL R Fn pc Ls rest mh :=
  fun G lk A p l e s m args below meth c kc ks Z hC hF hk H locs ls hR hL => lv_ldc2 hC.1 hC.2.1 hC.2.2.2.1 (hC.2.2.2.2.1 _ hw) hd (kk G lk A p l e s m args below meth c kc ks Z hC hF hk H locs ls hR hL)
end WPR
end
section
theorem wl_ad_eq {G : wl_G} {lk : wl_Lk} {q : Nat} {a : Nat × ClassId} (h : lk[q]? = some a) (hq : q < 1000) : wl_ad G lk q = a.1 := by
  unfold wl_ad
  rw [if_pos hq, List.getD_eq_getElem?_getD, h]
  rfl
theorem wl_q {G : wl_G} {lk : wl_Lk} {A : Nat → Prop} {s : State} {mh : wl_H} {H : Heap} {locs : List Loc} (hR : wl_R G lk A s mh H locs) {q : Nat} {e : va_E} (h : mh[q]? = some e) : ∃ a, lk[q]? = some a ∧ (wl_conc G lk mh)[q]? = some (wl_cell G lk a e) ∧ wl_ad G lk q = a.1 := by
  obtain ⟨a, h1, h2⟩ := wl_conc_get (G := G) hR.1 h
  have h3 : q < mh.length := (List.getElem?_eq_some_iff.mp h).1
  exact ⟨a, h1, h2, wl_ad_eq h1 (Nat.lt_of_lt_of_le h3 hR.2.1)⟩
theorem wl_K1 {D : va_G} {s : State} {c : ClassId} {ty : FieldType} (h : va_K D vwCl [] s) (h1 : ArrOfT s c ty ∧ va_RA s c ty) : va_K D vwCl [(c, ty)] s := by
  refine ⟨h.1, fun k x hx => ?_⟩
  cases k with
  | zero => cases hx; exact h1
  | succ k => cases hx
theorem wl_R.seta {G : wl_G} {lk : wl_Lk} {A : Nat → Prop} {s : State} {mh : wl_H} {H H1 : Heap} {locs locs1 : List Loc} (hR : wl_R G lk A s mh H locs) {q tg : Nat} {z z' : vp_A} {a : Nat × ClassId} (hq : mh[q]? = some (.inl (tg, z))) (ha : lk[q]? = some a) (hP : va_P G.2.2.2.2.2 vwCl ((wl_conc G lk mh).set q (wl_cell G lk a (.inl (tg, z')))) H1) (hS : va_S A s.heap H1 locs1) : wl_R G lk A s (mh.set q (.inl (tg, z'))) H1 locs1 := by
  refine ⟨by rw [List.length_set]; exact hR.1, by rw [List.length_set]; exact hR.2.1, ?_, hR.2.2.2.1, hS, hR.2.2.2.2.2.set hq⟩
  rw [← wl_conc_set ha hq]
  exact hP
theorem wl_R.seto {G : wl_G} {lk : wl_Lk} {A : Nat → Prop} {s : State} {mh : wl_H} {H H1 : Heap} {locs locs1 : List Loc} (hR : wl_R G lk A s mh H locs) {q : Nat} {e : va_E} {o : Nat × List Value} {a : Nat × ClassId} (hq : mh[q]? = some e) (ha : lk[q]? = some a) (hP : va_P G.2.2.2.2.2 vwCl ((wl_conc G lk mh).set q (wl_cell G lk a (.inr o))) H1) (hS : va_S A s.heap H1 locs1) : wl_R G lk A s (mh.set q (.inr o)) H1 locs1 := by
  refine ⟨by rw [List.length_set]; exact hR.1, by rw [List.length_set]; exact hR.2.1, ?_, hR.2.2.2.1, hS, hR.2.2.2.2.2.seto⟩
  rw [← wl_conc_set ha hq]
  exact hP
/-- a field of one of our classes, by its place in a pool -/
def wl_fl (own : String) (idx ci k : Nat) (ty : FieldType) : Prop := ∃ (C : String) (T : u_T) (N : Nat) (ty0 : Nat → FieldType), vwCl[ci]? = some (C, T, N) ∧ k < N ∧ Cond.fieldLink own idx (T k).1 (T k).2.1 (T k).2.2.1 ∈ wl_gw ∧ (∀ w ∈ u_ws C T N, w ∈ wl_gw) ∧ (∀ j, j < N → parseFieldDescriptor (T j).2.2.1 = some (ty0 j)) ∧ (∀ a, a < N → ∀ b, b < N → a ≠ b → (T a).2.1 ≠ (T b).2.1) ∧ ty0 k = ty
/-- .. that isn't final -/
def wl_nf (ci k : Nat) : Bool := match vwCl[ci]? with
  | some q => !(q.2.1 k).2.2.2
  | none => false
/-- a method, by its words -/
def wl_mf (y : MethodName) (cc : ByteArray) (nL : Nat) (ret : Option FieldType) (n : Nat) : Prop := Cond.code y cc nL ret ∈ wl_gw ∧ Cond.initialized y.cls ∈ wl_gw ∧ (y.cls ≠ "java/lang/invoke/MethodHandle" ∧ y.cls ≠ "java/lang/invoke/VarHandle" ∧ (parseMethodDescriptor y.desc).map (fun d => d.parameters.length) = some n) ∧ plainName y.cls = true
def wl_A (lk : wl_Lk) (sz : Nat) : Nat → Prop := fun q => (∃ (i : Nat) (a : Nat × ClassId), lk[i]? = some a ∧ a.1 = q) ∨ sz ≤ q
def wl_Qc (G : wl_G) (lk : wl_Lk) (A : Nat → Prop) (Q : Option Value → wl_H → Prop) : Array Value → State → Outcome → State → Prop := fun _ st oc t => ∃ (rv : Option Value) (mh : wl_H), oc = .returned (rv.map (wl_tv G lk)) ∧ Q rv mh ∧ lk.length = mh.length ∧ mh.length ≤ 1000 ∧ va_P G.2.2.2.2.2 vwCl (wl_conc G lk mh) t.heap ∧ wl_Ty lk mh t ∧ va_F A st t
def wl_fin (ret : Option FieldType) (Q : Option Value → wl_H → Prop) : wl_Fn := fun G lk A _ _ _ _ s _ args below meth _ kc ks Z => meth.sig.returnType = ret ∧ kc = 0 ∧ ks = 0 ∧ Z = MQ below (wl_Qc G lk A Q) args s 0 0 A
def wl_B (G : wl_G) (lk : wl_Lk) (mh : wl_H) (U : State) : Prop := lk.length = mh.length ∧ mh.length ≤ 1000 ∧ va_P G.2.2.2.2.2 vwCl (wl_conc G lk mh) U.heap ∧ wl_D (fun _ => True) lk ∧ wl_Ty lk mh U ∧ wl_K G (wl_A lk U.heap.size) U U.heap
def wl_fl2 (vs : List Value) : List Value := vs.flatMap fun v => if v.category = 2 then [v, .retAddr 0] else [v]
def wl_en (vs : List Value) (n : Nat) : List Value := wl_fl2 vs ++ List.replicate (n - (wl_fl2 vs).length) (.retAddr 0)
theorem wl_en_in (G : wl_G) (lk : wl_Lk) (r : Nat) : ∀ (vs : List Value) (i j : Nat) (u : Value), (wl_fl2 vs ++ List.replicate r (.retAddr 0))[j]? = some u → wl_du u = false → (i + j, wl_tv G lk u) ∈ lv_args i (vs.map (wl_tv G lk))
  | [], i, j, u, h, hd => by
    rw [show wl_fl2 [] = [] from rfl, List.nil_append, List.getElem?_replicate] at h
    by_cases hj : j < r
    · rw [if_pos hj] at h
      cases h
      cases hd
    · rw [if_neg hj] at h
      cases h
  | v :: vs, i, j, u, h, hd => by
    by_cases hc : v.category = 2
    · have e : wl_fl2 (v :: vs) = v :: .retAddr 0 :: wl_fl2 vs := by simp [wl_fl2, hc]
      rw [e] at h
      have e2 : lv_args i ((v :: vs).map (wl_tv G lk)) = (i, wl_tv G lk v) :: lv_args (i + 2) (vs.map (wl_tv G lk)) := by
        simp only [List.map_cons, lv_args, wl_tv_cat, hc, if_true]
      rw [e2]
      match j, h with
      | 0, h => cases h; exact List.mem_cons_self
      | 1, h => cases h; cases hd
      | j + 2, h =>
        have := wl_en_in G lk r vs (i + 2) j u h hd
        rw [show i + 2 + j = i + (j + 2) by omega] at this
        exact List.mem_cons_of_mem _ this
    · have e : wl_fl2 (v :: vs) = v :: wl_fl2 vs := by simp [wl_fl2, hc]
      rw [e] at h
      have e2 : lv_args i ((v :: vs).map (wl_tv G lk)) = (i, wl_tv G lk v) :: lv_args (i + 1) (vs.map (wl_tv G lk)) := by
        simp only [List.map_cons, lv_args, wl_tv_cat, hc, if_false]
      rw [e2]
      match j, h with
      | 0, h => cases h; exact List.mem_cons_self
      | j + 1, h =>
        have := wl_en_in G lk r vs (i + 1) j u h hd
        rw [show i + 1 + j = i + (j + 1) by omega] at this
        exact List.mem_cons_of_mem _ this
theorem wl_sl_len (G : wl_G) (lk : wl_Lk) : ∀ vs : List Value, (lg_sl (vs.map (wl_tv G lk))).length = (wl_fl2 vs).length
  | [] => rfl
  | v :: vs => by
    have ih := wl_sl_len G lk vs
    by_cases hc : v.category = 2
    · have e1 : lg_sl ((v :: vs).map (wl_tv G lk)) = .val (wl_tv G lk v) :: .second :: lg_sl (vs.map (wl_tv G lk)) := by simp [lg_sl, wl_tv_cat, hc]
      have e2 : wl_fl2 (v :: vs) = v :: .retAddr 0 :: wl_fl2 vs := by simp [wl_fl2, hc]
      rw [e1, e2]
      simp [ih]
    · have e1 : lg_sl ((v :: vs).map (wl_tv G lk)) = .val (wl_tv G lk v) :: lg_sl (vs.map (wl_tv G lk)) := by simp [lg_sl, wl_tv_cat, hc]
      have e2 : wl_fl2 (v :: vs) = v :: wl_fl2 vs := by simp [wl_fl2, hc]
      rw [e1, e2]
      simp [ih]
theorem wl_entry (G : wl_G) (lk : wl_Lk) (vs : List Value) {n : Nat} (h : (wl_fl2 vs).length ≤ n) : wl_L G lk n (wl_en vs n) ((lg_sl (vs.map (wl_tv G lk)) ++ List.replicate (n - (lg_sl (vs.map (wl_tv G lk))).length) Slot.unset).toArray) := by
  have h0 := lv_entry (vs.map (wl_tv G lk)) (n := n) (by rw [wl_sl_len]; exact h)
  refine ⟨h0.1, h0.2.1, fun q hq => h0.2.2 q ?_⟩
  obtain ⟨j, w⟩ := q
  obtain ⟨h1, h2⟩ := wl_pairs_mem.mp hq
  rw [List.getElem?_map] at h1
  cases hu : (wl_en vs n)[j]? with
  | none => rw [hu] at h1; cases h1
  | some u =>
    rw [hu] at h1
    have e : w = wl_tv G lk u := (Option.some.inj h1).symm
    subst e
    rw [wl_du_tv] at h2
    have := wl_en_in G lk _ vs 0 j u hu h2
    rwa [Nat.zero_add] at this
section WPM
variable {cc : ByteArray} {own : String} {nL : Nat} {R : Room} {Fn : wl_Fn} {pc : Nat} {Ls rest : List Value} {mh : wl_H}
/-- a method's contract out of a Wp from its entry -/
theorem wp_met {y : MethodName} {ret : Option FieldType} {Q : Option Value → wl_H → Prop} {vs : List Value} (hy : plainName y.cls = true) (hW : Wp cc y.cls nL R (wl_fin ret Q) 0 (wl_en vs nL) [] mh) (hlen : (wl_fl2 vs).length ≤ nL) (l : Launch) (G : wl_G) (lk : wl_Lk) (sz : Nat) : Met l y (wl_ws y cc nL ret) R (va_Pc (vs.map (wl_tv G lk)) (fun U => U.heap.size = sz ∧ wl_B G lk mh U)) (wl_Qc G lk (wl_A lk sz) Q) 0 0 (wl_A lk sz) := by
  refine Met.ofW (cc := cc) (maxL := nL) (ret := ret) hy rfl ?_
  intro p e s m args below meth c s₁ B hml hv
  obtain ⟨rfl, hsz, hl, hl2, hP, hD, hT, hK⟩ := hv
  have hts := atoms_spec (ws := wl_ws y cc nL ret) B.pre
  have hown : s.vm.findClass y.cls = some m.cls := findClass_of_methodNamed B.named
  subst hsz
  rw [lg_entry_eq]
  exact hW G lk (wl_A lk s.heap.size) p l e s m _ below meth c 0 0 _ ⟨B.exec, B.bytes, hml, hown, fun w h => hts w (List.mem_cons_of_mem _ h), hK, fun q h => Or.inr h, B.notSynchronized⟩ ⟨B.returns, rfl, rfl, rfl⟩ ⟨Nat.zero_le _, Nat.zero_le _⟩ s.heap [] _ ⟨hl, hl2, hP, ⟨hD.1, fun i a h => Or.inl ⟨i, a, h, rfl⟩⟩, va_S.rf, hT⟩ (wl_entry G lk vs hlen)
theorem wl_blind {G : wl_G} {lk : wl_Lk} {sz : Nat} {vs : List Value} : FrameBlind (va_Pc (vs.map (wl_tv G lk)) (fun U => U.heap.size = sz ∧ wl_B G lk mh U)) := by
  intro a U g mk h
  obtain ⟨h1, h2, h3, h4, h5, h6, h7, h8⟩ := h
  exact ⟨h1, h2, h3, h4, h5, h6, wl_Ty.moved (u := U) (U := U.calling g mk a) (Vm.Alike.refl U.vm) h7, wl_K.same (s := U) (U := U.calling g mk a) rfl h8⟩
theorem wl_subA {G : wl_G} {lk : wl_Lk} {A : Nat → Prop} {s : State} {H : Heap} {locs : List Loc} (hR : wl_R G lk A s mh H locs) (hA : ∀ q, s.heap.size ≤ q → A q) : ∀ q, wl_A lk H.size q → A q := by
  intro q h
  rcases h with ⟨i, a, h, rfl⟩ | h
  · exact hR.2.2.2.1.2 i a h
  · exact hA q (Nat.le_trans hR.2.2.2.2.1.1 h)
theorem wl_pre {G : wl_G} {lk : wl_Lk} {A : Nat → Prop} {p : Program} {s : State} {m : MethodId} {args : Array Value} {meth : Method} {c : Code} {H : Heap} {locs : List Loc} (hC : wl_C G A p s m args meth c cc own nL) (hR : wl_R G lk A s mh H locs) (vs : List Value) : ∀ U : State, U.heap = H → s.WarmedH U.vm → va_Pc (vs.map (wl_tv G lk)) (fun U => U.heap.size = H.size ∧ wl_B G lk mh U) (vs.map (wl_tv G lk)).toArray U := by
  intro U hU hW
  obtain ⟨h1, h2, h3, h4, h5, h6⟩ := id hR
  refine ⟨rfl, by rw [hU], h1, h2, by rw [hU]; exact h3, ⟨h4.1, fun _ _ _ => trivial⟩, h6.moved hW.alike, ?_⟩
  rw [hU]
  exact wl_K.warm hW (wl_K.kept hC.2.2.2.2.2.1 h5.1 h5.2.1 (wl_subA hR hC.2.2.2.2.2.2.1))
theorem wl_go {p : Program} {l : Launch} {e : Env} {s : State} {m : MethodId} {args : Array Value} {below : List Frame} {meth : Method} {c : Code} {H : Heap} {locs : List Loc} {kc ks : Nat} {Z : State → Prop} {ls : Array Slot} {st0 : List Value} {a : Array Value} {G : wl_G} {lk : wl_Lk} {A A1 : Nat → Prop} {Q2 : Option Value → wl_H → Prop}
    (hr : va_Run p l e R s m args below meth c H locs kc ks 0 0 (F0 m pc ls st0) (rest.map (wl_tv G lk)) (wl_Qc G lk A1 Q2 a) A1) (hR : wl_R G lk A s mh H locs) (hA : ∀ q, A1 q → A q)
    (kk : ∀ (rv : Option Value) (mh2 : wl_H) (H1 : Heap) (locs1 : List Loc), Q2 rv mh2 → wl_R G lk A s mh2 H1 locs1 → W p l e R s m args below meth c H1 locs1 kc ks Z (F0 m (pc + 3) ls ((rv.toList ++ rest).map (wl_tv G lk)))) : W p l e R s m args below meth c H locs kc ks Z (F0 m pc ls st0) := by
  intro T hT X
  obtain ⟨v, st₀, t, T', L, h0, X', hL, e1, e2, ⟨rv, mh2, hv, hq, hl, hl2, hP, hTy, hz, hk⟩, st⟩ := hr T hT X
  have hv : v = rv.map (wl_tv G lk) := by injection hv
  subst hv
  rw [h0] at hz hk
  have hS := hR.2.2.2.2.1
  have hal : s.vm.Alike t.vm := by rw [← e2]; exact X'.warmed.alike
  obtain ⟨t2, a1, b1⟩ := kk rv mh2 T'.heap (locs ++ L) hq ⟨hl, hl2, by rw [e1]; exact hP, hR.2.2.2.1, ⟨Nat.le_trans hS.1 (by rw [e1]; exact hz), fun q h1 h2 => by rw [e1, hk q (Nat.lt_of_lt_of_le h1 hS.1) (fun z => h2 (hA q z))]; exact hS.2.1 q h1 h2, fun q hq => by
      rcases List.mem_append.mp hq with h | h
      · exact hS.2.2 q h
      · exact hA _ (hL q h)⟩, hTy.moved hal.symm⟩ T' rfl X'
  have e3 : ((rv.toList ++ rest).map (wl_tv G lk)) = (rv.map (wl_tv G lk)).toList ++ rest.map (wl_tv G lk) := by cases rv <;> simp
  rw [e3] at a1
  exact ⟨t2, st t2 a1, b1⟩
theorem wl_cats (G : wl_G) (lk : wl_Lk) (rest : List Value) : ((rest.map (wl_tv G lk)).map fun v => v.category).sum = (rest.map fun v => v.category).sum := by
  rw [List.map_map]
  congr 2
  funext v
  exact wl_tv_cat G lk v
/-- what a call needs of the room: the callee's room R2 beside the caller's R -/
abbrev wl_rm (R R2 : Room) (nL2 : Nat) : Prop := R2.frames + 1 ≤ R.frames ∧ 8 + (nL2 + 11) + R2.locals ≤ R.locals ∧ R2.cells = 0 ∧ R2.slots = 0

theorem wl_wsV {y : MethodName} {cc2 : ByteArray} {nL2 n idx : Nat} {ret2 : Option FieldType} (hm : wl_mf y cc2 nL2 ret2 n) (hw : Cond.methodLink own idx y ∈ wl_gw ∧ Cond.instanceMethod y ∈ wl_gw ∧ Cond.selects y.cls y y ∈ wl_gw) : GoodIn wl_gw (wsV own idx y.cls y (wl_ws y cc2 nL2 ret2)) := by
  intro w h
  unfold wsV at h
  rcases List.mem_append.mp h with h | h
  · simp only [List.mem_cons, List.not_mem_nil, or_false] at h
    rcases h with rfl | rfl | rfl | rfl
    · exact wl_good1 hw.1
    · exact wl_good1 hw.2.1
    · exact wl_good1 hw.2.2
    · exact wl_good1 hm.2.1
  · exact wl_good hm.1 w h
theorem wl_wsSt {y : MethodName} {cc2 : ByteArray} {nL2 n idx : Nat} {ret2 : Option FieldType} (hm : wl_mf y cc2 nL2 ret2 n) (hw : Cond.methodLink own idx y ∈ wl_gw ∧ Cond.static y ∈ wl_gw) : GoodIn wl_gw (va_wsS own idx y (wl_ws y cc2 nL2 ret2)) := by
  intro w h
  unfold va_wsS at h
  rcases List.mem_append.mp h with h | h
  · simp only [List.mem_cons, List.not_mem_nil, or_false] at h
    rcases h with rfl | rfl | rfl
    · exact wl_good1 hw.1
    · exact wl_good1 hw.2
    · exact wl_good1 hm.2.1
  · exact wl_good hm.1 w h
theorem wp_callV {idx q ci n N : Nat} {T : u_T} {fs : List Value} {y : MethodName} {cc2 : ByteArray} {nL2 : Nat} {ret2 : Option FieldType} {R2 : Room} {As stk : List Value} {Q2 : Option Value → wl_H → Prop} (hd : decode cc pc = .ok (.invokevirtual idx, 3)) (hm : wl_mf y cc2 nL2 ret2 n) (hw : Cond.methodLink own idx y ∈ wl_gw ∧ Cond.instanceMethod y ∈ wl_gw ∧ Cond.selects y.cls y y ∈ wl_gw) (hrm : wl_rm R R2 nL2) (hq : mh[q]? = some (.inr (ci, fs))) (hc : vwCl[ci]? = some (y.cls, T, N))
    (hst : stk = As.reverse ++ .ref q :: rest) (hn : As.length = n) (hlen : (wl_fl2 (.ref q :: As)).length ≤ nL2) (hcat : (rest.map fun v => v.category).sum ≤ 8)
    (hB : Wp cc2 y.cls nL2 R2 (wl_fin ret2 Q2) 0 (wl_en (.ref q :: As) nL2) [] mh)
    (kk : ∀ (rv : Option Value) (mh2 : wl_H), Q2 rv mh2 → Wp cc own nL R Fn (pc + 3) Ls (rv.toList ++ rest) mh2) : Wp cc own nL R Fn pc Ls stk mh := by
  intro G lk A p l e s m args below meth c kc ks Z hC hF hk H locs ls hR hL
  subst hst
  obtain ⟨hx, hb, hml, hown, hts, hK, -, -⟩ := id hC
  obtain ⟨a, ha, hca, had⟩ := wl_q hR hq
  have hrec := va_recv hK.1 hR.2.2.1 hc (show (wl_conc G lk mh)[q]? = some (a.1, .inr (ci, fs.map (wl_tv G lk))) from hca)
  rw [← had] at hrec
  have hstk : ((As.reverse ++ .ref q :: rest).map (wl_tv G lk)) = (As.map (wl_tv G lk)).reverse ++ .ref (wl_ad G lk q) :: rest.map (wl_tv G lk) := by
    rw [List.map_append, List.map_reverse]
    rfl
  exact wl_go (A1 := wl_A lk H.size) (Q2 := Q2) (va_runV (As := As.map (wl_tv G lk)) (b := wl_ad G lk q) ⟨hx, hb, hml, hown, hts⟩ (wp_met (vs := .ref q :: As) hm.2.2.2 hB hlen l G lk H.size) (cwV n hts (wl_wsV hm hw) rfl hrm.2.2.1 hrm.2.2.2 ⟨rfl, hm.2.2.1⟩ ⟨hrm.1, hrm.2.1⟩) ⟨wl_blind, hrec, wl_pre hC hR (.ref q :: As)⟩ rfl (by rw [List.length_map]; exact hn) hL.1 hstk (lv_room (by rw [wl_cats]; exact hcat)) hd hk) hR (wl_subA hR hC.2.2.2.2.2.2.1) (fun rv mh2 H1 locs1 hq hR2 => kk rv mh2 hq G lk A p l e s m args below meth c kc ks Z hC hF hk H1 locs1 ls hR2 hL)
theorem wp_callS {idx n : Nat} {y : MethodName} {cc2 : ByteArray} {nL2 : Nat} {ret2 : Option FieldType} {R2 : Room} {As stk : List Value} {Q2 : Option Value → wl_H → Prop} (hd : decode cc pc = .ok (.invokestatic idx, 3)) (hm : wl_mf y cc2 nL2 ret2 n) (hw : Cond.methodLink own idx y ∈ wl_gw ∧ Cond.static y ∈ wl_gw) (hrm : wl_rm R R2 nL2)
    (hst : stk = As.reverse ++ rest) (hn : As.length = n) (hlen : (wl_fl2 As).length ≤ nL2) (hcat : (rest.map fun v => v.category).sum ≤ 8)
    (hB : Wp cc2 y.cls nL2 R2 (wl_fin ret2 Q2) 0 (wl_en As nL2) [] mh)
    (kk : ∀ (rv : Option Value) (mh2 : wl_H), Q2 rv mh2 → Wp cc own nL R Fn (pc + 3) Ls (rv.toList ++ rest) mh2) : Wp cc own nL R Fn pc Ls stk mh := by
  intro G lk A p l e s m args below meth c kc ks Z hC hF hk H locs ls hR hL
  subst hst
  obtain ⟨hx, hb, hml, hown, hts, hK, -, -⟩ := id hC
  have hstk : ((As.reverse ++ rest).map (wl_tv G lk)) = (As.map (wl_tv G lk)).reverse ++ rest.map (wl_tv G lk) := by
    rw [List.map_append, List.map_reverse]
  exact wl_go (A1 := wl_A lk H.size) (Q2 := Q2) (va_runS (As := As.map (wl_tv G lk)) ⟨hx, hb, hml, hown, hts⟩ (wp_met (vs := As) hm.2.2.2 hB hlen l G lk H.size) (va_cwS n hts (wl_wsSt hm hw) rfl hrm.2.2.1 hrm.2.2.2 hm.2.2.1 ⟨hrm.1, hrm.2.1⟩) ⟨wl_blind, wl_pre hC hR As⟩ rfl (by rw [List.length_map]; exact hn) hL.1 hstk (lv_room (by rw [wl_cats]; exact hcat)) hd hk) hR (wl_subA hR hC.2.2.2.2.2.2.1) (fun rv mh2 H1 locs1 hq hR2 => kk rv mh2 hq G lk A p l e s m args below meth c kc ks Z hC hF hk H1 locs1 ls hR2 hL)
theorem wp_callN {idx n : Nat} {y : MethodName} {host : String} {cc2 : ByteArray} {nL2 : Nat} {ret2 : Option FieldType} {R2 : Room} {As stk : List Value} {Q2 : Option Value → wl_H → Prop} (hd : decode cc pc = .ok (.invokestatic idx, 3)) (hm : wl_mf y cc2 nL2 ret2 n) (hw : Cond.methodLinkNest own idx y host ∈ lw_tbl ∧ Cond.static y ∈ wl_gw) (hrm : wl_rm R R2 nL2)
    (hst : stk = As.reverse ++ rest) (hn : As.length = n) (hlen : (wl_fl2 As).length ≤ nL2) (hcat : (rest.map fun v => v.category).sum ≤ 8)
    (hB : Wp cc2 y.cls nL2 R2 (wl_fin ret2 Q2) 0 (wl_en As nL2) [] mh)
    (kk : ∀ (rv : Option Value) (mh2 : wl_H), Q2 rv mh2 → Wp cc own nL R Fn (pc + 3) Ls (rv.toList ++ rest) mh2) : Wp cc own nL R Fn pc Ls stk mh := by
  intro G lk A p l e s m args below meth c kc ks Z hC hF hk H locs ls hR hL
  subst hst
  obtain ⟨hx, hb, hml, hown, hts, hK, -, -⟩ := id hC
  have hstk : ((As.reverse ++ rest).map (wl_tv G lk)) = (As.map (wl_tv G lk)).reverse ++ rest.map (wl_tv G lk) := by
    rw [List.map_append, List.map_reverse]
  exact wl_go (A1 := wl_A lk H.size) (Q2 := Q2) (va_runSN (As := As.map (wl_tv G lk)) (host := host) ⟨hx, hb, hml, hown, hts⟩ (wp_met (vs := As) hm.2.2.2 hB hlen l G lk H.size) ⟨va_cnB n hts (wl_good hm.1) rfl hrm.2.2.1 hrm.2.2.2 (hK.2.1 _ _ _ _ hw.1) (hts _ hm.2.1) hm.2.2.1 ⟨hrm.1, hrm.2.1⟩, hts _ hw.2, trivial⟩ ⟨wl_blind, wl_pre hC hR As⟩ rfl (by rw [List.length_map]; exact hn) hL.1 hstk (lv_room (by rw [wl_cats]; exact hcat)) hd hk) hR (wl_subA hR hC.2.2.2.2.2.2.1) (fun rv mh2 H1 locs1 hq hR2 => kk rv mh2 hq G lk A p l e s m args below meth c kc ks Z hC hF hk H1 locs1 ls hR2 hL)
theorem wp_get {idx ci k q : Nat} {ty : FieldType} {fs : List Value} {v : Value} (hd : decode cc pc = .ok (.getfield idx, 3)) (hf : wl_fl own idx ci k ty) (hq : mh[q]? = some (.inr (ci, fs))) (hv : fs[k]? = some v) (kk : Wp cc own nL R Fn (pc + 3) Ls (v :: rest) mh) : Wp cc own nL R Fn pc Ls (.ref q :: rest) mh := by
  intro G lk A p l e s m args below meth c kc ks Z hC hF hk H locs ls hR hL
  obtain ⟨hx, hb, hml, hown, hts, hK, -, -⟩ := id hC
  obtain ⟨C, T, N, ty0, h1, h2, h3, h4, h5, h6, h7⟩ := hf
  obtain ⟨a, ha, hca, had⟩ := wl_q hR hq
  show W p l e R s m args below meth c H locs kc ks Z (F0 m pc ls (.ref (wl_ad G lk q) :: rest.map (wl_tv G lk)))
  rw [had]
  exact va_get (ref := (T k).1) hx hb hts h4 hown hK.1 hR.2.2.1 q (show (wl_conc G lk mh)[q]? = some (a.1, .inr (ci, fs.map (wl_tv G lk))) from hca) h1 k h2 (hts _ h3) (fun _ h => h) (v := wl_tv G lk v) (by rw [List.getElem?_map, hv]; rfl) hd (kk G lk A p l e s m args below meth c kc ks Z hC hF hk H locs ls hR hL)
theorem wp_put {idx ci k q : Nat} {ty : FieldType} {fs : List Value} {v : Value} {mh2 : wl_H} (hd : decode cc pc = .ok (.putfield idx, 3)) (hf : wl_fl own idx ci k ty) (hnf : wl_nf ci k = true) (hq : mh[q]? = some (.inr (ci, fs))) (hk2 : k < fs.length) (hv : ∀ G lk, wl_tv G lk v = v) (hna : narrow ty v = v) (hfit : fits ty v = true) (hm : mh.set q (.inr (ci, fs.set k v)) = mh2) (kk : Wp cc own nL R Fn (pc + 3) Ls rest mh2) : Wp cc own nL R Fn pc Ls (v :: .ref q :: rest) mh := by
  intro G lk A p l e s m args below meth c kc ks Z hC hF hk H locs ls hR hL
  obtain ⟨hx, hb, hml, hown, hts, hK, -, -⟩ := id hC
  obtain ⟨C, T, N, ty0, h1, h2, h3, h4, h5, h6, h7⟩ := hf
  obtain ⟨a, ha, hca, had⟩ := wl_q hR hq
  show W p l e R s m args below meth c H locs kc ks Z (F0 m pc ls (wl_tv G lk v :: .ref (wl_ad G lk q) :: rest.map (wl_tv G lk)))
  rw [had, hv G lk]
  have hnf2 : (T k).2.2.2 = false := by
    unfold wl_nf at hnf
    rw [h1] at hnf
    simpa using hnf
  refine va_put (ref := (T k).1) hx hb hts h4 ty0 h5 h6 hown hK.1 hR.2.2.1 (hR.2.2.2.1.va G mh) hR.2.2.2.2.1 q (show (wl_conc G lk mh)[q]? = some (a.1, .inr (ci, fs.map (wl_tv G lk))) from hca) h1 k h2 (hts _ h3) (fun _ h => h) hnf2 (ty := ty) (by rw [h5 k h2, h7]) hna hfit (by rw [List.length_map]; exact hk2) hd (fun H1 locs1 hP1 _ hS1 => ?_)
  refine kk G lk A p l e s m args below meth c kc ks Z hC hF hk H1 locs1 ls ?_ hL
  rw [← hm]
  refine hR.seto hq ha ?_ hS1
  have e : wl_cell G lk a (.inr (ci, fs.set k v)) = (a.1, .inr (ci, (fs.map (wl_tv G lk)).set k v)) := by
    show (a.1, Sum.inr (ci, (fs.set k v).map (wl_tv G lk))) = _
    rw [List.map_set, hv G lk]
  rw [e]
  exact hP1
theorem wp_iald {q n : Nat} {f : Nat → Int32} {i : Int32} (hd : decode cc pc = .ok (.iaload, 1)) (hq : mh[q]? = some (.inl (0, n, .inl f))) (hin : vp_in i n) (kk : Wp cc own nL R Fn (pc + 1) Ls (.int (f i.toNatClampNeg) :: rest) mh) : Wp cc own nL R Fn pc Ls (.int i :: .ref q :: rest) mh := by
  intro G lk A p l e s m args below meth c kc ks Z hC hF hk H locs ls hR hL
  obtain ⟨hx, hb, hml, hown, hts, hK, -, -⟩ := id hC
  obtain ⟨a, ha, hca, had⟩ := wl_q hR hq
  show W p l e R s m args below meth c H locs kc ks Z (F0 m pc ls (.int i :: .ref (wl_ad G lk q) :: rest.map (wl_tv G lk)))
  rw [had]
  exact va_iald hx hb (wl_K1 hK.1 (hR.2.2.2.2.2 q a 0 _ ha hq)) hR.2.2.1 q 0 (show (wl_conc G lk mh)[q]? = some (a.1, .inl (a.2, n, .inl f)) from hca) rfl hin hd (kk G lk A p l e s m args below meth c kc ks Z hC hF hk H locs ls hR hL)
theorem wp_iast {q n : Nat} {f : Nat → Int32} {i : Int32} {x : Int32} {mh2 : wl_H} (hd : decode cc pc = .ok (.iastore, 1)) (hq : mh[q]? = some (.inl (0, n, .inl f))) (hin : vp_in i n) (hm : mh.set q (.inl (0, n, .inl (upd f i.toNatClampNeg x))) = mh2) (kk : Wp cc own nL R Fn (pc + 1) Ls rest mh2) : Wp cc own nL R Fn pc Ls (.int x :: .int i :: .ref q :: rest) mh := by
  intro G lk A p l e s m args below meth c kc ks Z hC hF hk H locs ls hR hL
  obtain ⟨hx, hb, hml, hown, hts, hK, -, -⟩ := id hC
  obtain ⟨a, ha, hca, had⟩ := wl_q hR hq
  show W p l e R s m args below meth c H locs kc ks Z (F0 m pc ls (.int x :: .int i :: .ref (wl_ad G lk q) :: rest.map (wl_tv G lk)))
  rw [had]
  refine va_iast hx hb (wl_K1 hK.1 (hR.2.2.2.2.2 q a 0 _ ha hq)) hR.2.2.1 (hR.2.2.2.1.va G mh) hR.2.2.2.2.1 q 0 (show (wl_conc G lk mh)[q]? = some (a.1, .inl (a.2, n, .inl f)) from hca) rfl hin hd (fun H1 locs1 hP1 _ hS1 => ?_)
  refine kk G lk A p l e s m args below meth c kc ks Z hC hF hk H1 locs1 ls ?_ hL
  rw [← hm]
  exact hR.seta hq ha hP1 hS1
theorem wp_zald {q n : Nat} {f : Nat → Int32} {i : Int32} (hd : decode cc pc = .ok (.baload, 1)) (hq : mh[q]? = some (.inl (2, n, .inl f))) (hin : vp_in i n) (kk : Wp cc own nL R Fn (pc + 1) Ls (.int (f i.toNatClampNeg) :: rest) mh) : Wp cc own nL R Fn pc Ls (.int i :: .ref q :: rest) mh := by
  intro G lk A p l e s m args below meth c kc ks Z hC hF hk H locs ls hR hL
  obtain ⟨hx, hb, hml, hown, hts, hK, -, -⟩ := id hC
  obtain ⟨a, ha, hca, had⟩ := wl_q hR hq
  show W p l e R s m args below meth c H locs kc ks Z (F0 m pc ls (.int i :: .ref (wl_ad G lk q) :: rest.map (wl_tv G lk)))
  rw [had]
  exact va_zald hx hb (wl_K1 hK.1 (hR.2.2.2.2.2 q a 2 _ ha hq)) hR.2.2.1 q 0 (show (wl_conc G lk mh)[q]? = some (a.1, .inl (a.2, n, .inl f)) from hca) rfl hin hd (kk G lk A p l e s m args below meth c kc ks Z hC hF hk H locs ls hR hL)
theorem wp_zast {q n : Nat} {f : Nat → Int32} {i : Int32} {x : Int32} {mh2 : wl_H} (hd : decode cc pc = .ok (.bastore, 1)) (hq : mh[q]? = some (.inl (2, n, .inl f))) (hin : vp_in i n) (hm : mh.set q (.inl (2, n, .inl (upd f i.toNatClampNeg (vp_nar .boolean x)))) = mh2) (kk : Wp cc own nL R Fn (pc + 1) Ls rest mh2) : Wp cc own nL R Fn pc Ls (.int x :: .int i :: .ref q :: rest) mh := by
  intro G lk A p l e s m args below meth c kc ks Z hC hF hk H locs ls hR hL
  obtain ⟨hx, hb, hml, hown, hts, hK, -, -⟩ := id hC
  obtain ⟨a, ha, hca, had⟩ := wl_q hR hq
  show W p l e R s m args below meth c H locs kc ks Z (F0 m pc ls (.int x :: .int i :: .ref (wl_ad G lk q) :: rest.map (wl_tv G lk)))
  rw [had]
  refine va_zast hx hb (wl_K1 hK.1 (hR.2.2.2.2.2 q a 2 _ ha hq)) hR.2.2.1 (hR.2.2.2.1.va G mh) hR.2.2.2.2.1 q 0 (show (wl_conc G lk mh)[q]? = some (a.1, .inl (a.2, n, .inl f)) from hca) rfl hin hd (fun H1 locs1 hP1 _ hS1 => ?_)
  refine kk G lk A p l e s m args below meth c kc ks Z hC hF hk H1 locs1 ls ?_ hL
  rw [← hm]
  exact hR.seta hq ha hP1 hS1
theorem wp_lald {q n : Nat} {f : Nat → Int64} {i : Int32} (hd : decode cc pc = .ok (.laload, 1)) (hq : mh[q]? = some (.inl (1, n, .inr (.inl f)))) (hin : vp_in i n) (kk : Wp cc own nL R Fn (pc + 1) Ls (.long (f i.toNatClampNeg) :: rest) mh) : Wp cc own nL R Fn pc Ls (.int i :: .ref q :: rest) mh := by
  intro G lk A p l e s m args below meth c kc ks Z hC hF hk H locs ls hR hL
  obtain ⟨hx, hb, hml, hown, hts, hK, -, -⟩ := id hC
  obtain ⟨a, ha, hca, had⟩ := wl_q hR hq
  show W p l e R s m args below meth c H locs kc ks Z (F0 m pc ls (.int i :: .ref (wl_ad G lk q) :: rest.map (wl_tv G lk)))
  rw [had]
  exact va_lald hx hb (wl_K1 hK.1 (hR.2.2.2.2.2 q a 1 _ ha hq)) hR.2.2.1 q 0 (show (wl_conc G lk mh)[q]? = some (a.1, .inl (a.2, n, .inr (.inl f))) from hca) rfl hin hd (kk G lk A p l e s m args below meth c kc ks Z hC hF hk H locs ls hR hL)
theorem wp_last {q n : Nat} {f : Nat → Int64} {i : Int32} {x : Int64} {mh2 : wl_H} (hd : decode cc pc = .ok (.lastore, 1)) (hq : mh[q]? = some (.inl (1, n, .inr (.inl f)))) (hin : vp_in i n) (hm : mh.set q (.inl (1, n, .inr (.inl (vp_updL f i.toNatClampNeg x)))) = mh2) (kk : Wp cc own nL R Fn (pc + 1) Ls rest mh2) : Wp cc own nL R Fn pc Ls (.long x :: .int i :: .ref q :: rest) mh := by
  intro G lk A p l e s m args below meth c kc ks Z hC hF hk H locs ls hR hL
  obtain ⟨hx, hb, hml, hown, hts, hK, -, -⟩ := id hC
  obtain ⟨a, ha, hca, had⟩ := wl_q hR hq
  show W p l e R s m args below meth c H locs kc ks Z (F0 m pc ls (.long x :: .int i :: .ref (wl_ad G lk q) :: rest.map (wl_tv G lk)))
  rw [had]
  refine va_last hx hb (wl_K1 hK.1 (hR.2.2.2.2.2 q a 1 _ ha hq)) hR.2.2.1 (hR.2.2.2.1.va G mh) hR.2.2.2.2.1 q 0 (show (wl_conc G lk mh)[q]? = some (a.1, .inl (a.2, n, .inr (.inl f))) from hca) rfl hin hd (fun H1 locs1 hP1 _ hS1 => ?_)
  refine kk G lk A p l e s m args below meth c kc ks Z hC hF hk H1 locs1 ls ?_ hL
  rw [← hm]
  exact hR.seta hq ha hP1 hS1
theorem wp_aald {q n tg r : Nat} {f : Nat → Option Nat} {i : Int32} (hd : decode cc pc = .ok (.aaload, 1)) (hq : mh[q]? = some (.inl (tg, n, .inr (.inr (.inr (.inr f)))))) (ht : (wl_ty tg).isReference = true) (hin : vp_in i n) (hr : f i.toNatClampNeg = some r) (kk : Wp cc own nL R Fn (pc + 1) Ls (.ref r :: rest) mh) : Wp cc own nL R Fn pc Ls (.int i :: .ref q :: rest) mh := by
  intro G lk A p l e s m args below meth c kc ks Z hC hF hk H locs ls hR hL
  obtain ⟨hx, hb, hml, hown, hts, hK, -, -⟩ := id hC
  obtain ⟨a, ha, hca, had⟩ := wl_q hR hq
  show W p l e R s m args below meth c H locs kc ks Z (F0 m pc ls (.int i :: .ref (wl_ad G lk q) :: rest.map (wl_tv G lk)))
  rw [had]
  have hlt : i.toNatClampNeg < n := Nat.not_le.mp fun q => hin (Or.inr q)
  refine W.aald (v := .ref (wl_ad G lk r)) (ty := wl_ty tg) hx hb (hR.2.2.1 q _ (show (wl_conc G lk mh)[q]? = some (a.1, .inl (a.2, n, .inr (.inr (.inr (.inr (fun j => (f j).map (wl_ad G lk))))))) from hca)) ((hR.2.2.2.2.2 q a tg _ ha hq).1 n (fun j => va_rf ((f j).map (wl_ad G lk)))) ht (fun q => by cases q) (by show ¬ (i < 0 ∨ (arrV _ _ _).slots.size ≤ _); rw [arrV_size]; exact hin) (by show (arrV _ _ _).slots[_]? = _; rw [arrV_read _ _ hlt]; show some (va_rf ((f i.toNatClampNeg).map (wl_ad G lk))) = _; rw [hr]; rfl) rfl rfl hd (kk G lk A p l e s m args below meth c kc ks Z hC hF hk H locs ls hR hL)
theorem wp_alen {q tg : Nat} {z : vp_A} {v : Int32} (hd : decode cc pc = .ok (.arraylength, 1)) (hq : mh[q]? = some (.inl (tg, z))) (hv : Int32.ofNat z.1 = v) (kk : Wp cc own nL R Fn (pc + 1) Ls (.int v :: rest) mh) : Wp cc own nL R Fn pc Ls (.ref q :: rest) mh := by
  intro G lk A p l e s m args below meth c kc ks Z hC hF hk H locs ls hR hL
  obtain ⟨hx, hb, hml, hown, hts, hK, -, -⟩ := id hC
  obtain ⟨a, ha, hca, had⟩ := wl_q hR hq
  show W p l e R s m args below meth c H locs kc ks Z (F0 m pc ls (.ref (wl_ad G lk q) :: rest.map (wl_tv G lk)))
  rw [had]
  obtain ⟨z', hz1, hz2⟩ : ∃ z' : vp_A, wl_cell G lk a (.inl (tg, z)) = (a.1, .inl (a.2, z')) ∧ z'.1 = z.1 := by
    obtain ⟨n, f | f | f | f | f⟩ := z <;> exact ⟨_, rfl, rfl⟩
  rw [hz1] at hca
  exact va_alen hx hb (wl_K1 hK.1 (hR.2.2.2.2.2 q a tg _ ha hq)) hR.2.2.1 q 0 hca rfl (by rw [hz2]; exact hv) hd (kk G lk A p l e s m args below meth c kc ks Z hC hF hk H locs ls hR hL)
theorem wp_gets1 {idx : Nat} (hd : decode cc pc = .ok (.getstatic idx, 3)) (hw : Cond.fieldLink own idx "PeerMarks" "LEAST_RULE" "[I" ∈ wl_gw) (kk : Wp cc own nL R Fn (pc + 3) Ls (.ref 1001 :: rest) mh) : Wp cc own nL R Fn pc Ls rest mh := by
  intro G lk A p l e s m args below meth c kc ks Z hC hF hk H locs ls hR hL
  obtain ⟨hx, hb, hml, hown, hts, hK, -, -⟩ := id hC
  exact va_gets hx hb hK.2.2.1.1 hR.2.2.2.2.1 hown (hts _ hw) (fun _ h => h) hd (kk G lk A p l e s m args below meth c kc ks Z hC hF hk H locs ls hR hL)
theorem wp_gets2 {idx : Nat} (hd : decode cc pc = .ok (.getstatic idx, 3)) (hw : Cond.fieldLink own idx "PeerMarks" "GREATEST_RULE" "[I" ∈ wl_gw) (kk : Wp cc own nL R Fn (pc + 3) Ls (.ref 1002 :: rest) mh) : Wp cc own nL R Fn pc Ls rest mh := by
  intro G lk A p l e s m args below meth c kc ks Z hC hF hk H locs ls hR hL
  obtain ⟨hx, hb, hml, hown, hts, hK, -, -⟩ := id hC
  exact va_gets hx hb hK.2.2.2.1.1 hR.2.2.2.2.1 hown (hts _ hw) (fun _ h => h) hd (kk G lk A p l e s m args below meth c kc ks Z hC hF hk H locs ls hR hL)
theorem wp_tald1 {i : Int32} (hd : decode cc pc = .ok (.iaload, 1)) (hin : vp_in i 3) (kk : Wp cc own nL R Fn (pc + 1) Ls (wl_lr i.toNatClampNeg :: rest) mh) : Wp cc own nL R Fn pc Ls (.int i :: .ref 1001 :: rest) mh := by
  intro G lk A p l e s m args below meth c kc ks Z hC hF hk H locs ls hR hL
  obtain ⟨hx, hb, hml, hown, hts, hK, -, -⟩ := id hC
  exact va_ti hx hb hK.2.2.1.2 hR.2.2.2.2.1 hin rfl hd (kk G lk A p l e s m args below meth c kc ks Z hC hF hk H locs ls hR hL)
theorem wp_tald2 {i : Int32} (hd : decode cc pc = .ok (.iaload, 1)) (hin : vp_in i 3) (kk : Wp cc own nL R Fn (pc + 1) Ls (wl_gr i.toNatClampNeg :: rest) mh) : Wp cc own nL R Fn pc Ls (.int i :: .ref 1002 :: rest) mh := by
  intro G lk A p l e s m args below meth c kc ks Z hC hF hk H locs ls hR hL
  obtain ⟨hx, hb, hml, hown, hts, hK, -, -⟩ := id hC
  exact va_ti hx hb hK.2.2.2.1.2 hR.2.2.2.2.1 hin rfl hd (kk G lk A p l e s m args below meth c kc ks Z hC hF hk H locs ls hR hL)
theorem wp_sld {L : Nat} {xs : Nat → Int32} {i : Int32} (hG : ∀ {G lk A p l e R s m args below meth c kc ks Z}, Fn G lk A p l e R s m args below meth c kc ks Z → G.2.1 = L ∧ G.2.2.1 = xs) (hd : decode cc pc = .ok (.iaload, 1)) (hin : vp_in i L) (kk : Wp cc own nL R Fn (pc + 1) Ls (.int (xs i.toNatClampNeg) :: rest) mh) : Wp cc own nL R Fn pc Ls (.int i :: .ref 1000 :: rest) mh := by
  intro G lk A p l e s m args below meth c kc ks Z hC hF hk H locs ls hR hL
  obtain ⟨hx, hb, hml, hown, hts, hK, -, -⟩ := id hC
  obtain ⟨e1, e2⟩ := hG hF
  obtain ⟨g1, g2, g3⟩ := hK.2.2.2.2
  rw [e1, e2] at g1
  exact va_sld hx hb g1 g2 g3 hR.2.2.2.2.1 hin hd (kk G lk A p l e s m args below meth c kc ks Z hC hF hk H locs ls hR hL)
theorem wp_slen {L : Nat} {xs : Nat → Int32} (hG : ∀ {G lk A p l e R s m args below meth c kc ks Z}, Fn G lk A p l e R s m args below meth c kc ks Z → G.2.1 = L ∧ G.2.2.1 = xs) (hd : decode cc pc = .ok (.arraylength, 1)) (kk : Wp cc own nL R Fn (pc + 1) Ls (.int (Int32.ofNat L) :: rest) mh) : Wp cc own nL R Fn pc Ls (.ref 1000 :: rest) mh := by
  intro G lk A p l e s m args below meth c kc ks Z hC hF hk H locs ls hR hL
  obtain ⟨hx, hb, hml, hown, hts, hK, -, -⟩ := id hC
  obtain ⟨e1, e2⟩ := hG hF
  obtain ⟨g1, g2, g3⟩ := hK.2.2.2.2
  rw [e1, e2] at g1
  exact va_slen hx hb g1 g2 g3 hR.2.2.2.2.1 hd (kk G lk A p l e s m args below meth c kc ks Z hC hF hk H locs ls hR hL)
theorem wp_iret {ret : Option FieldType} {ty : FieldType} {Q : Option Value → wl_H → Prop} {v : Int32} (hd : decode cc pc = .ok (.ireturn, 1)) (hr : ret = some ty) (hn : narrow ty (.int v) = .int v) (hQ : Q (some (.int v)) mh) : Wp cc own nL R (wl_fin ret Q) pc Ls [.int v] mh := by
  intro G lk A p l e s m args below meth c kc ks Z hC hF hk H locs ls hR hL
  obtain ⟨hr2, rfl, rfl, rfl⟩ := hF
  obtain ⟨h1, h2, h3, h4, h5, h6⟩ := id hR
  exact W.zret hC.1 hC.2.1 (hr2.trans hr) hn (fun t ht hW => ⟨some (.int v), mh, rfl, hQ, h1, h2, by rw [ht]; exact h3, h6.moved hW.alike, h5.F ht⟩) h5.2.2 hd hC.2.2.2.2.2.2.2
theorem wp_lret {ret : Option FieldType} {Q : Option Value → wl_H → Prop} {v : Int64} (hd : decode cc pc = .ok (.lreturn, 1)) (hr : ret = some .long) (hQ : Q (some (.long v)) mh) : Wp cc own nL R (wl_fin ret Q) pc Ls [.long v] mh := by
  intro G lk A p l e s m args below meth c kc ks Z hC hF hk H locs ls hR hL
  obtain ⟨hr2, rfl, rfl, rfl⟩ := hF
  obtain ⟨h1, h2, h3, h4, h5, h6⟩ := id hR
  exact W.lret hC.1 hC.2.1 (hr2.trans hr) (fun t ht hW => ⟨some (.long v), mh, rfl, hQ, h1, h2, by rw [ht]; exact h3, h6.moved hW.alike, h5.F ht⟩) h5.2.2 hd hC.2.2.2.2.2.2.2
theorem wp_vret {ret : Option FieldType} {Q : Option Value → wl_H → Prop} (hd : decode cc pc = .ok (.return_, 1)) (hr : ret = none) (hQ : Q none mh) : Wp cc own nL R (wl_fin ret Q) pc Ls [] mh := by
  intro G lk A p l e s m args below meth c kc ks Z hC hF hk H locs ls hR hL
  obtain ⟨hr2, rfl, rfl, rfl⟩ := hF
  obtain ⟨h1, h2, h3, h4, h5, h6⟩ := id hR
  exact W.vret hC.1 hC.2.1 (hr2.trans hr) (fun t ht hW => ⟨none, mh, rfl, hQ, h1, h2, by rw [ht]; exact h3, h6.moved hW.alike, h5.F ht⟩) h5.2.2 hd hC.2.2.2.2.2.2.2
theorem wp_tableIn {dflt lo hi : Int} {offs : Array Int} {len : Nat} {x : Int32} {off : Int} {tgt : Nat} (hd : decode cc pc = .ok (.tableswitch dflt lo hi offs, len)) (h1 : ¬ x.toInt < lo) (h2 : ¬ hi < x.toInt) (ho : offs[(x.toInt - lo).toNat]? = some off) (ht : (pc : Int) + off = (tgt : Int)) (kk : Wp cc own nL R Fn tgt Ls rest mh) : Wp cc own nL R Fn pc Ls (.int x :: rest) mh :=
  fun G lk A p l e s m args below meth c kc ks Z hC hF hk H locs ls hR hL => lv_tableIn hC.1 hC.2.1 hd h1 h2 ho ht (kk G lk A p l e s m args below meth c kc ks Z hC hF hk H locs ls hR hL)
theorem wp_tableOut {dflt lo hi : Int} {offs : Array Int} {len : Nat} {x : Int32} {tgt : Nat} (hd : decode cc pc = .ok (.tableswitch dflt lo hi offs, len)) (h : x.toInt < lo ∨ hi < x.toInt) (ht : (pc : Int) + dflt = (tgt : Int)) (kk : Wp cc own nL R Fn tgt Ls rest mh) : Wp cc own nL R Fn pc Ls (.int x :: rest) mh :=
  fun G lk A p l e s m args below meth c kc ks Z hC hF hk H locs ls hR hL => lv_tableOut hC.1 hC.2.1 hd h ht (kk G lk A p l e s m args below meth c kc ks Z hC hF hk H locs ls hR hL)
end WPM
end
section
theorem wl_mem {w : Cond} (i : Nat) (h : tables_1[i]? = some w) (hg : goodWord w = true) : w ∈ wl_gw := List.mem_filter.mpr ⟨List.mem_append_right _ (List.mem_of_getElem? (i := i) h), hg⟩
theorem wl_mems {w : Cond} (i : Nat) (h : (k2_sels lw_privs)[i]? = some w) (hg : goodWord w = true) : w ∈ wl_gw := List.mem_filter.mpr ⟨List.mem_append_left _ (List.mem_of_getElem? (i := i) h), hg⟩
theorem wl_memn {w : Cond} (i : Nat) (h : tables_1[i]? = some w) : w ∈ lw_tbl := List.mem_append_right _ (List.mem_of_getElem? (i := i) h)
theorem wp_mmax {cc : ByteArray} {own : String} {nL : Nat} {R : Room} {Fn : wl_Fn} {pc : Nat} {Ls rest : List Value} {mh : wl_H} {index : Nat} {x y : Int32} (hd : decode cc pc = .ok (.invokestatic index, 3)) (hw : Cond.methodLink own index Lib.Math.max.name ∈ wl_gw ∧ Cond.static Lib.Math.max.name ∈ wl_gw ∧ Cond.initialized "java/lang/Math" ∈ wl_gw ∧ Cond.code Lib.Math.max.name Lib.Math.max.code 2 (some .int) ∈ wl_gw) (hrm : 1 ≤ R.frames ∧ 21 ≤ R.locals) (hcat : (rest.map fun v => v.category).sum ≤ 8) (kk : Wp cc own nL R Fn (pc + 3) Ls (.int (if x < y then y else x) :: rest) mh) : Wp cc own nL R Fn pc Ls (.int y :: .int x :: rest) mh := by
  intro G lk A p l e s m args below meth c kc ks Z hC hF hk H locs ls hR hL
  obtain ⟨hx, hb, hml, hown, hts, -, -, -⟩ := id hC
  exact va_mmax hx hb (hml.trans hL.1.symm) hown (hts _ hw.1) (hts _ hw.2.1) (hts _ hw.2.2.1) (hts _ hw.2.2.2) hrm.1 (by rw [wl_cats]; omega) hk.1 hk.2 hd (kk G lk A p l e s m args below meth c kc ks Z hC hF hk H locs ls hR hL)
theorem wp_mmin {cc : ByteArray} {own : String} {nL : Nat} {R : Room} {Fn : wl_Fn} {pc : Nat} {Ls rest : List Value} {mh : wl_H} {index : Nat} {x y : Int32} (hd : decode cc pc = .ok (.invokestatic index, 3)) (hw : Cond.methodLink own index Lib.Math.min.name ∈ wl_gw ∧ Cond.static Lib.Math.min.name ∈ wl_gw ∧ Cond.initialized "java/lang/Math" ∈ wl_gw ∧ Cond.code Lib.Math.min.name Lib.Math.min.code 2 (some .int) ∈ wl_gw) (hrm : 1 ≤ R.frames ∧ 21 ≤ R.locals) (hcat : (rest.map fun v => v.category).sum ≤ 8) (kk : Wp cc own nL R Fn (pc + 3) Ls (.int (if y < x then y else x) :: rest) mh) : Wp cc own nL R Fn pc Ls (.int y :: .int x :: rest) mh := by
  intro G lk A p l e s m args below meth c kc ks Z hC hF hk H locs ls hR hL
  obtain ⟨hx, hb, hml, hown, hts, -, -, -⟩ := id hC
  exact va_mmin hx hb (hml.trans hL.1.symm) hown (hts _ hw.1) (hts _ hw.2.1) (hts _ hw.2.2.1) (hts _ hw.2.2.2) hrm.1 (by rw [wl_cats]; omega) hk.1 hk.2 hd (kk G lk A p l e s m args below meth c kc ks Z hC hF hk H locs ls hR hL)
theorem wp_mabs {cc : ByteArray} {own : String} {nL : Nat} {R : Room} {Fn : wl_Fn} {pc : Nat} {Ls rest : List Value} {mh : wl_H} {index : Nat} {x : Int32} (hd : decode cc pc = .ok (.invokestatic index, 3)) (hw : Cond.methodLink own index Lib.Math.abs.name ∈ wl_gw ∧ Cond.static Lib.Math.abs.name ∈ wl_gw ∧ Cond.initialized "java/lang/Math" ∈ wl_gw ∧ Cond.code Lib.Math.abs.name Lib.Math.abs.code 1 (some .int) ∈ wl_gw) (hrm : 1 ≤ R.frames ∧ 21 ≤ R.locals) (hcat : (rest.map fun v => v.category).sum ≤ 8) (kk : Wp cc own nL R Fn (pc + 3) Ls (.int (if 0 ≤ x then x else 0 - x) :: rest) mh) : Wp cc own nL R Fn pc Ls (.int x :: rest) mh := by
  intro G lk A p l e s m args below meth c kc ks Z hC hF hk H locs ls hR hL
  obtain ⟨hx, hb, hml, hown, hts, -, -, -⟩ := id hC
  exact va_mabs hx hb (hml.trans hL.1.symm) hown (hts _ hw.1) (hts _ hw.2.1) (hts _ hw.2.2.1) (hts _ hw.2.2.2) hrm.1 (by rw [wl_cats]; omega) hk.1 hk.2 hd (kk G lk A p l e s m args below meth c kc ks Z hC hF hk H locs ls hR hL)
theorem wp_mabsl {cc : ByteArray} {own : String} {nL : Nat} {R : Room} {Fn : wl_Fn} {pc : Nat} {Ls rest : List Value} {mh : wl_H} {index : Nat} {x : Int64} (hd : decode cc pc = .ok (.invokestatic index, 3)) (hw : Cond.methodLink own index Lib.MathLoose.abs_long.x ∈ wl_gw ∧ Cond.static Lib.MathLoose.abs_long.x ∈ wl_gw ∧ Cond.initialized "java/lang/Math" ∈ wl_gw ∧ Cond.code Lib.MathLoose.abs_long.x Lib.MathLoose.abs_long.code 2 (some .long) ∈ wl_gw) (hrm : 1 ≤ R.frames ∧ 21 ≤ R.locals) (hcat : (rest.map fun v => v.category).sum ≤ 8) (kk : Wp cc own nL R Fn (pc + 3) Ls (.long (if 0 < x then x else -x) :: rest) mh) : Wp cc own nL R Fn pc Ls (.long x :: rest) mh := by
  intro G lk A p l e s m args below meth c kc ks Z hC hF hk H locs ls hR hL
  obtain ⟨hx, hb, hml, hown, hts, -, -, -⟩ := id hC
  exact va_mabs_long hx hb (hml.trans hL.1.symm) hown (hts _ hw.1) (hts _ hw.2.1) (hts _ hw.2.2.1) (hts _ hw.2.2.2) hrm.1 (by rw [wl_cats]; omega) hk.1 hk.2 hd (kk G lk A p l e s m args below meth c kc ks Z hC hF hk H locs ls hR hL)
theorem kJ6_265 : Cond.constant RJ6 265 1431655765 ∈ wl_gw := wl_mem 344 (by decide +kernel) (by decide +kernel)
theorem kJ6_266 : Cond.constant RJ6 266 858993459 ∈ wl_gw := wl_mem 345 (by decide +kernel) (by decide +kernel)
theorem kJ6_267 : Cond.constant RJ6 267 252645135 ∈ wl_gw := wl_mem 346 (by decide +kernel) (by decide +kernel)
theorem kX6_141 : Cond.constantLong RX6 141 (-1001) ∈ wl_gw := wl_mem 456 (by decide +kernel) (by decide +kernel)
theorem kX6_143 : Cond.constantLong RX6 143 (-1002) ∈ wl_gw := wl_mem 457 (by decide +kernel) (by decide +kernel)
theorem kX6_145 : Cond.constantLong RX6 145 (-1003) ∈ wl_gw := wl_mem 458 (by decide +kernel) (by decide +kernel)
theorem kX3_102 : Cond.constant RX3 102 2147483647 ∈ wl_gw := wl_mem 576 (by decide +kernel) (by decide +kernel)
theorem kX3_113 : Cond.constantLong RX3 113 255 ∈ wl_gw := wl_mem 582 (by decide +kernel) (by decide +kernel)
theorem kX7_65 : Cond.constantLong RX7 65 2 ∈ wl_gw := wl_mem 711 (by decide +kernel) (by decide +kernel)
theorem kX7_67 : Cond.constantLong RX7 67 8 ∈ wl_gw := wl_mem 712 (by decide +kernel) (by decide +kernel)
theorem kX7_73 : Cond.constantLong RX7 73 4 ∈ wl_gw := wl_mem 728 (by decide +kernel) (by decide +kernel)
theorem kX7_75 : Cond.constantLong RX7 75 100 ∈ wl_gw := wl_mem 729 (by decide +kernel) (by decide +kernel)
theorem kX7_111 : Cond.constantLong RX7 111 (-1) ∈ wl_gw := wl_mem 789 (by decide +kernel) (by decide +kernel)
theorem kX7_153 : Cond.constantLong RX7 153 (-1001) ∈ wl_gw := wl_mem 826 (by decide +kernel) (by decide +kernel)
theorem kX7_155 : Cond.constantLong RX7 155 (-1002) ∈ wl_gw := wl_mem 827 (by decide +kernel) (by decide +kernel)
theorem kX7_157 : Cond.constantLong RX7 157 (-1003) ∈ wl_gw := wl_mem 828 (by decide +kernel) (by decide +kernel)
theorem kX7_170 : Cond.constant RX7 170 1000000 ∈ wl_gw := wl_mem 876 (by decide +kernel) (by decide +kernel)
theorem wi_RL : Cond.initialized RL ∈ wl_gw := wl_mem 0 (by decide +kernel) (by decide +kernel)
theorem wi_RX6 : Cond.initialized RX6 ∈ wl_gw := wl_mem 1 (by decide +kernel) (by decide +kernel)
theorem wi_RX1 : Cond.initialized RX1 ∈ wl_gw := wl_mem 2 (by decide +kernel) (by decide +kernel)
theorem wi_RX2 : Cond.initialized RX2 ∈ wl_gw := wl_mem 3 (by decide +kernel) (by decide +kernel)
theorem wi_RJ7 : Cond.initialized RJ7 ∈ wl_gw := wl_mem 4 (by decide +kernel) (by decide +kernel)
theorem wi_RX5 : Cond.initialized RX5 ∈ wl_gw := wl_mem 5 (by decide +kernel) (by decide +kernel)
theorem wi_RX4 : Cond.initialized RX4 ∈ wl_gw := wl_mem 6 (by decide +kernel) (by decide +kernel)
theorem wi_RX0 : Cond.initialized RX0 ∈ wl_gw := wl_mem 7 (by decide +kernel) (by decide +kernel)
theorem wi_RX3 : Cond.initialized RX3 ∈ wl_gw := wl_mem 8 (by decide +kernel) (by decide +kernel)
theorem wi_RX7 : Cond.initialized RX7 ∈ wl_gw := wl_mem 9 (by decide +kernel) (by decide +kernel)
theorem wi_RJ6 : Cond.initialized RJ6 ∈ wl_gw := wl_mem 10 (by decide +kernel) (by decide +kernel)
theorem wi_RJ9 : Cond.initialized RJ9 ∈ wl_gw := wl_mem 11 (by decide +kernel) (by decide +kernel)
theorem mX0_init : wl_mf yX0_init cX0_init 1 none 0 := ⟨wl_mem 116 (by decide +kernel) (by decide +kernel), wi_RX0, by decide +kernel, by decide +kernel⟩
theorem mX0_start : wl_mf yX0_start cX0_start 3 none 1 := ⟨wl_mem 483 (by decide +kernel) (by decide +kernel), wi_RX0, by decide +kernel, by decide +kernel⟩
theorem mX0_holds : wl_mf yX0_holds cX0_holds 2 (some .boolean) 1 := ⟨wl_mem 500 (by decide +kernel) (by decide +kernel), wi_RX0, by decide +kernel, by decide +kernel⟩
theorem mX0_addSquare : wl_mf yX0_addSquare cX0_addSquare 3 none 2 := ⟨wl_mem 496 (by decide +kernel) (by decide +kernel), wi_RX0, by decide +kernel, by decide +kernel⟩
theorem mX0_addSquareOfSum : wl_mf yX0_addSquareOfSum cX0_addSquareOfSum 4 none 3 := ⟨wl_mem 504 (by decide +kernel) (by decide +kernel), wi_RX0, by decide +kernel, by decide +kernel⟩
theorem mX0_addFactor : wl_mf yX0_addFactor cX0_addFactor 3 none 2 := ⟨wl_mem 509 (by decide +kernel) (by decide +kernel), wi_RX0, by decide +kernel, by decide +kernel⟩
theorem mX0_solve : wl_mf yX0_solve cX0_solve 7 (some .long) 0 := ⟨wl_mem 522 (by decide +kernel) (by decide +kernel), wi_RX0, by decide +kernel, by decide +kernel⟩
theorem mX0_clearFactor : wl_mf yX0_clearFactor cX0_clearFactor 12 none 3 := ⟨wl_mem 526 (by decide +kernel) (by decide +kernel), wi_RX0, by decide +kernel, by decide +kernel⟩
theorem mX0_topOf : wl_mf yX0_topOf cX0_topOf 2 (some .long) 1 := ⟨wl_mem 534 (by decide +kernel) (by decide +kernel), wi_RX0, by decide +kernel, by decide +kernel⟩
theorem mX1_init : wl_mf yX1_init cX1_init 1 none 0 := ⟨wl_mem 24 (by decide +kernel) (by decide +kernel), wi_RX1, by decide +kernel, by decide +kernel⟩
theorem mX1_settle : wl_mf yX1_settle cX1_settle 2 none 1 := ⟨wl_mem 228 (by decide +kernel) (by decide +kernel), wi_RX1, by decide +kernel, by decide +kernel⟩
theorem mX1_holds : wl_mf yX1_holds cX1_holds 2 (some .boolean) 1 := ⟨wl_mem 250 (by decide +kernel) (by decide +kernel), wi_RX1, by decide +kernel, by decide +kernel⟩
theorem mX1_befriend : wl_mf yX1_befriend cX1_befriend 4 none 3 := ⟨wl_mem 257 (by decide +kernel) (by decide +kernel), wi_RX1, by decide +kernel, by decide +kernel⟩
theorem mX1_mayMark : wl_mf yX1_mayMark cX1_mayMark 2 (some .int) 1 := ⟨wl_mem 273 (by decide +kernel) (by decide +kernel), wi_RX1, by decide +kernel, by decide +kernel⟩
theorem mX1_pairsOfFriends : wl_mf yX1_pairsOfFriends cX1_pairsOfFriends 3 (some .int) 0 := ⟨wl_mem 434 (by decide +kernel) (by decide +kernel), wi_RX1, by decide +kernel, by decide +kernel⟩
theorem mX2_init : wl_mf yX2_init cX2_init 2 none 1 := ⟨wl_mem 50 (by decide +kernel) (by decide +kernel), wi_RX2, by decide +kernel, by decide +kernel⟩
theorem mX2_wipe : wl_mf yX2_wipe cX2_wipe 2 none 0 := ⟨wl_mem 57 (by decide +kernel) (by decide +kernel), wi_RX2, by decide +kernel, by decide +kernel⟩
theorem mX2_whoMarked : wl_mf yX2_whoMarked cX2_whoMarked 4 (some .int) 1 := ⟨wl_mem 406 (by decide +kernel) (by decide +kernel), wi_RX2, by decide +kernel, by decide +kernel⟩
theorem mX2_marksBy : wl_mf yX2_marksBy cX2_marksBy 4 (some .int) 1 := ⟨wl_mem 390 (by decide +kernel) (by decide +kernel), wi_RX2, by decide +kernel, by decide +kernel⟩
theorem mX2_howManyMarks : wl_mf yX2_howManyMarks cX2_howManyMarks 3 (some .int) 0 := ⟨wl_mem 386 (by decide +kernel) (by decide +kernel), wi_RX2, by decide +kernel, by decide +kernel⟩
theorem mX2_howManyByStaff : wl_mf yX2_howManyByStaff cX2_howManyByStaff 3 (some .int) 0 := ⟨wl_mem 394 (by decide +kernel) (by decide +kernel), wi_RX2, by decide +kernel, by decide +kernel⟩
theorem mX2_howManyAppealed : wl_mf yX2_howManyAppealed cX2_howManyAppealed 3 (some .int) 0 := ⟨wl_mem 422 (by decide +kernel) (by decide +kernel), wi_RX2, by decide +kernel, by decide +kernel⟩
theorem mX2_spreadOf : wl_mf yX2_spreadOf cX2_spreadOf 6 (some .int) 1 := ⟨wl_mem 426 (by decide +kernel) (by decide +kernel), wi_RX2, by decide +kernel, by decide +kernel⟩
theorem mX2_nextMarker : wl_mf yX2_nextMarker cX2_nextMarker 6 (some .int) 1 := ⟨wl_mem 632 (by decide +kernel) (by decide +kernel), wi_RX2, by decide +kernel, by decide +kernel⟩
theorem mX2_digestAll : wl_mf yX2_digestAll cX2_digestAll 4 (some .int) 0 := ⟨wl_mem 643 (by decide +kernel) (by decide +kernel), wi_RX2, by decide +kernel, by decide +kernel⟩
theorem mX3_init : wl_mf yX3_init cX3_init 3 none 2 := ⟨wl_mem 175 (by decide +kernel) (by decide +kernel), wi_RX3, by decide +kernel, by decide +kernel⟩
theorem mX3_forget : wl_mf yX3_forget cX3_forget 1 none 0 := ⟨wl_mem 242 (by decide +kernel) (by decide +kernel), wi_RX3, by decide +kernel, by decide +kernel⟩
theorem mX3_workAt : wl_mf yX3_workAt cX3_workAt 2 (some .int) 1 := ⟨wl_mem 550 (by decide +kernel) (by decide +kernel), wi_RX3, by decide +kernel, by decide +kernel⟩
theorem mX3_leastQuarrel : wl_mf yX3_leastQuarrel cX3_leastQuarrel 1 (some .int) 0 := ⟨wl_mem 595 (by decide +kernel) (by decide +kernel), wi_RX3, by decide +kernel, by decide +kernel⟩
theorem mX3_turnedBy : wl_mf yX3_turnedBy cX3_turnedBy 5 (some .int) 1 := ⟨wl_mem 603 (by decide +kernel) (by decide +kernel), wi_RX3, by decide +kernel, by decide +kernel⟩
theorem mX3_farthestMove : wl_mf yX3_farthestMove cX3_farthestMove 2 (some .int) 1 := ⟨wl_mem 611 (by decide +kernel) (by decide +kernel), wi_RX3, by decide +kernel, by decide +kernel⟩
theorem mX3_refresh : wl_mf yX3_refresh cX3_refresh 1 none 0 := ⟨wl_mem 554 (by decide +kernel) (by decide +kernel), wi_RX3, by decide +kernel, by decide +kernel⟩
theorem mX3_turnsTwo : wl_mf yX3_turnsTwo cX3_turnsTwo 5 (some .boolean) 3 := ⟨wl_mem 571 (by decide +kernel) (by decide +kernel), wi_RX3, by decide +kernel, by decide +kernel⟩
theorem mX3_farthest : wl_mf yX3_farthest cX3_farthest 4 (some .int) 0 := ⟨wl_mem 615 (by decide +kernel) (by decide +kernel), wi_RX3, by decide +kernel, by decide +kernel⟩
theorem mX3_findOrder : wl_mf yX3_findOrder cX3_findOrder 6 (some .int) 2 := ⟨wl_mem 559 (by decide +kernel) (by decide +kernel), wi_RX3, by decide +kernel, by decide +kernel⟩
theorem mX3_countTolls : wl_mf yX3_countTolls cX3_countTolls 7 none 1 := ⟨wl_mem 563 (by decide +kernel) (by decide +kernel), wi_RX3, by decide +kernel, by decide +kernel⟩
theorem mX3_tollsWith : wl_mf yX3_tollsWith cX3_tollsWith 7 (some .long) 2 := ⟨wl_mem 567 (by decide +kernel) (by decide +kernel), wi_RX3, by decide +kernel, by decide +kernel⟩
theorem mX3_findLeast : wl_mf yX3_findLeast cX3_findLeast 4 none 0 := ⟨wl_mem 575 (by decide +kernel) (by decide +kernel), wi_RX3, by decide +kernel, by decide +kernel⟩
theorem mX3_quarrelIfAhead : wl_mf yX3_quarrelIfAhead cX3_quarrelIfAhead 4 (some .int) 2 := ⟨wl_mem 581 (by decide +kernel) (by decide +kernel), wi_RX3, by decide +kernel, by decide +kernel⟩
theorem mX3_bestAhead : wl_mf yX3_bestAhead cX3_bestAhead 3 (some .int) 1 := ⟨wl_mem 587 (by decide +kernel) (by decide +kernel), wi_RX3, by decide +kernel, by decide +kernel⟩
theorem mX4_init : wl_mf yX4_init cX4_init 3 none 2 := ⟨wl_mem 110 (by decide +kernel) (by decide +kernel), wi_RX4, by decide +kernel, by decide +kernel⟩
theorem mX4_forget : wl_mf yX4_forget cX4_forget 1 none 0 := ⟨wl_mem 238 (by decide +kernel) (by decide +kernel), wi_RX4, by decide +kernel, by decide +kernel⟩
theorem mX4_howMany : wl_mf yX4_howMany cX4_howMany 1 (some .int) 0 := ⟨wl_mem 398 (by decide +kernel) (by decide +kernel), wi_RX4, by decide +kernel, by decide +kernel⟩
theorem mX4_howManyLarge : wl_mf yX4_howManyLarge cX4_howManyLarge 3 (some .int) 0 := ⟨wl_mem 413 (by decide +kernel) (by decide +kernel), wi_RX4, by decide +kernel, by decide +kernel⟩
theorem mX4_ofWork : wl_mf yX4_ofWork cX4_ofWork 2 (some .int) 1 := ⟨wl_mem 443 (by decide +kernel) (by decide +kernel), wi_RX4, by decide +kernel, by decide +kernel⟩
theorem mX4_ofMarker : wl_mf yX4_ofMarker cX4_ofMarker 2 (some .int) 1 := ⟨wl_mem 451 (by decide +kernel) (by decide +kernel), wi_RX4, by decide +kernel, by decide +kernel⟩
theorem mX4_whichHas : wl_mf yX4_whichHas cX4_whichHas 4 (some .int) 2 := ⟨wl_mem 447 (by decide +kernel) (by decide +kernel), wi_RX4, by decide +kernel, by decide +kernel⟩
theorem mX4_isTold : wl_mf yX4_isTold cX4_isTold 2 (some .boolean) 1 := ⟨wl_mem 471 (by decide +kernel) (by decide +kernel), wi_RX4, by decide +kernel, by decide +kernel⟩
theorem mX4_isLarge : wl_mf yX4_isLarge cX4_isLarge 2 (some .boolean) 1 := ⟨wl_mem 417 (by decide +kernel) (by decide +kernel), wi_RX4, by decide +kernel, by decide +kernel⟩
theorem mX4_refresh : wl_mf yX4_refresh cX4_refresh 3 none 0 := ⟨wl_mem 402 (by decide +kernel) (by decide +kernel), wi_RX4, by decide +kernel, by decide +kernel⟩
theorem mX4_workOut : wl_mf yX4_workOut cX4_workOut 3 none 1 := ⟨wl_mem 475 (by decide +kernel) (by decide +kernel), wi_RX4, by decide +kernel, by decide +kernel⟩
theorem mX4_giveSlots : wl_mf yX4_giveSlots cX4_giveSlots 4 (some .int) 1 := ⟨wl_mem 479 (by decide +kernel) (by decide +kernel), wi_RX4, by decide +kernel, by decide +kernel⟩
theorem mX4_hasStaffMark : wl_mf yX4_hasStaffMark cX4_hasStaffMark 3 (some .boolean) 1 := ⟨wl_mem 513 (by decide +kernel) (by decide +kernel), wi_RX4, by decide +kernel, by decide +kernel⟩
theorem mX4_writeMarksOf : wl_mf yX4_writeMarksOf cX4_writeMarksOf 3 none 1 := ⟨wl_mem 492 (by decide +kernel) (by decide +kernel), wi_RX4, by decide +kernel, by decide +kernel⟩
theorem mX4_writeLeansAreNothingInAll : wl_mf yX4_writeLeansAreNothingInAll cX4_writeLeansAreNothingInAll 4 none 1 := ⟨wl_mem 517 (by decide +kernel) (by decide +kernel), wi_RX4, by decide +kernel, by decide +kernel⟩
theorem mX4_readTops : wl_mf yX4_readTops cX4_readTops 4 none 1 := ⟨wl_mem 530 (by decide +kernel) (by decide +kernel), wi_RX4, by decide +kernel, by decide +kernel⟩
theorem mX5_init : wl_mf yX5_init cX5_init 2 none 1 := ⟨wl_mem 80 (by decide +kernel) (by decide +kernel), wi_RX5, by decide +kernel, by decide +kernel⟩
theorem mX5_forget : wl_mf yX5_forget cX5_forget 1 none 0 := ⟨wl_mem 234 (by decide +kernel) (by decide +kernel), wi_RX5, by decide +kernel, by decide +kernel⟩
theorem mX5_isPossible : wl_mf yX5_isPossible cX5_isPossible 1 (some .boolean) 0 := ⟨wl_mem 281 (by decide +kernel) (by decide +kernel), wi_RX5, by decide +kernel, by decide +kernel⟩
theorem mX5_findAnyPlan : wl_mf yX5_findAnyPlan cX5_findAnyPlan 3 (some .boolean) 0 := ⟨wl_mem 285 (by decide +kernel) (by decide +kernel), wi_RX5, by decide +kernel, by decide +kernel⟩
theorem mX5_findMarker : wl_mf yX5_findMarker cX5_findMarker 4 (some .boolean) 1 := ⟨wl_mem 290 (by decide +kernel) (by decide +kernel), wi_RX5, by decide +kernel, by decide +kernel⟩
theorem mX5_makeFirst : wl_mf yX5_makeFirst cX5_makeFirst 3 none 0 := ⟨wl_mem 324 (by decide +kernel) (by decide +kernel), wi_RX5, by decide +kernel, by decide +kernel⟩
theorem mX5_bringIn : wl_mf yX5_bringIn cX5_bringIn 4 none 2 := ⟨wl_mem 328 (by decide +kernel) (by decide +kernel), wi_RX5, by decide +kernel, by decide +kernel⟩
theorem mX5_take : wl_mf yX5_take cX5_take 3 none 2 := ⟨wl_mem 296 (by decide +kernel) (by decide +kernel), wi_RX5, by decide +kernel, by decide +kernel⟩
theorem mX5_drop : wl_mf yX5_drop cX5_drop 3 none 2 := ⟨wl_mem 320 (by decide +kernel) (by decide +kernel), wi_RX5, by decide +kernel, by decide +kernel⟩
theorem mX5_passOn : wl_mf yX5_passOn cX5_passOn 9 (some .boolean) 2 := ⟨wl_mem 300 (by decide +kernel) (by decide +kernel), wi_RX5, by decide +kernel, by decide +kernel⟩
theorem mX5_leastOf : wl_mf yX5_leastOf cX5_leastOf 3 (some .int) 1 := ⟨wl_mem 304 (by decide +kernel) (by decide +kernel), wi_RX5, by decide +kernel, by decide +kernel⟩
theorem mX5_reach : wl_mf yX5_reach cX5_reach 8 (some .int) 3 := ⟨wl_mem 308 (by decide +kernel) (by decide +kernel), wi_RX5, by decide +kernel, by decide +kernel⟩
theorem mX5_withRoom : wl_mf yX5_withRoom cX5_withRoom 3 (some .int) 1 := ⟨wl_mem 312 (by decide +kernel) (by decide +kernel), wi_RX5, by decide +kernel, by decide +kernel⟩
theorem mX5_handDown : wl_mf yX5_handDown cX5_handDown 7 none 2 := ⟨wl_mem 316 (by decide +kernel) (by decide +kernel), wi_RX5, by decide +kernel, by decide +kernel⟩
theorem mX5_leastLack : wl_mf yX5_leastLack cX5_leastLack 3 (some .int) 0 := ⟨wl_mem 340 (by decide +kernel) (by decide +kernel), wi_RX5, by decide +kernel, by decide +kernel⟩
theorem mX5_roomFor : wl_mf yX5_roomFor cX5_roomFor 4 (some .int) 1 := ⟨wl_mem 350 (by decide +kernel) (by decide +kernel), wi_RX5, by decide +kernel, by decide +kernel⟩
theorem mX5_countParts : wl_mf yX5_countParts cX5_countParts 4 (some .int) 0 := ⟨wl_mem 361 (by decide +kernel) (by decide +kernel), wi_RX5, by decide +kernel, by decide +kernel⟩
theorem mX6_init : wl_mf yX6_init cX6_init 1 none 0 := ⟨wl_mem 16 (by decide +kernel) (by decide +kernel), wi_RX6, by decide +kernel, by decide +kernel⟩
theorem mX6_pupils : wl_mf yX6_pupils cX6_pupils 3 (some .int) 1 := ⟨wl_mem 224 (by decide +kernel) (by decide +kernel), wi_RX6, by decide +kernel, by decide +kernel⟩
theorem mX6_friends : wl_mf yX6_friends cX6_friends 5 (some .int) 3 := ⟨wl_mem 246 (by decide +kernel) (by decide +kernel), wi_RX6, by decide +kernel, by decide +kernel⟩
theorem mX6_rule : wl_mf yX6_rule cX6_rule 4 (some .int) 2 := ⟨wl_mem 261 (by decide +kernel) (by decide +kernel), wi_RX6, by decide +kernel, by decide +kernel⟩
theorem mX6_may : wl_mf yX6_may cX6_may 2 (some .int) 1 := ⟨wl_mem 269 (by decide +kernel) (by decide +kernel), wi_RX6, by decide +kernel, by decide +kernel⟩
theorem mX6_plan : wl_mf yX6_plan cX6_plan 2 (some .int) 1 := ⟨wl_mem 277 (by decide +kernel) (by decide +kernel), wi_RX6, by decide +kernel, by decide +kernel⟩
theorem mX6_shared : wl_mf yX6_shared cX6_shared 2 (some .int) 1 := ⟨wl_mem 332 (by decide +kernel) (by decide +kernel), wi_RX6, by decide +kernel, by decide +kernel⟩
theorem mX6_lack : wl_mf yX6_lack cX6_lack 1 (some .int) 0 := ⟨wl_mem 336 (by decide +kernel) (by decide +kernel), wi_RX6, by decide +kernel, by decide +kernel⟩
theorem mX6_parts : wl_mf yX6_parts cX6_parts 1 (some .int) 0 := ⟨wl_mem 357 (by decide +kernel) (by decide +kernel), wi_RX6, by decide +kernel, by decide +kernel⟩
theorem mX6_mark : wl_mf yX6_mark cX6_mark 5 (some .int) 3 := ⟨wl_mem 374 (by decide +kernel) (by decide +kernel), wi_RX6, by decide +kernel, by decide +kernel⟩
theorem mX6_staff : wl_mf yX6_staff cX6_staff 4 (some .int) 2 := ⟨wl_mem 378 (by decide +kernel) (by decide +kernel), wi_RX6, by decide +kernel, by decide +kernel⟩
theorem mX6_count : wl_mf yX6_count cX6_count 2 (some .int) 1 := ⟨wl_mem 382 (by decide +kernel) (by decide +kernel), wi_RX6, by decide +kernel, by decide +kernel⟩
theorem mX6_piece : wl_mf yX6_piece cX6_piece 3 (some .int) 2 := ⟨wl_mem 439 (by decide +kernel) (by decide +kernel), wi_RX6, by decide +kernel, by decide +kernel⟩
theorem mX6_worth : wl_mf yX6_worth cX6_worth 4 (some .long) 2 := ⟨wl_mem 455 (by decide +kernel) (by decide +kernel), wi_RX6, by decide +kernel, by decide +kernel⟩
theorem mX6_lean : wl_mf yX6_lean cX6_lean 4 (some .long) 2 := ⟨wl_mem 538 (by decide +kernel) (by decide +kernel), wi_RX6, by decide +kernel, by decide +kernel⟩
theorem mX6_left : wl_mf yX6_left cX6_left 8 (some .long) 3 := ⟨wl_mem 542 (by decide +kernel) (by decide +kernel), wi_RX6, by decide +kernel, by decide +kernel⟩
theorem mX6_order : wl_mf yX6_order cX6_order 2 (some .int) 1 := ⟨wl_mem 546 (by decide +kernel) (by decide +kernel), wi_RX6, by decide +kernel, by decide +kernel⟩
theorem mX6_quarrel : wl_mf yX6_quarrel cX6_quarrel 1 (some .int) 0 := ⟨wl_mem 591 (by decide +kernel) (by decide +kernel), wi_RX6, by decide +kernel, by decide +kernel⟩
theorem mX6_turned : wl_mf yX6_turned cX6_turned 2 (some .int) 1 := ⟨wl_mem 599 (by decide +kernel) (by decide +kernel), wi_RX6, by decide +kernel, by decide +kernel⟩
theorem mX6_moves : wl_mf yX6_moves cX6_moves 2 (some .int) 1 := ⟨wl_mem 607 (by decide +kernel) (by decide +kernel), wi_RX6, by decide +kernel, by decide +kernel⟩
theorem mX6_spread : wl_mf yX6_spread cX6_spread 2 (some .int) 1 := ⟨wl_mem 623 (by decide +kernel) (by decide +kernel), wi_RX6, by decide +kernel, by decide +kernel⟩
theorem mX6_next : wl_mf yX6_next cX6_next 2 (some .int) 1 := ⟨wl_mem 628 (by decide +kernel) (by decide +kernel), wi_RX6, by decide +kernel, by decide +kernel⟩
theorem mX6_digest : wl_mf yX6_digest cX6_digest 1 (some .int) 0 := ⟨wl_mem 639 (by decide +kernel) (by decide +kernel), wi_RX6, by decide +kernel, by decide +kernel⟩
theorem mX6_has : wl_mf yX6_has cX6_has 2 (some .boolean) 2 := ⟨wl_mem 253 (by decide +kernel) (by decide +kernel), wi_RX6, by decide +kernel, by decide +kernel⟩
theorem mX6_tiedWorks : wl_mf yX6_tiedWorks cX6_tiedWorks 6 (some .int) 3 := ⟨wl_mem 364 (by decide +kernel) (by decide +kernel), wi_RX6, by decide +kernel, by decide +kernel⟩
theorem mX6_markersOf : wl_mf yX6_markersOf cX6_markersOf 5 (some .int) 3 := ⟨wl_mem 367 (by decide +kernel) (by decide +kernel), wi_RX6, by decide +kernel, by decide +kernel⟩
theorem mX6_worksOf : wl_mf yX6_worksOf cX6_worksOf 5 (some .int) 3 := ⟨wl_mem 370 (by decide +kernel) (by decide +kernel), wi_RX6, by decide +kernel, by decide +kernel⟩
theorem mX6_inLeastTerms : wl_mf yX6_inLeastTerms cX6_inLeastTerms 7 (some .long) 3 := ⟨wl_mem 461 (by decide +kernel) (by decide +kernel), wi_RX6, by decide +kernel, by decide +kernel⟩
theorem mX6_commonDivisor : wl_mf yX6_commonDivisor cX6_commonDivisor 7 (some .long) 2 := ⟨wl_mem 467 (by decide +kernel) (by decide +kernel), wi_RX6, by decide +kernel, by decide +kernel⟩
theorem mX7_init : wl_mf yX7_init cX7_init 1 none 0 := ⟨wl_mem 648 (by decide +kernel) (by decide +kernel), wi_RX7, by decide +kernel, by decide +kernel⟩
theorem mX7_in : wl_mf yX7_in cX7_in 6 (some .boolean) 3 := ⟨wl_mem 715 (by decide +kernel) (by decide +kernel), wi_RX7, by decide +kernel, by decide +kernel⟩
theorem mX7_clear : wl_mf yX7_clear cX7_clear 2 none 0 := ⟨wl_mem 653 (by decide +kernel) (by decide +kernel), wi_RX7, by decide +kernel, by decide +kernel⟩
theorem mX7_is : wl_mf yX7_is cX7_is 2 (some .boolean) 1 := ⟨wl_mem 723 (by decide +kernel) (by decide +kernel), wi_RX7, by decide +kernel, by decide +kernel⟩
theorem mX7_pupils : wl_mf yX7_pupils cX7_pupils 3 (some .int) 1 := ⟨wl_mem 710 (by decide +kernel) (by decide +kernel), wi_RX7, by decide +kernel, by decide +kernel⟩
theorem mX7_friends : wl_mf yX7_friends cX7_friends 5 (some .int) 3 := ⟨wl_mem 719 (by decide +kernel) (by decide +kernel), wi_RX7, by decide +kernel, by decide +kernel⟩
theorem mX7_rule : wl_mf yX7_rule cX7_rule 4 (some .int) 2 := ⟨wl_mem 727 (by decide +kernel) (by decide +kernel), wi_RX7, by decide +kernel, by decide +kernel⟩
theorem mX7_canMark : wl_mf yX7_canMark cX7_canMark 3 (some .boolean) 2 := ⟨wl_mem 737 (by decide +kernel) (by decide +kernel), wi_RX7, by decide +kernel, by decide +kernel⟩
theorem mX7_may : wl_mf yX7_may cX7_may 4 (some .int) 1 := ⟨wl_mem 733 (by decide +kernel) (by decide +kernel), wi_RX7, by decide +kernel, by decide +kernel⟩
theorem mX7_bits : wl_mf yX7_bits cX7_bits 3 (some .int) 1 := ⟨wl_mem 753 (by decide +kernel) (by decide +kernel), wi_RX7, by decide +kernel, by decide +kernel⟩
theorem mX7_lackFrom : wl_mf yX7_lackFrom cX7_lackFrom 6 (some .int) 1 := ⟨wl_mem 749 (by decide +kernel) (by decide +kernel), wi_RX7, by decide +kernel, by decide +kernel⟩
theorem mX7_mayBe : wl_mf yX7_mayBe cX7_mayBe 5 (some .boolean) 2 := ⟨wl_mem 757 (by decide +kernel) (by decide +kernel), wi_RX7, by decide +kernel, by decide +kernel⟩
theorem mX7_use : wl_mf yX7_use cX7_use 4 none 2 := ⟨wl_mem 764 (by decide +kernel) (by decide +kernel), wi_RX7, by decide +kernel, by decide +kernel⟩
theorem mX7_isAhead : wl_mf yX7_isAhead cX7_isAhead 3 (some .boolean) 2 := ⟨wl_mem 760 (by decide +kernel) (by decide +kernel), wi_RX7, by decide +kernel, by decide +kernel⟩
theorem mX7_findPlan : wl_mf yX7_findPlan cX7_findPlan 4 (some .boolean) 0 := ⟨wl_mem 745 (by decide +kernel) (by decide +kernel), wi_RX7, by decide +kernel, by decide +kernel⟩
theorem mX7_plan : wl_mf yX7_plan cX7_plan 2 (some .int) 1 := ⟨wl_mem 741 (by decide +kernel) (by decide +kernel), wi_RX7, by decide +kernel, by decide +kernel⟩
theorem mX7_shared : wl_mf yX7_shared cX7_shared 2 (some .int) 1 := ⟨wl_mem 768 (by decide +kernel) (by decide +kernel), wi_RX7, by decide +kernel, by decide +kernel⟩
theorem mX7_lack : wl_mf yX7_lack cX7_lack 2 (some .int) 0 := ⟨wl_mem 772 (by decide +kernel) (by decide +kernel), wi_RX7, by decide +kernel, by decide +kernel⟩
theorem mX7_spread : wl_mf yX7_spread cX7_spread 4 none 2 := ⟨wl_mem 784 (by decide +kernel) (by decide +kernel), wi_RX7, by decide +kernel, by decide +kernel⟩
theorem mX7_join : wl_mf yX7_join cX7_join 5 none 2 := ⟨wl_mem 780 (by decide +kernel) (by decide +kernel), wi_RX7, by decide +kernel, by decide +kernel⟩
theorem mX7_parts : wl_mf yX7_parts cX7_parts 3 (some .int) 0 := ⟨wl_mem 776 (by decide +kernel) (by decide +kernel), wi_RX7, by decide +kernel, by decide +kernel⟩
theorem mX7_mark : wl_mf yX7_mark cX7_mark 5 (some .int) 3 := ⟨wl_mem 788 (by decide +kernel) (by decide +kernel), wi_RX7, by decide +kernel, by decide +kernel⟩
theorem mX7_staff : wl_mf yX7_staff cX7_staff 4 (some .int) 2 := ⟨wl_mem 793 (by decide +kernel) (by decide +kernel), wi_RX7, by decide +kernel, by decide +kernel⟩
theorem mX7_findParts : wl_mf yX7_findParts cX7_findParts 3 none 0 := ⟨wl_mem 801 (by decide +kernel) (by decide +kernel), wi_RX7, by decide +kernel, by decide +kernel⟩
theorem mX7_sizeOf : wl_mf yX7_sizeOf cX7_sizeOf 4 (some .int) 1 := ⟨wl_mem 813 (by decide +kernel) (by decide +kernel), wi_RX7, by decide +kernel, by decide +kernel⟩
theorem mX7_numberOf : wl_mf yX7_numberOf cX7_numberOf 4 (some .int) 1 := ⟨wl_mem 821 (by decide +kernel) (by decide +kernel), wi_RX7, by decide +kernel, by decide +kernel⟩
theorem mX7_pieces : wl_mf yX7_pieces cX7_pieces 4 (some .int) 1 := ⟨wl_mem 809 (by decide +kernel) (by decide +kernel), wi_RX7, by decide +kernel, by decide +kernel⟩
theorem mX7_count : wl_mf yX7_count cX7_count 4 (some .int) 1 := ⟨wl_mem 797 (by decide +kernel) (by decide +kernel), wi_RX7, by decide +kernel, by decide +kernel⟩
theorem mX7_piece : wl_mf yX7_piece cX7_piece 3 (some .int) 2 := ⟨wl_mem 817 (by decide +kernel) (by decide +kernel), wi_RX7, by decide +kernel, by decide +kernel⟩
theorem mX7_place : wl_mf yX7_place cX7_place 2 none 1 := ⟨wl_mem 836 (by decide +kernel) (by decide +kernel), wi_RX7, by decide +kernel, by decide +kernel⟩
theorem mX7_add : wl_mf yX7_add cX7_add 5 none 3 := ⟨wl_mem 844 (by decide +kernel) (by decide +kernel), wi_RX7, by decide +kernel, by decide +kernel⟩
theorem mX7_setUp : wl_mf yX7_setUp cX7_setUp 9 none 1 := ⟨wl_mem 840 (by decide +kernel) (by decide +kernel), wi_RX7, by decide +kernel, by decide +kernel⟩
theorem mX7_solveCells : wl_mf yX7_solveCells cX7_solveCells 10 none 0 := ⟨wl_mem 848 (by decide +kernel) (by decide +kernel), wi_RX7, by decide +kernel, by decide +kernel⟩
theorem mX7_solve : wl_mf yX7_solve cX7_solve 8 (some .boolean) 1 := ⟨wl_mem 832 (by decide +kernel) (by decide +kernel), wi_RX7, by decide +kernel, by decide +kernel⟩
theorem mX7_common : wl_mf yX7_common cX7_common 10 (some .long) 2 := ⟨wl_mem 855 (by decide +kernel) (by decide +kernel), wi_RX7, by decide +kernel, by decide +kernel⟩
theorem mX7_told : wl_mf yX7_told cX7_told 6 (some .long) 2 := ⟨wl_mem 852 (by decide +kernel) (by decide +kernel), wi_RX7, by decide +kernel, by decide +kernel⟩
theorem mX7_worth : wl_mf yX7_worth cX7_worth 4 (some .long) 2 := ⟨wl_mem 825 (by decide +kernel) (by decide +kernel), wi_RX7, by decide +kernel, by decide +kernel⟩
theorem mX7_lean : wl_mf yX7_lean cX7_lean 4 (some .long) 2 := ⟨wl_mem 859 (by decide +kernel) (by decide +kernel), wi_RX7, by decide +kernel, by decide +kernel⟩
theorem mX7_left : wl_mf yX7_left cX7_left 5 (some .long) 3 := ⟨wl_mem 863 (by decide +kernel) (by decide +kernel), wi_RX7, by decide +kernel, by decide +kernel⟩
theorem mX7_turns : wl_mf yX7_turns cX7_turns 4 (some .boolean) 3 := ⟨wl_mem 875 (by decide +kernel) (by decide +kernel), wi_RX7, by decide +kernel, by decide +kernel⟩
theorem mX7_cost : wl_mf yX7_cost cX7_cost 5 (some .int) 2 := ⟨wl_mem 880 (by decide +kernel) (by decide +kernel), wi_RX7, by decide +kernel, by decide +kernel⟩
theorem mX7_findOrder : wl_mf yX7_findOrder cX7_findOrder 6 none 1 := ⟨wl_mem 871 (by decide +kernel) (by decide +kernel), wi_RX7, by decide +kernel, by decide +kernel⟩
theorem mX7_order : wl_mf yX7_order cX7_order 4 (some .int) 1 := ⟨wl_mem 867 (by decide +kernel) (by decide +kernel), wi_RX7, by decide +kernel, by decide +kernel⟩
theorem mX7_quarrel : wl_mf yX7_quarrel cX7_quarrel 1 (some .int) 0 := ⟨wl_mem 884 (by decide +kernel) (by decide +kernel), wi_RX7, by decide +kernel, by decide +kernel⟩
theorem mX7_turned : wl_mf yX7_turned cX7_turned 5 (some .int) 1 := ⟨wl_mem 888 (by decide +kernel) (by decide +kernel), wi_RX7, by decide +kernel, by decide +kernel⟩
theorem mX7_moves : wl_mf yX7_moves cX7_moves 5 (some .int) 1 := ⟨wl_mem 892 (by decide +kernel) (by decide +kernel), wi_RX7, by decide +kernel, by decide +kernel⟩
theorem mX7_spreadOf : wl_mf yX7_spreadOf cX7_spreadOf 6 (some .int) 1 := ⟨wl_mem 805 (by decide +kernel) (by decide +kernel), wi_RX7, by decide +kernel, by decide +kernel⟩
theorem mX7_spread_ : wl_mf yX7_spread_ cX7_spread_ 2 (some .int) 1 := ⟨wl_mem 896 (by decide +kernel) (by decide +kernel), wi_RX7, by decide +kernel, by decide +kernel⟩
theorem mX7_marksOf : wl_mf yX7_marksOf cX7_marksOf 4 (some .int) 1 := ⟨wl_mem 904 (by decide +kernel) (by decide +kernel), wi_RX7, by decide +kernel, by decide +kernel⟩
theorem mX7_next : wl_mf yX7_next cX7_next 4 (some .int) 1 := ⟨wl_mem 900 (by decide +kernel) (by decide +kernel), wi_RX7, by decide +kernel, by decide +kernel⟩
theorem mX7_digest : wl_mf yX7_digest cX7_digest 4 (some .int) 0 := ⟨wl_mem 908 (by decide +kernel) (by decide +kernel), wi_RX7, by decide +kernel, by decide +kernel⟩
theorem mJ6_bitCount_0f7a4 : wl_mf yJ6_bitCount_0f7a4 cJ6_bitCount_0f7a4 1 (some .int) 1 := ⟨wl_mem 343 (by decide +kernel) (by decide +kernel), wi_RJ6, by decide +kernel, by decide +kernel⟩
theorem mJ7_fill_d0a16 : wl_mf yJ7_fill_d0a16 cJ7_fill_d0a16 5 none 2 := ⟨wl_mem 488 (by decide +kernel) (by decide +kernel), wi_RJ7, by decide +kernel, by decide +kernel⟩
theorem mJ7_fill_53178 : wl_mf yJ7_fill_53178 cJ7_fill_53178 4 none 2 := ⟨wl_mem 60 (by decide +kernel) (by decide +kernel), wi_RJ7, by decide +kernel, by decide +kernel⟩
theorem uX0 : ∀ w ∈ u_ws RX0 TX0 2, w ∈ wl_gw := by decide +kernel
theorem uX1 : ∀ w ∈ u_ws RX1 TX1 3, w ∈ wl_gw := by decide +kernel
theorem uX2 : ∀ w ∈ u_ws RX2 TX2 3, w ∈ wl_gw := by decide +kernel
theorem uX3 : ∀ w ∈ u_ws RX3 TX3 9, w ∈ wl_gw := by decide +kernel
theorem uX4 : ∀ w ∈ u_ws RX4 TX4 13, w ∈ wl_gw := by decide +kernel
theorem uX5 : ∀ w ∈ u_ws RX5 TX5 7, w ∈ wl_gw := by decide +kernel
theorem uX6 : ∀ w ∈ u_ws RX6 TX6 5, w ∈ wl_gw := by decide +kernel
theorem uX7 : ∀ w ∈ u_ws RX7 TX7 17, w ∈ wl_gw := by decide +kernel
theorem fX1_9 : wl_fl RX1 9 1 0 (.int) := ⟨RX1, TX1, 3, tyX1, rfl, by decide, wl_mem 26 (by decide +kernel) (by decide +kernel), uX1, tyX1_ok, nmX1, rfl⟩
theorem fX6_48 : wl_fl RX6 48 1 0 (.int) := ⟨RX1, TX1, 3, tyX1, rfl, by decide, wl_mem 27 (by decide +kernel) (by decide +kernel), uX1, tyX1_ok, nmX1, rfl⟩
theorem fX2_33 : wl_fl RX2 33 1 0 (.int) := ⟨RX1, TX1, 3, tyX1, rfl, by decide, wl_mem 28 (by decide +kernel) (by decide +kernel), uX1, tyX1_ok, nmX1, rfl⟩
theorem fX5_48 : wl_fl RX5 48 1 0 (.int) := ⟨RX1, TX1, 3, tyX1, rfl, by decide, wl_mem 29 (by decide +kernel) (by decide +kernel), uX1, tyX1_ok, nmX1, rfl⟩
theorem fX3_47 : wl_fl RX3 47 1 0 (.int) := ⟨RX1, TX1, 3, tyX1, rfl, by decide, wl_mem 30 (by decide +kernel) (by decide +kernel), uX1, tyX1_ok, nmX1, rfl⟩
theorem fX4_85 : wl_fl RX4 85 1 0 (.int) := ⟨RX1, TX1, 3, tyX1, rfl, by decide, wl_mem 31 (by decide +kernel) (by decide +kernel), uX1, tyX1_ok, nmX1, rfl⟩
theorem fX1_15 : wl_fl RX1 15 1 1 (.array .int) := ⟨RX1, TX1, 3, tyX1, rfl, by decide, wl_mem 32 (by decide +kernel) (by decide +kernel), uX1, tyX1_ok, nmX1, rfl⟩
theorem fX6_68 : wl_fl RX6 68 1 1 (.array .int) := ⟨RX1, TX1, 3, tyX1, rfl, by decide, wl_mem 33 (by decide +kernel) (by decide +kernel), uX1, tyX1_ok, nmX1, rfl⟩
theorem fX1_19 : wl_fl RX1 19 1 2 (.array .int) := ⟨RX1, TX1, 3, tyX1, rfl, by decide, wl_mem 34 (by decide +kernel) (by decide +kernel), uX1, tyX1_ok, nmX1, rfl⟩
theorem fX6_86 : wl_fl RX6 86 1 2 (.array .int) := ⟨RX1, TX1, 3, tyX1, rfl, by decide, wl_mem 35 (by decide +kernel) (by decide +kernel), uX1, tyX1_ok, nmX1, rfl⟩
theorem fX5_54 : wl_fl RX5 54 1 2 (.array .int) := ⟨RX1, TX1, 3, tyX1, rfl, by decide, wl_mem 36 (by decide +kernel) (by decide +kernel), uX1, tyX1_ok, nmX1, rfl⟩
theorem fX2_46 : wl_fl RX2 46 1 2 (.array .int) := ⟨RX1, TX1, 3, tyX1, rfl, by decide, wl_mem 37 (by decide +kernel) (by decide +kernel), uX1, tyX1_ok, nmX1, rfl⟩
theorem fX2_20 : wl_fl RX2 20 2 0 (.object "PeerMarks$House") := ⟨RX2, TX2, 3, tyX2, rfl, by decide, wl_mem 61 (by decide +kernel) (by decide +kernel), uX2, tyX2_ok, nmX2, rfl⟩
theorem fX2_11 : wl_fl RX2 11 2 1 (.array (.array .int)) := ⟨RX2, TX2, 3, tyX2, rfl, by decide, wl_mem 62 (by decide +kernel) (by decide +kernel), uX2, tyX2_ok, nmX2, rfl⟩
theorem fX3_70 : wl_fl RX3 70 2 1 (.array (.array .int)) := ⟨RX2, TX2, 3, tyX2, rfl, by decide, wl_mem 63 (by decide +kernel) (by decide +kernel), uX2, tyX2_ok, nmX2, rfl⟩
theorem fX6_110 : wl_fl RX6 110 2 1 (.array (.array .int)) := ⟨RX2, TX2, 3, tyX2, rfl, by decide, wl_mem 64 (by decide +kernel) (by decide +kernel), uX2, tyX2_ok, nmX2, rfl⟩
theorem fX4_127 : wl_fl RX4 127 2 1 (.array (.array .int)) := ⟨RX2, TX2, 3, tyX2, rfl, by decide, wl_mem 65 (by decide +kernel) (by decide +kernel), uX2, tyX2_ok, nmX2, rfl⟩
theorem fX2_16 : wl_fl RX2 16 2 2 (.array .int) := ⟨RX2, TX2, 3, tyX2, rfl, by decide, wl_mem 66 (by decide +kernel) (by decide +kernel), uX2, tyX2_ok, nmX2, rfl⟩
theorem fX6_114 : wl_fl RX6 114 2 2 (.array .int) := ⟨RX2, TX2, 3, tyX2, rfl, by decide, wl_mem 67 (by decide +kernel) (by decide +kernel), uX2, tyX2_ok, nmX2, rfl⟩
theorem fX4_124 : wl_fl RX4 124 2 2 (.array .int) := ⟨RX2, TX2, 3, tyX2, rfl, by decide, wl_mem 68 (by decide +kernel) (by decide +kernel), uX2, tyX2_ok, nmX2, rfl⟩
theorem fX5_31 : wl_fl RX5 31 5 0 (.object "PeerMarks$House") := ⟨RX5, TX5, 7, tyX5, rfl, by decide, wl_mem 82 (by decide +kernel) (by decide +kernel), uX5, tyX5_ok, nmX5, rfl⟩
theorem fX5_9 : wl_fl RX5 9 5 1 (.array .int) := ⟨RX5, TX5, 7, tyX5, rfl, by decide, wl_mem 83 (by decide +kernel) (by decide +kernel), uX5, tyX5_ok, nmX5, rfl⟩
theorem fX6_97 : wl_fl RX6 97 5 1 (.array .int) := ⟨RX5, TX5, 7, tyX5, rfl, by decide, wl_mem 84 (by decide +kernel) (by decide +kernel), uX5, tyX5_ok, nmX5, rfl⟩
theorem fX5_15 : wl_fl RX5 15 5 2 (.array .int) := ⟨RX5, TX5, 7, tyX5, rfl, by decide, wl_mem 85 (by decide +kernel) (by decide +kernel), uX5, tyX5_ok, nmX5, rfl⟩
theorem fX6_100 : wl_fl RX6 100 5 2 (.array .int) := ⟨RX5, TX5, 7, tyX5, rfl, by decide, wl_mem 86 (by decide +kernel) (by decide +kernel), uX5, tyX5_ok, nmX5, rfl⟩
theorem fX5_18 : wl_fl RX5 18 5 3 (.array .int) := ⟨RX5, TX5, 7, tyX5, rfl, by decide, wl_mem 87 (by decide +kernel) (by decide +kernel), uX5, tyX5_ok, nmX5, rfl⟩
theorem fX5_21 : wl_fl RX5 21 5 4 (.array .int) := ⟨RX5, TX5, 7, tyX5, rfl, by decide, wl_mem 88 (by decide +kernel) (by decide +kernel), uX5, tyX5_ok, nmX5, rfl⟩
theorem fX5_24 : wl_fl RX5 24 5 5 (.boolean) := ⟨RX5, TX5, 7, tyX5, rfl, by decide, wl_mem 89 (by decide +kernel) (by decide +kernel), uX5, tyX5_ok, nmX5, rfl⟩
theorem fX5_28 : wl_fl RX5 28 5 6 (.boolean) := ⟨RX5, TX5, 7, tyX5, rfl, by decide, wl_mem 90 (by decide +kernel) (by decide +kernel), uX5, tyX5_ok, nmX5, rfl⟩
theorem fX0_11 : wl_fl RX0 11 0 0 (.array (.array .long)) := ⟨RX0, TX0, 2, tyX0, rfl, by decide, wl_mem 120 (by decide +kernel) (by decide +kernel), uX0, tyX0_ok, nmX0, rfl⟩
theorem fX0_16 : wl_fl RX0 16 0 1 (.int) := ⟨RX0, TX0, 2, tyX0, rfl, by decide, wl_mem 121 (by decide +kernel) (by decide +kernel), uX0, tyX0_ok, nmX0, rfl⟩
theorem fX4_52 : wl_fl RX4 52 4 0 (.object "PeerMarks$House") := ⟨RX4, TX4, 13, tyX4, rfl, by decide, wl_mem 128 (by decide +kernel) (by decide +kernel), uX4, tyX4_ok, nmX4, rfl⟩
theorem fX4_56 : wl_fl RX4 56 4 1 (.object "PeerMarks$MarkBook") := ⟨RX4, TX4, 13, tyX4, rfl, by decide, wl_mem 129 (by decide +kernel) (by decide +kernel), uX4, tyX4_ok, nmX4, rfl⟩
theorem fX4_12 : wl_fl RX4 12 4 2 (.object "PeerMarks$Equations") := ⟨RX4, TX4, 13, tyX4, rfl, by decide, wl_mem 130 (by decide +kernel) (by decide +kernel), uX4, tyX4_ok, nmX4, rfl⟩
theorem fX4_18 : wl_fl RX4 18 4 3 (.array .int) := ⟨RX4, TX4, 13, tyX4, rfl, by decide, wl_mem 131 (by decide +kernel) (by decide +kernel), uX4, tyX4_ok, nmX4, rfl⟩
theorem fX4_22 : wl_fl RX4 22 4 4 (.array .int) := ⟨RX4, TX4, 13, tyX4, rfl, by decide, wl_mem 132 (by decide +kernel) (by decide +kernel), uX4, tyX4_ok, nmX4, rfl⟩
theorem fX4_25 : wl_fl RX4 25 4 5 (.array .int) := ⟨RX4, TX4, 13, tyX4, rfl, by decide, wl_mem 133 (by decide +kernel) (by decide +kernel), uX4, tyX4_ok, nmX4, rfl⟩
theorem fX4_28 : wl_fl RX4 28 4 6 (.array .long) := ⟨RX4, TX4, 13, tyX4, rfl, by decide, wl_mem 134 (by decide +kernel) (by decide +kernel), uX4, tyX4_ok, nmX4, rfl⟩
theorem fX6_158 : wl_fl RX6 158 4 6 (.array .long) := ⟨RX4, TX4, 13, tyX4, rfl, by decide, wl_mem 135 (by decide +kernel) (by decide +kernel), uX4, tyX4_ok, nmX4, rfl⟩
theorem fX4_32 : wl_fl RX4 32 4 7 (.array .long) := ⟨RX4, TX4, 13, tyX4, rfl, by decide, wl_mem 136 (by decide +kernel) (by decide +kernel), uX4, tyX4_ok, nmX4, rfl⟩
theorem fX6_154 : wl_fl RX6 154 4 7 (.array .long) := ⟨RX4, TX4, 13, tyX4, rfl, by decide, wl_mem 137 (by decide +kernel) (by decide +kernel), uX4, tyX4_ok, nmX4, rfl⟩
theorem fX4_35 : wl_fl RX4 35 4 8 (.array .long) := ⟨RX4, TX4, 13, tyX4, rfl, by decide, wl_mem 138 (by decide +kernel) (by decide +kernel), uX4, tyX4_ok, nmX4, rfl⟩
theorem fX6_161 : wl_fl RX6 161 4 8 (.array .long) := ⟨RX4, TX4, 13, tyX4, rfl, by decide, wl_mem 139 (by decide +kernel) (by decide +kernel), uX4, tyX4_ok, nmX4, rfl⟩
theorem fX4_38 : wl_fl RX4 38 4 9 (.array .int) := ⟨RX4, TX4, 13, tyX4, rfl, by decide, wl_mem 140 (by decide +kernel) (by decide +kernel), uX4, tyX4_ok, nmX4, rfl⟩
theorem fX4_41 : wl_fl RX4 41 4 10 (.array .int) := ⟨RX4, TX4, 13, tyX4, rfl, by decide, wl_mem 141 (by decide +kernel) (by decide +kernel), uX4, tyX4_ok, nmX4, rfl⟩
theorem fX4_44 : wl_fl RX4 44 4 11 (.int) := ⟨RX4, TX4, 13, tyX4, rfl, by decide, wl_mem 142 (by decide +kernel) (by decide +kernel), uX4, tyX4_ok, nmX4, rfl⟩
theorem fX4_48 : wl_fl RX4 48 4 12 (.boolean) := ⟨RX4, TX4, 13, tyX4, rfl, by decide, wl_mem 143 (by decide +kernel) (by decide +kernel), uX4, tyX4_ok, nmX4, rfl⟩
theorem fX3_36 : wl_fl RX3 36 3 0 (.object "PeerMarks$House") := ⟨RX3, TX3, 9, tyX3, rfl, by decide, wl_mem 177 (by decide +kernel) (by decide +kernel), uX3, tyX3_ok, nmX3, rfl⟩
theorem fX3_40 : wl_fl RX3 40 3 1 (.object "PeerMarks$MarkBook") := ⟨RX3, TX3, 9, tyX3, rfl, by decide, wl_mem 178 (by decide +kernel) (by decide +kernel), uX3, tyX3_ok, nmX3, rfl⟩
theorem fX3_11 : wl_fl RX3 11 3 2 (.array .long) := ⟨RX3, TX3, 9, tyX3, rfl, by decide, wl_mem 179 (by decide +kernel) (by decide +kernel), uX3, tyX3_ok, nmX3, rfl⟩
theorem fX3_15 : wl_fl RX3 15 3 3 (.array .int) := ⟨RX3, TX3, 9, tyX3, rfl, by decide, wl_mem 180 (by decide +kernel) (by decide +kernel), uX3, tyX3_ok, nmX3, rfl⟩
theorem fX3_19 : wl_fl RX3 19 3 4 (.array .int) := ⟨RX3, TX3, 9, tyX3, rfl, by decide, wl_mem 181 (by decide +kernel) (by decide +kernel), uX3, tyX3_ok, nmX3, rfl⟩
theorem fX3_22 : wl_fl RX3 22 3 5 (.array .int) := ⟨RX3, TX3, 9, tyX3, rfl, by decide, wl_mem 182 (by decide +kernel) (by decide +kernel), uX3, tyX3_ok, nmX3, rfl⟩
theorem fX3_25 : wl_fl RX3 25 3 6 (.array .int) := ⟨RX3, TX3, 9, tyX3, rfl, by decide, wl_mem 183 (by decide +kernel) (by decide +kernel), uX3, tyX3_ok, nmX3, rfl⟩
theorem fX3_28 : wl_fl RX3 28 3 7 (.int) := ⟨RX3, TX3, 9, tyX3, rfl, by decide, wl_mem 184 (by decide +kernel) (by decide +kernel), uX3, tyX3_ok, nmX3, rfl⟩
theorem fX3_32 : wl_fl RX3 32 3 8 (.boolean) := ⟨RX3, TX3, 9, tyX3, rfl, by decide, wl_mem 185 (by decide +kernel) (by decide +kernel), uX3, tyX3_ok, nmX3, rfl⟩
theorem fX6_10 : wl_fl RX6 10 6 0 (.object "PeerMarks$House") := ⟨RX6, TX6, 5, tyX6, rfl, by decide, wl_mem 205 (by decide +kernel) (by decide +kernel), uX6, tyX6_ok, nmX6, rfl⟩
theorem fX6_21 : wl_fl RX6 21 6 1 (.object "PeerMarks$MarkBook") := ⟨RX6, TX6, 5, tyX6, rfl, by decide, wl_mem 206 (by decide +kernel) (by decide +kernel), uX6, tyX6_ok, nmX6, rfl⟩
theorem fX6_28 : wl_fl RX6 28 6 2 (.object "PeerMarks$Sharing") := ⟨RX6, TX6, 5, tyX6, rfl, by decide, wl_mem 207 (by decide +kernel) (by decide +kernel), uX6, tyX6_ok, nmX6, rfl⟩
theorem fX6_37 : wl_fl RX6 37 6 3 (.object "PeerMarks$Pieces") := ⟨RX6, TX6, 5, tyX6, rfl, by decide, wl_mem 208 (by decide +kernel) (by decide +kernel), uX6, tyX6_ok, nmX6, rfl⟩
theorem fX6_44 : wl_fl RX6 44 6 4 (.object "PeerMarks$Orders") := ⟨RX6, TX6, 5, tyX6, rfl, by decide, wl_mem 209 (by decide +kernel) (by decide +kernel), uX6, tyX6_ok, nmX6, rfl⟩
theorem sX6_80 : Cond.fieldLink RX6 80 "PeerMarks" "LEAST_RULE" "[I" ∈ wl_gw := wl_mem 262 (by decide +kernel) (by decide +kernel)
theorem sX6_83 : Cond.fieldLink RX6 83 "PeerMarks" "GREATEST_RULE" "[I" ∈ wl_gw := wl_mem 264 (by decide +kernel) (by decide +kernel)
theorem fX7_7 : wl_fl RX7 7 7 0 (.int) := ⟨RX7, TX7, 17, tyX7, rfl, by decide, wl_mem 654 (by decide +kernel) (by decide +kernel), uX7, tyX7_ok, nmX7, rfl⟩
theorem fX7_13 : wl_fl RX7 13 7 1 (.array .boolean) := ⟨RX7, TX7, 17, tyX7, rfl, by decide, wl_mem 655 (by decide +kernel) (by decide +kernel), uX7, tyX7_ok, nmX7, rfl⟩
theorem fX7_17 : wl_fl RX7 17 7 2 (.array .int) := ⟨RX7, TX7, 17, tyX7, rfl, by decide, wl_mem 656 (by decide +kernel) (by decide +kernel), uX7, tyX7_ok, nmX7, rfl⟩
theorem fX7_21 : wl_fl RX7 21 7 3 (.array .int) := ⟨RX7, TX7, 17, tyX7, rfl, by decide, wl_mem 657 (by decide +kernel) (by decide +kernel), uX7, tyX7_ok, nmX7, rfl⟩
theorem fX7_24 : wl_fl RX7 24 7 4 (.array .int) := ⟨RX7, TX7, 17, tyX7, rfl, by decide, wl_mem 658 (by decide +kernel) (by decide +kernel), uX7, tyX7_ok, nmX7, rfl⟩
theorem fX7_27 : wl_fl RX7 27 7 5 (.array .int) := ⟨RX7, TX7, 17, tyX7, rfl, by decide, wl_mem 659 (by decide +kernel) (by decide +kernel), uX7, tyX7_ok, nmX7, rfl⟩
theorem fX7_30 : wl_fl RX7 30 7 6 (.array .int) := ⟨RX7, TX7, 17, tyX7, rfl, by decide, wl_mem 660 (by decide +kernel) (by decide +kernel), uX7, tyX7_ok, nmX7, rfl⟩
theorem fX7_33 : wl_fl RX7 33 7 7 (.array .int) := ⟨RX7, TX7, 17, tyX7, rfl, by decide, wl_mem 661 (by decide +kernel) (by decide +kernel), uX7, tyX7_ok, nmX7, rfl⟩
theorem fX7_36 : wl_fl RX7 36 7 8 (.array .int) := ⟨RX7, TX7, 17, tyX7, rfl, by decide, wl_mem 662 (by decide +kernel) (by decide +kernel), uX7, tyX7_ok, nmX7, rfl⟩
theorem fX7_128 : wl_fl RX7 128 7 9 (.int) := ⟨RX7, TX7, 17, tyX7, rfl, by decide, wl_mem 663 (by decide +kernel) (by decide +kernel), uX7, tyX7_ok, nmX7, rfl⟩
theorem fX7_39 : wl_fl RX7 39 7 10 (.array .long) := ⟨RX7, TX7, 17, tyX7, rfl, by decide, wl_mem 664 (by decide +kernel) (by decide +kernel), uX7, tyX7_ok, nmX7, rfl⟩
theorem fX7_43 : wl_fl RX7 43 7 11 (.array .long) := ⟨RX7, TX7, 17, tyX7, rfl, by decide, wl_mem 665 (by decide +kernel) (by decide +kernel), uX7, tyX7_ok, nmX7, rfl⟩
theorem fX7_135 : wl_fl RX7 135 7 12 (.long) := ⟨RX7, TX7, 17, tyX7, rfl, by decide, wl_mem 666 (by decide +kernel) (by decide +kernel), uX7, tyX7_ok, nmX7, rfl⟩
theorem fX7_46 : wl_fl RX7 46 7 13 (.array .int) := ⟨RX7, TX7, 17, tyX7, rfl, by decide, wl_mem 667 (by decide +kernel) (by decide +kernel), uX7, tyX7_ok, nmX7, rfl⟩
theorem fX7_49 : wl_fl RX7 49 7 14 (.array .int) := ⟨RX7, TX7, 17, tyX7, rfl, by decide, wl_mem 668 (by decide +kernel) (by decide +kernel), uX7, tyX7_ok, nmX7, rfl⟩
theorem fX7_52 : wl_fl RX7 52 7 15 (.array .int) := ⟨RX7, TX7, 17, tyX7, rfl, by decide, wl_mem 669 (by decide +kernel) (by decide +kernel), uX7, tyX7_ok, nmX7, rfl⟩
theorem fX7_55 : wl_fl RX7 55 7 16 (.array .int) := ⟨RX7, TX7, 17, tyX7, rfl, by decide, wl_mem 670 (by decide +kernel) (by decide +kernel), uX7, tyX7_ok, nmX7, rfl⟩
theorem lL_9 : Cond.methodLink RL 9 yX6_init ∈ wl_gw ∧ Cond.instanceMethod yX6_init ∈ wl_gw := ⟨wl_mem 14 (by decide +kernel) (by decide +kernel), wl_mem 15 (by decide +kernel) (by decide +kernel)⟩
theorem lX6_18 : Cond.methodLink RX6 18 yX2_init ∈ wl_gw ∧ Cond.instanceMethod yX2_init ∈ wl_gw := ⟨wl_mem 48 (by decide +kernel) (by decide +kernel), wl_mem 49 (by decide +kernel) (by decide +kernel)⟩
theorem lX2_24 : Cond.methodLink RX2 24 yX2_wipe ∈ wl_gw ∧ Cond.instanceMethod yX2_wipe ∈ wl_gw ∧ Cond.selects yX2_wipe.cls yX2_wipe yX2_wipe ∈ wl_gw := ⟨wl_mem 54 (by decide +kernel) (by decide +kernel), wl_mem 55 (by decide +kernel) (by decide +kernel), wl_mem 56 (by decide +kernel) (by decide +kernel)⟩
theorem lX2_27 : Cond.methodLink RX2 27 yJ7_fill_53178 ∈ wl_gw ∧ Cond.static yJ7_fill_53178 ∈ wl_gw := ⟨wl_mem 58 (by decide +kernel) (by decide +kernel), wl_mem 59 (by decide +kernel) (by decide +kernel)⟩
theorem lX6_27 : Cond.methodLink RX6 27 yX5_init ∈ wl_gw ∧ Cond.instanceMethod yX5_init ∈ wl_gw := ⟨wl_mem 78 (by decide +kernel) (by decide +kernel), wl_mem 79 (by decide +kernel) (by decide +kernel)⟩
theorem lX6_34 : Cond.methodLink RX6 34 yX4_init ∈ wl_gw ∧ Cond.instanceMethod yX4_init ∈ wl_gw := ⟨wl_mem 108 (by decide +kernel) (by decide +kernel), wl_mem 109 (by decide +kernel) (by decide +kernel)⟩
theorem lX6_43 : Cond.methodLink RX6 43 yX3_init ∈ wl_gw ∧ Cond.instanceMethod yX3_init ∈ wl_gw := ⟨wl_mem 173 (by decide +kernel) (by decide +kernel), wl_mem 174 (by decide +kernel) (by decide +kernel)⟩
theorem lL_13 : Cond.methodLink RL 13 yX6_pupils ∈ wl_gw ∧ Cond.instanceMethod yX6_pupils ∈ wl_gw ∧ Cond.selects yX6_pupils.cls yX6_pupils yX6_pupils ∈ wl_gw := ⟨wl_mem 221 (by decide +kernel) (by decide +kernel), wl_mem 222 (by decide +kernel) (by decide +kernel), wl_mem 223 (by decide +kernel) (by decide +kernel)⟩
theorem lX6_52 : Cond.methodLink RX6 52 yX1_settle ∈ wl_gw ∧ Cond.instanceMethod yX1_settle ∈ wl_gw ∧ Cond.selects yX1_settle.cls yX1_settle yX1_settle ∈ wl_gw := ⟨wl_mem 225 (by decide +kernel) (by decide +kernel), wl_mem 226 (by decide +kernel) (by decide +kernel), wl_mem 227 (by decide +kernel) (by decide +kernel)⟩
theorem lX1_22 : Cond.methodLink RX1 22 yJ7_fill_53178 ∈ wl_gw ∧ Cond.static yJ7_fill_53178 ∈ wl_gw := ⟨wl_mem 229 (by decide +kernel) (by decide +kernel), wl_mem 59 (by decide +kernel) (by decide +kernel)⟩
theorem lX6_56 : Cond.methodLink RX6 56 yX2_wipe ∈ wl_gw ∧ Cond.instanceMethod yX2_wipe ∈ wl_gw ∧ Cond.selects yX2_wipe.cls yX2_wipe yX2_wipe ∈ wl_gw := ⟨wl_mem 230 (by decide +kernel) (by decide +kernel), wl_mem 55 (by decide +kernel) (by decide +kernel), wl_mem 56 (by decide +kernel) (by decide +kernel)⟩
theorem lX6_59 : Cond.methodLink RX6 59 yX5_forget ∈ wl_gw ∧ Cond.instanceMethod yX5_forget ∈ wl_gw ∧ Cond.selects yX5_forget.cls yX5_forget yX5_forget ∈ wl_gw := ⟨wl_mem 231 (by decide +kernel) (by decide +kernel), wl_mem 232 (by decide +kernel) (by decide +kernel), wl_mem 233 (by decide +kernel) (by decide +kernel)⟩
theorem lX6_62 : Cond.methodLink RX6 62 yX4_forget ∈ wl_gw ∧ Cond.instanceMethod yX4_forget ∈ wl_gw ∧ Cond.selects yX4_forget.cls yX4_forget yX4_forget ∈ wl_gw := ⟨wl_mem 235 (by decide +kernel) (by decide +kernel), wl_mem 236 (by decide +kernel) (by decide +kernel), wl_mem 237 (by decide +kernel) (by decide +kernel)⟩
theorem lX6_63 : Cond.methodLink RX6 63 yX3_forget ∈ wl_gw ∧ Cond.instanceMethod yX3_forget ∈ wl_gw ∧ Cond.selects yX3_forget.cls yX3_forget yX3_forget ∈ wl_gw := ⟨wl_mem 239 (by decide +kernel) (by decide +kernel), wl_mem 240 (by decide +kernel) (by decide +kernel), wl_mem 241 (by decide +kernel) (by decide +kernel)⟩
theorem lL_18 : Cond.methodLink RL 18 yX6_friends ∈ wl_gw ∧ Cond.instanceMethod yX6_friends ∈ wl_gw ∧ Cond.selects yX6_friends.cls yX6_friends yX6_friends ∈ wl_gw := ⟨wl_mem 243 (by decide +kernel) (by decide +kernel), wl_mem 244 (by decide +kernel) (by decide +kernel), wl_mem 245 (by decide +kernel) (by decide +kernel)⟩
theorem lX6_64 : Cond.methodLink RX6 64 yX1_holds ∈ wl_gw ∧ Cond.instanceMethod yX1_holds ∈ wl_gw ∧ Cond.selects yX1_holds.cls yX1_holds yX1_holds ∈ wl_gw := ⟨wl_mem 247 (by decide +kernel) (by decide +kernel), wl_mem 248 (by decide +kernel) (by decide +kernel), wl_mem 249 (by decide +kernel) (by decide +kernel)⟩
theorem lX6_72 : Cond.methodLink RX6 72 yX6_has ∈ wl_gw ∧ Cond.static yX6_has ∈ wl_gw := ⟨wl_mem 251 (by decide +kernel) (by decide +kernel), wl_mem 252 (by decide +kernel) (by decide +kernel)⟩
theorem lX6_76 : Cond.methodLink RX6 76 yX1_befriend ∈ wl_gw ∧ Cond.instanceMethod yX1_befriend ∈ wl_gw ∧ Cond.selects yX1_befriend.cls yX1_befriend yX1_befriend ∈ wl_gw := ⟨wl_mem 254 (by decide +kernel) (by decide +kernel), wl_mem 255 (by decide +kernel) (by decide +kernel), wl_mem 256 (by decide +kernel) (by decide +kernel)⟩
theorem lL_23 : Cond.methodLink RL 23 yX6_rule ∈ wl_gw ∧ Cond.instanceMethod yX6_rule ∈ wl_gw ∧ Cond.selects yX6_rule.cls yX6_rule yX6_rule ∈ wl_gw := ⟨wl_mem 258 (by decide +kernel) (by decide +kernel), wl_mem 259 (by decide +kernel) (by decide +kernel), wl_mem 260 (by decide +kernel) (by decide +kernel)⟩
theorem lL_28 : Cond.methodLink RL 28 yX6_may ∈ wl_gw ∧ Cond.instanceMethod yX6_may ∈ wl_gw ∧ Cond.selects yX6_may.cls yX6_may yX6_may ∈ wl_gw := ⟨wl_mem 266 (by decide +kernel) (by decide +kernel), wl_mem 267 (by decide +kernel) (by decide +kernel), wl_mem 268 (by decide +kernel) (by decide +kernel)⟩
theorem lX6_89 : Cond.methodLink RX6 89 yX1_mayMark ∈ wl_gw ∧ Cond.instanceMethod yX1_mayMark ∈ wl_gw ∧ Cond.selects yX1_mayMark.cls yX1_mayMark yX1_mayMark ∈ wl_gw := ⟨wl_mem 270 (by decide +kernel) (by decide +kernel), wl_mem 271 (by decide +kernel) (by decide +kernel), wl_mem 272 (by decide +kernel) (by decide +kernel)⟩
theorem lL_32 : Cond.methodLink RL 32 yX6_plan ∈ wl_gw ∧ Cond.instanceMethod yX6_plan ∈ wl_gw ∧ Cond.selects yX6_plan.cls yX6_plan yX6_plan ∈ wl_gw := ⟨wl_mem 274 (by decide +kernel) (by decide +kernel), wl_mem 275 (by decide +kernel) (by decide +kernel), wl_mem 276 (by decide +kernel) (by decide +kernel)⟩
theorem lX6_93 : Cond.methodLink RX6 93 yX5_isPossible ∈ wl_gw ∧ Cond.instanceMethod yX5_isPossible ∈ wl_gw ∧ Cond.selects yX5_isPossible.cls yX5_isPossible yX5_isPossible ∈ wl_gw := ⟨wl_mem 278 (by decide +kernel) (by decide +kernel), wl_mem 279 (by decide +kernel) (by decide +kernel), wl_mem 280 (by decide +kernel) (by decide +kernel)⟩
theorem lX5_35 : Cond.methodLink RX5 35 yX5_findAnyPlan ∈ wl_gw ∧ Cond.instanceMethod yX5_findAnyPlan ∈ wl_gw ∧ Cond.selects yX5_findAnyPlan.cls yX5_findAnyPlan yX5_findAnyPlan ∈ wl_gw := ⟨wl_mem 282 (by decide +kernel) (by decide +kernel), wl_mem 284 (by decide +kernel) (by decide +kernel), wl_mems 0 (by decide +kernel) (by decide +kernel)⟩
theorem lX5_42 : Cond.methodLink RX5 42 yJ7_fill_53178 ∈ wl_gw ∧ Cond.static yJ7_fill_53178 ∈ wl_gw := ⟨wl_mem 286 (by decide +kernel) (by decide +kernel), wl_mem 59 (by decide +kernel) (by decide +kernel)⟩
theorem lX5_57 : Cond.methodLink RX5 57 yX5_findMarker ∈ wl_gw ∧ Cond.instanceMethod yX5_findMarker ∈ wl_gw ∧ Cond.selects yX5_findMarker.cls yX5_findMarker yX5_findMarker ∈ wl_gw := ⟨wl_mem 287 (by decide +kernel) (by decide +kernel), wl_mem 289 (by decide +kernel) (by decide +kernel), wl_mems 1 (by decide +kernel) (by decide +kernel)⟩
theorem lX5_61 : Cond.methodLink RX5 61 yX1_mayMark ∈ wl_gw ∧ Cond.instanceMethod yX1_mayMark ∈ wl_gw ∧ Cond.selects yX1_mayMark.cls yX1_mayMark yX1_mayMark ∈ wl_gw := ⟨wl_mem 291 (by decide +kernel) (by decide +kernel), wl_mem 271 (by decide +kernel) (by decide +kernel), wl_mem 272 (by decide +kernel) (by decide +kernel)⟩
theorem lX5_69 : Cond.methodLink RX5 69 yX5_take ∈ wl_gw ∧ Cond.instanceMethod yX5_take ∈ wl_gw ∧ Cond.selects yX5_take.cls yX5_take yX5_take ∈ wl_gw := ⟨wl_mem 293 (by decide +kernel) (by decide +kernel), wl_mem 295 (by decide +kernel) (by decide +kernel), wl_mems 2 (by decide +kernel) (by decide +kernel)⟩
theorem lX5_73 : Cond.methodLink RX5 73 yX5_passOn ∈ wl_gw ∧ Cond.instanceMethod yX5_passOn ∈ wl_gw ∧ Cond.selects yX5_passOn.cls yX5_passOn yX5_passOn ∈ wl_gw := ⟨wl_mem 297 (by decide +kernel) (by decide +kernel), wl_mem 299 (by decide +kernel) (by decide +kernel), wl_mems 3 (by decide +kernel) (by decide +kernel)⟩
theorem lX5_82 : Cond.methodLink RX5 82 yX5_leastOf ∈ wl_gw ∧ Cond.instanceMethod yX5_leastOf ∈ wl_gw ∧ Cond.selects yX5_leastOf.cls yX5_leastOf yX5_leastOf ∈ wl_gw := ⟨wl_mem 301 (by decide +kernel) (by decide +kernel), wl_mem 303 (by decide +kernel) (by decide +kernel), wl_mems 4 (by decide +kernel) (by decide +kernel)⟩
theorem lX5_85 : Cond.methodLink RX5 85 yX5_reach ∈ wl_gw ∧ Cond.instanceMethod yX5_reach ∈ wl_gw ∧ Cond.selects yX5_reach.cls yX5_reach yX5_reach ∈ wl_gw := ⟨wl_mem 305 (by decide +kernel) (by decide +kernel), wl_mem 307 (by decide +kernel) (by decide +kernel), wl_mems 5 (by decide +kernel) (by decide +kernel)⟩
theorem lX5_89 : Cond.methodLink RX5 89 yX5_withRoom ∈ wl_gw ∧ Cond.instanceMethod yX5_withRoom ∈ wl_gw ∧ Cond.selects yX5_withRoom.cls yX5_withRoom yX5_withRoom ∈ wl_gw := ⟨wl_mem 309 (by decide +kernel) (by decide +kernel), wl_mem 311 (by decide +kernel) (by decide +kernel), wl_mems 6 (by decide +kernel) (by decide +kernel)⟩
theorem lX5_92 : Cond.methodLink RX5 92 yX5_handDown ∈ wl_gw ∧ Cond.instanceMethod yX5_handDown ∈ wl_gw ∧ Cond.selects yX5_handDown.cls yX5_handDown yX5_handDown ∈ wl_gw := ⟨wl_mem 313 (by decide +kernel) (by decide +kernel), wl_mem 315 (by decide +kernel) (by decide +kernel), wl_mems 7 (by decide +kernel) (by decide +kernel)⟩
theorem lX5_76 : Cond.methodLink RX5 76 yX5_drop ∈ wl_gw ∧ Cond.instanceMethod yX5_drop ∈ wl_gw ∧ Cond.selects yX5_drop.cls yX5_drop yX5_drop ∈ wl_gw := ⟨wl_mem 317 (by decide +kernel) (by decide +kernel), wl_mem 319 (by decide +kernel) (by decide +kernel), wl_mems 8 (by decide +kernel) (by decide +kernel)⟩
theorem lX5_39 : Cond.methodLink RX5 39 yX5_makeFirst ∈ wl_gw ∧ Cond.instanceMethod yX5_makeFirst ∈ wl_gw ∧ Cond.selects yX5_makeFirst.cls yX5_makeFirst yX5_makeFirst ∈ wl_gw := ⟨wl_mem 321 (by decide +kernel) (by decide +kernel), wl_mem 323 (by decide +kernel) (by decide +kernel), wl_mems 9 (by decide +kernel) (by decide +kernel)⟩
theorem lX5_79 : Cond.methodLink RX5 79 yX5_bringIn ∈ wl_gw ∧ Cond.instanceMethod yX5_bringIn ∈ wl_gw ∧ Cond.selects yX5_bringIn.cls yX5_bringIn yX5_bringIn ∈ wl_gw := ⟨wl_mem 325 (by decide +kernel) (by decide +kernel), wl_mem 327 (by decide +kernel) (by decide +kernel), wl_mems 10 (by decide +kernel) (by decide +kernel)⟩
theorem lL_36 : Cond.methodLink RL 36 yX6_shared ∈ wl_gw ∧ Cond.instanceMethod yX6_shared ∈ wl_gw ∧ Cond.selects yX6_shared.cls yX6_shared yX6_shared ∈ wl_gw := ⟨wl_mem 329 (by decide +kernel) (by decide +kernel), wl_mem 330 (by decide +kernel) (by decide +kernel), wl_mem 331 (by decide +kernel) (by decide +kernel)⟩
theorem lL_40 : Cond.methodLink RL 40 yX6_lack ∈ wl_gw ∧ Cond.instanceMethod yX6_lack ∈ wl_gw ∧ Cond.selects yX6_lack.cls yX6_lack yX6_lack ∈ wl_gw := ⟨wl_mem 333 (by decide +kernel) (by decide +kernel), wl_mem 334 (by decide +kernel) (by decide +kernel), wl_mem 335 (by decide +kernel) (by decide +kernel)⟩
theorem lX6_103 : Cond.methodLink RX6 103 yX5_leastLack ∈ wl_gw ∧ Cond.instanceMethod yX5_leastLack ∈ wl_gw ∧ Cond.selects yX5_leastLack.cls yX5_leastLack yX5_leastLack ∈ wl_gw := ⟨wl_mem 337 (by decide +kernel) (by decide +kernel), wl_mem 338 (by decide +kernel) (by decide +kernel), wl_mem 339 (by decide +kernel) (by decide +kernel)⟩
theorem lX5_95 : Cond.methodLink RX5 95 yJ6_bitCount_0f7a4 ∈ wl_gw ∧ Cond.static yJ6_bitCount_0f7a4 ∈ wl_gw := ⟨wl_mem 341 (by decide +kernel) (by decide +kernel), wl_mem 342 (by decide +kernel) (by decide +kernel)⟩
theorem lX5_100 : Cond.methodLink RX5 100 yX5_roomFor ∈ wl_gw ∧ Cond.instanceMethod yX5_roomFor ∈ wl_gw ∧ Cond.selects yX5_roomFor.cls yX5_roomFor yX5_roomFor ∈ wl_gw := ⟨wl_mem 347 (by decide +kernel) (by decide +kernel), wl_mem 349 (by decide +kernel) (by decide +kernel), wl_mems 11 (by decide +kernel) (by decide +kernel)⟩
theorem lX5_103 : Cond.methodLink RX5 103 Lib.Math.min.name ∈ wl_gw ∧ Cond.static Lib.Math.min.name ∈ wl_gw ∧ Cond.initialized "java/lang/Math" ∈ wl_gw ∧ Cond.code Lib.Math.min.name Lib.Math.min.code 2 (some .int) ∈ wl_gw := ⟨wl_mem 351 (by decide +kernel) (by decide +kernel), wl_mem 352 (by decide +kernel) (by decide +kernel), wl_mem 11 (by decide +kernel) (by decide +kernel), wl_mem 353 (by decide +kernel) (by decide +kernel)⟩
theorem lL_45 : Cond.methodLink RL 45 yX6_parts ∈ wl_gw ∧ Cond.instanceMethod yX6_parts ∈ wl_gw ∧ Cond.selects yX6_parts.cls yX6_parts yX6_parts ∈ wl_gw := ⟨wl_mem 354 (by decide +kernel) (by decide +kernel), wl_mem 355 (by decide +kernel) (by decide +kernel), wl_mem 356 (by decide +kernel) (by decide +kernel)⟩
theorem lX6_107 : Cond.methodLink RX6 107 yX5_countParts ∈ wl_gw ∧ Cond.instanceMethod yX5_countParts ∈ wl_gw ∧ Cond.selects yX5_countParts.cls yX5_countParts yX5_countParts ∈ wl_gw := ⟨wl_mem 358 (by decide +kernel) (by decide +kernel), wl_mem 359 (by decide +kernel) (by decide +kernel), wl_mem 360 (by decide +kernel) (by decide +kernel)⟩
theorem lX6_185 : Cond.methodLink RX6 185 yX6_markersOf ∈ wl_gw ∧ Cond.static yX6_markersOf ∈ wl_gw := ⟨wl_mem 365 (by decide +kernel) (by decide +kernel), wl_mem 366 (by decide +kernel) (by decide +kernel)⟩
theorem lX6_189 : Cond.methodLink RX6 189 yX6_worksOf ∈ wl_gw ∧ Cond.static yX6_worksOf ∈ wl_gw := ⟨wl_mem 368 (by decide +kernel) (by decide +kernel), wl_mem 369 (by decide +kernel) (by decide +kernel)⟩
theorem lL_49 : Cond.methodLink RL 49 yX6_mark ∈ wl_gw ∧ Cond.instanceMethod yX6_mark ∈ wl_gw ∧ Cond.selects yX6_mark.cls yX6_mark yX6_mark ∈ wl_gw := ⟨wl_mem 371 (by decide +kernel) (by decide +kernel), wl_mem 372 (by decide +kernel) (by decide +kernel), wl_mem 373 (by decide +kernel) (by decide +kernel)⟩
theorem lL_54 : Cond.methodLink RL 54 yX6_staff ∈ wl_gw ∧ Cond.instanceMethod yX6_staff ∈ wl_gw ∧ Cond.selects yX6_staff.cls yX6_staff yX6_staff ∈ wl_gw := ⟨wl_mem 375 (by decide +kernel) (by decide +kernel), wl_mem 376 (by decide +kernel) (by decide +kernel), wl_mem 377 (by decide +kernel) (by decide +kernel)⟩
theorem lL_58 : Cond.methodLink RL 58 yX6_count ∈ wl_gw ∧ Cond.instanceMethod yX6_count ∈ wl_gw ∧ Cond.selects yX6_count.cls yX6_count yX6_count ∈ wl_gw := ⟨wl_mem 379 (by decide +kernel) (by decide +kernel), wl_mem 380 (by decide +kernel) (by decide +kernel), wl_mem 381 (by decide +kernel) (by decide +kernel)⟩
theorem lX6_117 : Cond.methodLink RX6 117 yX2_howManyMarks ∈ wl_gw ∧ Cond.instanceMethod yX2_howManyMarks ∈ wl_gw ∧ Cond.selects yX2_howManyMarks.cls yX2_howManyMarks yX2_howManyMarks ∈ wl_gw := ⟨wl_mem 383 (by decide +kernel) (by decide +kernel), wl_mem 384 (by decide +kernel) (by decide +kernel), wl_mem 385 (by decide +kernel) (by decide +kernel)⟩
theorem lX2_39 : Cond.methodLink RX2 39 yX2_marksBy ∈ wl_gw ∧ Cond.instanceMethod yX2_marksBy ∈ wl_gw ∧ Cond.selects yX2_marksBy.cls yX2_marksBy yX2_marksBy ∈ wl_gw := ⟨wl_mem 387 (by decide +kernel) (by decide +kernel), wl_mem 388 (by decide +kernel) (by decide +kernel), wl_mem 389 (by decide +kernel) (by decide +kernel)⟩
theorem lX6_120 : Cond.methodLink RX6 120 yX2_howManyByStaff ∈ wl_gw ∧ Cond.instanceMethod yX2_howManyByStaff ∈ wl_gw ∧ Cond.selects yX2_howManyByStaff.cls yX2_howManyByStaff yX2_howManyByStaff ∈ wl_gw := ⟨wl_mem 391 (by decide +kernel) (by decide +kernel), wl_mem 392 (by decide +kernel) (by decide +kernel), wl_mem 393 (by decide +kernel) (by decide +kernel)⟩
theorem lX6_123 : Cond.methodLink RX6 123 yX4_howMany ∈ wl_gw ∧ Cond.instanceMethod yX4_howMany ∈ wl_gw ∧ Cond.selects yX4_howMany.cls yX4_howMany yX4_howMany ∈ wl_gw := ⟨wl_mem 395 (by decide +kernel) (by decide +kernel), wl_mem 396 (by decide +kernel) (by decide +kernel), wl_mem 397 (by decide +kernel) (by decide +kernel)⟩
theorem lX4_60 : Cond.methodLink RX4 60 yX4_refresh ∈ wl_gw ∧ Cond.instanceMethod yX4_refresh ∈ wl_gw ∧ Cond.selects yX4_refresh.cls yX4_refresh yX4_refresh ∈ wl_gw := ⟨wl_mem 399 (by decide +kernel) (by decide +kernel), wl_mem 401 (by decide +kernel) (by decide +kernel), wl_mems 12 (by decide +kernel) (by decide +kernel)⟩
theorem lX4_90 : Cond.methodLink RX4 90 yX2_whoMarked ∈ wl_gw ∧ Cond.instanceMethod yX2_whoMarked ∈ wl_gw ∧ Cond.selects yX2_whoMarked.cls yX2_whoMarked yX2_whoMarked ∈ wl_gw := ⟨wl_mem 403 (by decide +kernel) (by decide +kernel), wl_mem 404 (by decide +kernel) (by decide +kernel), wl_mem 405 (by decide +kernel) (by decide +kernel)⟩
theorem lX6_126 : Cond.methodLink RX6 126 yX4_howManyLarge ∈ wl_gw ∧ Cond.instanceMethod yX4_howManyLarge ∈ wl_gw ∧ Cond.selects yX4_howManyLarge.cls yX4_howManyLarge yX4_howManyLarge ∈ wl_gw := ⟨wl_mem 410 (by decide +kernel) (by decide +kernel), wl_mem 411 (by decide +kernel) (by decide +kernel), wl_mem 412 (by decide +kernel) (by decide +kernel)⟩
theorem lX4_63 : Cond.methodLink RX4 63 yX4_isLarge ∈ wl_gw ∧ Cond.instanceMethod yX4_isLarge ∈ wl_gw ∧ Cond.selects yX4_isLarge.cls yX4_isLarge yX4_isLarge ∈ wl_gw := ⟨wl_mem 414 (by decide +kernel) (by decide +kernel), wl_mem 416 (by decide +kernel) (by decide +kernel), wl_mems 13 (by decide +kernel) (by decide +kernel)⟩
theorem lX4_79 : Cond.methodLink RX4 79 yJ6_bitCount_0f7a4 ∈ wl_gw ∧ Cond.static yJ6_bitCount_0f7a4 ∈ wl_gw := ⟨wl_mem 418 (by decide +kernel) (by decide +kernel), wl_mem 342 (by decide +kernel) (by decide +kernel)⟩
theorem lX6_129 : Cond.methodLink RX6 129 yX2_howManyAppealed ∈ wl_gw ∧ Cond.instanceMethod yX2_howManyAppealed ∈ wl_gw ∧ Cond.selects yX2_howManyAppealed.cls yX2_howManyAppealed yX2_howManyAppealed ∈ wl_gw := ⟨wl_mem 419 (by decide +kernel) (by decide +kernel), wl_mem 420 (by decide +kernel) (by decide +kernel), wl_mem 421 (by decide +kernel) (by decide +kernel)⟩
theorem lX2_43 : Cond.methodLink RX2 43 yX2_spreadOf ∈ wl_gw ∧ Cond.instanceMethod yX2_spreadOf ∈ wl_gw ∧ Cond.selects yX2_spreadOf.cls yX2_spreadOf yX2_spreadOf ∈ wl_gw := ⟨wl_mem 423 (by decide +kernel) (by decide +kernel), wl_mem 424 (by decide +kernel) (by decide +kernel), wl_mem 425 (by decide +kernel) (by decide +kernel)⟩
theorem lX2_49 : Cond.methodLink RX2 49 Lib.Math.min.name ∈ wl_gw ∧ Cond.static Lib.Math.min.name ∈ wl_gw ∧ Cond.initialized "java/lang/Math" ∈ wl_gw ∧ Cond.code Lib.Math.min.name Lib.Math.min.code 2 (some .int) ∈ wl_gw := ⟨wl_mem 427 (by decide +kernel) (by decide +kernel), wl_mem 352 (by decide +kernel) (by decide +kernel), wl_mem 11 (by decide +kernel) (by decide +kernel), wl_mem 353 (by decide +kernel) (by decide +kernel)⟩
theorem lX2_55 : Cond.methodLink RX2 55 Lib.Math.max.name ∈ wl_gw ∧ Cond.static Lib.Math.max.name ∈ wl_gw ∧ Cond.initialized "java/lang/Math" ∈ wl_gw ∧ Cond.code Lib.Math.max.name Lib.Math.max.code 2 (some .int) ∈ wl_gw := ⟨wl_mem 428 (by decide +kernel) (by decide +kernel), wl_mem 429 (by decide +kernel) (by decide +kernel), wl_mem 11 (by decide +kernel) (by decide +kernel), wl_mem 430 (by decide +kernel) (by decide +kernel)⟩
theorem lX6_132 : Cond.methodLink RX6 132 yX1_pairsOfFriends ∈ wl_gw ∧ Cond.instanceMethod yX1_pairsOfFriends ∈ wl_gw ∧ Cond.selects yX1_pairsOfFriends.cls yX1_pairsOfFriends yX1_pairsOfFriends ∈ wl_gw := ⟨wl_mem 431 (by decide +kernel) (by decide +kernel), wl_mem 432 (by decide +kernel) (by decide +kernel), wl_mem 433 (by decide +kernel) (by decide +kernel)⟩
theorem lX1_28 : Cond.methodLink RX1 28 yJ6_bitCount_0f7a4 ∈ wl_gw ∧ Cond.static yJ6_bitCount_0f7a4 ∈ wl_gw := ⟨wl_mem 435 (by decide +kernel) (by decide +kernel), wl_mem 342 (by decide +kernel) (by decide +kernel)⟩
theorem lL_62 : Cond.methodLink RL 62 yX6_piece ∈ wl_gw ∧ Cond.instanceMethod yX6_piece ∈ wl_gw ∧ Cond.selects yX6_piece.cls yX6_piece yX6_piece ∈ wl_gw := ⟨wl_mem 436 (by decide +kernel) (by decide +kernel), wl_mem 437 (by decide +kernel) (by decide +kernel), wl_mem 438 (by decide +kernel) (by decide +kernel)⟩
theorem lX6_135 : Cond.methodLink RX6 135 yX4_ofWork ∈ wl_gw ∧ Cond.instanceMethod yX4_ofWork ∈ wl_gw ∧ Cond.selects yX4_ofWork.cls yX4_ofWork yX4_ofWork ∈ wl_gw := ⟨wl_mem 440 (by decide +kernel) (by decide +kernel), wl_mem 441 (by decide +kernel) (by decide +kernel), wl_mem 442 (by decide +kernel) (by decide +kernel)⟩
theorem lX4_67 : Cond.methodLink RX4 67 yX4_whichHas ∈ wl_gw ∧ Cond.instanceMethod yX4_whichHas ∈ wl_gw ∧ Cond.selects yX4_whichHas.cls yX4_whichHas yX4_whichHas ∈ wl_gw := ⟨wl_mem 444 (by decide +kernel) (by decide +kernel), wl_mem 446 (by decide +kernel) (by decide +kernel), wl_mems 14 (by decide +kernel) (by decide +kernel)⟩
theorem lX6_138 : Cond.methodLink RX6 138 yX4_ofMarker ∈ wl_gw ∧ Cond.instanceMethod yX4_ofMarker ∈ wl_gw ∧ Cond.selects yX4_ofMarker.cls yX4_ofMarker yX4_ofMarker ∈ wl_gw := ⟨wl_mem 448 (by decide +kernel) (by decide +kernel), wl_mem 449 (by decide +kernel) (by decide +kernel), wl_mem 450 (by decide +kernel) (by decide +kernel)⟩
theorem lL_66 : Cond.methodLink RL 66 yX6_worth ∈ wl_gw ∧ Cond.instanceMethod yX6_worth ∈ wl_gw ∧ Cond.selects yX6_worth.cls yX6_worth yX6_worth ∈ wl_gw := ⟨wl_mem 452 (by decide +kernel) (by decide +kernel), wl_mem 453 (by decide +kernel) (by decide +kernel), wl_mem 454 (by decide +kernel) (by decide +kernel)⟩
theorem lX6_147 : Cond.methodLink RX6 147 yX6_inLeastTerms ∈ wl_gw ∧ Cond.static yX6_inLeastTerms ∈ wl_gw := ⟨wl_mem 459 (by decide +kernel) (by decide +kernel), wl_mem 460 (by decide +kernel) (by decide +kernel)⟩
theorem lX6_192 : Cond.methodLink RX6 192 Lib.MathLoose.abs_long.x ∈ wl_gw ∧ Cond.static Lib.MathLoose.abs_long.x ∈ wl_gw ∧ Cond.initialized "java/lang/Math" ∈ wl_gw ∧ Cond.code Lib.MathLoose.abs_long.x Lib.MathLoose.abs_long.code 2 (some .long) ∈ wl_gw := ⟨wl_mem 462 (by decide +kernel) (by decide +kernel), wl_mem 463 (by decide +kernel) (by decide +kernel), wl_mem 11 (by decide +kernel) (by decide +kernel), wl_mem 464 (by decide +kernel) (by decide +kernel)⟩
theorem lX6_198 : Cond.methodLink RX6 198 yX6_commonDivisor ∈ wl_gw ∧ Cond.static yX6_commonDivisor ∈ wl_gw := ⟨wl_mem 465 (by decide +kernel) (by decide +kernel), wl_mem 466 (by decide +kernel) (by decide +kernel)⟩
theorem lX6_151 : Cond.methodLink RX6 151 yX4_isTold ∈ wl_gw ∧ Cond.instanceMethod yX4_isTold ∈ wl_gw ∧ Cond.selects yX4_isTold.cls yX4_isTold yX4_isTold ∈ wl_gw := ⟨wl_mem 468 (by decide +kernel) (by decide +kernel), wl_mem 469 (by decide +kernel) (by decide +kernel), wl_mem 470 (by decide +kernel) (by decide +kernel)⟩
theorem lX4_75 : Cond.methodLink RX4 75 yX4_workOut ∈ wl_gw ∧ Cond.instanceMethod yX4_workOut ∈ wl_gw ∧ Cond.selects yX4_workOut.cls yX4_workOut yX4_workOut ∈ wl_gw := ⟨wl_mem 472 (by decide +kernel) (by decide +kernel), wl_mem 474 (by decide +kernel) (by decide +kernel), wl_mems 15 (by decide +kernel) (by decide +kernel)⟩
theorem lX4_102 : Cond.methodLink RX4 102 yX4_giveSlots ∈ wl_gw ∧ Cond.instanceMethod yX4_giveSlots ∈ wl_gw ∧ Cond.selects yX4_giveSlots.cls yX4_giveSlots yX4_giveSlots ∈ wl_gw := ⟨wl_mem 476 (by decide +kernel) (by decide +kernel), wl_mem 478 (by decide +kernel) (by decide +kernel), wl_mems 16 (by decide +kernel) (by decide +kernel)⟩
theorem lX4_105 : Cond.methodLink RX4 105 yX0_start ∈ wl_gw ∧ Cond.instanceMethod yX0_start ∈ wl_gw ∧ Cond.selects yX0_start.cls yX0_start yX0_start ∈ wl_gw := ⟨wl_mem 480 (by decide +kernel) (by decide +kernel), wl_mem 481 (by decide +kernel) (by decide +kernel), wl_mem 482 (by decide +kernel) (by decide +kernel)⟩
theorem lX0_20 : Cond.methodLink RX0 20 Lib.Math.min.name ∈ wl_gw ∧ Cond.static Lib.Math.min.name ∈ wl_gw ∧ Cond.initialized "java/lang/Math" ∈ wl_gw ∧ Cond.code Lib.Math.min.name Lib.Math.min.code 2 (some .int) ∈ wl_gw := ⟨wl_mem 484 (by decide +kernel) (by decide +kernel), wl_mem 352 (by decide +kernel) (by decide +kernel), wl_mem 11 (by decide +kernel) (by decide +kernel), wl_mem 353 (by decide +kernel) (by decide +kernel)⟩
theorem lX0_26 : Cond.methodLink RX0 26 Lib.Math.max.name ∈ wl_gw ∧ Cond.static Lib.Math.max.name ∈ wl_gw ∧ Cond.initialized "java/lang/Math" ∈ wl_gw ∧ Cond.code Lib.Math.max.name Lib.Math.max.code 2 (some .int) ∈ wl_gw := ⟨wl_mem 485 (by decide +kernel) (by decide +kernel), wl_mem 429 (by decide +kernel) (by decide +kernel), wl_mem 11 (by decide +kernel) (by decide +kernel), wl_mem 430 (by decide +kernel) (by decide +kernel)⟩
theorem lX0_29 : Cond.methodLink RX0 29 yJ7_fill_d0a16 ∈ wl_gw ∧ Cond.static yJ7_fill_d0a16 ∈ wl_gw := ⟨wl_mem 486 (by decide +kernel) (by decide +kernel), wl_mem 487 (by decide +kernel) (by decide +kernel)⟩
theorem lX4_108 : Cond.methodLink RX4 108 yX4_writeMarksOf ∈ wl_gw ∧ Cond.instanceMethod yX4_writeMarksOf ∈ wl_gw ∧ Cond.selects yX4_writeMarksOf.cls yX4_writeMarksOf yX4_writeMarksOf ∈ wl_gw := ⟨wl_mem 489 (by decide +kernel) (by decide +kernel), wl_mem 491 (by decide +kernel) (by decide +kernel), wl_mems 17 (by decide +kernel) (by decide +kernel)⟩
theorem lX4_131 : Cond.methodLink RX4 131 yX0_addSquare ∈ wl_gw ∧ Cond.instanceMethod yX0_addSquare ∈ wl_gw ∧ Cond.selects yX0_addSquare.cls yX0_addSquare yX0_addSquare ∈ wl_gw := ⟨wl_mem 493 (by decide +kernel) (by decide +kernel), wl_mem 494 (by decide +kernel) (by decide +kernel), wl_mem 495 (by decide +kernel) (by decide +kernel)⟩
theorem lX0_35 : Cond.methodLink RX0 35 yX0_holds ∈ wl_gw ∧ Cond.instanceMethod yX0_holds ∈ wl_gw ∧ Cond.selects yX0_holds.cls yX0_holds yX0_holds ∈ wl_gw := ⟨wl_mem 497 (by decide +kernel) (by decide +kernel), wl_mem 499 (by decide +kernel) (by decide +kernel), wl_mems 18 (by decide +kernel) (by decide +kernel)⟩
theorem lX4_135 : Cond.methodLink RX4 135 yX0_addSquareOfSum ∈ wl_gw ∧ Cond.instanceMethod yX0_addSquareOfSum ∈ wl_gw ∧ Cond.selects yX0_addSquareOfSum.cls yX0_addSquareOfSum yX0_addSquareOfSum ∈ wl_gw := ⟨wl_mem 501 (by decide +kernel) (by decide +kernel), wl_mem 502 (by decide +kernel) (by decide +kernel), wl_mem 503 (by decide +kernel) (by decide +kernel)⟩
theorem lX0_39 : Cond.methodLink RX0 39 yX0_addSquare ∈ wl_gw ∧ Cond.instanceMethod yX0_addSquare ∈ wl_gw ∧ Cond.selects yX0_addSquare.cls yX0_addSquare yX0_addSquare ∈ wl_gw := ⟨wl_mem 505 (by decide +kernel) (by decide +kernel), wl_mem 494 (by decide +kernel) (by decide +kernel), wl_mem 495 (by decide +kernel) (by decide +kernel)⟩
theorem lX0_43 : Cond.methodLink RX0 43 yX0_addFactor ∈ wl_gw ∧ Cond.instanceMethod yX0_addFactor ∈ wl_gw ∧ Cond.selects yX0_addFactor.cls yX0_addFactor yX0_addFactor ∈ wl_gw := ⟨wl_mem 506 (by decide +kernel) (by decide +kernel), wl_mem 507 (by decide +kernel) (by decide +kernel), wl_mem 508 (by decide +kernel) (by decide +kernel)⟩
theorem lX4_111 : Cond.methodLink RX4 111 yX4_hasStaffMark ∈ wl_gw ∧ Cond.instanceMethod yX4_hasStaffMark ∈ wl_gw ∧ Cond.selects yX4_hasStaffMark.cls yX4_hasStaffMark yX4_hasStaffMark ∈ wl_gw := ⟨wl_mem 510 (by decide +kernel) (by decide +kernel), wl_mem 512 (by decide +kernel) (by decide +kernel), wl_mems 19 (by decide +kernel) (by decide +kernel)⟩
theorem lX4_114 : Cond.methodLink RX4 114 yX4_writeLeansAreNothingInAll ∈ wl_gw ∧ Cond.instanceMethod yX4_writeLeansAreNothingInAll ∈ wl_gw ∧ Cond.selects yX4_writeLeansAreNothingInAll.cls yX4_writeLeansAreNothingInAll yX4_writeLeansAreNothingInAll ∈ wl_gw := ⟨wl_mem 514 (by decide +kernel) (by decide +kernel), wl_mem 516 (by decide +kernel) (by decide +kernel), wl_mems 20 (by decide +kernel) (by decide +kernel)⟩
theorem lX4_139 : Cond.methodLink RX4 139 yX0_addFactor ∈ wl_gw ∧ Cond.instanceMethod yX0_addFactor ∈ wl_gw ∧ Cond.selects yX0_addFactor.cls yX0_addFactor yX0_addFactor ∈ wl_gw := ⟨wl_mem 518 (by decide +kernel) (by decide +kernel), wl_mem 507 (by decide +kernel) (by decide +kernel), wl_mem 508 (by decide +kernel) (by decide +kernel)⟩
theorem lX4_117 : Cond.methodLink RX4 117 yX0_solve ∈ wl_gw ∧ Cond.instanceMethod yX0_solve ∈ wl_gw ∧ Cond.selects yX0_solve.cls yX0_solve yX0_solve ∈ wl_gw := ⟨wl_mem 519 (by decide +kernel) (by decide +kernel), wl_mem 520 (by decide +kernel) (by decide +kernel), wl_mem 521 (by decide +kernel) (by decide +kernel)⟩
theorem lX0_46 : Cond.methodLink RX0 46 yX0_clearFactor ∈ wl_gw ∧ Cond.instanceMethod yX0_clearFactor ∈ wl_gw ∧ Cond.selects yX0_clearFactor.cls yX0_clearFactor yX0_clearFactor ∈ wl_gw := ⟨wl_mem 523 (by decide +kernel) (by decide +kernel), wl_mem 525 (by decide +kernel) (by decide +kernel), wl_mems 21 (by decide +kernel) (by decide +kernel)⟩
theorem lX4_121 : Cond.methodLink RX4 121 yX4_readTops ∈ wl_gw ∧ Cond.instanceMethod yX4_readTops ∈ wl_gw ∧ Cond.selects yX4_readTops.cls yX4_readTops yX4_readTops ∈ wl_gw := ⟨wl_mem 527 (by decide +kernel) (by decide +kernel), wl_mem 529 (by decide +kernel) (by decide +kernel), wl_mems 22 (by decide +kernel) (by decide +kernel)⟩
theorem lX4_142 : Cond.methodLink RX4 142 yX0_topOf ∈ wl_gw ∧ Cond.instanceMethod yX0_topOf ∈ wl_gw ∧ Cond.selects yX0_topOf.cls yX0_topOf yX0_topOf ∈ wl_gw := ⟨wl_mem 531 (by decide +kernel) (by decide +kernel), wl_mem 532 (by decide +kernel) (by decide +kernel), wl_mem 533 (by decide +kernel) (by decide +kernel)⟩
theorem lL_71 : Cond.methodLink RL 71 yX6_lean ∈ wl_gw ∧ Cond.instanceMethod yX6_lean ∈ wl_gw ∧ Cond.selects yX6_lean.cls yX6_lean yX6_lean ∈ wl_gw := ⟨wl_mem 535 (by decide +kernel) (by decide +kernel), wl_mem 536 (by decide +kernel) (by decide +kernel), wl_mem 537 (by decide +kernel) (by decide +kernel)⟩
theorem lL_75 : Cond.methodLink RL 75 yX6_left ∈ wl_gw ∧ Cond.instanceMethod yX6_left ∈ wl_gw ∧ Cond.selects yX6_left.cls yX6_left yX6_left ∈ wl_gw := ⟨wl_mem 539 (by decide +kernel) (by decide +kernel), wl_mem 540 (by decide +kernel) (by decide +kernel), wl_mem 541 (by decide +kernel) (by decide +kernel)⟩
theorem lL_80 : Cond.methodLink RL 80 yX6_order ∈ wl_gw ∧ Cond.instanceMethod yX6_order ∈ wl_gw ∧ Cond.selects yX6_order.cls yX6_order yX6_order ∈ wl_gw := ⟨wl_mem 543 (by decide +kernel) (by decide +kernel), wl_mem 544 (by decide +kernel) (by decide +kernel), wl_mem 545 (by decide +kernel) (by decide +kernel)⟩
theorem lX6_164 : Cond.methodLink RX6 164 yX3_workAt ∈ wl_gw ∧ Cond.instanceMethod yX3_workAt ∈ wl_gw ∧ Cond.selects yX3_workAt.cls yX3_workAt yX3_workAt ∈ wl_gw := ⟨wl_mem 547 (by decide +kernel) (by decide +kernel), wl_mem 548 (by decide +kernel) (by decide +kernel), wl_mem 549 (by decide +kernel) (by decide +kernel)⟩
theorem lX3_44 : Cond.methodLink RX3 44 yX3_refresh ∈ wl_gw ∧ Cond.instanceMethod yX3_refresh ∈ wl_gw ∧ Cond.selects yX3_refresh.cls yX3_refresh yX3_refresh ∈ wl_gw := ⟨wl_mem 551 (by decide +kernel) (by decide +kernel), wl_mem 553 (by decide +kernel) (by decide +kernel), wl_mems 23 (by decide +kernel) (by decide +kernel)⟩
theorem lX3_64 : Cond.methodLink RX3 64 yJ7_fill_53178 ∈ wl_gw ∧ Cond.static yJ7_fill_53178 ∈ wl_gw := ⟨wl_mem 555 (by decide +kernel) (by decide +kernel), wl_mem 59 (by decide +kernel) (by decide +kernel)⟩
theorem lX3_56 : Cond.methodLink RX3 56 yX3_findOrder ∈ wl_gw ∧ Cond.instanceMethod yX3_findOrder ∈ wl_gw ∧ Cond.selects yX3_findOrder.cls yX3_findOrder yX3_findOrder ∈ wl_gw := ⟨wl_mem 556 (by decide +kernel) (by decide +kernel), wl_mem 558 (by decide +kernel) (by decide +kernel), wl_mems 24 (by decide +kernel) (by decide +kernel)⟩
theorem lX3_86 : Cond.methodLink RX3 86 yX3_countTolls ∈ wl_gw ∧ Cond.instanceMethod yX3_countTolls ∈ wl_gw ∧ Cond.selects yX3_countTolls.cls yX3_countTolls yX3_countTolls ∈ wl_gw := ⟨wl_mem 560 (by decide +kernel) (by decide +kernel), wl_mem 562 (by decide +kernel) (by decide +kernel), wl_mems 25 (by decide +kernel) (by decide +kernel)⟩
theorem lX3_96 : Cond.methodLink RX3 96 yX3_tollsWith ∈ wl_gw ∧ Cond.instanceMethod yX3_tollsWith ∈ wl_gw ∧ Cond.selects yX3_tollsWith.cls yX3_tollsWith yX3_tollsWith ∈ wl_gw := ⟨wl_mem 564 (by decide +kernel) (by decide +kernel), wl_mem 566 (by decide +kernel) (by decide +kernel), wl_mems 26 (by decide +kernel) (by decide +kernel)⟩
theorem lX3_52 : Cond.methodLink RX3 52 yX3_turnsTwo ∈ wl_gw ∧ Cond.instanceMethod yX3_turnsTwo ∈ wl_gw ∧ Cond.selects yX3_turnsTwo.cls yX3_turnsTwo yX3_turnsTwo ∈ wl_gw := ⟨wl_mem 568 (by decide +kernel) (by decide +kernel), wl_mem 570 (by decide +kernel) (by decide +kernel), wl_mems 27 (by decide +kernel) (by decide +kernel)⟩
theorem lX3_90 : Cond.methodLink RX3 90 yX3_findLeast ∈ wl_gw ∧ Cond.instanceMethod yX3_findLeast ∈ wl_gw ∧ Cond.selects yX3_findLeast.cls yX3_findLeast yX3_findLeast ∈ wl_gw := ⟨wl_mem 572 (by decide +kernel) (by decide +kernel), wl_mem 574 (by decide +kernel) (by decide +kernel), wl_mems 28 (by decide +kernel) (by decide +kernel)⟩
theorem lX3_107 : Cond.methodLink RX3 107 yX3_quarrelIfAhead ∈ wl_gw ∧ Cond.instanceMethod yX3_quarrelIfAhead ∈ wl_gw ∧ Cond.selects yX3_quarrelIfAhead.cls yX3_quarrelIfAhead yX3_quarrelIfAhead ∈ wl_gw := ⟨wl_mem 578 (by decide +kernel) (by decide +kernel), wl_mem 580 (by decide +kernel) (by decide +kernel), wl_mems 29 (by decide +kernel) (by decide +kernel)⟩
theorem lX3_110 : Cond.methodLink RX3 110 Lib.Math.min.name ∈ wl_gw ∧ Cond.static Lib.Math.min.name ∈ wl_gw ∧ Cond.initialized "java/lang/Math" ∈ wl_gw ∧ Cond.code Lib.Math.min.name Lib.Math.min.code 2 (some .int) ∈ wl_gw := ⟨wl_mem 583 (by decide +kernel) (by decide +kernel), wl_mem 352 (by decide +kernel) (by decide +kernel), wl_mem 11 (by decide +kernel) (by decide +kernel), wl_mem 353 (by decide +kernel) (by decide +kernel)⟩
theorem lX3_93 : Cond.methodLink RX3 93 yX3_bestAhead ∈ wl_gw ∧ Cond.instanceMethod yX3_bestAhead ∈ wl_gw ∧ Cond.selects yX3_bestAhead.cls yX3_bestAhead yX3_bestAhead ∈ wl_gw := ⟨wl_mem 584 (by decide +kernel) (by decide +kernel), wl_mem 586 (by decide +kernel) (by decide +kernel), wl_mems 30 (by decide +kernel) (by decide +kernel)⟩
theorem lL_84 : Cond.methodLink RL 84 yX6_quarrel ∈ wl_gw ∧ Cond.instanceMethod yX6_quarrel ∈ wl_gw ∧ Cond.selects yX6_quarrel.cls yX6_quarrel yX6_quarrel ∈ wl_gw := ⟨wl_mem 588 (by decide +kernel) (by decide +kernel), wl_mem 589 (by decide +kernel) (by decide +kernel), wl_mem 590 (by decide +kernel) (by decide +kernel)⟩
theorem lX6_167 : Cond.methodLink RX6 167 yX3_leastQuarrel ∈ wl_gw ∧ Cond.instanceMethod yX3_leastQuarrel ∈ wl_gw ∧ Cond.selects yX3_leastQuarrel.cls yX3_leastQuarrel yX3_leastQuarrel ∈ wl_gw := ⟨wl_mem 592 (by decide +kernel) (by decide +kernel), wl_mem 593 (by decide +kernel) (by decide +kernel), wl_mem 594 (by decide +kernel) (by decide +kernel)⟩
theorem lL_88 : Cond.methodLink RL 88 yX6_turned ∈ wl_gw ∧ Cond.instanceMethod yX6_turned ∈ wl_gw ∧ Cond.selects yX6_turned.cls yX6_turned yX6_turned ∈ wl_gw := ⟨wl_mem 596 (by decide +kernel) (by decide +kernel), wl_mem 597 (by decide +kernel) (by decide +kernel), wl_mem 598 (by decide +kernel) (by decide +kernel)⟩
theorem lX6_170 : Cond.methodLink RX6 170 yX3_turnedBy ∈ wl_gw ∧ Cond.instanceMethod yX3_turnedBy ∈ wl_gw ∧ Cond.selects yX3_turnedBy.cls yX3_turnedBy yX3_turnedBy ∈ wl_gw := ⟨wl_mem 600 (by decide +kernel) (by decide +kernel), wl_mem 601 (by decide +kernel) (by decide +kernel), wl_mem 602 (by decide +kernel) (by decide +kernel)⟩
theorem lL_92 : Cond.methodLink RL 92 yX6_moves ∈ wl_gw ∧ Cond.instanceMethod yX6_moves ∈ wl_gw ∧ Cond.selects yX6_moves.cls yX6_moves yX6_moves ∈ wl_gw := ⟨wl_mem 604 (by decide +kernel) (by decide +kernel), wl_mem 605 (by decide +kernel) (by decide +kernel), wl_mem 606 (by decide +kernel) (by decide +kernel)⟩
theorem lX6_173 : Cond.methodLink RX6 173 yX3_farthestMove ∈ wl_gw ∧ Cond.instanceMethod yX3_farthestMove ∈ wl_gw ∧ Cond.selects yX3_farthestMove.cls yX3_farthestMove yX3_farthestMove ∈ wl_gw := ⟨wl_mem 608 (by decide +kernel) (by decide +kernel), wl_mem 609 (by decide +kernel) (by decide +kernel), wl_mem 610 (by decide +kernel) (by decide +kernel)⟩
theorem lX3_60 : Cond.methodLink RX3 60 yX3_farthest ∈ wl_gw ∧ Cond.instanceMethod yX3_farthest ∈ wl_gw ∧ Cond.selects yX3_farthest.cls yX3_farthest yX3_farthest ∈ wl_gw := ⟨wl_mem 612 (by decide +kernel) (by decide +kernel), wl_mem 614 (by decide +kernel) (by decide +kernel), wl_mems 31 (by decide +kernel) (by decide +kernel)⟩
theorem lX3_76 : Cond.methodLink RX3 76 Lib.Math.abs.name ∈ wl_gw ∧ Cond.static Lib.Math.abs.name ∈ wl_gw ∧ Cond.initialized "java/lang/Math" ∈ wl_gw ∧ Cond.code Lib.Math.abs.name Lib.Math.abs.code 1 (some .int) ∈ wl_gw := ⟨wl_mem 616 (by decide +kernel) (by decide +kernel), wl_mem 617 (by decide +kernel) (by decide +kernel), wl_mem 11 (by decide +kernel) (by decide +kernel), wl_mem 618 (by decide +kernel) (by decide +kernel)⟩
theorem lX3_82 : Cond.methodLink RX3 82 Lib.Math.max.name ∈ wl_gw ∧ Cond.static Lib.Math.max.name ∈ wl_gw ∧ Cond.initialized "java/lang/Math" ∈ wl_gw ∧ Cond.code Lib.Math.max.name Lib.Math.max.code 2 (some .int) ∈ wl_gw := ⟨wl_mem 619 (by decide +kernel) (by decide +kernel), wl_mem 429 (by decide +kernel) (by decide +kernel), wl_mem 11 (by decide +kernel) (by decide +kernel), wl_mem 430 (by decide +kernel) (by decide +kernel)⟩
theorem lL_96 : Cond.methodLink RL 96 yX6_spread ∈ wl_gw ∧ Cond.instanceMethod yX6_spread ∈ wl_gw ∧ Cond.selects yX6_spread.cls yX6_spread yX6_spread ∈ wl_gw := ⟨wl_mem 620 (by decide +kernel) (by decide +kernel), wl_mem 621 (by decide +kernel) (by decide +kernel), wl_mem 622 (by decide +kernel) (by decide +kernel)⟩
theorem lX6_176 : Cond.methodLink RX6 176 yX2_spreadOf ∈ wl_gw ∧ Cond.instanceMethod yX2_spreadOf ∈ wl_gw ∧ Cond.selects yX2_spreadOf.cls yX2_spreadOf yX2_spreadOf ∈ wl_gw := ⟨wl_mem 624 (by decide +kernel) (by decide +kernel), wl_mem 424 (by decide +kernel) (by decide +kernel), wl_mem 425 (by decide +kernel) (by decide +kernel)⟩
theorem lL_100 : Cond.methodLink RL 100 yX6_next ∈ wl_gw ∧ Cond.instanceMethod yX6_next ∈ wl_gw ∧ Cond.selects yX6_next.cls yX6_next yX6_next ∈ wl_gw := ⟨wl_mem 625 (by decide +kernel) (by decide +kernel), wl_mem 626 (by decide +kernel) (by decide +kernel), wl_mem 627 (by decide +kernel) (by decide +kernel)⟩
theorem lX6_179 : Cond.methodLink RX6 179 yX2_nextMarker ∈ wl_gw ∧ Cond.instanceMethod yX2_nextMarker ∈ wl_gw ∧ Cond.selects yX2_nextMarker.cls yX2_nextMarker yX2_nextMarker ∈ wl_gw := ⟨wl_mem 629 (by decide +kernel) (by decide +kernel), wl_mem 630 (by decide +kernel) (by decide +kernel), wl_mem 631 (by decide +kernel) (by decide +kernel)⟩
theorem lX2_58 : Cond.methodLink RX2 58 yX1_mayMark ∈ wl_gw ∧ Cond.instanceMethod yX1_mayMark ∈ wl_gw ∧ Cond.selects yX1_mayMark.cls yX1_mayMark yX1_mayMark ∈ wl_gw := ⟨wl_mem 633 (by decide +kernel) (by decide +kernel), wl_mem 271 (by decide +kernel) (by decide +kernel), wl_mem 272 (by decide +kernel) (by decide +kernel)⟩
theorem lX2_61 : Cond.methodLink RX2 61 yX2_whoMarked ∈ wl_gw ∧ Cond.instanceMethod yX2_whoMarked ∈ wl_gw ∧ Cond.selects yX2_whoMarked.cls yX2_whoMarked yX2_whoMarked ∈ wl_gw := ⟨wl_mem 634 (by decide +kernel) (by decide +kernel), wl_mem 404 (by decide +kernel) (by decide +kernel), wl_mem 405 (by decide +kernel) (by decide +kernel)⟩
theorem lL_104 : Cond.methodLink RL 104 yX6_digest ∈ wl_gw ∧ Cond.instanceMethod yX6_digest ∈ wl_gw ∧ Cond.selects yX6_digest.cls yX6_digest yX6_digest ∈ wl_gw := ⟨wl_mem 636 (by decide +kernel) (by decide +kernel), wl_mem 637 (by decide +kernel) (by decide +kernel), wl_mem 638 (by decide +kernel) (by decide +kernel)⟩
theorem lX6_182 : Cond.methodLink RX6 182 yX2_digestAll ∈ wl_gw ∧ Cond.instanceMethod yX2_digestAll ∈ wl_gw ∧ Cond.selects yX2_digestAll.cls yX2_digestAll yX2_digestAll ∈ wl_gw := ⟨wl_mem 640 (by decide +kernel) (by decide +kernel), wl_mem 641 (by decide +kernel) (by decide +kernel), wl_mem 642 (by decide +kernel) (by decide +kernel)⟩
theorem lL_12 : Cond.methodLink RL 12 yX7_init ∈ wl_gw ∧ Cond.instanceMethod yX7_init ∈ wl_gw := ⟨wl_mem 646 (by decide +kernel) (by decide +kernel), wl_mem 647 (by decide +kernel) (by decide +kernel)⟩
theorem lX7_58 : Cond.methodLink RX7 58 yX7_clear ∈ wl_gw ∧ Cond.instanceMethod yX7_clear ∈ wl_gw ∧ Cond.selects yX7_clear.cls yX7_clear yX7_clear ∈ wl_gw := ⟨wl_mem 650 (by decide +kernel) (by decide +kernel), wl_mem 652 (by decide +kernel) (by decide +kernel), wl_mems 32 (by decide +kernel) (by decide +kernel)⟩
theorem lL_17 : Cond.methodLink RL 17 yX7_pupils ∈ wl_gw ∧ Cond.instanceMethod yX7_pupils ∈ wl_gw ∧ Cond.selects yX7_pupils.cls yX7_pupils yX7_pupils ∈ wl_gw := ⟨wl_mem 707 (by decide +kernel) (by decide +kernel), wl_mem 708 (by decide +kernel) (by decide +kernel), wl_mem 709 (by decide +kernel) (by decide +kernel)⟩
theorem lX7_61 : Cond.methodLink RX7 61 yX7_in ∈ wl_gw ∧ Cond.static yX7_in ∈ wl_gw := ⟨wl_mem 713 (by decide +kernel) (by decide +kernel), wl_mem 714 (by decide +kernel) (by decide +kernel)⟩
theorem lL_22 : Cond.methodLink RL 22 yX7_friends ∈ wl_gw ∧ Cond.instanceMethod yX7_friends ∈ wl_gw ∧ Cond.selects yX7_friends.cls yX7_friends yX7_friends ∈ wl_gw := ⟨wl_mem 716 (by decide +kernel) (by decide +kernel), wl_mem 717 (by decide +kernel) (by decide +kernel), wl_mem 718 (by decide +kernel) (by decide +kernel)⟩
theorem lX7_69 : Cond.methodLink RX7 69 yX7_is ∈ wl_gw ∧ Cond.instanceMethod yX7_is ∈ wl_gw ∧ Cond.selects yX7_is.cls yX7_is yX7_is ∈ wl_gw := ⟨wl_mem 720 (by decide +kernel) (by decide +kernel), wl_mem 722 (by decide +kernel) (by decide +kernel), wl_mems 33 (by decide +kernel) (by decide +kernel)⟩
theorem lL_27 : Cond.methodLink RL 27 yX7_rule ∈ wl_gw ∧ Cond.instanceMethod yX7_rule ∈ wl_gw ∧ Cond.selects yX7_rule.cls yX7_rule yX7_rule ∈ wl_gw := ⟨wl_mem 724 (by decide +kernel) (by decide +kernel), wl_mem 725 (by decide +kernel) (by decide +kernel), wl_mem 726 (by decide +kernel) (by decide +kernel)⟩
theorem lL_31 : Cond.methodLink RL 31 yX7_may ∈ wl_gw ∧ Cond.instanceMethod yX7_may ∈ wl_gw ∧ Cond.selects yX7_may.cls yX7_may yX7_may ∈ wl_gw := ⟨wl_mem 730 (by decide +kernel) (by decide +kernel), wl_mem 731 (by decide +kernel) (by decide +kernel), wl_mem 732 (by decide +kernel) (by decide +kernel)⟩
theorem lX7_77 : Cond.methodLink RX7 77 yX7_canMark ∈ wl_gw ∧ Cond.instanceMethod yX7_canMark ∈ wl_gw ∧ Cond.selects yX7_canMark.cls yX7_canMark yX7_canMark ∈ wl_gw := ⟨wl_mem 734 (by decide +kernel) (by decide +kernel), wl_mem 736 (by decide +kernel) (by decide +kernel), wl_mems 34 (by decide +kernel) (by decide +kernel)⟩
theorem lL_35 : Cond.methodLink RL 35 yX7_plan ∈ wl_gw ∧ Cond.instanceMethod yX7_plan ∈ wl_gw ∧ Cond.selects yX7_plan.cls yX7_plan yX7_plan ∈ wl_gw := ⟨wl_mem 738 (by decide +kernel) (by decide +kernel), wl_mem 739 (by decide +kernel) (by decide +kernel), wl_mem 740 (by decide +kernel) (by decide +kernel)⟩
theorem lX7_101 : Cond.methodLink RX7 101 yX7_findPlan ∈ wl_gw ∧ Cond.instanceMethod yX7_findPlan ∈ wl_gw ∧ Cond.selects yX7_findPlan.cls yX7_findPlan yX7_findPlan ∈ wl_gw := ⟨wl_mem 742 (by decide +kernel) (by decide +kernel), wl_mem 744 (by decide +kernel) (by decide +kernel), wl_mems 35 (by decide +kernel) (by decide +kernel)⟩
theorem lX7_88 : Cond.methodLink RX7 88 yX7_lackFrom ∈ wl_gw ∧ Cond.instanceMethod yX7_lackFrom ∈ wl_gw ∧ Cond.selects yX7_lackFrom.cls yX7_lackFrom yX7_lackFrom ∈ wl_gw := ⟨wl_mem 746 (by decide +kernel) (by decide +kernel), wl_mem 748 (by decide +kernel) (by decide +kernel), wl_mems 36 (by decide +kernel) (by decide +kernel)⟩
theorem lX7_81 : Cond.methodLink RX7 81 yX7_may ∈ wl_gw ∧ Cond.instanceMethod yX7_may ∈ wl_gw ∧ Cond.selects yX7_may.cls yX7_may yX7_may ∈ wl_gw := ⟨wl_mem 750 (by decide +kernel) (by decide +kernel), wl_mem 731 (by decide +kernel) (by decide +kernel), wl_mem 732 (by decide +kernel) (by decide +kernel)⟩
theorem lX7_85 : Cond.methodLink RX7 85 yX7_bits ∈ wl_gw ∧ Cond.static yX7_bits ∈ wl_gw := ⟨wl_mem 751 (by decide +kernel) (by decide +kernel), wl_mem 752 (by decide +kernel) (by decide +kernel)⟩
theorem lX7_91 : Cond.methodLink RX7 91 yX7_mayBe ∈ wl_gw ∧ Cond.instanceMethod yX7_mayBe ∈ wl_gw ∧ Cond.selects yX7_mayBe.cls yX7_mayBe yX7_mayBe ∈ wl_gw := ⟨wl_mem 754 (by decide +kernel) (by decide +kernel), wl_mem 756 (by decide +kernel) (by decide +kernel), wl_mems 37 (by decide +kernel) (by decide +kernel)⟩
theorem lX7_94 : Cond.methodLink RX7 94 yX7_isAhead ∈ wl_gw ∧ Cond.static yX7_isAhead ∈ wl_gw := ⟨wl_mem 758 (by decide +kernel) (by decide +kernel), wl_mem 759 (by decide +kernel) (by decide +kernel)⟩
theorem lX7_97 : Cond.methodLink RX7 97 yX7_use ∈ wl_gw ∧ Cond.instanceMethod yX7_use ∈ wl_gw ∧ Cond.selects yX7_use.cls yX7_use yX7_use ∈ wl_gw := ⟨wl_mem 761 (by decide +kernel) (by decide +kernel), wl_mem 763 (by decide +kernel) (by decide +kernel), wl_mems 38 (by decide +kernel) (by decide +kernel)⟩
theorem lL_39 : Cond.methodLink RL 39 yX7_shared ∈ wl_gw ∧ Cond.instanceMethod yX7_shared ∈ wl_gw ∧ Cond.selects yX7_shared.cls yX7_shared yX7_shared ∈ wl_gw := ⟨wl_mem 765 (by decide +kernel) (by decide +kernel), wl_mem 766 (by decide +kernel) (by decide +kernel), wl_mem 767 (by decide +kernel) (by decide +kernel)⟩
theorem lL_44 : Cond.methodLink RL 44 yX7_lack ∈ wl_gw ∧ Cond.instanceMethod yX7_lack ∈ wl_gw ∧ Cond.selects yX7_lack.cls yX7_lack yX7_lack ∈ wl_gw := ⟨wl_mem 769 (by decide +kernel) (by decide +kernel), wl_mem 770 (by decide +kernel) (by decide +kernel), wl_mem 771 (by decide +kernel) (by decide +kernel)⟩
theorem lL_48 : Cond.methodLink RL 48 yX7_parts ∈ wl_gw ∧ Cond.instanceMethod yX7_parts ∈ wl_gw ∧ Cond.selects yX7_parts.cls yX7_parts yX7_parts ∈ wl_gw := ⟨wl_mem 773 (by decide +kernel) (by decide +kernel), wl_mem 774 (by decide +kernel) (by decide +kernel), wl_mem 775 (by decide +kernel) (by decide +kernel)⟩
theorem lX7_108 : Cond.methodLink RX7 108 yX7_join ∈ wl_gw ∧ Cond.instanceMethod yX7_join ∈ wl_gw ∧ Cond.selects yX7_join.cls yX7_join yX7_join ∈ wl_gw := ⟨wl_mem 777 (by decide +kernel) (by decide +kernel), wl_mem 779 (by decide +kernel) (by decide +kernel), wl_mems 39 (by decide +kernel) (by decide +kernel)⟩
theorem lX7_105 : Cond.methodLink RX7 105 yX7_spread ∈ wl_gw ∧ Cond.instanceMethod yX7_spread ∈ wl_gw ∧ Cond.selects yX7_spread.cls yX7_spread yX7_spread ∈ wl_gw := ⟨wl_mem 781 (by decide +kernel) (by decide +kernel), wl_mem 783 (by decide +kernel) (by decide +kernel), wl_mems 40 (by decide +kernel) (by decide +kernel)⟩
theorem lL_53 : Cond.methodLink RL 53 yX7_mark ∈ wl_gw ∧ Cond.instanceMethod yX7_mark ∈ wl_gw ∧ Cond.selects yX7_mark.cls yX7_mark yX7_mark ∈ wl_gw := ⟨wl_mem 785 (by decide +kernel) (by decide +kernel), wl_mem 786 (by decide +kernel) (by decide +kernel), wl_mem 787 (by decide +kernel) (by decide +kernel)⟩
theorem lL_57 : Cond.methodLink RL 57 yX7_staff ∈ wl_gw ∧ Cond.instanceMethod yX7_staff ∈ wl_gw ∧ Cond.selects yX7_staff.cls yX7_staff yX7_staff ∈ wl_gw := ⟨wl_mem 790 (by decide +kernel) (by decide +kernel), wl_mem 791 (by decide +kernel) (by decide +kernel), wl_mem 792 (by decide +kernel) (by decide +kernel)⟩
theorem lL_61 : Cond.methodLink RL 61 yX7_count ∈ wl_gw ∧ Cond.instanceMethod yX7_count ∈ wl_gw ∧ Cond.selects yX7_count.cls yX7_count yX7_count ∈ wl_gw := ⟨wl_mem 794 (by decide +kernel) (by decide +kernel), wl_mem 795 (by decide +kernel) (by decide +kernel), wl_mem 796 (by decide +kernel) (by decide +kernel)⟩
theorem lX7_116 : Cond.methodLink RX7 116 yX7_findParts ∈ wl_gw ∧ Cond.instanceMethod yX7_findParts ∈ wl_gw ∧ Cond.selects yX7_findParts.cls yX7_findParts yX7_findParts ∈ wl_gw := ⟨wl_mem 798 (by decide +kernel) (by decide +kernel), wl_mem 800 (by decide +kernel) (by decide +kernel), wl_mems 41 (by decide +kernel) (by decide +kernel)⟩
theorem lX7_119 : Cond.methodLink RX7 119 yX7_spreadOf ∈ wl_gw ∧ Cond.instanceMethod yX7_spreadOf ∈ wl_gw ∧ Cond.selects yX7_spreadOf.cls yX7_spreadOf yX7_spreadOf ∈ wl_gw := ⟨wl_mem 802 (by decide +kernel) (by decide +kernel), wl_mem 804 (by decide +kernel) (by decide +kernel), wl_mems 42 (by decide +kernel) (by decide +kernel)⟩
theorem lX7_122 : Cond.methodLink RX7 122 yX7_pieces ∈ wl_gw ∧ Cond.instanceMethod yX7_pieces ∈ wl_gw ∧ Cond.selects yX7_pieces.cls yX7_pieces yX7_pieces ∈ wl_gw := ⟨wl_mem 806 (by decide +kernel) (by decide +kernel), wl_mem 808 (by decide +kernel) (by decide +kernel), wl_mems 43 (by decide +kernel) (by decide +kernel)⟩
theorem lX7_113 : Cond.methodLink RX7 113 yX7_sizeOf ∈ wl_gw ∧ Cond.instanceMethod yX7_sizeOf ∈ wl_gw ∧ Cond.selects yX7_sizeOf.cls yX7_sizeOf yX7_sizeOf ∈ wl_gw := ⟨wl_mem 810 (by decide +kernel) (by decide +kernel), wl_mem 812 (by decide +kernel) (by decide +kernel), wl_mems 44 (by decide +kernel) (by decide +kernel)⟩
theorem lL_65 : Cond.methodLink RL 65 yX7_piece ∈ wl_gw ∧ Cond.instanceMethod yX7_piece ∈ wl_gw ∧ Cond.selects yX7_piece.cls yX7_piece yX7_piece ∈ wl_gw := ⟨wl_mem 814 (by decide +kernel) (by decide +kernel), wl_mem 815 (by decide +kernel) (by decide +kernel), wl_mem 816 (by decide +kernel) (by decide +kernel)⟩
theorem lX7_125 : Cond.methodLink RX7 125 yX7_numberOf ∈ wl_gw ∧ Cond.instanceMethod yX7_numberOf ∈ wl_gw ∧ Cond.selects yX7_numberOf.cls yX7_numberOf yX7_numberOf ∈ wl_gw := ⟨wl_mem 818 (by decide +kernel) (by decide +kernel), wl_mem 820 (by decide +kernel) (by decide +kernel), wl_mems 45 (by decide +kernel) (by decide +kernel)⟩
theorem lL_70 : Cond.methodLink RL 70 yX7_worth ∈ wl_gw ∧ Cond.instanceMethod yX7_worth ∈ wl_gw ∧ Cond.selects yX7_worth.cls yX7_worth yX7_worth ∈ wl_gw := ⟨wl_mem 822 (by decide +kernel) (by decide +kernel), wl_mem 823 (by decide +kernel) (by decide +kernel), wl_mem 824 (by decide +kernel) (by decide +kernel)⟩
theorem lX7_159 : Cond.methodLink RX7 159 yX7_solve ∈ wl_gw ∧ Cond.instanceMethod yX7_solve ∈ wl_gw ∧ Cond.selects yX7_solve.cls yX7_solve yX7_solve ∈ wl_gw := ⟨wl_mem 829 (by decide +kernel) (by decide +kernel), wl_mem 831 (by decide +kernel) (by decide +kernel), wl_mems 46 (by decide +kernel) (by decide +kernel)⟩
theorem lX7_139 : Cond.methodLink RX7 139 yX7_place ∈ wl_gw ∧ Cond.instanceMethod yX7_place ∈ wl_gw ∧ Cond.selects yX7_place.cls yX7_place yX7_place ∈ wl_gw := ⟨wl_mem 833 (by decide +kernel) (by decide +kernel), wl_mem 835 (by decide +kernel) (by decide +kernel), wl_mems 47 (by decide +kernel) (by decide +kernel)⟩
theorem lX7_143 : Cond.methodLink RX7 143 yX7_setUp ∈ wl_gw ∧ Cond.instanceMethod yX7_setUp ∈ wl_gw ∧ Cond.selects yX7_setUp.cls yX7_setUp yX7_setUp ∈ wl_gw := ⟨wl_mem 837 (by decide +kernel) (by decide +kernel), wl_mem 839 (by decide +kernel) (by decide +kernel), wl_mems 48 (by decide +kernel) (by decide +kernel)⟩
theorem lX7_131 : Cond.methodLink RX7 131 yX7_add ∈ wl_gw ∧ Cond.instanceMethod yX7_add ∈ wl_gw ∧ Cond.selects yX7_add.cls yX7_add yX7_add ∈ wl_gw := ⟨wl_mem 841 (by decide +kernel) (by decide +kernel), wl_mem 843 (by decide +kernel) (by decide +kernel), wl_mems 49 (by decide +kernel) (by decide +kernel)⟩
theorem lX7_146 : Cond.methodLink RX7 146 yX7_solveCells ∈ wl_gw ∧ Cond.instanceMethod yX7_solveCells ∈ wl_gw ∧ Cond.selects yX7_solveCells.cls yX7_solveCells yX7_solveCells ∈ wl_gw := ⟨wl_mem 845 (by decide +kernel) (by decide +kernel), wl_mem 847 (by decide +kernel) (by decide +kernel), wl_mems 50 (by decide +kernel) (by decide +kernel)⟩
theorem lX7_162 : Cond.methodLink RX7 162 yX7_told ∈ wl_gw ∧ Cond.instanceMethod yX7_told ∈ wl_gw ∧ Cond.selects yX7_told.cls yX7_told yX7_told ∈ wl_gw := ⟨wl_mem 849 (by decide +kernel) (by decide +kernel), wl_mem 851 (by decide +kernel) (by decide +kernel), wl_mems 51 (by decide +kernel) (by decide +kernel)⟩
theorem lX7_149 : Cond.methodLink RX7 149 yX7_common ∈ wl_gw ∧ Cond.static yX7_common ∈ wl_gw := ⟨wl_mem 853 (by decide +kernel) (by decide +kernel), wl_mem 854 (by decide +kernel) (by decide +kernel)⟩
theorem lL_74 : Cond.methodLink RL 74 yX7_lean ∈ wl_gw ∧ Cond.instanceMethod yX7_lean ∈ wl_gw ∧ Cond.selects yX7_lean.cls yX7_lean yX7_lean ∈ wl_gw := ⟨wl_mem 856 (by decide +kernel) (by decide +kernel), wl_mem 857 (by decide +kernel) (by decide +kernel), wl_mem 858 (by decide +kernel) (by decide +kernel)⟩
theorem lL_79 : Cond.methodLink RL 79 yX7_left ∈ wl_gw ∧ Cond.instanceMethod yX7_left ∈ wl_gw ∧ Cond.selects yX7_left.cls yX7_left yX7_left ∈ wl_gw := ⟨wl_mem 860 (by decide +kernel) (by decide +kernel), wl_mem 861 (by decide +kernel) (by decide +kernel), wl_mem 862 (by decide +kernel) (by decide +kernel)⟩
theorem lL_83 : Cond.methodLink RL 83 yX7_order ∈ wl_gw ∧ Cond.instanceMethod yX7_order ∈ wl_gw ∧ Cond.selects yX7_order.cls yX7_order yX7_order ∈ wl_gw := ⟨wl_mem 864 (by decide +kernel) (by decide +kernel), wl_mem 865 (by decide +kernel) (by decide +kernel), wl_mem 866 (by decide +kernel) (by decide +kernel)⟩
theorem lX7_175 : Cond.methodLink RX7 175 yX7_findOrder ∈ wl_gw ∧ Cond.instanceMethod yX7_findOrder ∈ wl_gw ∧ Cond.selects yX7_findOrder.cls yX7_findOrder yX7_findOrder ∈ wl_gw := ⟨wl_mem 868 (by decide +kernel) (by decide +kernel), wl_mem 870 (by decide +kernel) (by decide +kernel), wl_mems 52 (by decide +kernel) (by decide +kernel)⟩
theorem lX7_166 : Cond.methodLink RX7 166 yX7_turns ∈ wl_gw ∧ Cond.instanceMethod yX7_turns ∈ wl_gw ∧ Cond.selects yX7_turns.cls yX7_turns yX7_turns ∈ wl_gw := ⟨wl_mem 872 (by decide +kernel) (by decide +kernel), wl_mem 874 (by decide +kernel) (by decide +kernel), wl_mems 53 (by decide +kernel) (by decide +kernel)⟩
theorem lX7_171 : Cond.methodLink RX7 171 yX7_cost ∈ wl_gw ∧ Cond.instanceMethod yX7_cost ∈ wl_gw ∧ Cond.selects yX7_cost.cls yX7_cost yX7_cost ∈ wl_gw := ⟨wl_mem 877 (by decide +kernel) (by decide +kernel), wl_mem 879 (by decide +kernel) (by decide +kernel), wl_mems 54 (by decide +kernel) (by decide +kernel)⟩
theorem lL_87 : Cond.methodLink RL 87 yX7_quarrel ∈ wl_gw ∧ Cond.instanceMethod yX7_quarrel ∈ wl_gw ∧ Cond.selects yX7_quarrel.cls yX7_quarrel yX7_quarrel ∈ wl_gw := ⟨wl_mem 881 (by decide +kernel) (by decide +kernel), wl_mem 882 (by decide +kernel) (by decide +kernel), wl_mem 883 (by decide +kernel) (by decide +kernel)⟩
theorem lL_91 : Cond.methodLink RL 91 yX7_turned ∈ wl_gw ∧ Cond.instanceMethod yX7_turned ∈ wl_gw ∧ Cond.selects yX7_turned.cls yX7_turned yX7_turned ∈ wl_gw := ⟨wl_mem 885 (by decide +kernel) (by decide +kernel), wl_mem 886 (by decide +kernel) (by decide +kernel), wl_mem 887 (by decide +kernel) (by decide +kernel)⟩
theorem lL_95 : Cond.methodLink RL 95 yX7_moves ∈ wl_gw ∧ Cond.instanceMethod yX7_moves ∈ wl_gw ∧ Cond.selects yX7_moves.cls yX7_moves yX7_moves ∈ wl_gw := ⟨wl_mem 889 (by decide +kernel) (by decide +kernel), wl_mem 890 (by decide +kernel) (by decide +kernel), wl_mem 891 (by decide +kernel) (by decide +kernel)⟩
theorem lL_99 : Cond.methodLink RL 99 yX7_spread_ ∈ wl_gw ∧ Cond.instanceMethod yX7_spread_ ∈ wl_gw ∧ Cond.selects yX7_spread_.cls yX7_spread_ yX7_spread_ ∈ wl_gw := ⟨wl_mem 893 (by decide +kernel) (by decide +kernel), wl_mem 894 (by decide +kernel) (by decide +kernel), wl_mem 895 (by decide +kernel) (by decide +kernel)⟩
theorem lL_103 : Cond.methodLink RL 103 yX7_next ∈ wl_gw ∧ Cond.instanceMethod yX7_next ∈ wl_gw ∧ Cond.selects yX7_next.cls yX7_next yX7_next ∈ wl_gw := ⟨wl_mem 897 (by decide +kernel) (by decide +kernel), wl_mem 898 (by decide +kernel) (by decide +kernel), wl_mem 899 (by decide +kernel) (by decide +kernel)⟩
theorem lX7_178 : Cond.methodLink RX7 178 yX7_marksOf ∈ wl_gw ∧ Cond.instanceMethod yX7_marksOf ∈ wl_gw ∧ Cond.selects yX7_marksOf.cls yX7_marksOf yX7_marksOf ∈ wl_gw := ⟨wl_mem 901 (by decide +kernel) (by decide +kernel), wl_mem 903 (by decide +kernel) (by decide +kernel), wl_mems 55 (by decide +kernel) (by decide +kernel)⟩
theorem lL_107 : Cond.methodLink RL 107 yX7_digest ∈ wl_gw ∧ Cond.instanceMethod yX7_digest ∈ wl_gw ∧ Cond.selects yX7_digest.cls yX7_digest yX7_digest ∈ wl_gw := ⟨wl_mem 905 (by decide +kernel) (by decide +kernel), wl_mem 906 (by decide +kernel) (by decide +kernel), wl_mem 907 (by decide +kernel) (by decide +kernel)⟩
theorem lX6_9 : Cond.methodLinkNest RX6 9 yX1_init RX6 ∈ lw_tbl ∧ Cond.instanceMethod yX1_init ∈ wl_gw := ⟨wl_memn 22 (by decide +kernel), wl_mem 23 (by decide +kernel) (by decide +kernel)⟩
theorem lX4_11 : Cond.methodLinkNest RX4 11 yX0_init RX6 ∈ lw_tbl ∧ Cond.instanceMethod yX0_init ∈ wl_gw := ⟨wl_memn 114 (by decide +kernel), wl_mem 115 (by decide +kernel) (by decide +kernel)⟩
theorem lX5_65 : Cond.methodLinkNest RX5 65 yX6_has RX6 ∈ lw_tbl ∧ Cond.static yX6_has ∈ wl_gw := ⟨wl_memn 292 (by decide +kernel), wl_mem 252 (by decide +kernel) (by decide +kernel)⟩
theorem lX5_109 : Cond.methodLinkNest RX5 109 yX6_tiedWorks RX6 ∈ lw_tbl ∧ Cond.static yX6_tiedWorks ∈ wl_gw := ⟨wl_memn 362 (by decide +kernel), wl_mem 363 (by decide +kernel) (by decide +kernel)⟩
theorem lX4_71 : Cond.methodLinkNest RX4 71 yX6_has RX6 ∈ lw_tbl ∧ Cond.static yX6_has ∈ wl_gw := ⟨wl_memn 407 (by decide +kernel), wl_mem 252 (by decide +kernel) (by decide +kernel)⟩
theorem lX4_95 : Cond.methodLinkNest RX4 95 yX6_tiedWorks RX6 ∈ lw_tbl ∧ Cond.static yX6_tiedWorks ∈ wl_gw := ⟨wl_memn 408 (by decide +kernel), wl_mem 363 (by decide +kernel) (by decide +kernel)⟩
theorem lX4_99 : Cond.methodLinkNest RX4 99 yX6_markersOf RX6 ∈ lw_tbl ∧ Cond.static yX6_markersOf ∈ wl_gw := ⟨wl_memn 409 (by decide +kernel), wl_mem 366 (by decide +kernel) (by decide +kernel)⟩
theorem lX3_103 : Cond.methodLinkNest RX3 103 yX6_has RX6 ∈ lw_tbl ∧ Cond.static yX6_has ∈ wl_gw := ⟨wl_memn 577 (by decide +kernel), wl_mem 252 (by decide +kernel) (by decide +kernel)⟩
theorem lX2_64 : Cond.methodLinkNest RX2 64 yX6_has RX6 ∈ lw_tbl ∧ Cond.static yX6_has ∈ wl_gw := ⟨wl_memn 635 (by decide +kernel), wl_mem 252 (by decide +kernel) (by decide +kernel)⟩
end
section
/-- what the cells hold: ints, longs, rows of ints, rows of longs -/
abbrev St : Type := (Nat → Int32) × (Nat → Int64) × (Nat → Nat → Int32) × (Nat → Nat → Int64)
abbrev sI (S : St) (k : Nat) (v : Int32) : St := (va_up S.1 k v, S.2.1, S.2.2.1, S.2.2.2)
abbrev sJ (S : St) (k : Nat) (v : Int64) : St := (S.1, va_up S.2.1 k v, S.2.2.1, S.2.2.2)
abbrev sA (S : St) (k : Nat) (v : Nat → Int32) : St := (S.1, S.2.1, va_up S.2.2.1 k v, S.2.2.2)
abbrev sB (S : St) (k : Nat) (v : Nat → Int64) : St := (S.1, S.2.1, S.2.2.1, va_up S.2.2.2 k v)
/-- the 62 cells: the class (0 to 46) and the reference (47 to 61) -/
def enc (S : St) : wl_H := [.inr (6, [.ref 1, .ref 4, .ref 15, .ref 20, .ref 41]),
  .inr (1, [.int (S.1 0), .ref 2, .ref 3]),
  .inl (0, 8, .inl (S.2.2.1 0)),
  .inl (0, 3, .inl (S.2.2.1 1)),
  .inr (2, [.ref 1, .ref 5, .ref 14]),
  .inl (3, 8, .inr (.inr (.inr (.inr (fun j => if j < 8 then some (6 + j) else none))))),
  .inl (0, 8, .inl (S.2.2.1 2)),
  .inl (0, 8, .inl (S.2.2.1 3)),
  .inl (0, 8, .inl (S.2.2.1 4)),
  .inl (0, 8, .inl (S.2.2.1 5)),
  .inl (0, 8, .inl (S.2.2.1 6)),
  .inl (0, 8, .inl (S.2.2.1 7)),
  .inl (0, 8, .inl (S.2.2.1 8)),
  .inl (0, 8, .inl (S.2.2.1 9)),
  .inl (0, 8, .inl (S.2.2.1 10)),
  .inr (5, [.ref 1, .ref 16, .ref 17, .ref 18, .ref 19, .int (S.1 1), .int (S.1 2)]),
  .inl (0, 8, .inl (S.2.2.1 11)),
  .inl (0, 8, .inl (S.2.2.1 12)),
  .inl (0, 8, .inl (S.2.2.1 13)),
  .inl (0, 8, .inl (S.2.2.1 14)),
  .inr (4, [.ref 1, .ref 4, .ref 21, .ref 33, .ref 34, .ref 35, .ref 36, .ref 37, .ref 38, .ref 39, .ref 40, .int (S.1 3), .int (S.1 4)]),
  .inr (0, [.ref 22, .int (S.1 5)]),
  .inl (4, 10, .inr (.inr (.inr (.inr (fun j => if j < 10 then some (23 + j) else none))))),
  .inl (1, 11, .inr (.inl (S.2.2.2 3))),
  .inl (1, 11, .inr (.inl (S.2.2.2 4))),
  .inl (1, 11, .inr (.inl (S.2.2.2 5))),
  .inl (1, 11, .inr (.inl (S.2.2.2 6))),
  .inl (1, 11, .inr (.inl (S.2.2.2 7))),
  .inl (1, 11, .inr (.inl (S.2.2.2 8))),
  .inl (1, 11, .inr (.inl (S.2.2.2 9))),
  .inl (1, 11, .inr (.inl (S.2.2.2 10))),
  .inl (1, 11, .inr (.inl (S.2.2.2 11))),
  .inl (1, 11, .inr (.inl (S.2.2.2 12))),
  .inl (0, 8, .inl (S.2.2.1 15)),
  .inl (0, 8, .inl (S.2.2.1 16)),
  .inl (0, 8, .inl (S.2.2.1 17)),
  .inl (1, 8, .inr (.inl (S.2.2.2 0))),
  .inl (1, 8, .inr (.inl (S.2.2.2 1))),
  .inl (1, 8, .inr (.inl (S.2.2.2 2))),
  .inl (0, 8, .inl (S.2.2.1 18)),
  .inl (0, 8, .inl (S.2.2.1 19)),
  .inr (3, [.ref 1, .ref 4, .ref 42, .ref 43, .ref 44, .ref 45, .ref 46, .int (S.1 6), .int (S.1 7)]),
  .inl (1, 256, .inr (.inl (S.2.2.2 13))),
  .inl (0, 256, .inl (S.2.2.1 20)),
  .inl (0, 8, .inl (S.2.2.1 21)),
  .inl (0, 8, .inl (S.2.2.1 22)),
  .inl (0, 8, .inl (S.2.2.1 23)),
  .inr (7, [.int (S.1 8), .ref 48, .ref 49, .ref 50, .ref 51, .ref 52, .ref 53, .ref 54, .ref 55, .int (S.1 9), .ref 56, .ref 57, .long (S.2.1 0), .ref 58, .ref 59, .ref 60, .ref 61]),
  .inl (2, 64, .inl (S.2.2.1 24)),
  .inl (0, 3, .inl (S.2.2.1 25)),
  .inl (0, 64, .inl (S.2.2.1 26)),
  .inl (0, 8, .inl (S.2.2.1 27)),
  .inl (0, 8, .inl (S.2.2.1 28)),
  .inl (0, 8, .inl (S.2.2.1 29)),
  .inl (0, 16, .inl (S.2.2.1 30)),
  .inl (0, 16, .inl (S.2.2.1 31)),
  .inl (1, 110, .inr (.inl (S.2.2.2 14))),
  .inl (1, 16, .inr (.inl (S.2.2.2 15))),
  .inl (0, 64, .inl (S.2.2.1 32)),
  .inl (0, 256, .inl (S.2.2.1 33)),
  .inl (0, 8, .inl (S.2.2.1 34)),
  .inl (0, 8, .inl (S.2.2.1 35))]
abbrev wFI (ty : FieldType) (P : Int32 → St → Prop) : wl_Fn := wl_fin (some ty) (fun rv mh => ∃ x S2, rv = some (.int x) ∧ mh = enc S2 ∧ P x S2)
abbrev wFL (P : Int64 → St → Prop) : wl_Fn := wl_fin (some .long) (fun rv mh => ∃ x S2, rv = some (.long x) ∧ mh = enc S2 ∧ P x S2)
abbrev wFV (P : St → Prop) : wl_Fn := wl_fin none (fun rv mh => ∃ S2, rv = none ∧ mh = enc S2 ∧ P S2)
/-- a number that is a boolean's -/
abbrev wBo (v : Int32) : Prop := v = 0 ∨ v = 1
def wl_le : List Value → List Value → Prop
  | [], _ => True
  | _ :: _, [] => False
  | a :: l, b :: m => (wl_du a = true ∨ a = b) ∧ wl_le l m
theorem wl_le_get : ∀ {Ms Ls : List Value}, wl_le Ms Ls → ∀ (i : Nat) (v : Value), Ms[i]? = some v → wl_du v = false → Ls[i]? = some v
  | [], _, _, i, v, h, _ => by simp at h
  | _ :: _, [], h0, _, _, _, _ => h0.elim
  | a :: l, b :: m, h0, i, v, h, hd => by
    cases i with
    | zero =>
      rw [List.getElem?_cons_zero] at h ⊢
      cases h
      rcases h0.1 with z | z
      · rw [z] at hd; cases hd
      · rw [z]
    | succ i =>
      rw [List.getElem?_cons_succ] at h ⊢
      exact wl_le_get h0.2 i v h hd
section WPS
variable {cc : ByteArray} {own : String} {nL : Nat} {R : Room} {Fn : wl_Fn} {pc : Nat} {Ls rest : List Value} {mh : wl_H}
theorem wp_le {Ms : List Value} (h : wl_le Ms Ls) (k : Wp cc own nL R Fn pc Ms rest mh) : Wp cc own nL R Fn pc Ls rest mh := wp_less (wl_le_get h) k
theorem wp_iald2 {q n j : Nat} {f : Nat → Int32} {i : Int32} (hd : decode cc pc = .ok (.iaload, 1)) (hq : mh[q]? = some (.inl (0, n, .inl f))) (hin : vp_in i n) (hj : i.toNatClampNeg = j) (kk : Wp cc own nL R Fn (pc + 1) Ls (.int (f j) :: rest) mh) : Wp cc own nL R Fn pc Ls (.int i :: .ref q :: rest) mh := by
  subst hj
  exact wp_iald hd hq hin kk
theorem wp_zald2 {q n j : Nat} {f : Nat → Int32} {i : Int32} (hd : decode cc pc = .ok (.baload, 1)) (hq : mh[q]? = some (.inl (2, n, .inl f))) (hin : vp_in i n) (hj : i.toNatClampNeg = j) (kk : Wp cc own nL R Fn (pc + 1) Ls (.int (f j) :: rest) mh) : Wp cc own nL R Fn pc Ls (.int i :: .ref q :: rest) mh := by
  subst hj
  exact wp_zald hd hq hin kk
theorem wp_lald2 {q n j : Nat} {f : Nat → Int64} {i : Int32} (hd : decode cc pc = .ok (.laload, 1)) (hq : mh[q]? = some (.inl (1, n, .inr (.inl f)))) (hin : vp_in i n) (hj : i.toNatClampNeg = j) (kk : Wp cc own nL R Fn (pc + 1) Ls (.long (f j) :: rest) mh) : Wp cc own nL R Fn pc Ls (.int i :: .ref q :: rest) mh := by
  subst hj
  exact wp_lald hd hq hin kk
theorem wp_iast2 {q n j : Nat} {f : Nat → Int32} {i x : Int32} {mh2 : wl_H} (hd : decode cc pc = .ok (.iastore, 1)) (hq : mh[q]? = some (.inl (0, n, .inl f))) (hin : vp_in i n) (hj : i.toNatClampNeg = j) (hm : mh.set q (.inl (0, n, .inl (upd f j x))) = mh2) (kk : Wp cc own nL R Fn (pc + 1) Ls rest mh2) : Wp cc own nL R Fn pc Ls (.int x :: .int i :: .ref q :: rest) mh := by
  subst hj
  exact wp_iast hd hq hin hm kk
theorem wp_zast2 {q n j : Nat} {f : Nat → Int32} {i x : Int32} {mh2 : wl_H} (hd : decode cc pc = .ok (.bastore, 1)) (hq : mh[q]? = some (.inl (2, n, .inl f))) (hin : vp_in i n) (hj : i.toNatClampNeg = j) (hm : mh.set q (.inl (2, n, .inl (upd f j (vp_nar .boolean x)))) = mh2) (kk : Wp cc own nL R Fn (pc + 1) Ls rest mh2) : Wp cc own nL R Fn pc Ls (.int x :: .int i :: .ref q :: rest) mh := by
  subst hj
  exact wp_zast hd hq hin hm kk
theorem wp_last2 {q n j : Nat} {f : Nat → Int64} {i : Int32} {x : Int64} {mh2 : wl_H} (hd : decode cc pc = .ok (.lastore, 1)) (hq : mh[q]? = some (.inl (1, n, .inr (.inl f)))) (hin : vp_in i n) (hj : i.toNatClampNeg = j) (hm : mh.set q (.inl (1, n, .inr (.inl (vp_updL f j x)))) = mh2) (kk : Wp cc own nL R Fn (pc + 1) Ls rest mh2) : Wp cc own nL R Fn pc Ls (.long x :: .int i :: .ref q :: rest) mh := by
  subst hj
  exact wp_last hd hq hin hm kk
end WPS
theorem vp_in_lt {i : Int32} {n : Nat} (h : vp_in i n) : i.toNatClampNeg < n := Nat.not_le.mp fun q => h (Or.inr q)
theorem encG (S : St) {i : Int32} (h : vp_in i 8) : (enc S)[6 + i.toNatClampNeg]? = some (.inl (0, 8, .inl (S.2.2.1 (2 + i.toNatClampNeg)))) := by
  have h := vp_in_lt h
  generalize i.toNatClampNeg = p at h ⊢
  match p, h with
  | 0, _ => rfl
  | 1, _ => rfl
  | 2, _ => rfl
  | 3, _ => rfl
  | 4, _ => rfl
  | 5, _ => rfl
  | 6, _ => rfl
  | 7, _ => rfl
theorem encGs (S : St) {i : Int32} (h : vp_in i 8) (f : Nat → Int32) : (enc S).set (6 + i.toNatClampNeg) (.inl (0, 8, .inl f)) = enc (sA S (2 + i.toNatClampNeg) f) := by
  have h := vp_in_lt h
  generalize i.toNatClampNeg = p at h ⊢
  match p, h with
  | 0, _ => rfl
  | 1, _ => rfl
  | 2, _ => rfl
  | 3, _ => rfl
  | 4, _ => rfl
  | 5, _ => rfl
  | 6, _ => rfl
  | 7, _ => rfl
theorem encE (S : St) {i : Int32} (h : vp_in i 10) : (enc S)[23 + i.toNatClampNeg]? = some (.inl (1, 11, .inr (.inl (S.2.2.2 (3 + i.toNatClampNeg))))) := by
  have h := vp_in_lt h
  generalize i.toNatClampNeg = p at h ⊢
  match p, h with
  | 0, _ => rfl
  | 1, _ => rfl
  | 2, _ => rfl
  | 3, _ => rfl
  | 4, _ => rfl
  | 5, _ => rfl
  | 6, _ => rfl
  | 7, _ => rfl
  | 8, _ => rfl
  | 9, _ => rfl
theorem encEs (S : St) {i : Int32} (h : vp_in i 10) (f : Nat → Int64) : (enc S).set (23 + i.toNatClampNeg) (.inl (1, 11, .inr (.inl f))) = enc (sB S (3 + i.toNatClampNeg) f) := by
  have h := vp_in_lt h
  generalize i.toNatClampNeg = p at h ⊢
  match p, h with
  | 0, _ => rfl
  | 1, _ => rfl
  | 2, _ => rfl
  | 3, _ => rfl
  | 4, _ => rfl
  | 5, _ => rfl
  | 6, _ => rfl
  | 7, _ => rfl
  | 8, _ => rfl
  | 9, _ => rfl
theorem encR {i : Int32} {n b : Nat} (h : vp_in i n) : (fun j => if j < n then some (b + j) else none : Nat → Option Nat) i.toNatClampNeg = some (b + i.toNatClampNeg) := if_pos (vp_in_lt h)
end
section
theorem vpd {i : Int32} {n : Nat} (h : decide (¬ (i < 0 ∨ n ≤ i.toNatClampNeg)) = true) : vp_in i n := of_decide_eq_true h
theorem wBo_n {v : Int32} (h : v = 0 ∨ v = 1) : narrow .boolean (.int v) = .int v := by rcases h with rfl | rfl <;> rfl
theorem wBo_f {v : Int32} (h : v = 0 ∨ v = 1) : fits .boolean (.int v) = true := by rcases h with rfl | rfl <;> rfl
def wl_lrI (k : Nat) : Int32 := ([1, 1, 0] : List Int32).getD k 0
def wl_grI (k : Nat) : Int32 := ([4, 8, 100] : List Int32).getD k 0

def wfill {α : Type} (f : Nat → α) (n : Nat) (v : α) : Nat → α := fun j => if j < n then v else f j
def wus (x k : Int32) : Int32 := (x.toUInt32 >>> (k.toUInt32 &&& Int32.toUInt32 31)).toInt32
def wb1 (x : Int32) : Int32 := x - (wus x 1 &&& 1431655765)
def wb2 (x : Int32) : Int32 := (wb1 x &&& 858993459) + (wus (wb1 x) 2 &&& 858993459)
def wb3 (x : Int32) : Int32 := (wb2 x + wus (wb2 x) 4) &&& 252645135
def wb4 (x : Int32) : Int32 := wb3 x + wus (wb3 x) 8
def wb5 (x : Int32) : Int32 := wb4 x + wus (wb4 x) 16
def wbc (x : Int32) : Int32 := wb5 x &&& 63
abbrev wR0 : Room := { frames := 0, cells := 0, slots := 0, locals := 0 }
theorem bitc_body {Q : Option Value → wl_H → Prop} {x : Int32} {mh : wl_H} (h : Q (some (.int (wbc x))) mh) : Wp cJ6_bitCount_0f7a4 RJ6 1 wR0 (wl_fin (some .int) Q) 0 [.int x] [] mh := by
  refine wp_iload_n dJ6_bitCount_0f7a4_0 rfl rfl ?_
  refine wp_iload_n dJ6_bitCount_0f7a4_1 rfl rfl ?_
  refine wp_iconst (v := 1) dJ6_bitCount_0f7a4_2 (by decide) ?_
  refine wp_iushr dJ6_bitCount_0f7a4_3 ?_
  refine wp_ldcw dJ6_bitCount_0f7a4_4 kJ6_265 ?_
  refine wp_iand dJ6_bitCount_0f7a4_7 ?_
  refine wp_isub dJ6_bitCount_0f7a4_8 ?_
  refine wp_istore_n (Ms := [.int (wb1 x)]) dJ6_bitCount_0f7a4_9 rfl (by decide) rfl ?_
  refine wp_iload_n dJ6_bitCount_0f7a4_10 rfl rfl ?_
  refine wp_ldcw dJ6_bitCount_0f7a4_11 kJ6_266 ?_
  refine wp_iand dJ6_bitCount_0f7a4_14 ?_
  refine wp_iload_n dJ6_bitCount_0f7a4_15 rfl rfl ?_
  refine wp_iconst (v := 2) dJ6_bitCount_0f7a4_16 (by decide) ?_
  refine wp_iushr dJ6_bitCount_0f7a4_17 ?_
  refine wp_ldcw dJ6_bitCount_0f7a4_18 kJ6_266 ?_
  refine wp_iand dJ6_bitCount_0f7a4_21 ?_
  refine wp_iadd dJ6_bitCount_0f7a4_22 ?_
  refine wp_istore_n (Ms := [.int (wb2 x)]) dJ6_bitCount_0f7a4_23 rfl (by decide) rfl ?_
  refine wp_iload_n dJ6_bitCount_0f7a4_24 rfl rfl ?_
  refine wp_iload_n dJ6_bitCount_0f7a4_25 rfl rfl ?_
  refine wp_iconst (v := 4) dJ6_bitCount_0f7a4_26 (by decide) ?_
  refine wp_iushr dJ6_bitCount_0f7a4_27 ?_
  refine wp_iadd dJ6_bitCount_0f7a4_28 ?_
  refine wp_ldcw dJ6_bitCount_0f7a4_29 kJ6_267 ?_
  refine wp_iand dJ6_bitCount_0f7a4_32 ?_
  refine wp_istore_n (Ms := [.int (wb3 x)]) dJ6_bitCount_0f7a4_33 rfl (by decide) rfl ?_
  refine wp_iload_n dJ6_bitCount_0f7a4_34 rfl rfl ?_
  refine wp_iload_n dJ6_bitCount_0f7a4_35 rfl rfl ?_
  refine wp_bipush (v := 8) dJ6_bitCount_0f7a4_36 (by decide) ?_
  refine wp_iushr dJ6_bitCount_0f7a4_38 ?_
  refine wp_iadd dJ6_bitCount_0f7a4_39 ?_
  refine wp_istore_n (Ms := [.int (wb4 x)]) dJ6_bitCount_0f7a4_40 rfl (by decide) rfl ?_
  refine wp_iload_n dJ6_bitCount_0f7a4_41 rfl rfl ?_
  refine wp_iload_n dJ6_bitCount_0f7a4_42 rfl rfl ?_
  refine wp_bipush (v := 16) dJ6_bitCount_0f7a4_43 (by decide) ?_
  refine wp_iushr dJ6_bitCount_0f7a4_45 ?_
  refine wp_iadd dJ6_bitCount_0f7a4_46 ?_
  refine wp_istore_n (Ms := [.int (wb5 x)]) dJ6_bitCount_0f7a4_47 rfl (by decide) rfl ?_
  refine wp_iload_n dJ6_bitCount_0f7a4_48 rfl rfl ?_
  refine wp_bipush (v := 63) dJ6_bitCount_0f7a4_49 (by decide) ?_
  refine wp_iand dJ6_bitCount_0f7a4_51 ?_
  exact wp_iret dJ6_bitCount_0f7a4_52 rfl rfl h
theorem wfill_succ {f : Nat → Int32} {v : Int32} (i : Nat) : upd (wfill f i v) i v = wfill f (i + 1) v := by
  funext j
  unfold upd wfill
  by_cases h : j = i
  · subst h; simp
  · by_cases h2 : j < i
    · simp [h, h2, Nat.lt_succ_of_lt h2]
    · simp [h, h2, show ¬ j < i + 1 by omega]
theorem wfill_succL {f : Nat → Int64} {v : Int64} (i : Nat) : vp_updL (wfill f i v) i v = wfill f (i + 1) v := by
  funext j
  unfold vp_updL wfill
  by_cases h : j = i
  · subst h; simp
  · by_cases h2 : j < i
    · simp [h, h2, Nat.lt_succ_of_lt h2]
    · simp [h, h2, show ¬ j < i + 1 by omega]
theorem wfill_0 {α : Type} (f : Nat → α) (v : α) : wfill f 0 v = f := by
  funext j
  simp [wfill]
theorem set_self {mh : wl_H} {q : Nat} {e : va_E} (h : mh[q]? = some e) : mh.set q e = mh := by
  apply List.ext_getElem?
  intro j
  by_cases hj : q = j
  · subst hj; rw [List.getElem?_set_self (List.getElem?_eq_some_iff.mp h).1, h]
  · rw [List.getElem?_set_ne hj]
theorem fillI_loop {q n : Nat} {v : Int32} {f : Nat → Int32} {mh : wl_H} {Q : Option Value → wl_H → Prop} (hq : mh[q]? = some (.inl (0, n, .inl f))) (hn : n < 2 ^ 31) (hQ : Q none (mh.set q (.inl (0, n, .inl (wfill f n v))))) :
    ∀ k i, i + k = n → Wp cJ7_fill_53178 RJ7 4 wR0 (wl_fin none Q) 5 [.ref q, .int v, .int (nI i), .int (nI n)] [] (mh.set q (.inl (0, n, .inl (wfill f i v))))
  | 0, i, hi => by
    have e : i = n := by omega
    subst e
    refine wp_iload_n dJ7_fill_53178_5 rfl rfl ?_
    refine wp_iload_n dJ7_fill_53178_6 rfl rfl ?_
    refine wp_icmp_ge (tgt := 20) dJ7_fill_53178_7 (by decide) (fun c => ?_) (fun c => absurd (nI_le (Nat.le_refl i) hn) c)
    exact wp_vret dJ7_fill_53178_20 rfl hQ
  | k + 1, i, hi => by
    have hlt : i < n := by omega
    refine wp_iload_n dJ7_fill_53178_5 rfl rfl ?_
    refine wp_iload_n dJ7_fill_53178_6 rfl rfl ?_
    refine wp_icmp_ge (tgt := 20) dJ7_fill_53178_7 (by decide) (fun c => absurd c (nI_ge hlt hn)) (fun c => ?_)
    refine wp_aload_n dJ7_fill_53178_10 rfl rfl ?_
    refine wp_iload_n dJ7_fill_53178_11 rfl rfl ?_
    refine wp_iload_n dJ7_fill_53178_12 rfl rfl ?_
    have hl := (List.getElem?_eq_some_iff.mp hq).1
    refine wp_iast2 (j := i) (q := q) (mh2 := mh.set q (.inl (0, n, .inl (wfill f (i + 1) v)))) dJ7_fill_53178_13 (List.getElem?_set_self hl) (vp_in_nI hlt hn) (nI_clamp (by omega)) (by rw [List.set_set, wfill_succ]) ?_
    refine wp_iinc (Ms := [.ref q, .int v, .int (nI (i + 1)), .int (nI n)]) (v := nI (i + 1)) dJ7_fill_53178_14 rfl (nI_1 i) (by decide) rfl ?_
    refine wp_goto (tgt := 5) dJ7_fill_53178_17 (by decide) ?_
    exact fillI_loop hq hn hQ k (i + 1) (by omega)
theorem fillI_body {q n : Nat} {v : Int32} {f : Nat → Int32} {mh : wl_H} {Q : Option Value → wl_H → Prop} (hq : mh[q]? = some (.inl (0, n, .inl f))) (hn : n < 2 ^ 31) (hQ : Q none (mh.set q (.inl (0, n, .inl (wfill f n v))))) : Wp cJ7_fill_53178 RJ7 4 wR0 (wl_fin none Q) 0 [.ref q, .int v, .retAddr 0, .retAddr 0] [] mh := by
  refine wp_iconst (v := 0) dJ7_fill_53178_0 (by decide) ?_
  refine wp_istore_n (Ms := [.ref q, .int v, .int (nI 0), .retAddr 0]) dJ7_fill_53178_1 rfl (by decide) rfl ?_
  refine wp_aload_n dJ7_fill_53178_2 rfl rfl ?_
  refine wp_alen (q := q) (v := nI n) dJ7_fill_53178_3 hq rfl ?_
  refine wp_istore_n (Ms := [.ref q, .int v, .int (nI 0), .int (nI n)]) dJ7_fill_53178_4 rfl (by decide) rfl ?_
  have h := fillI_loop hq hn hQ n 0 (by omega)
  rw [wfill_0, set_self hq] at h
  exact h
theorem fillL_loop {q n : Nat} {v : Int64} {f : Nat → Int64} {mh : wl_H} {Q : Option Value → wl_H → Prop} (hq : mh[q]? = some (.inl (1, n, .inr (.inl f)))) (hn : n < 2 ^ 31) (hQ : Q none (mh.set q (.inl (1, n, .inr (.inl (wfill f n v)))))) :
    ∀ k i, i + k = n → Wp cJ7_fill_d0a16 RJ7 5 wR0 (wl_fin none Q) 6 [.ref q, .long v, .retAddr 0, .int (nI i), .int (nI n)] [] (mh.set q (.inl (1, n, .inr (.inl (wfill f i v)))))
  | 0, i, hi => by
    have e : i = n := by omega
    subst e
    refine wp_iload_n dJ7_fill_d0a16_6 rfl rfl ?_
    refine wp_iload dJ7_fill_d0a16_7 rfl ?_
    refine wp_icmp_ge (tgt := 22) dJ7_fill_d0a16_9 (by decide) (fun c => ?_) (fun c => absurd (nI_le (Nat.le_refl i) hn) c)
    exact wp_vret dJ7_fill_d0a16_22 rfl hQ
  | k + 1, i, hi => by
    have hlt : i < n := by omega
    refine wp_iload_n dJ7_fill_d0a16_6 rfl rfl ?_
    refine wp_iload dJ7_fill_d0a16_7 rfl ?_
    refine wp_icmp_ge (tgt := 22) dJ7_fill_d0a16_9 (by decide) (fun c => absurd c (nI_ge hlt hn)) (fun c => ?_)
    refine wp_aload_n dJ7_fill_d0a16_12 rfl rfl ?_
    refine wp_iload_n dJ7_fill_d0a16_13 rfl rfl ?_
    refine wp_lload_n dJ7_fill_d0a16_14 rfl rfl ?_
    have hl := (List.getElem?_eq_some_iff.mp hq).1
    refine wp_last2 (j := i) (q := q) (mh2 := mh.set q (.inl (1, n, .inr (.inl (wfill f (i + 1) v))))) dJ7_fill_d0a16_15 (List.getElem?_set_self hl) (vp_in_nI hlt hn) (nI_clamp (by omega)) (by rw [List.set_set, wfill_succL]) ?_
    refine wp_iinc (Ms := [.ref q, .long v, .retAddr 0, .int (nI (i + 1)), .int (nI n)]) (v := nI (i + 1)) dJ7_fill_d0a16_16 rfl (nI_1 i) (by decide) rfl ?_
    refine wp_goto (tgt := 6) dJ7_fill_d0a16_19 (by decide) ?_
    exact fillL_loop hq hn hQ k (i + 1) (by omega)
theorem fillL_body {q n : Nat} {v : Int64} {f : Nat → Int64} {mh : wl_H} {Q : Option Value → wl_H → Prop} (hq : mh[q]? = some (.inl (1, n, .inr (.inl f)))) (hn : n < 2 ^ 31) (hQ : Q none (mh.set q (.inl (1, n, .inr (.inl (wfill f n v)))))) : Wp cJ7_fill_d0a16 RJ7 5 wR0 (wl_fin none Q) 0 [.ref q, .long v, .retAddr 0, .retAddr 0, .retAddr 0] [] mh := by
  refine wp_iconst (v := 0) dJ7_fill_d0a16_0 (by decide) ?_
  refine wp_istore_n (Ms := [.ref q, .long v, .retAddr 0, .int (nI 0), .retAddr 0]) dJ7_fill_d0a16_1 rfl (by decide) rfl ?_
  refine wp_aload_n dJ7_fill_d0a16_2 rfl rfl ?_
  refine wp_alen (q := q) (v := nI n) dJ7_fill_d0a16_3 hq rfl ?_
  refine wp_istore (Ms := [.ref q, .long v, .retAddr 0, .int (nI 0), .int (nI n)]) dJ7_fill_d0a16_4 (by decide) rfl ?_
  have h := fillL_loop hq hn hQ n 0 (by omega)
  rw [wfill_0, set_self hq] at h
  exact h
section WPJ
variable {cc : ByteArray} {own : String} {nL : Nat} {R : Room} {Fn : wl_Fn} {pc : Nat} {Ls rest : List Value} {mh : wl_H}
theorem wp_bitc {idx : Nat} {x : Int32} (hd : decode cc pc = .ok (.invokestatic idx, 3)) (hw : Cond.methodLink own idx yJ6_bitCount_0f7a4 ∈ wl_gw ∧ Cond.static yJ6_bitCount_0f7a4 ∈ wl_gw) (hrm : wl_rm R wR0 1) (hcat : (rest.map fun v => v.category).sum ≤ 8) (kk : Wp cc own nL R Fn (pc + 3) Ls (.int (wbc x) :: rest) mh) : Wp cc own nL R Fn pc Ls (.int x :: rest) mh := by
  refine wp_callS (As := [.int x]) (rest := rest) (Q2 := fun rv m2 => rv = some (.int (wbc x)) ∧ m2 = mh) hd mJ6_bitCount_0f7a4 hw hrm rfl rfl (by decide) hcat (bitc_body ⟨rfl, rfl⟩) ?_
  rintro rv m2 ⟨rfl, rfl⟩
  exact kk
theorem wp_fillI {idx q n : Nat} {v : Int32} {f : Nat → Int32} {mh2 : wl_H} (hd : decode cc pc = .ok (.invokestatic idx, 3)) (hw : Cond.methodLink own idx yJ7_fill_53178 ∈ wl_gw ∧ Cond.static yJ7_fill_53178 ∈ wl_gw) (hrm : wl_rm R wR0 4) (hq : mh[q]? = some (.inl (0, n, .inl f))) (hn : n < 2 ^ 31) (hm : mh.set q (.inl (0, n, .inl (wfill f n v))) = mh2) (hcat : (rest.map fun v => v.category).sum ≤ 8) (kk : Wp cc own nL R Fn (pc + 3) Ls rest mh2) : Wp cc own nL R Fn pc Ls (.int v :: .ref q :: rest) mh := by
  refine wp_callS (As := [.ref q, .int v]) (rest := rest) (Q2 := fun rv m2 => rv = none ∧ m2 = mh2) hd mJ7_fill_53178 hw hrm rfl rfl (by decide) hcat (fillI_body hq hn ⟨rfl, hm⟩) ?_
  rintro rv m2 ⟨rfl, rfl⟩
  exact kk
theorem wp_fillL {idx q n : Nat} {v : Int64} {f : Nat → Int64} {mh2 : wl_H} (hd : decode cc pc = .ok (.invokestatic idx, 3)) (hw : Cond.methodLink own idx yJ7_fill_d0a16 ∈ wl_gw ∧ Cond.static yJ7_fill_d0a16 ∈ wl_gw) (hrm : wl_rm R wR0 5) (hq : mh[q]? = some (.inl (1, n, .inr (.inl f)))) (hn : n < 2 ^ 31) (hm : mh.set q (.inl (1, n, .inr (.inl (wfill f n v)))) = mh2) (hcat : (rest.map fun v => v.category).sum ≤ 8) (kk : Wp cc own nL R Fn (pc + 3) Ls rest mh2) : Wp cc own nL R Fn pc Ls (.long v :: .ref q :: rest) mh := by
  refine wp_callS (As := [.ref q, .long v]) (rest := rest) (Q2 := fun rv m2 => rv = none ∧ m2 = mh2) hd mJ7_fill_d0a16 hw hrm rfl rfl (by decide) hcat (fillL_body hq hn ⟨rfl, hm⟩) ?_
  rintro rv m2 ⟨rfl, rfl⟩
  exact kk
end WPJ
end
