section
-- ===== PART A: goes FIRST, ahead of the names: the tables' words, and 'selects' of the private methods out of them =====
/-- a private method of a class that the tables say can be made, by its rows of tables_1 -/
def lw_okq (q : MethodName × Nat) : Prop := (q.1.cls ≠ "java/lang/invoke/MethodHandle" ∧ q.1.cls ≠ "java/lang/invoke/VarHandle") ∧ Cond.instantiable q.1.cls q.2 ∈ tables_1 ∧ Cond.privateMethod q.1 ∈ tables_1 ∧ Cond.instanceMethod q.1 ∈ tables_1
theorem lw_p0 : lw_okq (⟨"BranchMender", "tell", "(I)I"⟩, 12) := ⟨⟨by decide +kernel, by decide +kernel⟩, List.mem_of_getElem? (i := 15) (by decide +kernel), List.mem_of_getElem? (i := 373) (by decide +kernel), List.mem_of_getElem? (i := 374) (by decide +kernel)⟩
theorem lw_p1 : lw_okq (⟨"BranchMender$Reader", "readNode", "(I)Z"⟩, 5) := ⟨⟨by decide +kernel, by decide +kernel⟩, List.mem_of_getElem? (i := 104) (by decide +kernel), List.mem_of_getElem? (i := 395) (by decide +kernel), List.mem_of_getElem? (i := 396) (by decide +kernel)⟩
theorem lw_p2 : lw_okq (⟨"BranchMender$Reader", "passLabel", "()Z"⟩, 5) := ⟨⟨by decide +kernel, by decide +kernel⟩, List.mem_of_getElem? (i := 104) (by decide +kernel), List.mem_of_getElem? (i := 399) (by decide +kernel), List.mem_of_getElem? (i := 400) (by decide +kernel)⟩
theorem lw_p3 : lw_okq (⟨"BranchMender$Reader", "isTwin", "(IJ)Z"⟩, 5) := ⟨⟨by decide +kernel, by decide +kernel⟩, List.mem_of_getElem? (i := 104) (by decide +kernel), List.mem_of_getElem? (i := 421) (by decide +kernel), List.mem_of_getElem? (i := 422) (by decide +kernel)⟩
theorem lw_p4 : lw_okq (⟨"BranchMender$Reader", "readText", "(I)Z"⟩, 5) := ⟨⟨by decide +kernel, by decide +kernel⟩, List.mem_of_getElem? (i := 104) (by decide +kernel), List.mem_of_getElem? (i := 441) (by decide +kernel), List.mem_of_getElem? (i := 442) (by decide +kernel)⟩
theorem lw_p5 : lw_okq (⟨"BranchMender$Reader", "pass", "(I)Z"⟩, 5) := ⟨⟨by decide +kernel, by decide +kernel⟩, List.mem_of_getElem? (i := 104) (by decide +kernel), List.mem_of_getElem? (i := 445) (by decide +kernel), List.mem_of_getElem? (i := 446) (by decide +kernel)⟩
theorem lw_p6 : lw_okq (⟨"BranchMender$Reader", "readMark", "(I)V"⟩, 5) := ⟨⟨by decide +kernel, by decide +kernel⟩, List.mem_of_getElem? (i := 104) (by decide +kernel), List.mem_of_getElem? (i := 458) (by decide +kernel), List.mem_of_getElem? (i := 459) (by decide +kernel)⟩
theorem lw_p7 : lw_okq (⟨"BranchMender$Reader", "nextDepth", "(I)I"⟩, 5) := ⟨⟨by decide +kernel, by decide +kernel⟩, List.mem_of_getElem? (i := 104) (by decide +kernel), List.mem_of_getElem? (i := 462) (by decide +kernel), List.mem_of_getElem? (i := 463) (by decide +kernel)⟩
theorem lw_p8 : lw_okq (⟨"BranchMender$Tree", "copyRows", "(LBranchMender$Tree;III)V"⟩, 7) := ⟨⟨by decide +kernel, by decide +kernel⟩, List.mem_of_getElem? (i := 24) (by decide +kernel), List.mem_of_getElem? (i := 477) (by decide +kernel), List.mem_of_getElem? (i := 478) (by decide +kernel)⟩
theorem lw_p9 : lw_okq (⟨"BranchMender", "lackOfTree", "(I)I"⟩, 12) := ⟨⟨by decide +kernel, by decide +kernel⟩, List.mem_of_getElem? (i := 15) (by decide +kernel), List.mem_of_getElem? (i := 489) (by decide +kernel), List.mem_of_getElem? (i := 490) (by decide +kernel)⟩
theorem lw_p10 : lw_okq (⟨"BranchMender$Writer", "spellNode", "(LBranchMender$Tree;I)V"⟩, 3) := ⟨⟨by decide +kernel, by decide +kernel⟩, List.mem_of_getElem? (i := 126) (by decide +kernel), List.mem_of_getElem? (i := 497) (by decide +kernel), List.mem_of_getElem? (i := 498) (by decide +kernel)⟩
theorem lw_p11 : lw_okq (⟨"BranchMender$Writer", "addWord", "(J)V"⟩, 3) := ⟨⟨by decide +kernel, by decide +kernel⟩, List.mem_of_getElem? (i := 126) (by decide +kernel), List.mem_of_getElem? (i := 501) (by decide +kernel), List.mem_of_getElem? (i := 502) (by decide +kernel)⟩
theorem lw_p12 : lw_okq (⟨"BranchMender$Writer", "add", "(I)V"⟩, 3) := ⟨⟨by decide +kernel, by decide +kernel⟩, List.mem_of_getElem? (i := 126) (by decide +kernel), List.mem_of_getElem? (i := 509) (by decide +kernel), List.mem_of_getElem? (i := 510) (by decide +kernel)⟩
theorem lw_p13 : lw_okq (⟨"BranchMender$Writer", "leaveBranches", "(LBranchMender$Tree;I)V"⟩, 3) := ⟨⟨by decide +kernel, by decide +kernel⟩, List.mem_of_getElem? (i := 126) (by decide +kernel), List.mem_of_getElem? (i := 517) (by decide +kernel), List.mem_of_getElem? (i := 518) (by decide +kernel)⟩
theorem lw_p14 : lw_okq (⟨"BranchMender", "seekNode", "(II)I"⟩, 12) := ⟨⟨by decide +kernel, by decide +kernel⟩, List.mem_of_getElem? (i := 15) (by decide +kernel), List.mem_of_getElem? (i := 565) (by decide +kernel), List.mem_of_getElem? (i := 566) (by decide +kernel)⟩
theorem lw_p15 : lw_okq (⟨"BranchMender", "tryOut", "(II)I"⟩, 12) := ⟨⟨by decide +kernel, by decide +kernel⟩, List.mem_of_getElem? (i := 15) (by decide +kernel), List.mem_of_getElem? (i := 581) (by decide +kernel), List.mem_of_getElem? (i := 582) (by decide +kernel)⟩
def lw_privs_1 : List (MethodName × Nat) := [(⟨"BranchMender", "tell", "(I)I"⟩, 12), (⟨"BranchMender$Reader", "readNode", "(I)Z"⟩, 5), (⟨"BranchMender$Reader", "passLabel", "()Z"⟩, 5), (⟨"BranchMender$Reader", "isTwin", "(IJ)Z"⟩, 5), (⟨"BranchMender$Reader", "readText", "(I)Z"⟩, 5), (⟨"BranchMender$Reader", "pass", "(I)Z"⟩, 5), (⟨"BranchMender$Reader", "readMark", "(I)V"⟩, 5), (⟨"BranchMender$Reader", "nextDepth", "(I)I"⟩, 5), (⟨"BranchMender$Tree", "copyRows", "(LBranchMender$Tree;III)V"⟩, 7), (⟨"BranchMender", "lackOfTree", "(I)I"⟩, 12), (⟨"BranchMender$Writer", "spellNode", "(LBranchMender$Tree;I)V"⟩, 3), (⟨"BranchMender$Writer", "addWord", "(J)V"⟩, 3), (⟨"BranchMender$Writer", "add", "(I)V"⟩, 3), (⟨"BranchMender$Writer", "leaveBranches", "(LBranchMender$Tree;I)V"⟩, 3), (⟨"BranchMender", "seekNode", "(II)I"⟩, 12), (⟨"BranchMender", "tryOut", "(II)I"⟩, 12)]
theorem lw_r1 : ∀ q ∈ lw_privs_1, lw_okq q := List.forall_mem_cons.mpr ⟨lw_p0, List.forall_mem_cons.mpr ⟨lw_p1, List.forall_mem_cons.mpr ⟨lw_p2, List.forall_mem_cons.mpr ⟨lw_p3, List.forall_mem_cons.mpr ⟨lw_p4, List.forall_mem_cons.mpr ⟨lw_p5, List.forall_mem_cons.mpr ⟨lw_p6, List.forall_mem_cons.mpr ⟨lw_p7, List.forall_mem_cons.mpr ⟨lw_p8, List.forall_mem_cons.mpr ⟨lw_p9, List.forall_mem_cons.mpr ⟨lw_p10, List.forall_mem_cons.mpr ⟨lw_p11, List.forall_mem_cons.mpr ⟨lw_p12, List.forall_mem_cons.mpr ⟨lw_p13, List.forall_mem_cons.mpr ⟨lw_p14, List.forall_mem_cons.mpr ⟨lw_p15, fun _ h => absurd h List.not_mem_nil⟩⟩⟩⟩⟩⟩⟩⟩⟩⟩⟩⟩⟩⟩⟩⟩
theorem lw_p16 : lw_okq (⟨"BranchMender$Tree", "hasTwinsUnder", "(I)Z"⟩, 7) := ⟨⟨by decide +kernel, by decide +kernel⟩, List.mem_of_getElem? (i := 24) (by decide +kernel), List.mem_of_getElem? (i := 593) (by decide +kernel), List.mem_of_getElem? (i := 594) (by decide +kernel)⟩
theorem lw_p17 : lw_okq (⟨"BranchMender$Tree", "childAt", "(II)I"⟩, 7) := ⟨⟨by decide +kernel, by decide +kernel⟩, List.mem_of_getElem? (i := 24) (by decide +kernel), List.mem_of_getElem? (i := 615) (by decide +kernel), List.mem_of_getElem? (i := 616) (by decide +kernel)⟩
theorem lw_p18 : lw_okq (⟨"BranchMender$Tree", "shiftDepths", "(III)V"⟩, 7) := ⟨⟨by decide +kernel, by decide +kernel⟩, List.mem_of_getElem? (i := 24) (by decide +kernel), List.mem_of_getElem? (i := 623) (by decide +kernel), List.mem_of_getElem? (i := 624) (by decide +kernel)⟩
theorem lw_p19 : lw_okq (⟨"BranchMender", "lackOfTrees", "(II)I"⟩, 12) := ⟨⟨by decide +kernel, by decide +kernel⟩, List.mem_of_getElem? (i := 15) (by decide +kernel), List.mem_of_getElem? (i := 660) (by decide +kernel), List.mem_of_getElem? (i := 661) (by decide +kernel)⟩
theorem lw_p20 : lw_okq (⟨"BranchMender$Aligner", "pricePairs", "(LBranchMender$Tree;LBranchMender$Tree;[I)V"⟩, 10) := ⟨⟨by decide +kernel, by decide +kernel⟩, List.mem_of_getElem? (i := 144) (by decide +kernel), List.mem_of_getElem? (i := 674) (by decide +kernel), List.mem_of_getElem? (i := 675) (by decide +kernel)⟩
theorem lw_p21 : lw_okq (⟨"BranchMender$Aligner", "fillForests", "(II)V"⟩, 10) := ⟨⟨by decide +kernel, by decide +kernel⟩, List.mem_of_getElem? (i := 144) (by decide +kernel), List.mem_of_getElem? (i := 682) (by decide +kernel), List.mem_of_getElem? (i := 683) (by decide +kernel)⟩
theorem lw_p22 : lw_okq (⟨"BranchMender$Aligner", "keepUnder", "(III)V"⟩, 10) := ⟨⟨by decide +kernel, by decide +kernel⟩, List.mem_of_getElem? (i := 144) (by decide +kernel), List.mem_of_getElem? (i := 686) (by decide +kernel), List.mem_of_getElem? (i := 687) (by decide +kernel)⟩
theorem lw_p23 : lw_okq (⟨"BranchMender$Aligner", "fillLine", "(III)V"⟩, 10) := ⟨⟨by decide +kernel, by decide +kernel⟩, List.mem_of_getElem? (i := 144) (by decide +kernel), List.mem_of_getElem? (i := 690) (by decide +kernel), List.mem_of_getElem? (i := 691) (by decide +kernel)⟩
theorem lw_p24 : lw_okq (⟨"BranchMender$Aligner", "walkBack", "(IIII)V"⟩, 10) := ⟨⟨by decide +kernel, by decide +kernel⟩, List.mem_of_getElem? (i := 144) (by decide +kernel), List.mem_of_getElem? (i := 705) (by decide +kernel), List.mem_of_getElem? (i := 706) (by decide +kernel)⟩
theorem lw_p25 : lw_okq (⟨"BranchMender$Aligner", "costOfPairing", "(II)I"⟩, 10) := ⟨⟨by decide +kernel, by decide +kernel⟩, List.mem_of_getElem? (i := 144) (by decide +kernel), List.mem_of_getElem? (i := 709) (by decide +kernel), List.mem_of_getElem? (i := 710) (by decide +kernel)⟩
theorem lw_p26 : lw_okq (⟨"BranchMender$Aligner", "addPair", "(II)V"⟩, 10) := ⟨⟨by decide +kernel, by decide +kernel⟩, List.mem_of_getElem? (i := 144) (by decide +kernel), List.mem_of_getElem? (i := 713) (by decide +kernel), List.mem_of_getElem? (i := 714) (by decide +kernel)⟩
theorem lw_p27 : lw_okq (⟨"BranchMender$Mending", "matchRows", "(LBranchMender$Aligner;)V"⟩, 10) := ⟨⟨by decide +kernel, by decide +kernel⟩, List.mem_of_getElem? (i := 214) (by decide +kernel), List.mem_of_getElem? (i := 721) (by decide +kernel), List.mem_of_getElem? (i := 722) (by decide +kernel)⟩
theorem lw_p28 : lw_okq (⟨"BranchMender$Mending", "takeLonely", "(LBranchMender$Tree;I)V"⟩, 10) := ⟨⟨by decide +kernel, by decide +kernel⟩, List.mem_of_getElem? (i := 214) (by decide +kernel), List.mem_of_getElem? (i := 725) (by decide +kernel), List.mem_of_getElem? (i := 726) (by decide +kernel)⟩
theorem lw_p29 : lw_okq (⟨"BranchMender$Mending", "addAct", "(III)V"⟩, 10) := ⟨⟨by decide +kernel, by decide +kernel⟩, List.mem_of_getElem? (i := 214) (by decide +kernel), List.mem_of_getElem? (i := 729) (by decide +kernel), List.mem_of_getElem? (i := 730) (by decide +kernel)⟩
theorem lw_p30 : lw_okq (⟨"BranchMender$Mending", "mendPairs", "(LBranchMender$Tree;LBranchMender$Tree;[I)V"⟩, 10) := ⟨⟨by decide +kernel, by decide +kernel⟩, List.mem_of_getElem? (i := 214) (by decide +kernel), List.mem_of_getElem? (i := 733) (by decide +kernel), List.mem_of_getElem? (i := 734) (by decide +kernel)⟩
theorem lw_p31 : lw_okq (⟨"BranchMender$Mending", "putLonely", "(LBranchMender$Tree;LBranchMender$BehindOrder;I)V"⟩, 10) := ⟨⟨by decide +kernel, by decide +kernel⟩, List.mem_of_getElem? (i := 214) (by decide +kernel), List.mem_of_getElem? (i := 737) (by decide +kernel), List.mem_of_getElem? (i := 738) (by decide +kernel)⟩
def lw_privs_2 : List (MethodName × Nat) := [(⟨"BranchMender$Tree", "hasTwinsUnder", "(I)Z"⟩, 7), (⟨"BranchMender$Tree", "childAt", "(II)I"⟩, 7), (⟨"BranchMender$Tree", "shiftDepths", "(III)V"⟩, 7), (⟨"BranchMender", "lackOfTrees", "(II)I"⟩, 12), (⟨"BranchMender$Aligner", "pricePairs", "(LBranchMender$Tree;LBranchMender$Tree;[I)V"⟩, 10), (⟨"BranchMender$Aligner", "fillForests", "(II)V"⟩, 10), (⟨"BranchMender$Aligner", "keepUnder", "(III)V"⟩, 10), (⟨"BranchMender$Aligner", "fillLine", "(III)V"⟩, 10), (⟨"BranchMender$Aligner", "walkBack", "(IIII)V"⟩, 10), (⟨"BranchMender$Aligner", "costOfPairing", "(II)I"⟩, 10), (⟨"BranchMender$Aligner", "addPair", "(II)V"⟩, 10), (⟨"BranchMender$Mending", "matchRows", "(LBranchMender$Aligner;)V"⟩, 10), (⟨"BranchMender$Mending", "takeLonely", "(LBranchMender$Tree;I)V"⟩, 10), (⟨"BranchMender$Mending", "addAct", "(III)V"⟩, 10), (⟨"BranchMender$Mending", "mendPairs", "(LBranchMender$Tree;LBranchMender$Tree;[I)V"⟩, 10), (⟨"BranchMender$Mending", "putLonely", "(LBranchMender$Tree;LBranchMender$BehindOrder;I)V"⟩, 10)]
theorem lw_r2 : ∀ q ∈ lw_privs_2, lw_okq q := List.forall_mem_cons.mpr ⟨lw_p16, List.forall_mem_cons.mpr ⟨lw_p17, List.forall_mem_cons.mpr ⟨lw_p18, List.forall_mem_cons.mpr ⟨lw_p19, List.forall_mem_cons.mpr ⟨lw_p20, List.forall_mem_cons.mpr ⟨lw_p21, List.forall_mem_cons.mpr ⟨lw_p22, List.forall_mem_cons.mpr ⟨lw_p23, List.forall_mem_cons.mpr ⟨lw_p24, List.forall_mem_cons.mpr ⟨lw_p25, List.forall_mem_cons.mpr ⟨lw_p26, List.forall_mem_cons.mpr ⟨lw_p27, List.forall_mem_cons.mpr ⟨lw_p28, List.forall_mem_cons.mpr ⟨lw_p29, List.forall_mem_cons.mpr ⟨lw_p30, List.forall_mem_cons.mpr ⟨lw_p31, fun _ h => absurd h List.not_mem_nil⟩⟩⟩⟩⟩⟩⟩⟩⟩⟩⟩⟩⟩⟩⟩⟩
theorem lw_p32 : lw_okq (⟨"BranchMender$Kinship", "groupFor", "(LBranchMender$Tree;I)I"⟩, 9) := ⟨⟨by decide +kernel, by decide +kernel⟩, List.mem_of_getElem? (i := 259) (by decide +kernel), List.mem_of_getElem? (i := 769) (by decide +kernel), List.mem_of_getElem? (i := 770) (by decide +kernel)⟩
theorem lw_p33 : lw_okq (⟨"BranchMender$Kinship", "gatherKids", "(LBranchMender$Tree;I)I"⟩, 9) := ⟨⟨by decide +kernel, by decide +kernel⟩, List.mem_of_getElem? (i := 259) (by decide +kernel), List.mem_of_getElem? (i := 773) (by decide +kernel), List.mem_of_getElem? (i := 774) (by decide +kernel)⟩
theorem lw_p34 : lw_okq (⟨"BranchMender$Kinship", "sinkLastKid", "(I)V"⟩, 9) := ⟨⟨by decide +kernel, by decide +kernel⟩, List.mem_of_getElem? (i := 259) (by decide +kernel), List.mem_of_getElem? (i := 779) (by decide +kernel), List.mem_of_getElem? (i := 780) (by decide +kernel)⟩
theorem lw_p35 : lw_okq (⟨"BranchMender$Kinship", "isOf", "(ILBranchMender$Tree;II)Z"⟩, 9) := ⟨⟨by decide +kernel, by decide +kernel⟩, List.mem_of_getElem? (i := 259) (by decide +kernel), List.mem_of_getElem? (i := 783) (by decide +kernel), List.mem_of_getElem? (i := 784) (by decide +kernel)⟩
theorem lw_p36 : lw_okq (⟨"BranchMender$Merger", "addClash", "(II)V"⟩, 8) := ⟨⟨by decide +kernel, by decide +kernel⟩, List.mem_of_getElem? (i := 295) (by decide +kernel), List.mem_of_getElem? (i := 803) (by decide +kernel), List.mem_of_getElem? (i := 804) (by decide +kernel)⟩
theorem lw_p37 : lw_okq (⟨"BranchMender$Merger", "comeTo", "(II)Z"⟩, 8) := ⟨⟨by decide +kernel, by decide +kernel⟩, List.mem_of_getElem? (i := 295) (by decide +kernel), List.mem_of_getElem? (i := 807) (by decide +kernel), List.mem_of_getElem? (i := 808) (by decide +kernel)⟩
theorem lw_p38 : lw_okq (⟨"BranchMender$Merger", "settledField", "(IIII)J"⟩, 8) := ⟨⟨by decide +kernel, by decide +kernel⟩, List.mem_of_getElem? (i := 295) (by decide +kernel), List.mem_of_getElem? (i := 813) (by decide +kernel), List.mem_of_getElem? (i := 814) (by decide +kernel)⟩
theorem lw_p39 : lw_okq (⟨"BranchMender$Merger", "settledList", "(III)LBranchMender$Tree;"⟩, 8) := ⟨⟨by decide +kernel, by decide +kernel⟩, List.mem_of_getElem? (i := 295) (by decide +kernel), List.mem_of_getElem? (i := 822) (by decide +kernel), List.mem_of_getElem? (i := 823) (by decide +kernel)⟩
theorem lw_p40 : lw_okq (⟨"BranchMender$Merger", "comeToChildren", "(LBranchMender$Tree;II)Z"⟩, 8) := ⟨⟨by decide +kernel, by decide +kernel⟩, List.mem_of_getElem? (i := 295) (by decide +kernel), List.mem_of_getElem? (i := 831) (by decide +kernel), List.mem_of_getElem? (i := 832) (by decide +kernel)⟩
theorem lw_p41 : lw_okq (⟨"BranchMender$Merger", "tellClashes", "()V"⟩, 8) := ⟨⟨by decide +kernel, by decide +kernel⟩, List.mem_of_getElem? (i := 295) (by decide +kernel), List.mem_of_getElem? (i := 838) (by decide +kernel), List.mem_of_getElem? (i := 839) (by decide +kernel)⟩
theorem lw_p42 : lw_okq (⟨"BranchMender$Merger", "gatherCommon", "()I"⟩, 8) := ⟨⟨by decide +kernel, by decide +kernel⟩, List.mem_of_getElem? (i := 295) (by decide +kernel), List.mem_of_getElem? (i := 842) (by decide +kernel), List.mem_of_getElem? (i := 843) (by decide +kernel)⟩
theorem lw_p43 : lw_okq (⟨"BranchMender$Merger", "tellClashesOf", "(I)V"⟩, 8) := ⟨⟨by decide +kernel, by decide +kernel⟩, List.mem_of_getElem? (i := 295) (by decide +kernel), List.mem_of_getElem? (i := 846) (by decide +kernel), List.mem_of_getElem? (i := 847) (by decide +kernel)⟩
theorem lw_p44 : lw_okq (⟨"BranchMenderModel", "found0", "(I)I"⟩, 36) := ⟨⟨by decide +kernel, by decide +kernel⟩, List.mem_of_getElem? (i := 862) (by decide +kernel), List.mem_of_getElem? (i := 985) (by decide +kernel), List.mem_of_getElem? (i := 986) (by decide +kernel)⟩
theorem lw_p45 : lw_okq (⟨"BranchMenderModel", "reads", "(I)I"⟩, 36) := ⟨⟨by decide +kernel, by decide +kernel⟩, List.mem_of_getElem? (i := 862) (by decide +kernel), List.mem_of_getElem? (i := 997) (by decide +kernel), List.mem_of_getElem? (i := 998) (by decide +kernel)⟩
theorem lw_p46 : lw_okq (⟨"BranchMenderModel", "at", "(II)I"⟩, 36) := ⟨⟨by decide +kernel, by decide +kernel⟩, List.mem_of_getElem? (i := 862) (by decide +kernel), List.mem_of_getElem? (i := 1001) (by decide +kernel), List.mem_of_getElem? (i := 1002) (by decide +kernel)⟩
theorem lw_p47 : lw_okq (⟨"BranchMenderModel", "set", "(IIII)V"⟩, 36) := ⟨⟨by decide +kernel, by decide +kernel⟩, List.mem_of_getElem? (i := 862) (by decide +kernel), List.mem_of_getElem? (i := 1008) (by decide +kernel), List.mem_of_getElem? (i := 1009) (by decide +kernel)⟩
def lw_privs_3 : List (MethodName × Nat) := [(⟨"BranchMender$Kinship", "groupFor", "(LBranchMender$Tree;I)I"⟩, 9), (⟨"BranchMender$Kinship", "gatherKids", "(LBranchMender$Tree;I)I"⟩, 9), (⟨"BranchMender$Kinship", "sinkLastKid", "(I)V"⟩, 9), (⟨"BranchMender$Kinship", "isOf", "(ILBranchMender$Tree;II)Z"⟩, 9), (⟨"BranchMender$Merger", "addClash", "(II)V"⟩, 8), (⟨"BranchMender$Merger", "comeTo", "(II)Z"⟩, 8), (⟨"BranchMender$Merger", "settledField", "(IIII)J"⟩, 8), (⟨"BranchMender$Merger", "settledList", "(III)LBranchMender$Tree;"⟩, 8), (⟨"BranchMender$Merger", "comeToChildren", "(LBranchMender$Tree;II)Z"⟩, 8), (⟨"BranchMender$Merger", "tellClashes", "()V"⟩, 8), (⟨"BranchMender$Merger", "gatherCommon", "()I"⟩, 8), (⟨"BranchMender$Merger", "tellClashesOf", "(I)V"⟩, 8), (⟨"BranchMenderModel", "found0", "(I)I"⟩, 36), (⟨"BranchMenderModel", "reads", "(I)I"⟩, 36), (⟨"BranchMenderModel", "at", "(II)I"⟩, 36), (⟨"BranchMenderModel", "set", "(IIII)V"⟩, 36)]
theorem lw_r3 : ∀ q ∈ lw_privs_3, lw_okq q := List.forall_mem_cons.mpr ⟨lw_p32, List.forall_mem_cons.mpr ⟨lw_p33, List.forall_mem_cons.mpr ⟨lw_p34, List.forall_mem_cons.mpr ⟨lw_p35, List.forall_mem_cons.mpr ⟨lw_p36, List.forall_mem_cons.mpr ⟨lw_p37, List.forall_mem_cons.mpr ⟨lw_p38, List.forall_mem_cons.mpr ⟨lw_p39, List.forall_mem_cons.mpr ⟨lw_p40, List.forall_mem_cons.mpr ⟨lw_p41, List.forall_mem_cons.mpr ⟨lw_p42, List.forall_mem_cons.mpr ⟨lw_p43, List.forall_mem_cons.mpr ⟨lw_p44, List.forall_mem_cons.mpr ⟨lw_p45, List.forall_mem_cons.mpr ⟨lw_p46, List.forall_mem_cons.mpr ⟨lw_p47, fun _ h => absurd h List.not_mem_nil⟩⟩⟩⟩⟩⟩⟩⟩⟩⟩⟩⟩⟩⟩⟩⟩
theorem lw_p48 : lw_okq (⟨"BranchMenderModel", "signs", "(IIIII)I"⟩, 36) := ⟨⟨by decide +kernel, by decide +kernel⟩, List.mem_of_getElem? (i := 862) (by decide +kernel), List.mem_of_getElem? (i := 1012) (by decide +kernel), List.mem_of_getElem? (i := 1013) (by decide +kernel)⟩
theorem lw_p49 : lw_okq (⟨"BranchMenderModel", "of", "(III)I"⟩, 36) := ⟨⟨by decide +kernel, by decide +kernel⟩, List.mem_of_getElem? (i := 862) (by decide +kernel), List.mem_of_getElem? (i := 1019) (by decide +kernel), List.mem_of_getElem? (i := 1020) (by decide +kernel)⟩
theorem lw_p50 : lw_okq (⟨"BranchMenderModel", "isLike", "(IIIII)Z"⟩, 36) := ⟨⟨by decide +kernel, by decide +kernel⟩, List.mem_of_getElem? (i := 862) (by decide +kernel), List.mem_of_getElem? (i := 1023) (by decide +kernel), List.mem_of_getElem? (i := 1024) (by decide +kernel)⟩
theorem lw_p51 : lw_okq (⟨"BranchMenderModel", "end", "(II)I"⟩, 36) := ⟨⟨by decide +kernel, by decide +kernel⟩, List.mem_of_getElem? (i := 862) (by decide +kernel), List.mem_of_getElem? (i := 1027) (by decide +kernel), List.mem_of_getElem? (i := 1028) (by decide +kernel)⟩
theorem lw_p52 : lw_okq (⟨"BranchMenderModel", "deep", "(II)I"⟩, 36) := ⟨⟨by decide +kernel, by decide +kernel⟩, List.mem_of_getElem? (i := 862) (by decide +kernel), List.mem_of_getElem? (i := 1031) (by decide +kernel), List.mem_of_getElem? (i := 1032) (by decide +kernel)⟩
theorem lw_p53 : lw_okq (⟨"BranchMenderModel", "copyAll", "(II)V"⟩, 36) := ⟨⟨by decide +kernel, by decide +kernel⟩, List.mem_of_getElem? (i := 862) (by decide +kernel), List.mem_of_getElem? (i := 1035) (by decide +kernel), List.mem_of_getElem? (i := 1036) (by decide +kernel)⟩
theorem lw_p54 : lw_okq (⟨"BranchMenderModel", "carry", "(IIII)V"⟩, 36) := ⟨⟨by decide +kernel, by decide +kernel⟩, List.mem_of_getElem? (i := 862) (by decide +kernel), List.mem_of_getElem? (i := 1039) (by decide +kernel), List.mem_of_getElem? (i := 1040) (by decide +kernel)⟩
theorem lw_p55 : lw_okq (⟨"BranchMenderModel", "lacks", "(I)I"⟩, 36) := ⟨⟨by decide +kernel, by decide +kernel⟩, List.mem_of_getElem? (i := 862) (by decide +kernel), List.mem_of_getElem? (i := 1047) (by decide +kernel), List.mem_of_getElem? (i := 1048) (by decide +kernel)⟩
theorem lw_p56 : lw_okq (⟨"BranchMenderModel", "closes", "(III)V"⟩, 36) := ⟨⟨by decide +kernel, by decide +kernel⟩, List.mem_of_getElem? (i := 862) (by decide +kernel), List.mem_of_getElem? (i := 1051) (by decide +kernel), List.mem_of_getElem? (i := 1052) (by decide +kernel)⟩
theorem lw_p57 : lw_okq (⟨"BranchMenderModel", "parent", "(II)I"⟩, 36) := ⟨⟨by decide +kernel, by decide +kernel⟩, List.mem_of_getElem? (i := 862) (by decide +kernel), List.mem_of_getElem? (i := 1055) (by decide +kernel), List.mem_of_getElem? (i := 1056) (by decide +kernel)⟩
theorem lw_p58 : lw_okq (⟨"BranchMenderModel", "writes", "(I)V"⟩, 36) := ⟨⟨by decide +kernel, by decide +kernel⟩, List.mem_of_getElem? (i := 862) (by decide +kernel), List.mem_of_getElem? (i := 1059) (by decide +kernel), List.mem_of_getElem? (i := 1060) (by decide +kernel)⟩
theorem lw_p59 : lw_okq (⟨"BranchMenderModel", "children", "(II)I"⟩, 36) := ⟨⟨by decide +kernel, by decide +kernel⟩, List.mem_of_getElem? (i := 862) (by decide +kernel), List.mem_of_getElem? (i := 1079) (by decide +kernel), List.mem_of_getElem? (i := 1080) (by decide +kernel)⟩
theorem lw_p60 : lw_okq (⟨"BranchMenderModel", "behind", "(II)I"⟩, 36) := ⟨⟨by decide +kernel, by decide +kernel⟩, List.mem_of_getElem? (i := 862) (by decide +kernel), List.mem_of_getElem? (i := 1083) (by decide +kernel), List.mem_of_getElem? (i := 1084) (by decide +kernel)⟩
theorem lw_p61 : lw_okq (⟨"BranchMenderModel", "named", "(II)I"⟩, 36) := ⟨⟨by decide +kernel, by decide +kernel⟩, List.mem_of_getElem? (i := 862) (by decide +kernel), List.mem_of_getElem? (i := 1095) (by decide +kernel), List.mem_of_getElem? (i := 1096) (by decide +kernel)⟩
theorem lw_p62 : lw_okq (⟨"BranchMenderModel", "takes", "(II)Z"⟩, 36) := ⟨⟨by decide +kernel, by decide +kernel⟩, List.mem_of_getElem? (i := 862) (by decide +kernel), List.mem_of_getElem? (i := 1099) (by decide +kernel), List.mem_of_getElem? (i := 1100) (by decide +kernel)⟩
theorem lw_p63 : lw_okq (⟨"BranchMenderModel", "child", "(III)I"⟩, 36) := ⟨⟨by decide +kernel, by decide +kernel⟩, List.mem_of_getElem? (i := 862) (by decide +kernel), List.mem_of_getElem? (i := 1111) (by decide +kernel), List.mem_of_getElem? (i := 1112) (by decide +kernel)⟩
def lw_privs_4 : List (MethodName × Nat) := [(⟨"BranchMenderModel", "signs", "(IIIII)I"⟩, 36), (⟨"BranchMenderModel", "of", "(III)I"⟩, 36), (⟨"BranchMenderModel", "isLike", "(IIIII)Z"⟩, 36), (⟨"BranchMenderModel", "end", "(II)I"⟩, 36), (⟨"BranchMenderModel", "deep", "(II)I"⟩, 36), (⟨"BranchMenderModel", "copyAll", "(II)V"⟩, 36), (⟨"BranchMenderModel", "carry", "(IIII)V"⟩, 36), (⟨"BranchMenderModel", "lacks", "(I)I"⟩, 36), (⟨"BranchMenderModel", "closes", "(III)V"⟩, 36), (⟨"BranchMenderModel", "parent", "(II)I"⟩, 36), (⟨"BranchMenderModel", "writes", "(I)V"⟩, 36), (⟨"BranchMenderModel", "children", "(II)I"⟩, 36), (⟨"BranchMenderModel", "behind", "(II)I"⟩, 36), (⟨"BranchMenderModel", "named", "(II)I"⟩, 36), (⟨"BranchMenderModel", "takes", "(II)Z"⟩, 36), (⟨"BranchMenderModel", "child", "(III)I"⟩, 36)]
theorem lw_r4 : ∀ q ∈ lw_privs_4, lw_okq q := List.forall_mem_cons.mpr ⟨lw_p48, List.forall_mem_cons.mpr ⟨lw_p49, List.forall_mem_cons.mpr ⟨lw_p50, List.forall_mem_cons.mpr ⟨lw_p51, List.forall_mem_cons.mpr ⟨lw_p52, List.forall_mem_cons.mpr ⟨lw_p53, List.forall_mem_cons.mpr ⟨lw_p54, List.forall_mem_cons.mpr ⟨lw_p55, List.forall_mem_cons.mpr ⟨lw_p56, List.forall_mem_cons.mpr ⟨lw_p57, List.forall_mem_cons.mpr ⟨lw_p58, List.forall_mem_cons.mpr ⟨lw_p59, List.forall_mem_cons.mpr ⟨lw_p60, List.forall_mem_cons.mpr ⟨lw_p61, List.forall_mem_cons.mpr ⟨lw_p62, List.forall_mem_cons.mpr ⟨lw_p63, fun _ h => absurd h List.not_mem_nil⟩⟩⟩⟩⟩⟩⟩⟩⟩⟩⟩⟩⟩⟩⟩⟩
theorem lw_p64 : lw_okq (⟨"BranchMenderModel", "isTooDeep", "(I)Z"⟩, 36) := ⟨⟨by decide +kernel, by decide +kernel⟩, List.mem_of_getElem? (i := 862) (by decide +kernel), List.mem_of_getElem? (i := 1115) (by decide +kernel), List.mem_of_getElem? (i := 1116) (by decide +kernel)⟩
theorem lw_p65 : lw_okq (⟨"BranchMenderModel", "hasTwice", "(I)Z"⟩, 36) := ⟨⟨by decide +kernel, by decide +kernel⟩, List.mem_of_getElem? (i := 862) (by decide +kernel), List.mem_of_getElem? (i := 1119) (by decide +kernel), List.mem_of_getElem? (i := 1120) (by decide +kernel)⟩
theorem lw_p66 : lw_okq (⟨"BranchMenderModel", "reckon", "(II)V"⟩, 36) := ⟨⟨by decide +kernel, by decide +kernel⟩, List.mem_of_getElem? (i := 862) (by decide +kernel), List.mem_of_getElem? (i := 1139) (by decide +kernel), List.mem_of_getElem? (i := 1140) (by decide +kernel)⟩
theorem lw_p67 : lw_okq (⟨"BranchMenderModel", "lay", "(II)V"⟩, 36) := ⟨⟨by decide +kernel, by decide +kernel⟩, List.mem_of_getElem? (i := 862) (by decide +kernel), List.mem_of_getElem? (i := 1143) (by decide +kernel), List.mem_of_getElem? (i := 1144) (by decide +kernel)⟩
theorem lw_p68 : lw_okq (⟨"BranchMenderModel", "byPair", "(IIIIII)I"⟩, 36) := ⟨⟨by decide +kernel, by decide +kernel⟩, List.mem_of_getElem? (i := 862) (by decide +kernel), List.mem_of_getElem? (i := 1154) (by decide +kernel), List.mem_of_getElem? (i := 1155) (by decide +kernel)⟩
theorem lw_p69 : lw_okq (⟨"BranchMenderModel", "pairs", "(IIII)I"⟩, 36) := ⟨⟨by decide +kernel, by decide +kernel⟩, List.mem_of_getElem? (i := 862) (by decide +kernel), List.mem_of_getElem? (i := 1158) (by decide +kernel), List.mem_of_getElem? (i := 1159) (by decide +kernel)⟩
theorem lw_p70 : lw_okq (⟨"BranchMenderModel", "tells", "(II)V"⟩, 36) := ⟨⟨by decide +kernel, by decide +kernel⟩, List.mem_of_getElem? (i := 862) (by decide +kernel), List.mem_of_getElem? (i := 1166) (by decide +kernel), List.mem_of_getElem? (i := 1167) (by decide +kernel)⟩
theorem lw_p71 : lw_okq (⟨"BranchMenderModel", "adds", "(II)V"⟩, 36) := ⟨⟨by decide +kernel, by decide +kernel⟩, List.mem_of_getElem? (i := 862) (by decide +kernel), List.mem_of_getElem? (i := 1170) (by decide +kernel), List.mem_of_getElem? (i := 1171) (by decide +kernel)⟩
theorem lw_p72 : lw_okq (⟨"BranchMenderModel", "sort", "(II)V"⟩, 36) := ⟨⟨by decide +kernel, by decide +kernel⟩, List.mem_of_getElem? (i := 862) (by decide +kernel), List.mem_of_getElem? (i := 1194) (by decide +kernel), List.mem_of_getElem? (i := 1195) (by decide +kernel)⟩
theorem lw_p73 : lw_okq (⟨"BranchMenderModel", "areSame", "(IIIIII)Z"⟩, 36) := ⟨⟨by decide +kernel, by decide +kernel⟩, List.mem_of_getElem? (i := 862) (by decide +kernel), List.mem_of_getElem? (i := 1198) (by decide +kernel), List.mem_of_getElem? (i := 1199) (by decide +kernel)⟩
theorem lw_p74 : lw_okq (⟨"BranchMenderModel", "clashed", "(II)V"⟩, 36) := ⟨⟨by decide +kernel, by decide +kernel⟩, List.mem_of_getElem? (i := 862) (by decide +kernel), List.mem_of_getElem? (i := 1214) (by decide +kernel), List.mem_of_getElem? (i := 1215) (by decide +kernel)⟩
theorem lw_p75 : lw_okq (⟨"BranchMenderModel", "merges", "(III)Z"⟩, 36) := ⟨⟨by decide +kernel, by decide +kernel⟩, List.mem_of_getElem? (i := 862) (by decide +kernel), List.mem_of_getElem? (i := 1218) (by decide +kernel), List.mem_of_getElem? (i := 1219) (by decide +kernel)⟩
theorem lw_p76 : lw_okq (⟨"BranchMenderModel", "whose", "(IIIII)I"⟩, 36) := ⟨⟨by decide +kernel, by decide +kernel⟩, List.mem_of_getElem? (i := 862) (by decide +kernel), List.mem_of_getElem? (i := 1222) (by decide +kernel), List.mem_of_getElem? (i := 1223) (by decide +kernel)⟩
theorem lw_p77 : lw_okq (⟨"BranchMenderModel", "isField", "(IIIII)Z"⟩, 36) := ⟨⟨by decide +kernel, by decide +kernel⟩, List.mem_of_getElem? (i := 862) (by decide +kernel), List.mem_of_getElem? (i := 1226) (by decide +kernel), List.mem_of_getElem? (i := 1227) (by decide +kernel)⟩
theorem lw_p78 : lw_okq (⟨"BranchMenderModel", "least", "(III)I"⟩, 36) := ⟨⟨by decide +kernel, by decide +kernel⟩, List.mem_of_getElem? (i := 862) (by decide +kernel), List.mem_of_getElem? (i := 1230) (by decide +kernel), List.mem_of_getElem? (i := 1231) (by decide +kernel)⟩
def lw_privs_5 : List (MethodName × Nat) := [(⟨"BranchMenderModel", "isTooDeep", "(I)Z"⟩, 36), (⟨"BranchMenderModel", "hasTwice", "(I)Z"⟩, 36), (⟨"BranchMenderModel", "reckon", "(II)V"⟩, 36), (⟨"BranchMenderModel", "lay", "(II)V"⟩, 36), (⟨"BranchMenderModel", "byPair", "(IIIIII)I"⟩, 36), (⟨"BranchMenderModel", "pairs", "(IIII)I"⟩, 36), (⟨"BranchMenderModel", "tells", "(II)V"⟩, 36), (⟨"BranchMenderModel", "adds", "(II)V"⟩, 36), (⟨"BranchMenderModel", "sort", "(II)V"⟩, 36), (⟨"BranchMenderModel", "areSame", "(IIIIII)Z"⟩, 36), (⟨"BranchMenderModel", "clashed", "(II)V"⟩, 36), (⟨"BranchMenderModel", "merges", "(III)Z"⟩, 36), (⟨"BranchMenderModel", "whose", "(IIIII)I"⟩, 36), (⟨"BranchMenderModel", "isField", "(IIIII)Z"⟩, 36), (⟨"BranchMenderModel", "least", "(III)I"⟩, 36)]
theorem lw_r5 : ∀ q ∈ lw_privs_5, lw_okq q := List.forall_mem_cons.mpr ⟨lw_p64, List.forall_mem_cons.mpr ⟨lw_p65, List.forall_mem_cons.mpr ⟨lw_p66, List.forall_mem_cons.mpr ⟨lw_p67, List.forall_mem_cons.mpr ⟨lw_p68, List.forall_mem_cons.mpr ⟨lw_p69, List.forall_mem_cons.mpr ⟨lw_p70, List.forall_mem_cons.mpr ⟨lw_p71, List.forall_mem_cons.mpr ⟨lw_p72, List.forall_mem_cons.mpr ⟨lw_p73, List.forall_mem_cons.mpr ⟨lw_p74, List.forall_mem_cons.mpr ⟨lw_p75, List.forall_mem_cons.mpr ⟨lw_p76, List.forall_mem_cons.mpr ⟨lw_p77, List.forall_mem_cons.mpr ⟨lw_p78, fun _ h => absurd h List.not_mem_nil⟩⟩⟩⟩⟩⟩⟩⟩⟩⟩⟩⟩⟩⟩⟩
def lw_privs : List (MethodName × Nat) := lw_privs_1 ++ (lw_privs_2 ++ (lw_privs_3 ++ (lw_privs_4 ++ (lw_privs_5))))
def lw_tbl : List Cond := k2_sels lw_privs ++ tables_1
theorem lw_privs_ok : ∀ q ∈ lw_privs, lw_okq q := by
  show ∀ q ∈ lw_privs_1 ++ (lw_privs_2 ++ (lw_privs_3 ++ (lw_privs_4 ++ (lw_privs_5)))), lw_okq q
  exact List.forall_mem_append.mpr ⟨lw_r1, List.forall_mem_append.mpr ⟨lw_r2, List.forall_mem_append.mpr ⟨lw_r3, List.forall_mem_append.mpr ⟨lw_r4, lw_r5⟩⟩⟩⟩
end
section
def RX0 : String := "BranchMender$Aligner"
def TX0 : u_T := fun k => match k with
  | 0 => ("BranchMender$Aligner", "first", "LBranchMender$BehindOrder;", true)
  | 1 => ("BranchMender$Aligner", "second", "LBranchMender$BehindOrder;", true)
  | 2 => ("BranchMender$Aligner", "pairFirst", "[I", true)
  | 3 => ("BranchMender$Aligner", "pairSecond", "[I", true)
  | 4 => ("BranchMender$Aligner", "pairCount", "I", false)
  | 5 => ("BranchMender$Aligner", "forest", "[[I", true)
  | 6 => ("BranchMender$Aligner", "under", "[[I", true)
  | 7 => ("BranchMender$Aligner", "pairing", "[[I", true)
  | 8 => ("BranchMender$Aligner", "takePrice", "I", false)
  | _ => ("BranchMender$Aligner", "putPrice", "I", false)
def tyX0 : Nat → FieldType := fun k => match k with
  | 0 => .object "BranchMender$BehindOrder"
  | 1 => .object "BranchMender$BehindOrder"
  | 2 => .array .int
  | 3 => .array .int
  | 4 => .int
  | 5 => .array (.array .int)
  | 6 => .array (.array .int)
  | 7 => .array (.array .int)
  | 8 => .int
  | _ => .int
abbrev wsX00 : List Cond := u_ws RX0 TX0 10
theorem nmX0 : ∀ a, a < 10 → ∀ b, b < 10 → a ≠ b → (TX0 a).2.1 ≠ (TX0 b).2.1 := by decide +kernel
theorem tyX0_ok : ∀ k, k < 10 → parseFieldDescriptor (TX0 k).2.2.1 = some (tyX0 k) := by decide +kernel
abbrev cX0_init : ByteArray := prog_2_method_1_code
def yX0_init : MethodName := ⟨RX0, "<init>", "()V"⟩
abbrev cX0_align : ByteArray := prog_2_method_2_code
def yX0_align : MethodName := ⟨RX0, "align", "(LBranchMender$Tree;LBranchMender$Tree;[I)I"⟩
abbrev cX0_pricePairs : ByteArray := prog_2_method_3_code
def yX0_pricePairs : MethodName := ⟨RX0, "pricePairs", "(LBranchMender$Tree;LBranchMender$Tree;[I)V"⟩
abbrev cX0_pairPrice : ByteArray := prog_2_method_4_code
def yX0_pairPrice : MethodName := ⟨RX0, "pairPrice", "(LBranchMender$Tree;ILBranchMender$Tree;I[I)I"⟩
abbrev cX0_fillForests : ByteArray := prog_2_method_5_code
def yX0_fillForests : MethodName := ⟨RX0, "fillForests", "(II)V"⟩
abbrev cX0_keepUnder : ByteArray := prog_2_method_6_code
def yX0_keepUnder : MethodName := ⟨RX0, "keepUnder", "(III)V"⟩
abbrev cX0_fillLine : ByteArray := prog_2_method_7_code
def yX0_fillLine : MethodName := ⟨RX0, "fillLine", "(III)V"⟩
abbrev cX0_costOfPairing : ByteArray := prog_2_method_8_code
def yX0_costOfPairing : MethodName := ⟨RX0, "costOfPairing", "(II)I"⟩
abbrev cX0_choosePairs : ByteArray := prog_2_method_9_code
def yX0_choosePairs : MethodName := ⟨RX0, "choosePairs", "()V"⟩
abbrev cX0_walkBack : ByteArray := prog_2_method_10_code
def yX0_walkBack : MethodName := ⟨RX0, "walkBack", "(IIII)V"⟩
abbrev cX0_addPair : ByteArray := prog_2_method_11_code
def yX0_addPair : MethodName := ⟨RX0, "addPair", "(II)V"⟩
def RX1 : String := "BranchMender$BehindOrder"
def TX1 : u_T := fun k => match k with
  | 0 => ("BranchMender$BehindOrder", "count", "I", false)
  | 1 => ("BranchMender$BehindOrder", "row", "[I", true)
  | 2 => ("BranchMender$BehindOrder", "low", "[I", true)
  | _ => ("BranchMender$BehindOrder", "key", "[Z", true)
def tyX1 : Nat → FieldType := fun k => match k with
  | 0 => .int
  | 1 => .array .int
  | 2 => .array .int
  | _ => .array .boolean
abbrev wsX10 : List Cond := u_ws RX1 TX1 4
theorem nmX1 : ∀ a, a < 4 → ∀ b, b < 4 → a ≠ b → (TX1 a).2.1 ≠ (TX1 b).2.1 := by decide +kernel
theorem tyX1_ok : ∀ k, k < 4 → parseFieldDescriptor (TX1 k).2.2.1 = some (tyX1 k) := by decide +kernel
abbrev cX1_init : ByteArray := prog_3_method_1_code
def yX1_init : MethodName := ⟨RX1, "<init>", "()V"⟩
abbrev cX1_arrange : ByteArray := prog_3_method_2_code
def yX1_arrange : MethodName := ⟨RX1, "arrange", "(LBranchMender$Tree;)V"⟩
def RX2 : String := "BranchMender$Kinship"
def TX2 : u_T := fun k => match k with
  | 0 => ("BranchMender$Kinship", "groups", "I", false)
  | 1 => ("BranchMender$Kinship", "groupOf", "[I", true)
  | 2 => ("BranchMender$Kinship", "kind", "[I", true)
  | 3 => ("BranchMender$Kinship", "label", "[J", true)
  | 4 => ("BranchMender$Kinship", "text", "[J", true)
  | 5 => ("BranchMender$Kinship", "kidsStart", "[I", true)
  | 6 => ("BranchMender$Kinship", "kidsCount", "[I", true)
  | 7 => ("BranchMender$Kinship", "kids", "[I", true)
  | _ => ("BranchMender$Kinship", "kidsUsed", "I", false)
def tyX2 : Nat → FieldType := fun k => match k with
  | 0 => .int
  | 1 => .array .int
  | 2 => .array .int
  | 3 => .array .long
  | 4 => .array .long
  | 5 => .array .int
  | 6 => .array .int
  | 7 => .array .int
  | _ => .int
abbrev wsX20 : List Cond := u_ws RX2 TX2 9
theorem nmX2 : ∀ a, a < 9 → ∀ b, b < 9 → a ≠ b → (TX2 a).2.1 ≠ (TX2 b).2.1 := by decide +kernel
theorem tyX2_ok : ∀ k, k < 9 → parseFieldDescriptor (TX2 k).2.2.1 = some (tyX2 k) := by decide +kernel
abbrev cX2_init : ByteArray := prog_4_method_1_code
def yX2_init : MethodName := ⟨RX2, "<init>", "()V"⟩
abbrev cX2_forget : ByteArray := prog_4_method_2_code
def yX2_forget : MethodName := ⟨RX2, "forget", "()V"⟩
abbrev cX2_groupAll : ByteArray := prog_4_method_3_code
def yX2_groupAll : MethodName := ⟨RX2, "groupAll", "(LBranchMender$Tree;)V"⟩
abbrev cX2_groupFor : ByteArray := prog_4_method_4_code
def yX2_groupFor : MethodName := ⟨RX2, "groupFor", "(LBranchMender$Tree;I)I"⟩
abbrev cX2_gatherKids : ByteArray := prog_4_method_5_code
def yX2_gatherKids : MethodName := ⟨RX2, "gatherKids", "(LBranchMender$Tree;I)I"⟩
abbrev cX2_sinkLastKid : ByteArray := prog_4_method_6_code
def yX2_sinkLastKid : MethodName := ⟨RX2, "sinkLastKid", "(I)V"⟩
abbrev cX2_isOf : ByteArray := prog_4_method_7_code
def yX2_isOf : MethodName := ⟨RX2, "isOf", "(ILBranchMender$Tree;II)Z"⟩
def RX3 : String := "BranchMender$Mending"
def TX3 : u_T := fun k => match k with
  | 0 => ("BranchMender$Mending", "nodes", "I", false)
  | 1 => ("BranchMender$Mending", "pairCount", "I", false)
  | 2 => ("BranchMender$Mending", "firstName", "[I", true)
  | 3 => ("BranchMender$Mending", "secondName", "[I", true)
  | 4 => ("BranchMender$Mending", "actCount", "I", false)
  | 5 => ("BranchMender$Mending", "actKind", "[I", true)
  | 6 => ("BranchMender$Mending", "actName", "[I", true)
  | 7 => ("BranchMender$Mending", "actPrice", "[I", true)
  | 8 => ("BranchMender$Mending", "partner", "[I", true)
  | _ => ("BranchMender$Mending", "isPartner", "[Z", true)
def tyX3 : Nat → FieldType := fun k => match k with
  | 0 => .int
  | 1 => .int
  | 2 => .array .int
  | 3 => .array .int
  | 4 => .int
  | 5 => .array .int
  | 6 => .array .int
  | 7 => .array .int
  | 8 => .array .int
  | _ => .array .boolean
abbrev wsX30 : List Cond := u_ws RX3 TX3 10
theorem nmX3 : ∀ a, a < 10 → ∀ b, b < 10 → a ≠ b → (TX3 a).2.1 ≠ (TX3 b).2.1 := by decide +kernel
theorem tyX3_ok : ∀ k, k < 10 → parseFieldDescriptor (TX3 k).2.2.1 = some (tyX3 k) := by decide +kernel
abbrev cX3_init : ByteArray := prog_5_method_1_code
def yX3_init : MethodName := ⟨RX3, "<init>", "()V"⟩
abbrev cX3_plan : ByteArray := prog_5_method_2_code
def yX3_plan : MethodName := ⟨RX3, "plan", "(LBranchMender$Tree;LBranchMender$Tree;LBranchMender$Aligner;[I)V"⟩
abbrev cX3_matchRows : ByteArray := prog_5_method_3_code
def yX3_matchRows : MethodName := ⟨RX3, "matchRows", "(LBranchMender$Aligner;)V"⟩
abbrev cX3_takeLonely : ByteArray := prog_5_method_4_code
def yX3_takeLonely : MethodName := ⟨RX3, "takeLonely", "(LBranchMender$Tree;I)V"⟩
abbrev cX3_mendPairs : ByteArray := prog_5_method_5_code
def yX3_mendPairs : MethodName := ⟨RX3, "mendPairs", "(LBranchMender$Tree;LBranchMender$Tree;[I)V"⟩
abbrev cX3_putLonely : ByteArray := prog_5_method_6_code
def yX3_putLonely : MethodName := ⟨RX3, "putLonely", "(LBranchMender$Tree;LBranchMender$BehindOrder;I)V"⟩
abbrev cX3_addAct : ByteArray := prog_5_method_7_code
def yX3_addAct : MethodName := ⟨RX3, "addAct", "(III)V"⟩
def RX4 : String := "BranchMender$Merger"
def TX4 : u_T := fun k => match k with
  | 0 => ("BranchMender$Merger", "made", "LBranchMender$Tree;", true)
  | 1 => ("BranchMender$Merger", "clashCount", "I", false)
  | 2 => ("BranchMender$Merger", "clashName", "[I", true)
  | 3 => ("BranchMender$Merger", "clashWhat", "[I", true)
  | 4 => ("BranchMender$Merger", "original", "LBranchMender$Tree;", false)
  | 5 => ("BranchMender$Merger", "left", "LBranchMender$Tree;", false)
  | 6 => ("BranchMender$Merger", "right", "LBranchMender$Tree;", false)
  | _ => ("BranchMender$Merger", "common", "[I", true)
def tyX4 : Nat → FieldType := fun k => match k with
  | 0 => .object "BranchMender$Tree"
  | 1 => .int
  | 2 => .array .int
  | 3 => .array .int
  | 4 => .object "BranchMender$Tree"
  | 5 => .object "BranchMender$Tree"
  | 6 => .object "BranchMender$Tree"
  | _ => .array .int
abbrev wsX40 : List Cond := u_ws RX4 TX4 8
theorem nmX4 : ∀ a, a < 8 → ∀ b, b < 8 → a ≠ b → (TX4 a).2.1 ≠ (TX4 b).2.1 := by decide +kernel
theorem tyX4_ok : ∀ k, k < 8 → parseFieldDescriptor (TX4 k).2.2.1 = some (tyX4 k) := by decide +kernel
abbrev cX4_init : ByteArray := prog_6_method_1_code
def yX4_init : MethodName := ⟨RX4, "<init>", "()V"⟩
abbrev cX4_layTogether : ByteArray := prog_6_method_2_code
def yX4_layTogether : MethodName := ⟨RX4, "layTogether", "(LBranchMender$Tree;LBranchMender$Tree;LBranchMender$Tree;)V"⟩
abbrev cX4_comeTo : ByteArray := prog_6_method_3_code
def yX4_comeTo : MethodName := ⟨RX4, "comeTo", "(II)Z"⟩
abbrev cX4_comeToChildren : ByteArray := prog_6_method_4_code
def yX4_comeToChildren : MethodName := ⟨RX4, "comeToChildren", "(LBranchMender$Tree;II)Z"⟩
abbrev cX4_settledField : ByteArray := prog_6_method_5_code
def yX4_settledField : MethodName := ⟨RX4, "settledField", "(IIII)J"⟩
abbrev cX4_settledList : ByteArray := prog_6_method_6_code
def yX4_settledList : MethodName := ⟨RX4, "settledList", "(III)LBranchMender$Tree;"⟩
abbrev cX4_fieldOf : ByteArray := prog_6_method_7_code
def yX4_fieldOf : MethodName := ⟨RX4, "fieldOf", "(LBranchMender$Tree;II)J"⟩
abbrev cX4_isSameList : ByteArray := prog_6_method_8_code
def yX4_isSameList : MethodName := ⟨RX4, "isSameList", "(LBranchMender$Tree;ILBranchMender$Tree;I)Z"⟩
abbrev cX4_tellClashes : ByteArray := prog_6_method_9_code
def yX4_tellClashes : MethodName := ⟨RX4, "tellClashes", "()V"⟩
abbrev cX4_gatherCommon : ByteArray := prog_6_method_10_code
def yX4_gatherCommon : MethodName := ⟨RX4, "gatherCommon", "()I"⟩
abbrev cX4_tellClashesOf : ByteArray := prog_6_method_11_code
def yX4_tellClashesOf : MethodName := ⟨RX4, "tellClashesOf", "(I)V"⟩
abbrev cX4_addClash : ByteArray := prog_6_method_12_code
def yX4_addClash : MethodName := ⟨RX4, "addClash", "(II)V"⟩
def RX5 : String := "BranchMender$Reader"
def TX5 : u_T := fun k => match k with
  | 0 => ("BranchMender$Reader", "tape", "LBranchMender$Tape;", true)
  | 1 => ("BranchMender$Reader", "tree", "LBranchMender$Tree;", true)
  | 2 => ("BranchMender$Reader", "path", "[I", true)
  | 3 => ("BranchMender$Reader", "at", "I", false)
  | _ => ("BranchMender$Reader", "opened", "Z", false)
def tyX5 : Nat → FieldType := fun k => match k with
  | 0 => .object "BranchMender$Tape"
  | 1 => .object "BranchMender$Tree"
  | 2 => .array .int
  | 3 => .int
  | _ => .boolean
abbrev wsX50 : List Cond := u_ws RX5 TX5 5
theorem nmX5 : ∀ a, a < 5 → ∀ b, b < 5 → a ≠ b → (TX5 a).2.1 ≠ (TX5 b).2.1 := by decide +kernel
theorem tyX5_ok : ∀ k, k < 5 → parseFieldDescriptor (TX5 k).2.2.1 = some (tyX5 k) := by decide +kernel
abbrev cX5_init : ByteArray := prog_7_method_1_code
def yX5_init : MethodName := ⟨RX5, "<init>", "(LBranchMender$Tape;LBranchMender$Tree;)V"⟩
abbrev cX5_parse : ByteArray := prog_7_method_2_code
def yX5_parse : MethodName := ⟨RX5, "parse", "()I"⟩
abbrev cX5_readNode : ByteArray := prog_7_method_3_code
def yX5_readNode : MethodName := ⟨RX5, "readNode", "(I)Z"⟩
abbrev cX5_isTwin : ByteArray := prog_7_method_4_code
def yX5_isTwin : MethodName := ⟨RX5, "isTwin", "(IJ)Z"⟩
abbrev cX5_passLabel : ByteArray := prog_7_method_5_code
def yX5_passLabel : MethodName := ⟨RX5, "passLabel", "()Z"⟩
abbrev cX5_readText : ByteArray := prog_7_method_6_code
def yX5_readText : MethodName := ⟨RX5, "readText", "(I)Z"⟩
abbrev cX5_readMark : ByteArray := prog_7_method_7_code
def yX5_readMark : MethodName := ⟨RX5, "readMark", "(I)V"⟩
abbrev cX5_nextDepth : ByteArray := prog_7_method_8_code
def yX5_nextDepth : MethodName := ⟨RX5, "nextDepth", "(I)I"⟩
abbrev cX5_pass : ByteArray := prog_7_method_9_code
def yX5_pass : MethodName := ⟨RX5, "pass", "(I)Z"⟩
def RX6 : String := "BranchMender$Tape"
def TX6 : u_T := fun k => match k with
  | 0 => ("BranchMender$Tape", "length", "I", false)
  | _ => ("BranchMender$Tape", "bytes", "[I", true)
def tyX6 : Nat → FieldType := fun k => match k with
  | 0 => .int
  | _ => .array .int
abbrev wsX60 : List Cond := u_ws RX6 TX6 2
theorem nmX6 : ∀ a, a < 2 → ∀ b, b < 2 → a ≠ b → (TX6 a).2.1 ≠ (TX6 b).2.1 := by decide +kernel
theorem tyX6_ok : ∀ k, k < 2 → parseFieldDescriptor (TX6 k).2.2.1 = some (tyX6 k) := by decide +kernel
abbrev cX6_init : ByteArray := prog_8_method_1_code
def yX6_init : MethodName := ⟨RX6, "<init>", "()V"⟩
abbrev cX6_append : ByteArray := prog_8_method_2_code
def yX6_append : MethodName := ⟨RX6, "append", "(I)V"⟩
abbrev cX6_signOn : ByteArray := prog_8_method_3_code
def yX6_signOn : MethodName := ⟨RX6, "signOn", "(I)I"⟩
abbrev cX6_lettersFrom : ByteArray := prog_8_method_4_code
def yX6_lettersFrom : MethodName := ⟨RX6, "lettersFrom", "(I)I"⟩
abbrev cX6_textSignsFrom : ByteArray := prog_8_method_5_code
def yX6_textSignsFrom : MethodName := ⟨RX6, "textSignsFrom", "(I)I"⟩
abbrev cX6_word : ByteArray := prog_8_method_6_code
def yX6_word : MethodName := ⟨RX6, "word", "(II)J"⟩
abbrev cX6_asLabel : ByteArray := prog_8_method_7_code
def yX6_asLabel : MethodName := ⟨RX6, "asLabel", "()J"⟩
abbrev cX6_asText : ByteArray := prog_8_method_8_code
def yX6_asText : MethodName := ⟨RX6, "asText", "()J"⟩
def RX7 : String := "BranchMender$Tree"
def TX7 : u_T := fun k => match k with
  | 0 => ("BranchMender$Tree", "count", "I", false)
  | 1 => ("BranchMender$Tree", "name", "[I", true)
  | 2 => ("BranchMender$Tree", "kind", "[I", true)
  | 3 => ("BranchMender$Tree", "depth", "[I", true)
  | 4 => ("BranchMender$Tree", "span", "[I", true)
  | 5 => ("BranchMender$Tree", "label", "[J", true)
  | _ => ("BranchMender$Tree", "text", "[J", true)
def tyX7 : Nat → FieldType := fun k => match k with
  | 0 => .int
  | 1 => .array .int
  | 2 => .array .int
  | 3 => .array .int
  | 4 => .array .int
  | 5 => .array .long
  | _ => .array .long
abbrev wsX70 : List Cond := u_ws RX7 TX7 7
theorem nmX7 : ∀ a, a < 7 → ∀ b, b < 7 → a ≠ b → (TX7 a).2.1 ≠ (TX7 b).2.1 := by decide +kernel
theorem tyX7_ok : ∀ k, k < 7 → parseFieldDescriptor (TX7 k).2.2.1 = some (tyX7 k) := by decide +kernel
abbrev cX7_init : ByteArray := prog_9_method_1_code
def yX7_init : MethodName := ⟨RX7, "<init>", "()V"⟩
abbrev cX7_become : ByteArray := prog_9_method_2_code
def yX7_become : MethodName := ⟨RX7, "become", "(LBranchMender$Tree;)V"⟩
abbrev cX7_copyRows : ByteArray := prog_9_method_3_code
def yX7_copyRows : MethodName := ⟨RX7, "copyRows", "(LBranchMender$Tree;III)V"⟩
abbrev cX7_measure : ByteArray := prog_9_method_4_code
def yX7_measure : MethodName := ⟨RX7, "measure", "()V"⟩
abbrev cX7_addRow : ByteArray := prog_9_method_5_code
def yX7_addRow : MethodName := ⟨RX7, "addRow", "(I)I"⟩
abbrev cX7_setRow : ByteArray := prog_9_method_6_code
def yX7_setRow : MethodName := ⟨RX7, "setRow", "(IIIJ)V"⟩
abbrev cX7_rowOf : ByteArray := prog_9_method_7_code
def yX7_rowOf : MethodName := ⟨RX7, "rowOf", "(I)I"⟩
abbrev cX7_endOf : ByteArray := prog_9_method_8_code
def yX7_endOf : MethodName := ⟨RX7, "endOf", "(I)I"⟩
abbrev cX7_isChild : ByteArray := prog_9_method_9_code
def yX7_isChild : MethodName := ⟨RX7, "isChild", "(II)Z"⟩
abbrev cX7_childrenOf : ByteArray := prog_9_method_10_code
def yX7_childrenOf : MethodName := ⟨RX7, "childrenOf", "(I)I"⟩
abbrev cX7_childAfter : ByteArray := prog_9_method_11_code
def yX7_childAfter : MethodName := ⟨RX7, "childAfter", "(II)I"⟩
abbrev cX7_childAt : ByteArray := prog_9_method_12_code
def yX7_childAt : MethodName := ⟨RX7, "childAt", "(II)I"⟩
abbrev cX7_parentOf : ByteArray := prog_9_method_13_code
def yX7_parentOf : MethodName := ⟨RX7, "parentOf", "(I)I"⟩
abbrev cX7_behind : ByteArray := prog_9_method_14_code
def yX7_behind : MethodName := ⟨RX7, "behind", "(I)I"⟩
abbrev cX7_isTooDeep : ByteArray := prog_9_method_15_code
def yX7_isTooDeep : MethodName := ⟨RX7, "isTooDeep", "()Z"⟩
abbrev cX7_hasTwins : ByteArray := prog_9_method_16_code
def yX7_hasTwins : MethodName := ⟨RX7, "hasTwins", "()Z"⟩
abbrev cX7_hasTwinsUnder : ByteArray := prog_9_method_17_code
def yX7_hasTwinsUnder : MethodName := ⟨RX7, "hasTwinsUnder", "(I)Z"⟩
abbrev cX7_isLabelUnder : ByteArray := prog_9_method_18_code
def yX7_isLabelUnder : MethodName := ⟨RX7, "isLabelUnder", "(IIIJ)Z"⟩
abbrev cX7_shiftDepths : ByteArray := prog_9_method_19_code
def yX7_shiftDepths : MethodName := ⟨RX7, "shiftDepths", "(III)V"⟩
abbrev cX7_wrap : ByteArray := prog_9_method_20_code
def yX7_wrap : MethodName := ⟨RX7, "wrap", "(III)I"⟩
abbrev cX7_dissolve : ByteArray := prog_9_method_21_code
def yX7_dissolve : MethodName := ⟨RX7, "dissolve", "(I)V"⟩
abbrev cX7_cutOut : ByteArray := prog_9_method_22_code
def yX7_cutOut : MethodName := ⟨RX7, "cutOut", "(I)V"⟩
abbrev cX7_graft : ByteArray := prog_9_method_23_code
def yX7_graft : MethodName := ⟨RX7, "graft", "(LBranchMender$Tree;III)V"⟩
def RX8 : String := "BranchMender$Writer"
def TX8 : u_T := fun k => match k with
  | 0 => ("BranchMender$Writer", "length", "I", false)
  | 1 => ("BranchMender$Writer", "bytes", "[I", true)
  | _ => ("BranchMender$Writer", "openKind", "[I", true)
def tyX8 : Nat → FieldType := fun k => match k with
  | 0 => .int
  | 1 => .array .int
  | _ => .array .int
abbrev wsX80 : List Cond := u_ws RX8 TX8 3
theorem nmX8 : ∀ a, a < 3 → ∀ b, b < 3 → a ≠ b → (TX8 a).2.1 ≠ (TX8 b).2.1 := by decide +kernel
theorem tyX8_ok : ∀ k, k < 3 → parseFieldDescriptor (TX8 k).2.2.1 = some (tyX8 k) := by decide +kernel
abbrev cX8_init : ByteArray := prog_10_method_1_code
def yX8_init : MethodName := ⟨RX8, "<init>", "()V"⟩
abbrev cX8_spell : ByteArray := prog_10_method_2_code
def yX8_spell : MethodName := ⟨RX8, "spell", "(LBranchMender$Tree;)V"⟩
abbrev cX8_spellNode : ByteArray := prog_10_method_3_code
def yX8_spellNode : MethodName := ⟨RX8, "spellNode", "(LBranchMender$Tree;I)V"⟩
abbrev cX8_leaveBranches : ByteArray := prog_10_method_4_code
def yX8_leaveBranches : MethodName := ⟨RX8, "leaveBranches", "(LBranchMender$Tree;I)V"⟩
abbrev cX8_addWord : ByteArray := prog_10_method_5_code
def yX8_addWord : MethodName := ⟨RX8, "addWord", "(J)V"⟩
abbrev cX8_add : ByteArray := prog_10_method_6_code
def yX8_add : MethodName := ⟨RX8, "add", "(I)V"⟩
def RX9 : String := "BranchMender"
def TX9 : u_T := fun k => match k with
  | 0 => ("BranchMender", "places", "[LBranchMender$Tree;", true)
  | 1 => ("BranchMender", "trial", "LBranchMender$Tree;", true)
  | 2 => ("BranchMender", "tape", "LBranchMender$Tape;", true)
  | 3 => ("BranchMender", "reader", "LBranchMender$Reader;", true)
  | 4 => ("BranchMender", "writer", "LBranchMender$Writer;", true)
  | 5 => ("BranchMender", "prices", "[I", true)
  | 6 => ("BranchMender", "aligner", "LBranchMender$Aligner;", true)
  | 7 => ("BranchMender", "mending", "LBranchMender$Mending;", true)
  | 8 => ("BranchMender", "kinship", "LBranchMender$Kinship;", true)
  | 9 => ("BranchMender", "merger", "LBranchMender$Merger;", true)
  | 10 => ("BranchMender", "answered", "[I", true)
  | _ => ("BranchMender", "nextName", "I", false)
def tyX9 : Nat → FieldType := fun k => match k with
  | 0 => .array (.object "BranchMender$Tree")
  | 1 => .object "BranchMender$Tree"
  | 2 => .object "BranchMender$Tape"
  | 3 => .object "BranchMender$Reader"
  | 4 => .object "BranchMender$Writer"
  | 5 => .array .int
  | 6 => .object "BranchMender$Aligner"
  | 7 => .object "BranchMender$Mending"
  | 8 => .object "BranchMender$Kinship"
  | 9 => .object "BranchMender$Merger"
  | 10 => .array .int
  | _ => .int
abbrev wsX90 : List Cond := u_ws RX9 TX9 12
theorem nmX9 : ∀ a, a < 12 → ∀ b, b < 12 → a ≠ b → (TX9 a).2.1 ≠ (TX9 b).2.1 := by decide +kernel
theorem tyX9_ok : ∀ k, k < 12 → parseFieldDescriptor (TX9 k).2.2.1 = some (tyX9 k) := by decide +kernel
abbrev cX9_init : ByteArray := prog_1_method_1_code
def yX9_init : MethodName := ⟨RX9, "<init>", "()V"⟩
abbrev cX9_feed : ByteArray := prog_1_method_2_code
def yX9_feed : MethodName := ⟨RX9, "feed", "(JI)I"⟩
abbrev cX9_read : ByteArray := prog_1_method_3_code
def yX9_read : MethodName := ⟨RX9, "read", "(I)I"⟩
abbrev cX9_write : ByteArray := prog_1_method_4_code
def yX9_write : MethodName := ⟨RX9, "write", "(I)I"⟩
abbrev cX9_letter : ByteArray := prog_1_method_5_code
def yX9_letter : MethodName := ⟨RX9, "letter", "(I)I"⟩
abbrev cX9_copy : ByteArray := prog_1_method_6_code
def yX9_copy : MethodName := ⟨RX9, "copy", "(II)I"⟩
abbrev cX9_clear : ByteArray := prog_1_method_7_code
def yX9_clear : MethodName := ⟨RX9, "clear", "(I)I"⟩
abbrev cX9_node : ByteArray := prog_1_method_8_code
def yX9_node : MethodName := ⟨RX9, "node", "(III)I"⟩
abbrev cX9_size : ByteArray := prog_1_method_9_code
def yX9_size : MethodName := ⟨RX9, "size", "(I)I"⟩
abbrev cX9_relabel : ByteArray := prog_1_method_10_code
def yX9_relabel : MethodName := ⟨RX9, "relabel", "(II)I"⟩
abbrev cX9_retext : ByteArray := prog_1_method_11_code
def yX9_retext : MethodName := ⟨RX9, "retext", "(II)I"⟩
abbrev cX9_put : ByteArray := prog_1_method_12_code
def yX9_put : MethodName := ⟨RX9, "put", "(IIIII)I"⟩
abbrev cX9_take : ByteArray := prog_1_method_13_code
def yX9_take : MethodName := ⟨RX9, "take", "(II)I"⟩
abbrev cX9_move : ByteArray := prog_1_method_14_code
def yX9_move : MethodName := ⟨RX9, "move", "(IIII)I"⟩
abbrev cX9_price : ByteArray := prog_1_method_15_code
def yX9_price : MethodName := ⟨RX9, "price", "(II)I"⟩
abbrev cX9_distance : ByteArray := prog_1_method_16_code
def yX9_distance : MethodName := ⟨RX9, "distance", "(II)I"⟩
abbrev cX9_map : ByteArray := prog_1_method_17_code
def yX9_map : MethodName := ⟨RX9, "map", "(II)I"⟩
abbrev cX9_pair : ByteArray := prog_1_method_18_code
def yX9_pair : MethodName := ⟨RX9, "pair", "(II)I"⟩
abbrev cX9_acts : ByteArray := prog_1_method_19_code
def yX9_acts : MethodName := ⟨RX9, "acts", "()I"⟩
abbrev cX9_act : ByteArray := prog_1_method_20_code
def yX9_act : MethodName := ⟨RX9, "act", "(II)I"⟩
abbrev cX9_like : ByteArray := prog_1_method_21_code
def yX9_like : MethodName := ⟨RX9, "like", "()I"⟩
abbrev cX9_same : ByteArray := prog_1_method_22_code
def yX9_same : MethodName := ⟨RX9, "same", "(II)I"⟩
abbrev cX9_unlike : ByteArray := prog_1_method_23_code
def yX9_unlike : MethodName := ⟨RX9, "unlike", "(I)I"⟩
abbrev cX9_shared : ByteArray := prog_1_method_24_code
def yX9_shared : MethodName := ⟨RX9, "shared", "(II)I"⟩
abbrev cX9_merge : ByteArray := prog_1_method_25_code
def yX9_merge : MethodName := ⟨RX9, "merge", "(IIII)I"⟩
abbrev cX9_merged : ByteArray := prog_1_method_26_code
def yX9_merged : MethodName := ⟨RX9, "merged", "()I"⟩
abbrev cX9_clash : ByteArray := prog_1_method_27_code
def yX9_clash : MethodName := ⟨RX9, "clash", "(II)I"⟩
abbrev cX9_found : ByteArray := prog_1_method_28_code
def yX9_found : MethodName := ⟨RX9, "found", "(I)I"⟩
abbrev cX9_tell : ByteArray := prog_1_method_29_code
def yX9_tell : MethodName := ⟨RX9, "tell", "(I)I"⟩
abbrev cX9_isPlace : ByteArray := prog_1_method_30_code
def yX9_isPlace : MethodName := ⟨RX9, "isPlace", "(I)Z"⟩
abbrev cX9_lackOfTree : ByteArray := prog_1_method_31_code
def yX9_lackOfTree : MethodName := ⟨RX9, "lackOfTree", "(I)I"⟩
abbrev cX9_lackOfTrees : ByteArray := prog_1_method_32_code
def yX9_lackOfTrees : MethodName := ⟨RX9, "lackOfTrees", "(II)I"⟩
abbrev cX9_seekNode : ByteArray := prog_1_method_33_code
def yX9_seekNode : MethodName := ⟨RX9, "seekNode", "(II)I"⟩
abbrev cX9_seekParent : ByteArray := prog_1_method_34_code
def yX9_seekParent : MethodName := ⟨RX9, "seekParent", "(LBranchMender$Tree;II)I"⟩
abbrev cX9_tryOut : ByteArray := prog_1_method_35_code
def yX9_tryOut : MethodName := ⟨RX9, "tryOut", "(II)I"⟩
abbrev cX9_detail : ByteArray := prog_1_method_36_code
def yX9_detail : MethodName := ⟨RX9, "detail", "(LBranchMender$Tree;II)I"⟩
abbrev cX9_signAt : ByteArray := prog_1_method_37_code
def yX9_signAt : MethodName := ⟨RX9, "signAt", "(JI)I"⟩
abbrev cX9_lengthOf : ByteArray := prog_1_method_38_code
def yX9_lengthOf : MethodName := ⟨RX9, "lengthOf", "(J)I"⟩
abbrev cX9_isLetter : ByteArray := prog_1_method_39_code
def yX9_isLetter : MethodName := ⟨RX9, "isLetter", "(I)Z"⟩
abbrev cX9_isTextSign : ByteArray := prog_1_method_40_code
def yX9_isTextSign : MethodName := ⟨RX9, "isTextSign", "(I)Z"⟩
abbrev cX9_openerOf : ByteArray := prog_1_method_41_code
def yX9_openerOf : MethodName := ⟨RX9, "openerOf", "(I)I"⟩
abbrev cX9_closerOf : ByteArray := prog_1_method_42_code
def yX9_closerOf : MethodName := ⟨RX9, "closerOf", "(I)I"⟩
def RX10 : String := "BranchMenderModel"
def TX10 : u_T := fun k => match k with
  | 0 => ("BranchMenderModel", "nodes", "[I", true)
  | 1 => ("BranchMenderModel", "sizes", "[I", true)
  | 2 => ("BranchMenderModel", "nextName", "I", false)
  | 3 => ("BranchMenderModel", "tape", "[I", true)
  | 4 => ("BranchMenderModel", "taped", "I", false)
  | 5 => ("BranchMenderModel", "written", "[I", true)
  | 6 => ("BranchMenderModel", "writtenMany", "I", false)
  | 7 => ("BranchMenderModel", "prices", "[I", true)
  | 8 => ("BranchMenderModel", "findings", "[I", true)
  | 9 => ("BranchMenderModel", "open", "[I", true)
  | 10 => ("BranchMenderModel", "closing", "[I", true)
  | 11 => ("BranchMenderModel", "ahead", "[I", true)
  | 12 => ("BranchMenderModel", "low", "[I", true)
  | 13 => ("BranchMenderModel", "costs", "[I", true)
  | 14 => ("BranchMenderModel", "pairOf", "[I", true)
  | 15 => ("BranchMenderModel", "pairTo", "[I", true)
  | 16 => ("BranchMenderModel", "dueA", "[I", true)
  | 17 => ("BranchMenderModel", "dueN", "[I", true)
  | 18 => ("BranchMenderModel", "dueB", "[I", true)
  | 19 => ("BranchMenderModel", "dueM", "[I", true)
  | 20 => ("BranchMenderModel", "pairMany", "I", false)
  | 21 => ("BranchMenderModel", "actMany", "I", false)
  | 22 => ("BranchMenderModel", "mapped", "I", false)
  | 23 => ("BranchMenderModel", "pairOne", "[I", true)
  | 24 => ("BranchMenderModel", "pairTwo", "[I", true)
  | 25 => ("BranchMenderModel", "actWhich", "[I", true)
  | 26 => ("BranchMenderModel", "actName", "[I", true)
  | 27 => ("BranchMenderModel", "actPrice", "[I", true)
  | 28 => ("BranchMenderModel", "classes", "[I", true)
  | 29 => ("BranchMenderModel", "clashName", "[I", true)
  | 30 => ("BranchMenderModel", "clashWhat", "[I", true)
  | 31 => ("BranchMenderModel", "clashes", "I", false)
  | 32 => ("BranchMenderModel", "merged", "I", false)
  | 33 => ("BranchMenderModel", "isClash", "Z", false)
  | 34 => ("BranchMenderModel", "dueName", "[I", true)
  | _ => ("BranchMenderModel", "dueDeep", "[I", true)
def tyX10 : Nat → FieldType := fun k => match k with
  | 0 => .array .int
  | 1 => .array .int
  | 2 => .int
  | 3 => .array .int
  | 4 => .int
  | 5 => .array .int
  | 6 => .int
  | 7 => .array .int
  | 8 => .array .int
  | 9 => .array .int
  | 10 => .array .int
  | 11 => .array .int
  | 12 => .array .int
  | 13 => .array .int
  | 14 => .array .int
  | 15 => .array .int
  | 16 => .array .int
  | 17 => .array .int
  | 18 => .array .int
  | 19 => .array .int
  | 20 => .int
  | 21 => .int
  | 22 => .int
  | 23 => .array .int
  | 24 => .array .int
  | 25 => .array .int
  | 26 => .array .int
  | 27 => .array .int
  | 28 => .array .int
  | 29 => .array .int
  | 30 => .array .int
  | 31 => .int
  | 32 => .int
  | 33 => .boolean
  | 34 => .array .int
  | _ => .array .int
abbrev wsX100 : List Cond := u_ws RX10 TX10 36
theorem nmX10 : ∀ a, a < 36 → ∀ b, b < 36 → a ≠ b → (TX10 a).2.1 ≠ (TX10 b).2.1 := by decide +kernel
theorem tyX10_ok : ∀ k, k < 36 → parseFieldDescriptor (TX10 k).2.2.1 = some (tyX10 k) := by decide +kernel
abbrev cX10_init : ByteArray := prog_12_method_1_code
def yX10_init : MethodName := ⟨RX10, "<init>", "()V"⟩
abbrev cX10_found0 : ByteArray := prog_12_method_3_code
def yX10_found0 : MethodName := ⟨RX10, "found0", "(I)I"⟩
abbrev cX10_in : ByteArray := prog_12_method_4_code
def yX10_in : MethodName := ⟨RX10, "in", "(III)Z"⟩
abbrev cX10_isPlace : ByteArray := prog_12_method_5_code
def yX10_isPlace : MethodName := ⟨RX10, "isPlace", "(I)Z"⟩
abbrev cX10_lacks : ByteArray := prog_12_method_6_code
def yX10_lacks : MethodName := ⟨RX10, "lacks", "(I)I"⟩
abbrev cX10_of : ByteArray := prog_12_method_7_code
def yX10_of : MethodName := ⟨RX10, "of", "(III)I"⟩
abbrev cX10_set : ByteArray := prog_12_method_8_code
def yX10_set : MethodName := ⟨RX10, "set", "(IIII)V"⟩
abbrev cX10_deep : ByteArray := prog_12_method_9_code
def yX10_deep : MethodName := ⟨RX10, "deep", "(II)I"⟩
abbrev cX10_carry : ByteArray := prog_12_method_10_code
def yX10_carry : MethodName := ⟨RX10, "carry", "(IIII)V"⟩
abbrev cX10_copyAll : ByteArray := prog_12_method_11_code
def yX10_copyAll : MethodName := ⟨RX10, "copyAll", "(II)V"⟩
abbrev cX10_end : ByteArray := prog_12_method_12_code
def yX10_end : MethodName := ⟨RX10, "end", "(II)I"⟩
abbrev cX10_parent : ByteArray := prog_12_method_13_code
def yX10_parent : MethodName := ⟨RX10, "parent", "(II)I"⟩
abbrev cX10_child : ByteArray := prog_12_method_14_code
def yX10_child : MethodName := ⟨RX10, "child", "(III)I"⟩
abbrev cX10_children : ByteArray := prog_12_method_15_code
def yX10_children : MethodName := ⟨RX10, "children", "(II)I"⟩
abbrev cX10_named : ByteArray := prog_12_method_16_code
def yX10_named : MethodName := ⟨RX10, "named", "(II)I"⟩
abbrev cX10_isLike : ByteArray := prog_12_method_17_code
def yX10_isLike : MethodName := ⟨RX10, "isLike", "(IIIII)Z"⟩
abbrev cX10_hasTwice : ByteArray := prog_12_method_18_code
def yX10_hasTwice : MethodName := ⟨RX10, "hasTwice", "(I)Z"⟩
abbrev cX10_isTooDeep : ByteArray := prog_12_method_19_code
def yX10_isTooDeep : MethodName := ⟨RX10, "isTooDeep", "(I)Z"⟩
abbrev cX10_feed : ByteArray := prog_12_method_20_code
def yX10_feed : MethodName := ⟨RX10, "feed", "(JI)I"⟩
abbrev cX10_isLetter : ByteArray := prog_12_method_21_code
def yX10_isLetter : MethodName := ⟨RX10, "isLetter", "(I)Z"⟩
abbrev cX10_isSign : ByteArray := prog_12_method_22_code
def yX10_isSign : MethodName := ⟨RX10, "isSign", "(I)Z"⟩
abbrev cX10_at : ByteArray := prog_12_method_23_code
def yX10_at : MethodName := ⟨RX10, "at", "(II)I"⟩
abbrev cX10_signs : ByteArray := prog_12_method_24_code
def yX10_signs : MethodName := ⟨RX10, "signs", "(IIIII)I"⟩
abbrev cX10_reads : ByteArray := prog_12_method_25_code
def yX10_reads : MethodName := ⟨RX10, "reads", "(I)I"⟩
abbrev cX10_read : ByteArray := prog_12_method_26_code
def yX10_read : MethodName := ⟨RX10, "read", "(I)I"⟩
abbrev cX10_writes : ByteArray := prog_12_method_27_code
def yX10_writes : MethodName := ⟨RX10, "writes", "(I)V"⟩
abbrev cX10_write : ByteArray := prog_12_method_28_code
def yX10_write : MethodName := ⟨RX10, "write", "(I)I"⟩
abbrev cX10_closes : ByteArray := prog_12_method_29_code
def yX10_closes : MethodName := ⟨RX10, "closes", "(III)V"⟩
abbrev cX10_letter : ByteArray := prog_12_method_30_code
def yX10_letter : MethodName := ⟨RX10, "letter", "(I)I"⟩
abbrev cX10_copy : ByteArray := prog_12_method_31_code
def yX10_copy : MethodName := ⟨RX10, "copy", "(II)I"⟩
abbrev cX10_clear : ByteArray := prog_12_method_32_code
def yX10_clear : MethodName := ⟨RX10, "clear", "(I)I"⟩
abbrev cX10_behind : ByteArray := prog_12_method_33_code
def yX10_behind : MethodName := ⟨RX10, "behind", "(II)I"⟩
abbrev cX10_node : ByteArray := prog_12_method_34_code
def yX10_node : MethodName := ⟨RX10, "node", "(III)I"⟩
abbrev cX10_size : ByteArray := prog_12_method_35_code
def yX10_size : MethodName := ⟨RX10, "size", "(I)I"⟩
abbrev cX10_takes : ByteArray := prog_12_method_36_code
def yX10_takes : MethodName := ⟨RX10, "takes", "(II)Z"⟩
abbrev cX10_relabel : ByteArray := prog_12_method_37_code
def yX10_relabel : MethodName := ⟨RX10, "relabel", "(II)I"⟩
abbrev cX10_retext : ByteArray := prog_12_method_38_code
def yX10_retext : MethodName := ⟨RX10, "retext", "(II)I"⟩
abbrev cX10_put : ByteArray := prog_12_method_39_code
def yX10_put : MethodName := ⟨RX10, "put", "(IIIII)I"⟩
abbrev cX10_take : ByteArray := prog_12_method_40_code
def yX10_take : MethodName := ⟨RX10, "take", "(II)I"⟩
abbrev cX10_move : ByteArray := prog_12_method_41_code
def yX10_move : MethodName := ⟨RX10, "move", "(IIII)I"⟩
abbrev cX10_price : ByteArray := prog_12_method_42_code
def yX10_price : MethodName := ⟨RX10, "price", "(II)I"⟩
abbrev cX10_lay : ByteArray := prog_12_method_43_code
def yX10_lay : MethodName := ⟨RX10, "lay", "(II)V"⟩
abbrev cX10_pairs : ByteArray := prog_12_method_44_code
def yX10_pairs : MethodName := ⟨RX10, "pairs", "(IIII)I"⟩
abbrev cX10_cell : ByteArray := prog_12_method_45_code
def yX10_cell : MethodName := ⟨RX10, "cell", "(IIII)I"⟩
abbrev cX10_reckon : ByteArray := prog_12_method_46_code
def yX10_reckon : MethodName := ⟨RX10, "reckon", "(II)V"⟩
abbrev cX10_byPair : ByteArray := prog_12_method_47_code
def yX10_byPair : MethodName := ⟨RX10, "byPair", "(IIIIII)I"⟩
abbrev cX10_lesser : ByteArray := prog_12_method_48_code
def yX10_lesser : MethodName := ⟨RX10, "lesser", "(II)I"⟩
abbrev cX10_distance : ByteArray := prog_12_method_49_code
def yX10_distance : MethodName := ⟨RX10, "distance", "(II)I"⟩
abbrev cX10_adds : ByteArray := prog_12_method_50_code
def yX10_adds : MethodName := ⟨RX10, "adds", "(II)V"⟩
abbrev cX10_map : ByteArray := prog_12_method_51_code
def yX10_map : MethodName := ⟨RX10, "map", "(II)I"⟩
abbrev cX10_tells : ByteArray := prog_12_method_52_code
def yX10_tells : MethodName := ⟨RX10, "tells", "(II)V"⟩
abbrev cX10_pair : ByteArray := prog_12_method_53_code
def yX10_pair : MethodName := ⟨RX10, "pair", "(II)I"⟩
abbrev cX10_acts : ByteArray := prog_12_method_54_code
def yX10_acts : MethodName := ⟨RX10, "acts", "()I"⟩
abbrev cX10_act : ByteArray := prog_12_method_55_code
def yX10_act : MethodName := ⟨RX10, "act", "(II)I"⟩
abbrev cX10_like : ByteArray := prog_12_method_56_code
def yX10_like : MethodName := ⟨RX10, "like", "()I"⟩
abbrev cX10_areSame : ByteArray := prog_12_method_57_code
def yX10_areSame : MethodName := ⟨RX10, "areSame", "(IIIIII)Z"⟩
abbrev cX10_sort : ByteArray := prog_12_method_58_code
def yX10_sort : MethodName := ⟨RX10, "sort", "(II)V"⟩
abbrev cX10_same : ByteArray := prog_12_method_59_code
def yX10_same : MethodName := ⟨RX10, "same", "(II)I"⟩
abbrev cX10_unlike : ByteArray := prog_12_method_60_code
def yX10_unlike : MethodName := ⟨RX10, "unlike", "(I)I"⟩
abbrev cX10_shared : ByteArray := prog_12_method_61_code
def yX10_shared : MethodName := ⟨RX10, "shared", "(II)I"⟩
abbrev cX10_clashed : ByteArray := prog_12_method_62_code
def yX10_clashed : MethodName := ⟨RX10, "clashed", "(II)V"⟩
abbrev cX10_isField : ByteArray := prog_12_method_63_code
def yX10_isField : MethodName := ⟨RX10, "isField", "(IIIII)Z"⟩
abbrev cX10_whose : ByteArray := prog_12_method_64_code
def yX10_whose : MethodName := ⟨RX10, "whose", "(IIIII)I"⟩
abbrev cX10_merges : ByteArray := prog_12_method_65_code
def yX10_merges : MethodName := ⟨RX10, "merges", "(III)Z"⟩
abbrev cX10_merge : ByteArray := prog_12_method_66_code
def yX10_merge : MethodName := ⟨RX10, "merge", "(IIII)I"⟩
abbrev cX10_least : ByteArray := prog_12_method_67_code
def yX10_least : MethodName := ⟨RX10, "least", "(III)I"⟩
abbrev cX10_merged : ByteArray := prog_12_method_68_code
def yX10_merged : MethodName := ⟨RX10, "merged", "()I"⟩
abbrev cX10_clash : ByteArray := prog_12_method_69_code
def yX10_clash : MethodName := ⟨RX10, "clash", "(II)I"⟩
abbrev cX10_found : ByteArray := prog_12_method_70_code
def yX10_found : MethodName := ⟨RX10, "found", "(I)I"⟩
def RL : String := "BranchMenderLaw"
abbrev cL_law : ByteArray := code
def yL_law : MethodName := ⟨RL, "law", "([I)Z"⟩
abbrev vwCl : List vw_C := [(RX0, TX0, 10), (RX1, TX1, 4), (RX2, TX2, 9), (RX3, TX3, 10), (RX4, TX4, 8), (RX5, TX5, 5), (RX6, TX6, 2), (RX7, TX7, 7), (RX8, TX8, 3), (RX9, TX9, 12), (RX10, TX10, 36)]
end
section
theorem dX0_init_0 : decode cX0_init 0 = .ok (.aload_n 0, 1) := by decide +kernel
theorem dX0_init_1 : decode cX0_init 1 = .ok (.invokespecial 3, 3) := by decide +kernel
theorem dX0_init_4 : decode cX0_init 4 = .ok (.aload_n 0, 1) := by decide +kernel
theorem dX0_init_5 : decode cX0_init 5 = .ok (.new 9, 3) := by decide +kernel
theorem dX0_init_8 : decode cX0_init 8 = .ok (.dup, 1) := by decide +kernel
theorem dX0_init_9 : decode cX0_init 9 = .ok (.invokespecial 11, 3) := by decide +kernel
theorem dX0_init_12 : decode cX0_init 12 = .ok (.putfield 12, 3) := by decide +kernel
theorem dX0_init_15 : decode cX0_init 15 = .ok (.aload_n 0, 1) := by decide +kernel
theorem dX0_init_16 : decode cX0_init 16 = .ok (.new 9, 3) := by decide +kernel
theorem dX0_init_19 : decode cX0_init 19 = .ok (.dup, 1) := by decide +kernel
theorem dX0_init_20 : decode cX0_init 20 = .ok (.invokespecial 11, 3) := by decide +kernel
theorem dX0_init_23 : decode cX0_init 23 = .ok (.putfield 18, 3) := by decide +kernel
theorem dX0_init_26 : decode cX0_init 26 = .ok (.aload_n 0, 1) := by decide +kernel
theorem dX0_init_27 : decode cX0_init 27 = .ok (.bipush 30, 2) := by decide +kernel
theorem dX0_init_29 : decode cX0_init 29 = .ok (.newarray .int, 2) := by decide +kernel
theorem dX0_init_31 : decode cX0_init 31 = .ok (.putfield 21, 3) := by decide +kernel
theorem dX0_init_34 : decode cX0_init 34 = .ok (.aload_n 0, 1) := by decide +kernel
theorem dX0_init_35 : decode cX0_init 35 = .ok (.bipush 30, 2) := by decide +kernel
theorem dX0_init_37 : decode cX0_init 37 = .ok (.newarray .int, 2) := by decide +kernel
theorem dX0_init_39 : decode cX0_init 39 = .ok (.putfield 25, 3) := by decide +kernel
theorem dX0_init_42 : decode cX0_init 42 = .ok (.aload_n 0, 1) := by decide +kernel
theorem dX0_init_43 : decode cX0_init 43 = .ok (.bipush 31, 2) := by decide +kernel
theorem dX0_init_45 : decode cX0_init 45 = .ok (.bipush 31, 2) := by decide +kernel
theorem dX0_init_47 : decode cX0_init 47 = .ok (.multianewarray 28 2, 4) := by decide +kernel
theorem dX0_init_51 : decode cX0_init 51 = .ok (.putfield 30, 3) := by decide +kernel
theorem dX0_init_54 : decode cX0_init 54 = .ok (.aload_n 0, 1) := by decide +kernel
theorem dX0_init_55 : decode cX0_init 55 = .ok (.bipush 31, 2) := by decide +kernel
theorem dX0_init_57 : decode cX0_init 57 = .ok (.bipush 31, 2) := by decide +kernel
theorem dX0_init_59 : decode cX0_init 59 = .ok (.multianewarray 28 2, 4) := by decide +kernel
theorem dX0_init_63 : decode cX0_init 63 = .ok (.putfield 33, 3) := by decide +kernel
theorem dX0_init_66 : decode cX0_init 66 = .ok (.aload_n 0, 1) := by decide +kernel
theorem dX0_init_67 : decode cX0_init 67 = .ok (.bipush 31, 2) := by decide +kernel
theorem dX0_init_69 : decode cX0_init 69 = .ok (.bipush 31, 2) := by decide +kernel
theorem dX0_init_71 : decode cX0_init 71 = .ok (.multianewarray 28 2, 4) := by decide +kernel
theorem dX0_init_75 : decode cX0_init 75 = .ok (.putfield 36, 3) := by decide +kernel
theorem dX0_init_78 : decode cX0_init 78 = .ok (.return_, 1) := by decide +kernel
theorem dX0_align_0 : decode cX0_align 0 = .ok (.aload_n 0, 1) := by decide +kernel
theorem dX0_align_1 : decode cX0_align 1 = .ok (.getfield 12, 3) := by decide +kernel
theorem dX0_align_4 : decode cX0_align 4 = .ok (.aload_n 1, 1) := by decide +kernel
theorem dX0_align_5 : decode cX0_align 5 = .ok (.invokevirtual 39, 3) := by decide +kernel
theorem dX0_align_8 : decode cX0_align 8 = .ok (.aload_n 0, 1) := by decide +kernel
theorem dX0_align_9 : decode cX0_align 9 = .ok (.getfield 18, 3) := by decide +kernel
theorem dX0_align_12 : decode cX0_align 12 = .ok (.aload_n 2, 1) := by decide +kernel
theorem dX0_align_13 : decode cX0_align 13 = .ok (.invokevirtual 39, 3) := by decide +kernel
theorem dX0_align_16 : decode cX0_align 16 = .ok (.aload_n 0, 1) := by decide +kernel
theorem dX0_align_17 : decode cX0_align 17 = .ok (.aload_n 3, 1) := by decide +kernel
theorem dX0_align_18 : decode cX0_align 18 = .ok (.iconst 3, 1) := by decide +kernel
theorem dX0_align_19 : decode cX0_align 19 = .ok (.iaload, 1) := by decide +kernel
theorem dX0_align_20 : decode cX0_align 20 = .ok (.putfield 43, 3) := by decide +kernel
theorem dX0_align_23 : decode cX0_align 23 = .ok (.aload_n 0, 1) := by decide +kernel
theorem dX0_align_24 : decode cX0_align 24 = .ok (.aload_n 3, 1) := by decide +kernel
theorem dX0_align_25 : decode cX0_align 25 = .ok (.iconst 2, 1) := by decide +kernel
theorem dX0_align_26 : decode cX0_align 26 = .ok (.iaload, 1) := by decide +kernel
theorem dX0_align_27 : decode cX0_align 27 = .ok (.putfield 47, 3) := by decide +kernel
theorem dX0_align_30 : decode cX0_align 30 = .ok (.aload_n 0, 1) := by decide +kernel
theorem dX0_align_31 : decode cX0_align 31 = .ok (.aload_n 1, 1) := by decide +kernel
theorem dX0_align_32 : decode cX0_align 32 = .ok (.aload_n 2, 1) := by decide +kernel
theorem dX0_align_33 : decode cX0_align 33 = .ok (.aload_n 3, 1) := by decide +kernel
theorem dX0_align_34 : decode cX0_align 34 = .ok (.invokevirtual 50, 3) := by decide +kernel
theorem dX0_align_37 : decode cX0_align 37 = .ok (.iconst 1, 1) := by decide +kernel
theorem dX0_align_38 : decode cX0_align 38 = .ok (.istore 4, 2) := by decide +kernel
theorem dX0_align_40 : decode cX0_align 40 = .ok (.iload 4, 2) := by decide +kernel
theorem dX0_align_42 : decode cX0_align 42 = .ok (.aload_n 0, 1) := by decide +kernel
theorem dX0_align_43 : decode cX0_align 43 = .ok (.getfield 12, 3) := by decide +kernel
theorem dX0_align_46 : decode cX0_align 46 = .ok (.getfield 54, 3) := by decide +kernel
theorem dX0_align_49 : decode cX0_align 49 = .ok (.if_icmp .gt 64, 3) := by decide +kernel
theorem dX0_align_52 : decode cX0_align 52 = .ok (.iconst 1, 1) := by decide +kernel
theorem dX0_align_53 : decode cX0_align 53 = .ok (.istore 5, 2) := by decide +kernel
theorem dX0_align_55 : decode cX0_align 55 = .ok (.iload 5, 2) := by decide +kernel
theorem dX0_align_57 : decode cX0_align 57 = .ok (.aload_n 0, 1) := by decide +kernel
theorem dX0_align_58 : decode cX0_align 58 = .ok (.getfield 18, 3) := by decide +kernel
theorem dX0_align_61 : decode cX0_align 61 = .ok (.getfield 54, 3) := by decide +kernel
theorem dX0_align_64 : decode cX0_align 64 = .ok (.if_icmp .gt 43, 3) := by decide +kernel
theorem dX0_align_67 : decode cX0_align 67 = .ok (.aload_n 0, 1) := by decide +kernel
theorem dX0_align_68 : decode cX0_align 68 = .ok (.getfield 12, 3) := by decide +kernel
theorem dX0_align_71 : decode cX0_align 71 = .ok (.getfield 57, 3) := by decide +kernel
theorem dX0_align_74 : decode cX0_align 74 = .ok (.iload 4, 2) := by decide +kernel
theorem dX0_align_76 : decode cX0_align 76 = .ok (.baload, 1) := by decide +kernel
theorem dX0_align_77 : decode cX0_align 77 = .ok (.ifCond .eq 24, 3) := by decide +kernel
theorem dX0_align_80 : decode cX0_align 80 = .ok (.aload_n 0, 1) := by decide +kernel
theorem dX0_align_81 : decode cX0_align 81 = .ok (.getfield 18, 3) := by decide +kernel
theorem dX0_align_84 : decode cX0_align 84 = .ok (.getfield 57, 3) := by decide +kernel
theorem dX0_align_87 : decode cX0_align 87 = .ok (.iload 5, 2) := by decide +kernel
theorem dX0_align_89 : decode cX0_align 89 = .ok (.baload, 1) := by decide +kernel
theorem dX0_align_90 : decode cX0_align 90 = .ok (.ifCond .eq 11, 3) := by decide +kernel
theorem dX0_align_93 : decode cX0_align 93 = .ok (.aload_n 0, 1) := by decide +kernel
theorem dX0_align_94 : decode cX0_align 94 = .ok (.iload 4, 2) := by decide +kernel
theorem dX0_align_96 : decode cX0_align 96 = .ok (.iload 5, 2) := by decide +kernel
theorem dX0_align_98 : decode cX0_align 98 = .ok (.invokevirtual 61, 3) := by decide +kernel
theorem dX0_align_101 : decode cX0_align 101 = .ok (.iinc 5 1, 3) := by decide +kernel
theorem dX0_align_104 : decode cX0_align 104 = .ok (.goto (-49), 3) := by decide +kernel
theorem dX0_align_107 : decode cX0_align 107 = .ok (.iinc 4 1, 3) := by decide +kernel
theorem dX0_align_110 : decode cX0_align 110 = .ok (.goto (-70), 3) := by decide +kernel
theorem dX0_align_113 : decode cX0_align 113 = .ok (.aload_n 0, 1) := by decide +kernel
theorem dX0_align_114 : decode cX0_align 114 = .ok (.getfield 30, 3) := by decide +kernel
theorem dX0_align_117 : decode cX0_align 117 = .ok (.aload_n 0, 1) := by decide +kernel
theorem dX0_align_118 : decode cX0_align 118 = .ok (.getfield 12, 3) := by decide +kernel
theorem dX0_align_121 : decode cX0_align 121 = .ok (.getfield 54, 3) := by decide +kernel
theorem dX0_align_124 : decode cX0_align 124 = .ok (.aaload, 1) := by decide +kernel
theorem dX0_align_125 : decode cX0_align 125 = .ok (.aload_n 0, 1) := by decide +kernel
theorem dX0_align_126 : decode cX0_align 126 = .ok (.getfield 18, 3) := by decide +kernel
theorem dX0_align_129 : decode cX0_align 129 = .ok (.getfield 54, 3) := by decide +kernel
theorem dX0_align_132 : decode cX0_align 132 = .ok (.iaload, 1) := by decide +kernel
theorem dX0_align_133 : decode cX0_align 133 = .ok (.ireturn, 1) := by decide +kernel
theorem dX0_pricePairs_0 : decode cX0_pricePairs 0 = .ok (.iconst 1, 1) := by decide +kernel
theorem dX0_pricePairs_1 : decode cX0_pricePairs 1 = .ok (.istore 4, 2) := by decide +kernel
theorem dX0_pricePairs_3 : decode cX0_pricePairs 3 = .ok (.iload 4, 2) := by decide +kernel
theorem dX0_pricePairs_5 : decode cX0_pricePairs 5 = .ok (.aload_n 0, 1) := by decide +kernel
theorem dX0_pricePairs_6 : decode cX0_pricePairs 6 = .ok (.getfield 12, 3) := by decide +kernel
theorem dX0_pricePairs_9 : decode cX0_pricePairs 9 = .ok (.getfield 54, 3) := by decide +kernel
theorem dX0_pricePairs_12 : decode cX0_pricePairs 12 = .ok (.if_icmp .gt 66, 3) := by decide +kernel
theorem dX0_pricePairs_15 : decode cX0_pricePairs 15 = .ok (.iconst 1, 1) := by decide +kernel
theorem dX0_pricePairs_16 : decode cX0_pricePairs 16 = .ok (.istore 5, 2) := by decide +kernel
theorem dX0_pricePairs_18 : decode cX0_pricePairs 18 = .ok (.iload 5, 2) := by decide +kernel
theorem dX0_pricePairs_20 : decode cX0_pricePairs 20 = .ok (.aload_n 0, 1) := by decide +kernel
theorem dX0_pricePairs_21 : decode cX0_pricePairs 21 = .ok (.getfield 18, 3) := by decide +kernel
theorem dX0_pricePairs_24 : decode cX0_pricePairs 24 = .ok (.getfield 54, 3) := by decide +kernel
theorem dX0_pricePairs_27 : decode cX0_pricePairs 27 = .ok (.if_icmp .gt 45, 3) := by decide +kernel
theorem dX0_pricePairs_30 : decode cX0_pricePairs 30 = .ok (.aload_n 0, 1) := by decide +kernel
theorem dX0_pricePairs_31 : decode cX0_pricePairs 31 = .ok (.getfield 36, 3) := by decide +kernel
theorem dX0_pricePairs_34 : decode cX0_pricePairs 34 = .ok (.iload 4, 2) := by decide +kernel
theorem dX0_pricePairs_36 : decode cX0_pricePairs 36 = .ok (.aaload, 1) := by decide +kernel
theorem dX0_pricePairs_37 : decode cX0_pricePairs 37 = .ok (.iload 5, 2) := by decide +kernel
theorem dX0_pricePairs_39 : decode cX0_pricePairs 39 = .ok (.aload_n 1, 1) := by decide +kernel
theorem dX0_pricePairs_40 : decode cX0_pricePairs 40 = .ok (.aload_n 0, 1) := by decide +kernel
theorem dX0_pricePairs_41 : decode cX0_pricePairs 41 = .ok (.getfield 12, 3) := by decide +kernel
theorem dX0_pricePairs_44 : decode cX0_pricePairs 44 = .ok (.getfield 65, 3) := by decide +kernel
theorem dX0_pricePairs_47 : decode cX0_pricePairs 47 = .ok (.iload 4, 2) := by decide +kernel
theorem dX0_pricePairs_49 : decode cX0_pricePairs 49 = .ok (.iaload, 1) := by decide +kernel
theorem dX0_pricePairs_50 : decode cX0_pricePairs 50 = .ok (.aload_n 2, 1) := by decide +kernel
theorem dX0_pricePairs_51 : decode cX0_pricePairs 51 = .ok (.aload_n 0, 1) := by decide +kernel
theorem dX0_pricePairs_52 : decode cX0_pricePairs 52 = .ok (.getfield 18, 3) := by decide +kernel
theorem dX0_pricePairs_55 : decode cX0_pricePairs 55 = .ok (.getfield 65, 3) := by decide +kernel
theorem dX0_pricePairs_58 : decode cX0_pricePairs 58 = .ok (.iload 5, 2) := by decide +kernel
theorem dX0_pricePairs_60 : decode cX0_pricePairs 60 = .ok (.iaload, 1) := by decide +kernel
theorem dX0_pricePairs_61 : decode cX0_pricePairs 61 = .ok (.aload_n 3, 1) := by decide +kernel
theorem dX0_pricePairs_62 : decode cX0_pricePairs 62 = .ok (.invokestatic 68, 3) := by decide +kernel
theorem dX0_pricePairs_65 : decode cX0_pricePairs 65 = .ok (.iastore, 1) := by decide +kernel
theorem dX0_pricePairs_66 : decode cX0_pricePairs 66 = .ok (.iinc 5 1, 3) := by decide +kernel
theorem dX0_pricePairs_69 : decode cX0_pricePairs 69 = .ok (.goto (-51), 3) := by decide +kernel
theorem dX0_pricePairs_72 : decode cX0_pricePairs 72 = .ok (.iinc 4 1, 3) := by decide +kernel
theorem dX0_pricePairs_75 : decode cX0_pricePairs 75 = .ok (.goto (-72), 3) := by decide +kernel
theorem dX0_pricePairs_78 : decode cX0_pricePairs 78 = .ok (.return_, 1) := by decide +kernel
theorem dX0_pairPrice_0 : decode cX0_pairPrice 0 = .ok (.aload_n 0, 1) := by decide +kernel
theorem dX0_pairPrice_1 : decode cX0_pairPrice 1 = .ok (.getfield 72, 3) := by decide +kernel
theorem dX0_pairPrice_4 : decode cX0_pairPrice 4 = .ok (.iload_n 1, 1) := by decide +kernel
theorem dX0_pairPrice_5 : decode cX0_pairPrice 5 = .ok (.laload, 1) := by decide +kernel
theorem dX0_pairPrice_6 : decode cX0_pairPrice 6 = .ok (.aload_n 2, 1) := by decide +kernel
theorem dX0_pairPrice_7 : decode cX0_pairPrice 7 = .ok (.getfield 72, 3) := by decide +kernel
theorem dX0_pairPrice_10 : decode cX0_pairPrice 10 = .ok (.iload_n 3, 1) := by decide +kernel
theorem dX0_pairPrice_11 : decode cX0_pairPrice 11 = .ok (.laload, 1) := by decide +kernel
theorem dX0_pairPrice_12 : decode cX0_pairPrice 12 = .ok (.lcmp, 1) := by decide +kernel
theorem dX0_pairPrice_13 : decode cX0_pairPrice 13 = .ok (.ifCond .eq 7, 3) := by decide +kernel
theorem dX0_pairPrice_16 : decode cX0_pairPrice 16 = .ok (.iconst 1, 1) := by decide +kernel
theorem dX0_pairPrice_17 : decode cX0_pairPrice 17 = .ok (.goto 4, 3) := by decide +kernel
theorem dX0_pairPrice_20 : decode cX0_pairPrice 20 = .ok (.iconst 0, 1) := by decide +kernel
theorem dX0_pairPrice_21 : decode cX0_pairPrice 21 = .ok (.istore 5, 2) := by decide +kernel
theorem dX0_pairPrice_23 : decode cX0_pairPrice 23 = .ok (.aload_n 0, 1) := by decide +kernel
theorem dX0_pairPrice_24 : decode cX0_pairPrice 24 = .ok (.getfield 78, 3) := by decide +kernel
theorem dX0_pairPrice_27 : decode cX0_pairPrice 27 = .ok (.iload_n 1, 1) := by decide +kernel
theorem dX0_pairPrice_28 : decode cX0_pairPrice 28 = .ok (.laload, 1) := by decide +kernel
theorem dX0_pairPrice_29 : decode cX0_pairPrice 29 = .ok (.aload_n 2, 1) := by decide +kernel
theorem dX0_pairPrice_30 : decode cX0_pairPrice 30 = .ok (.getfield 78, 3) := by decide +kernel
theorem dX0_pairPrice_33 : decode cX0_pairPrice 33 = .ok (.iload_n 3, 1) := by decide +kernel
theorem dX0_pairPrice_34 : decode cX0_pairPrice 34 = .ok (.laload, 1) := by decide +kernel
theorem dX0_pairPrice_35 : decode cX0_pairPrice 35 = .ok (.lcmp, 1) := by decide +kernel
theorem dX0_pairPrice_36 : decode cX0_pairPrice 36 = .ok (.ifCond .eq 7, 3) := by decide +kernel
theorem dX0_pairPrice_39 : decode cX0_pairPrice 39 = .ok (.iconst 1, 1) := by decide +kernel
theorem dX0_pairPrice_40 : decode cX0_pairPrice 40 = .ok (.goto 4, 3) := by decide +kernel
theorem dX0_pairPrice_43 : decode cX0_pairPrice 43 = .ok (.iconst 0, 1) := by decide +kernel
theorem dX0_pairPrice_44 : decode cX0_pairPrice 44 = .ok (.istore 6, 2) := by decide +kernel
theorem dX0_pairPrice_46 : decode cX0_pairPrice 46 = .ok (.aload_n 0, 1) := by decide +kernel
theorem dX0_pairPrice_47 : decode cX0_pairPrice 47 = .ok (.getfield 81, 3) := by decide +kernel
theorem dX0_pairPrice_50 : decode cX0_pairPrice 50 = .ok (.iload_n 1, 1) := by decide +kernel
theorem dX0_pairPrice_51 : decode cX0_pairPrice 51 = .ok (.iaload, 1) := by decide +kernel
theorem dX0_pairPrice_52 : decode cX0_pairPrice 52 = .ok (.aload_n 2, 1) := by decide +kernel
theorem dX0_pairPrice_53 : decode cX0_pairPrice 53 = .ok (.getfield 81, 3) := by decide +kernel
theorem dX0_pairPrice_56 : decode cX0_pairPrice 56 = .ok (.iload_n 3, 1) := by decide +kernel
theorem dX0_pairPrice_57 : decode cX0_pairPrice 57 = .ok (.iaload, 1) := by decide +kernel
theorem dX0_pairPrice_58 : decode cX0_pairPrice 58 = .ok (.if_icmp .eq 6, 3) := by decide +kernel
theorem dX0_pairPrice_61 : decode cX0_pairPrice 61 = .ok (.ldc 84, 2) := by decide +kernel
theorem dX0_pairPrice_63 : decode cX0_pairPrice 63 = .ok (.ireturn, 1) := by decide +kernel
theorem dX0_pairPrice_64 : decode cX0_pairPrice 64 = .ok (.aload_n 0, 1) := by decide +kernel
theorem dX0_pairPrice_65 : decode cX0_pairPrice 65 = .ok (.getfield 81, 3) := by decide +kernel
theorem dX0_pairPrice_68 : decode cX0_pairPrice 68 = .ok (.iload_n 1, 1) := by decide +kernel
theorem dX0_pairPrice_69 : decode cX0_pairPrice 69 = .ok (.iaload, 1) := by decide +kernel
theorem dX0_pairPrice_70 : decode cX0_pairPrice 70 = .ok (.iconst 3, 1) := by decide +kernel
theorem dX0_pairPrice_71 : decode cX0_pairPrice 71 = .ok (.if_icmp .ne 16, 3) := by decide +kernel
theorem dX0_pairPrice_74 : decode cX0_pairPrice 74 = .ok (.iload 5, 2) := by decide +kernel
theorem dX0_pairPrice_76 : decode cX0_pairPrice 76 = .ok (.ifCond .ne 8, 3) := by decide +kernel
theorem dX0_pairPrice_79 : decode cX0_pairPrice 79 = .ok (.iload 6, 2) := by decide +kernel
theorem dX0_pairPrice_81 : decode cX0_pairPrice 81 = .ok (.ifCond .eq 6, 3) := by decide +kernel
theorem dX0_pairPrice_84 : decode cX0_pairPrice 84 = .ok (.ldc 84, 2) := by decide +kernel
theorem dX0_pairPrice_86 : decode cX0_pairPrice 86 = .ok (.ireturn, 1) := by decide +kernel
theorem dX0_pairPrice_87 : decode cX0_pairPrice 87 = .ok (.iload 5, 2) := by decide +kernel
theorem dX0_pairPrice_89 : decode cX0_pairPrice 89 = .ok (.ifCond .eq 10, 3) := by decide +kernel
theorem dX0_pairPrice_92 : decode cX0_pairPrice 92 = .ok (.aload 4, 2) := by decide +kernel
theorem dX0_pairPrice_94 : decode cX0_pairPrice 94 = .ok (.iconst 0, 1) := by decide +kernel
theorem dX0_pairPrice_95 : decode cX0_pairPrice 95 = .ok (.iaload, 1) := by decide +kernel
theorem dX0_pairPrice_96 : decode cX0_pairPrice 96 = .ok (.goto 4, 3) := by decide +kernel
theorem dX0_pairPrice_99 : decode cX0_pairPrice 99 = .ok (.iconst 0, 1) := by decide +kernel
theorem dX0_pairPrice_100 : decode cX0_pairPrice 100 = .ok (.iload 6, 2) := by decide +kernel
theorem dX0_pairPrice_102 : decode cX0_pairPrice 102 = .ok (.ifCond .eq 10, 3) := by decide +kernel
theorem dX0_pairPrice_105 : decode cX0_pairPrice 105 = .ok (.aload 4, 2) := by decide +kernel
theorem dX0_pairPrice_107 : decode cX0_pairPrice 107 = .ok (.iconst 1, 1) := by decide +kernel
theorem dX0_pairPrice_108 : decode cX0_pairPrice 108 = .ok (.iaload, 1) := by decide +kernel
theorem dX0_pairPrice_109 : decode cX0_pairPrice 109 = .ok (.goto 4, 3) := by decide +kernel
theorem dX0_pairPrice_112 : decode cX0_pairPrice 112 = .ok (.iconst 0, 1) := by decide +kernel
theorem dX0_pairPrice_113 : decode cX0_pairPrice 113 = .ok (.iadd, 1) := by decide +kernel
theorem dX0_pairPrice_114 : decode cX0_pairPrice 114 = .ok (.ireturn, 1) := by decide +kernel
theorem dX0_fillForests_0 : decode cX0_fillForests 0 = .ok (.aload_n 0, 1) := by decide +kernel
theorem dX0_fillForests_1 : decode cX0_fillForests 1 = .ok (.getfield 12, 3) := by decide +kernel
theorem dX0_fillForests_4 : decode cX0_fillForests 4 = .ok (.getfield 85, 3) := by decide +kernel
theorem dX0_fillForests_7 : decode cX0_fillForests 7 = .ok (.iload_n 1, 1) := by decide +kernel
theorem dX0_fillForests_8 : decode cX0_fillForests 8 = .ok (.iaload, 1) := by decide +kernel
theorem dX0_fillForests_9 : decode cX0_fillForests 9 = .ok (.iconst 1, 1) := by decide +kernel
theorem dX0_fillForests_10 : decode cX0_fillForests 10 = .ok (.isub, 1) := by decide +kernel
theorem dX0_fillForests_11 : decode cX0_fillForests 11 = .ok (.istore_n 3, 1) := by decide +kernel
theorem dX0_fillForests_12 : decode cX0_fillForests 12 = .ok (.aload_n 0, 1) := by decide +kernel
theorem dX0_fillForests_13 : decode cX0_fillForests 13 = .ok (.getfield 18, 3) := by decide +kernel
theorem dX0_fillForests_16 : decode cX0_fillForests 16 = .ok (.getfield 85, 3) := by decide +kernel
theorem dX0_fillForests_19 : decode cX0_fillForests 19 = .ok (.iload_n 2, 1) := by decide +kernel
theorem dX0_fillForests_20 : decode cX0_fillForests 20 = .ok (.iaload, 1) := by decide +kernel
theorem dX0_fillForests_21 : decode cX0_fillForests 21 = .ok (.iconst 1, 1) := by decide +kernel
theorem dX0_fillForests_22 : decode cX0_fillForests 22 = .ok (.isub, 1) := by decide +kernel
theorem dX0_fillForests_23 : decode cX0_fillForests 23 = .ok (.istore 4, 2) := by decide +kernel
theorem dX0_fillForests_25 : decode cX0_fillForests 25 = .ok (.aload_n 0, 1) := by decide +kernel
theorem dX0_fillForests_26 : decode cX0_fillForests 26 = .ok (.getfield 30, 3) := by decide +kernel
theorem dX0_fillForests_29 : decode cX0_fillForests 29 = .ok (.iload_n 3, 1) := by decide +kernel
theorem dX0_fillForests_30 : decode cX0_fillForests 30 = .ok (.aaload, 1) := by decide +kernel
theorem dX0_fillForests_31 : decode cX0_fillForests 31 = .ok (.iload 4, 2) := by decide +kernel
theorem dX0_fillForests_33 : decode cX0_fillForests 33 = .ok (.iconst 0, 1) := by decide +kernel
theorem dX0_fillForests_34 : decode cX0_fillForests 34 = .ok (.iastore, 1) := by decide +kernel
theorem dX0_fillForests_35 : decode cX0_fillForests 35 = .ok (.iload 4, 2) := by decide +kernel
theorem dX0_fillForests_37 : decode cX0_fillForests 37 = .ok (.iconst 1, 1) := by decide +kernel
theorem dX0_fillForests_38 : decode cX0_fillForests 38 = .ok (.iadd, 1) := by decide +kernel
theorem dX0_fillForests_39 : decode cX0_fillForests 39 = .ok (.istore 5, 2) := by decide +kernel
theorem dX0_fillForests_41 : decode cX0_fillForests 41 = .ok (.iload 5, 2) := by decide +kernel
theorem dX0_fillForests_43 : decode cX0_fillForests 43 = .ok (.iload_n 2, 1) := by decide +kernel
theorem dX0_fillForests_44 : decode cX0_fillForests 44 = .ok (.if_icmp .gt 34, 3) := by decide +kernel
theorem dX0_fillForests_47 : decode cX0_fillForests 47 = .ok (.aload_n 0, 1) := by decide +kernel
theorem dX0_fillForests_48 : decode cX0_fillForests 48 = .ok (.getfield 30, 3) := by decide +kernel
theorem dX0_fillForests_51 : decode cX0_fillForests 51 = .ok (.iload_n 3, 1) := by decide +kernel
theorem dX0_fillForests_52 : decode cX0_fillForests 52 = .ok (.aaload, 1) := by decide +kernel
theorem dX0_fillForests_53 : decode cX0_fillForests 53 = .ok (.iload 5, 2) := by decide +kernel
theorem dX0_fillForests_55 : decode cX0_fillForests 55 = .ok (.aload_n 0, 1) := by decide +kernel
theorem dX0_fillForests_56 : decode cX0_fillForests 56 = .ok (.getfield 30, 3) := by decide +kernel
theorem dX0_fillForests_59 : decode cX0_fillForests 59 = .ok (.iload_n 3, 1) := by decide +kernel
theorem dX0_fillForests_60 : decode cX0_fillForests 60 = .ok (.aaload, 1) := by decide +kernel
theorem dX0_fillForests_61 : decode cX0_fillForests 61 = .ok (.iload 5, 2) := by decide +kernel
theorem dX0_fillForests_63 : decode cX0_fillForests 63 = .ok (.iconst 1, 1) := by decide +kernel
theorem dX0_fillForests_64 : decode cX0_fillForests 64 = .ok (.isub, 1) := by decide +kernel
theorem dX0_fillForests_65 : decode cX0_fillForests 65 = .ok (.iaload, 1) := by decide +kernel
theorem dX0_fillForests_66 : decode cX0_fillForests 66 = .ok (.aload_n 0, 1) := by decide +kernel
theorem dX0_fillForests_67 : decode cX0_fillForests 67 = .ok (.getfield 47, 3) := by decide +kernel
theorem dX0_fillForests_70 : decode cX0_fillForests 70 = .ok (.iadd, 1) := by decide +kernel
theorem dX0_fillForests_71 : decode cX0_fillForests 71 = .ok (.iastore, 1) := by decide +kernel
theorem dX0_fillForests_72 : decode cX0_fillForests 72 = .ok (.iinc 5 1, 3) := by decide +kernel
theorem dX0_fillForests_75 : decode cX0_fillForests 75 = .ok (.goto (-34), 3) := by decide +kernel
theorem dX0_fillForests_78 : decode cX0_fillForests 78 = .ok (.iload_n 3, 1) := by decide +kernel
theorem dX0_fillForests_79 : decode cX0_fillForests 79 = .ok (.iconst 1, 1) := by decide +kernel
theorem dX0_fillForests_80 : decode cX0_fillForests 80 = .ok (.iadd, 1) := by decide +kernel
theorem dX0_fillForests_81 : decode cX0_fillForests 81 = .ok (.istore 5, 2) := by decide +kernel
theorem dX0_fillForests_83 : decode cX0_fillForests 83 = .ok (.iload 5, 2) := by decide +kernel
theorem dX0_fillForests_85 : decode cX0_fillForests 85 = .ok (.iload_n 1, 1) := by decide +kernel
theorem dX0_fillForests_86 : decode cX0_fillForests 86 = .ok (.if_icmp .gt 76, 3) := by decide +kernel
theorem dX0_fillForests_89 : decode cX0_fillForests 89 = .ok (.aload_n 0, 1) := by decide +kernel
theorem dX0_fillForests_90 : decode cX0_fillForests 90 = .ok (.getfield 30, 3) := by decide +kernel
theorem dX0_fillForests_93 : decode cX0_fillForests 93 = .ok (.iload 5, 2) := by decide +kernel
theorem dX0_fillForests_95 : decode cX0_fillForests 95 = .ok (.aaload, 1) := by decide +kernel
theorem dX0_fillForests_96 : decode cX0_fillForests 96 = .ok (.iload 4, 2) := by decide +kernel
theorem dX0_fillForests_98 : decode cX0_fillForests 98 = .ok (.aload_n 0, 1) := by decide +kernel
theorem dX0_fillForests_99 : decode cX0_fillForests 99 = .ok (.getfield 30, 3) := by decide +kernel
theorem dX0_fillForests_102 : decode cX0_fillForests 102 = .ok (.iload 5, 2) := by decide +kernel
theorem dX0_fillForests_104 : decode cX0_fillForests 104 = .ok (.iconst 1, 1) := by decide +kernel
theorem dX0_fillForests_105 : decode cX0_fillForests 105 = .ok (.isub, 1) := by decide +kernel
theorem dX0_fillForests_106 : decode cX0_fillForests 106 = .ok (.aaload, 1) := by decide +kernel
theorem dX0_fillForests_107 : decode cX0_fillForests 107 = .ok (.iload 4, 2) := by decide +kernel
theorem dX0_fillForests_109 : decode cX0_fillForests 109 = .ok (.iaload, 1) := by decide +kernel
theorem dX0_fillForests_110 : decode cX0_fillForests 110 = .ok (.aload_n 0, 1) := by decide +kernel
theorem dX0_fillForests_111 : decode cX0_fillForests 111 = .ok (.getfield 43, 3) := by decide +kernel
theorem dX0_fillForests_114 : decode cX0_fillForests 114 = .ok (.iadd, 1) := by decide +kernel
theorem dX0_fillForests_115 : decode cX0_fillForests 115 = .ok (.iastore, 1) := by decide +kernel
theorem dX0_fillForests_116 : decode cX0_fillForests 116 = .ok (.aload_n 0, 1) := by decide +kernel
theorem dX0_fillForests_117 : decode cX0_fillForests 117 = .ok (.getfield 12, 3) := by decide +kernel
theorem dX0_fillForests_120 : decode cX0_fillForests 120 = .ok (.getfield 85, 3) := by decide +kernel
theorem dX0_fillForests_123 : decode cX0_fillForests 123 = .ok (.iload 5, 2) := by decide +kernel
theorem dX0_fillForests_125 : decode cX0_fillForests 125 = .ok (.iaload, 1) := by decide +kernel
theorem dX0_fillForests_126 : decode cX0_fillForests 126 = .ok (.aload_n 0, 1) := by decide +kernel
theorem dX0_fillForests_127 : decode cX0_fillForests 127 = .ok (.getfield 12, 3) := by decide +kernel
theorem dX0_fillForests_130 : decode cX0_fillForests 130 = .ok (.getfield 85, 3) := by decide +kernel
theorem dX0_fillForests_133 : decode cX0_fillForests 133 = .ok (.iload_n 1, 1) := by decide +kernel
theorem dX0_fillForests_134 : decode cX0_fillForests 134 = .ok (.iaload, 1) := by decide +kernel
theorem dX0_fillForests_135 : decode cX0_fillForests 135 = .ok (.if_icmp .ne 12, 3) := by decide +kernel
theorem dX0_fillForests_138 : decode cX0_fillForests 138 = .ok (.aload_n 0, 1) := by decide +kernel
theorem dX0_fillForests_139 : decode cX0_fillForests 139 = .ok (.iload 5, 2) := by decide +kernel
theorem dX0_fillForests_141 : decode cX0_fillForests 141 = .ok (.iload_n 2, 1) := by decide +kernel
theorem dX0_fillForests_142 : decode cX0_fillForests 142 = .ok (.iload 4, 2) := by decide +kernel
theorem dX0_fillForests_144 : decode cX0_fillForests 144 = .ok (.invokevirtual 88, 3) := by decide +kernel
theorem dX0_fillForests_147 : decode cX0_fillForests 147 = .ok (.aload_n 0, 1) := by decide +kernel
theorem dX0_fillForests_148 : decode cX0_fillForests 148 = .ok (.iload 5, 2) := by decide +kernel
theorem dX0_fillForests_150 : decode cX0_fillForests 150 = .ok (.iload_n 2, 1) := by decide +kernel
theorem dX0_fillForests_151 : decode cX0_fillForests 151 = .ok (.iload 4, 2) := by decide +kernel
theorem dX0_fillForests_153 : decode cX0_fillForests 153 = .ok (.invokevirtual 92, 3) := by decide +kernel
theorem dX0_fillForests_156 : decode cX0_fillForests 156 = .ok (.iinc 5 1, 3) := by decide +kernel
theorem dX0_fillForests_159 : decode cX0_fillForests 159 = .ok (.goto (-76), 3) := by decide +kernel
theorem dX0_fillForests_162 : decode cX0_fillForests 162 = .ok (.return_, 1) := by decide +kernel
theorem dX0_keepUnder_0 : decode cX0_keepUnder 0 = .ok (.iload_n 3, 1) := by decide +kernel
theorem dX0_keepUnder_1 : decode cX0_keepUnder 1 = .ok (.iconst 1, 1) := by decide +kernel
theorem dX0_keepUnder_2 : decode cX0_keepUnder 2 = .ok (.iadd, 1) := by decide +kernel
theorem dX0_keepUnder_3 : decode cX0_keepUnder 3 = .ok (.istore 4, 2) := by decide +kernel
theorem dX0_keepUnder_5 : decode cX0_keepUnder 5 = .ok (.iload 4, 2) := by decide +kernel
theorem dX0_keepUnder_7 : decode cX0_keepUnder 7 = .ok (.iload_n 2, 1) := by decide +kernel
theorem dX0_keepUnder_8 : decode cX0_keepUnder 8 = .ok (.if_icmp .gt 53, 3) := by decide +kernel
theorem dX0_keepUnder_11 : decode cX0_keepUnder 11 = .ok (.aload_n 0, 1) := by decide +kernel
theorem dX0_keepUnder_12 : decode cX0_keepUnder 12 = .ok (.getfield 18, 3) := by decide +kernel
theorem dX0_keepUnder_15 : decode cX0_keepUnder 15 = .ok (.getfield 85, 3) := by decide +kernel
theorem dX0_keepUnder_18 : decode cX0_keepUnder 18 = .ok (.iload 4, 2) := by decide +kernel
theorem dX0_keepUnder_20 : decode cX0_keepUnder 20 = .ok (.iaload, 1) := by decide +kernel
theorem dX0_keepUnder_21 : decode cX0_keepUnder 21 = .ok (.aload_n 0, 1) := by decide +kernel
theorem dX0_keepUnder_22 : decode cX0_keepUnder 22 = .ok (.getfield 18, 3) := by decide +kernel
theorem dX0_keepUnder_25 : decode cX0_keepUnder 25 = .ok (.getfield 85, 3) := by decide +kernel
theorem dX0_keepUnder_28 : decode cX0_keepUnder 28 = .ok (.iload_n 2, 1) := by decide +kernel
theorem dX0_keepUnder_29 : decode cX0_keepUnder 29 = .ok (.iaload, 1) := by decide +kernel
theorem dX0_keepUnder_30 : decode cX0_keepUnder 30 = .ok (.if_icmp .ne 25, 3) := by decide +kernel
theorem dX0_keepUnder_33 : decode cX0_keepUnder 33 = .ok (.aload_n 0, 1) := by decide +kernel
theorem dX0_keepUnder_34 : decode cX0_keepUnder 34 = .ok (.getfield 33, 3) := by decide +kernel
theorem dX0_keepUnder_37 : decode cX0_keepUnder 37 = .ok (.iload_n 1, 1) := by decide +kernel
theorem dX0_keepUnder_38 : decode cX0_keepUnder 38 = .ok (.aaload, 1) := by decide +kernel
theorem dX0_keepUnder_39 : decode cX0_keepUnder 39 = .ok (.iload 4, 2) := by decide +kernel
theorem dX0_keepUnder_41 : decode cX0_keepUnder 41 = .ok (.aload_n 0, 1) := by decide +kernel
theorem dX0_keepUnder_42 : decode cX0_keepUnder 42 = .ok (.getfield 30, 3) := by decide +kernel
theorem dX0_keepUnder_45 : decode cX0_keepUnder 45 = .ok (.iload_n 1, 1) := by decide +kernel
theorem dX0_keepUnder_46 : decode cX0_keepUnder 46 = .ok (.iconst 1, 1) := by decide +kernel
theorem dX0_keepUnder_47 : decode cX0_keepUnder 47 = .ok (.isub, 1) := by decide +kernel
theorem dX0_keepUnder_48 : decode cX0_keepUnder 48 = .ok (.aaload, 1) := by decide +kernel
theorem dX0_keepUnder_49 : decode cX0_keepUnder 49 = .ok (.iload 4, 2) := by decide +kernel
theorem dX0_keepUnder_51 : decode cX0_keepUnder 51 = .ok (.iconst 1, 1) := by decide +kernel
theorem dX0_keepUnder_52 : decode cX0_keepUnder 52 = .ok (.isub, 1) := by decide +kernel
theorem dX0_keepUnder_53 : decode cX0_keepUnder 53 = .ok (.iaload, 1) := by decide +kernel
theorem dX0_keepUnder_54 : decode cX0_keepUnder 54 = .ok (.iastore, 1) := by decide +kernel
theorem dX0_keepUnder_55 : decode cX0_keepUnder 55 = .ok (.iinc 4 1, 3) := by decide +kernel
theorem dX0_keepUnder_58 : decode cX0_keepUnder 58 = .ok (.goto (-53), 3) := by decide +kernel
theorem dX0_keepUnder_61 : decode cX0_keepUnder 61 = .ok (.return_, 1) := by decide +kernel
theorem dX0_fillLine_0 : decode cX0_fillLine 0 = .ok (.aload_n 0, 1) := by decide +kernel
theorem dX0_fillLine_1 : decode cX0_fillLine 1 = .ok (.getfield 30, 3) := by decide +kernel
theorem dX0_fillLine_4 : decode cX0_fillLine 4 = .ok (.iload_n 1, 1) := by decide +kernel
theorem dX0_fillLine_5 : decode cX0_fillLine 5 = .ok (.aaload, 1) := by decide +kernel
theorem dX0_fillLine_6 : decode cX0_fillLine 6 = .ok (.astore 4, 2) := by decide +kernel
theorem dX0_fillLine_8 : decode cX0_fillLine 8 = .ok (.aload_n 0, 1) := by decide +kernel
theorem dX0_fillLine_9 : decode cX0_fillLine 9 = .ok (.getfield 30, 3) := by decide +kernel
theorem dX0_fillLine_12 : decode cX0_fillLine 12 = .ok (.iload_n 1, 1) := by decide +kernel
theorem dX0_fillLine_13 : decode cX0_fillLine 13 = .ok (.iconst 1, 1) := by decide +kernel
theorem dX0_fillLine_14 : decode cX0_fillLine 14 = .ok (.isub, 1) := by decide +kernel
theorem dX0_fillLine_15 : decode cX0_fillLine 15 = .ok (.aaload, 1) := by decide +kernel
theorem dX0_fillLine_16 : decode cX0_fillLine 16 = .ok (.astore 5, 2) := by decide +kernel
theorem dX0_fillLine_18 : decode cX0_fillLine 18 = .ok (.aload_n 0, 1) := by decide +kernel
theorem dX0_fillLine_19 : decode cX0_fillLine 19 = .ok (.getfield 30, 3) := by decide +kernel
theorem dX0_fillLine_22 : decode cX0_fillLine 22 = .ok (.aload_n 0, 1) := by decide +kernel
theorem dX0_fillLine_23 : decode cX0_fillLine 23 = .ok (.getfield 12, 3) := by decide +kernel
theorem dX0_fillLine_26 : decode cX0_fillLine 26 = .ok (.getfield 85, 3) := by decide +kernel
theorem dX0_fillLine_29 : decode cX0_fillLine 29 = .ok (.iload_n 1, 1) := by decide +kernel
theorem dX0_fillLine_30 : decode cX0_fillLine 30 = .ok (.iaload, 1) := by decide +kernel
theorem dX0_fillLine_31 : decode cX0_fillLine 31 = .ok (.iconst 1, 1) := by decide +kernel
theorem dX0_fillLine_32 : decode cX0_fillLine 32 = .ok (.isub, 1) := by decide +kernel
theorem dX0_fillLine_33 : decode cX0_fillLine 33 = .ok (.aaload, 1) := by decide +kernel
theorem dX0_fillLine_34 : decode cX0_fillLine 34 = .ok (.astore 6, 2) := by decide +kernel
theorem dX0_fillLine_36 : decode cX0_fillLine 36 = .ok (.aload_n 0, 1) := by decide +kernel
theorem dX0_fillLine_37 : decode cX0_fillLine 37 = .ok (.getfield 33, 3) := by decide +kernel
theorem dX0_fillLine_40 : decode cX0_fillLine 40 = .ok (.iload_n 1, 1) := by decide +kernel
theorem dX0_fillLine_41 : decode cX0_fillLine 41 = .ok (.aaload, 1) := by decide +kernel
theorem dX0_fillLine_42 : decode cX0_fillLine 42 = .ok (.astore 7, 2) := by decide +kernel
theorem dX0_fillLine_44 : decode cX0_fillLine 44 = .ok (.aload_n 0, 1) := by decide +kernel
theorem dX0_fillLine_45 : decode cX0_fillLine 45 = .ok (.getfield 36, 3) := by decide +kernel
theorem dX0_fillLine_48 : decode cX0_fillLine 48 = .ok (.iload_n 1, 1) := by decide +kernel
theorem dX0_fillLine_49 : decode cX0_fillLine 49 = .ok (.aaload, 1) := by decide +kernel
theorem dX0_fillLine_50 : decode cX0_fillLine 50 = .ok (.astore 8, 2) := by decide +kernel
theorem dX0_fillLine_52 : decode cX0_fillLine 52 = .ok (.aload_n 0, 1) := by decide +kernel
theorem dX0_fillLine_53 : decode cX0_fillLine 53 = .ok (.getfield 18, 3) := by decide +kernel
theorem dX0_fillLine_56 : decode cX0_fillLine 56 = .ok (.getfield 85, 3) := by decide +kernel
theorem dX0_fillLine_59 : decode cX0_fillLine 59 = .ok (.astore 9, 2) := by decide +kernel
theorem dX0_fillLine_61 : decode cX0_fillLine 61 = .ok (.iload_n 3, 1) := by decide +kernel
theorem dX0_fillLine_62 : decode cX0_fillLine 62 = .ok (.iconst 1, 1) := by decide +kernel
theorem dX0_fillLine_63 : decode cX0_fillLine 63 = .ok (.iadd, 1) := by decide +kernel
theorem dX0_fillLine_64 : decode cX0_fillLine 64 = .ok (.istore 10, 2) := by decide +kernel
theorem dX0_fillLine_66 : decode cX0_fillLine 66 = .ok (.iload 10, 2) := by decide +kernel
theorem dX0_fillLine_68 : decode cX0_fillLine 68 = .ok (.iload_n 2, 1) := by decide +kernel
theorem dX0_fillLine_69 : decode cX0_fillLine 69 = .ok (.if_icmp .gt 72, 3) := by decide +kernel
theorem dX0_fillLine_72 : decode cX0_fillLine 72 = .ok (.aload 6, 2) := by decide +kernel
theorem dX0_fillLine_74 : decode cX0_fillLine 74 = .ok (.aload 9, 2) := by decide +kernel
theorem dX0_fillLine_76 : decode cX0_fillLine 76 = .ok (.iload 10, 2) := by decide +kernel
theorem dX0_fillLine_78 : decode cX0_fillLine 78 = .ok (.iaload, 1) := by decide +kernel
theorem dX0_fillLine_79 : decode cX0_fillLine 79 = .ok (.iconst 1, 1) := by decide +kernel
theorem dX0_fillLine_80 : decode cX0_fillLine 80 = .ok (.isub, 1) := by decide +kernel
theorem dX0_fillLine_81 : decode cX0_fillLine 81 = .ok (.iaload, 1) := by decide +kernel
theorem dX0_fillLine_82 : decode cX0_fillLine 82 = .ok (.aload 7, 2) := by decide +kernel
theorem dX0_fillLine_84 : decode cX0_fillLine 84 = .ok (.iload 10, 2) := by decide +kernel
theorem dX0_fillLine_86 : decode cX0_fillLine 86 = .ok (.iaload, 1) := by decide +kernel
theorem dX0_fillLine_87 : decode cX0_fillLine 87 = .ok (.iadd, 1) := by decide +kernel
theorem dX0_fillLine_88 : decode cX0_fillLine 88 = .ok (.aload 8, 2) := by decide +kernel
theorem dX0_fillLine_90 : decode cX0_fillLine 90 = .ok (.iload 10, 2) := by decide +kernel
theorem dX0_fillLine_92 : decode cX0_fillLine 92 = .ok (.iaload, 1) := by decide +kernel
theorem dX0_fillLine_93 : decode cX0_fillLine 93 = .ok (.iadd, 1) := by decide +kernel
theorem dX0_fillLine_94 : decode cX0_fillLine 94 = .ok (.istore 11, 2) := by decide +kernel
theorem dX0_fillLine_96 : decode cX0_fillLine 96 = .ok (.aload 5, 2) := by decide +kernel
theorem dX0_fillLine_98 : decode cX0_fillLine 98 = .ok (.iload 10, 2) := by decide +kernel
theorem dX0_fillLine_100 : decode cX0_fillLine 100 = .ok (.iaload, 1) := by decide +kernel
theorem dX0_fillLine_101 : decode cX0_fillLine 101 = .ok (.aload_n 0, 1) := by decide +kernel
theorem dX0_fillLine_102 : decode cX0_fillLine 102 = .ok (.getfield 43, 3) := by decide +kernel
theorem dX0_fillLine_105 : decode cX0_fillLine 105 = .ok (.iadd, 1) := by decide +kernel
theorem dX0_fillLine_106 : decode cX0_fillLine 106 = .ok (.aload 4, 2) := by decide +kernel
theorem dX0_fillLine_108 : decode cX0_fillLine 108 = .ok (.iload 10, 2) := by decide +kernel
theorem dX0_fillLine_110 : decode cX0_fillLine 110 = .ok (.iconst 1, 1) := by decide +kernel
theorem dX0_fillLine_111 : decode cX0_fillLine 111 = .ok (.isub, 1) := by decide +kernel
theorem dX0_fillLine_112 : decode cX0_fillLine 112 = .ok (.iaload, 1) := by decide +kernel
theorem dX0_fillLine_113 : decode cX0_fillLine 113 = .ok (.aload_n 0, 1) := by decide +kernel
theorem dX0_fillLine_114 : decode cX0_fillLine 114 = .ok (.getfield 47, 3) := by decide +kernel
theorem dX0_fillLine_117 : decode cX0_fillLine 117 = .ok (.iadd, 1) := by decide +kernel
theorem dX0_fillLine_118 : decode cX0_fillLine 118 = .ok (.invokestatic 95, 3) := by decide +kernel
theorem dX0_fillLine_121 : decode cX0_fillLine 121 = .ok (.istore 12, 2) := by decide +kernel
theorem dX0_fillLine_123 : decode cX0_fillLine 123 = .ok (.aload 4, 2) := by decide +kernel
theorem dX0_fillLine_125 : decode cX0_fillLine 125 = .ok (.iload 10, 2) := by decide +kernel
theorem dX0_fillLine_127 : decode cX0_fillLine 127 = .ok (.iload 11, 2) := by decide +kernel
theorem dX0_fillLine_129 : decode cX0_fillLine 129 = .ok (.iload 12, 2) := by decide +kernel
theorem dX0_fillLine_131 : decode cX0_fillLine 131 = .ok (.invokestatic 95, 3) := by decide +kernel
theorem dX0_fillLine_134 : decode cX0_fillLine 134 = .ok (.iastore, 1) := by decide +kernel
theorem dX0_fillLine_135 : decode cX0_fillLine 135 = .ok (.iinc 10 1, 3) := by decide +kernel
theorem dX0_fillLine_138 : decode cX0_fillLine 138 = .ok (.goto (-72), 3) := by decide +kernel
theorem dX0_fillLine_141 : decode cX0_fillLine 141 = .ok (.return_, 1) := by decide +kernel
theorem dX0_costOfPairing_0 : decode cX0_costOfPairing 0 = .ok (.aload_n 0, 1) := by decide +kernel
theorem dX0_costOfPairing_1 : decode cX0_costOfPairing 1 = .ok (.getfield 30, 3) := by decide +kernel
theorem dX0_costOfPairing_4 : decode cX0_costOfPairing 4 = .ok (.aload_n 0, 1) := by decide +kernel
theorem dX0_costOfPairing_5 : decode cX0_costOfPairing 5 = .ok (.getfield 12, 3) := by decide +kernel
theorem dX0_costOfPairing_8 : decode cX0_costOfPairing 8 = .ok (.getfield 85, 3) := by decide +kernel
theorem dX0_costOfPairing_11 : decode cX0_costOfPairing 11 = .ok (.iload_n 1, 1) := by decide +kernel
theorem dX0_costOfPairing_12 : decode cX0_costOfPairing 12 = .ok (.iaload, 1) := by decide +kernel
theorem dX0_costOfPairing_13 : decode cX0_costOfPairing 13 = .ok (.iconst 1, 1) := by decide +kernel
theorem dX0_costOfPairing_14 : decode cX0_costOfPairing 14 = .ok (.isub, 1) := by decide +kernel
theorem dX0_costOfPairing_15 : decode cX0_costOfPairing 15 = .ok (.aaload, 1) := by decide +kernel
theorem dX0_costOfPairing_16 : decode cX0_costOfPairing 16 = .ok (.aload_n 0, 1) := by decide +kernel
theorem dX0_costOfPairing_17 : decode cX0_costOfPairing 17 = .ok (.getfield 18, 3) := by decide +kernel
theorem dX0_costOfPairing_20 : decode cX0_costOfPairing 20 = .ok (.getfield 85, 3) := by decide +kernel
theorem dX0_costOfPairing_23 : decode cX0_costOfPairing 23 = .ok (.iload_n 2, 1) := by decide +kernel
theorem dX0_costOfPairing_24 : decode cX0_costOfPairing 24 = .ok (.iaload, 1) := by decide +kernel
theorem dX0_costOfPairing_25 : decode cX0_costOfPairing 25 = .ok (.iconst 1, 1) := by decide +kernel
theorem dX0_costOfPairing_26 : decode cX0_costOfPairing 26 = .ok (.isub, 1) := by decide +kernel
theorem dX0_costOfPairing_27 : decode cX0_costOfPairing 27 = .ok (.iaload, 1) := by decide +kernel
theorem dX0_costOfPairing_28 : decode cX0_costOfPairing 28 = .ok (.aload_n 0, 1) := by decide +kernel
theorem dX0_costOfPairing_29 : decode cX0_costOfPairing 29 = .ok (.getfield 33, 3) := by decide +kernel
theorem dX0_costOfPairing_32 : decode cX0_costOfPairing 32 = .ok (.iload_n 1, 1) := by decide +kernel
theorem dX0_costOfPairing_33 : decode cX0_costOfPairing 33 = .ok (.aaload, 1) := by decide +kernel
theorem dX0_costOfPairing_34 : decode cX0_costOfPairing 34 = .ok (.iload_n 2, 1) := by decide +kernel
theorem dX0_costOfPairing_35 : decode cX0_costOfPairing 35 = .ok (.iaload, 1) := by decide +kernel
theorem dX0_costOfPairing_36 : decode cX0_costOfPairing 36 = .ok (.iadd, 1) := by decide +kernel
theorem dX0_costOfPairing_37 : decode cX0_costOfPairing 37 = .ok (.aload_n 0, 1) := by decide +kernel
theorem dX0_costOfPairing_38 : decode cX0_costOfPairing 38 = .ok (.getfield 36, 3) := by decide +kernel
theorem dX0_costOfPairing_41 : decode cX0_costOfPairing 41 = .ok (.iload_n 1, 1) := by decide +kernel
theorem dX0_costOfPairing_42 : decode cX0_costOfPairing 42 = .ok (.aaload, 1) := by decide +kernel
theorem dX0_costOfPairing_43 : decode cX0_costOfPairing 43 = .ok (.iload_n 2, 1) := by decide +kernel
theorem dX0_costOfPairing_44 : decode cX0_costOfPairing 44 = .ok (.iaload, 1) := by decide +kernel
theorem dX0_costOfPairing_45 : decode cX0_costOfPairing 45 = .ok (.iadd, 1) := by decide +kernel
theorem dX0_costOfPairing_46 : decode cX0_costOfPairing 46 = .ok (.ireturn, 1) := by decide +kernel
theorem dX0_choosePairs_0 : decode cX0_choosePairs 0 = .ok (.aload_n 0, 1) := by decide +kernel
theorem dX0_choosePairs_1 : decode cX0_choosePairs 1 = .ok (.iconst 0, 1) := by decide +kernel
theorem dX0_choosePairs_2 : decode cX0_choosePairs 2 = .ok (.putfield 101, 3) := by decide +kernel
theorem dX0_choosePairs_5 : decode cX0_choosePairs 5 = .ok (.aload_n 0, 1) := by decide +kernel
theorem dX0_choosePairs_6 : decode cX0_choosePairs 6 = .ok (.aload_n 0, 1) := by decide +kernel
theorem dX0_choosePairs_7 : decode cX0_choosePairs 7 = .ok (.getfield 12, 3) := by decide +kernel
theorem dX0_choosePairs_10 : decode cX0_choosePairs 10 = .ok (.getfield 54, 3) := by decide +kernel
theorem dX0_choosePairs_13 : decode cX0_choosePairs 13 = .ok (.aload_n 0, 1) := by decide +kernel
theorem dX0_choosePairs_14 : decode cX0_choosePairs 14 = .ok (.getfield 18, 3) := by decide +kernel
theorem dX0_choosePairs_17 : decode cX0_choosePairs 17 = .ok (.getfield 54, 3) := by decide +kernel
theorem dX0_choosePairs_20 : decode cX0_choosePairs 20 = .ok (.iconst 0, 1) := by decide +kernel
theorem dX0_choosePairs_21 : decode cX0_choosePairs 21 = .ok (.iconst 0, 1) := by decide +kernel
theorem dX0_choosePairs_22 : decode cX0_choosePairs 22 = .ok (.invokevirtual 104, 3) := by decide +kernel
theorem dX0_choosePairs_25 : decode cX0_choosePairs 25 = .ok (.iconst 0, 1) := by decide +kernel
theorem dX0_choosePairs_26 : decode cX0_choosePairs 26 = .ok (.istore_n 1, 1) := by decide +kernel
theorem dX0_choosePairs_27 : decode cX0_choosePairs 27 = .ok (.iload_n 1, 1) := by decide +kernel
theorem dX0_choosePairs_28 : decode cX0_choosePairs 28 = .ok (.aload_n 0, 1) := by decide +kernel
theorem dX0_choosePairs_29 : decode cX0_choosePairs 29 = .ok (.getfield 101, 3) := by decide +kernel
theorem dX0_choosePairs_32 : decode cX0_choosePairs 32 = .ok (.if_icmp .ge 93, 3) := by decide +kernel
theorem dX0_choosePairs_35 : decode cX0_choosePairs 35 = .ok (.iload_n 1, 1) := by decide +kernel
theorem dX0_choosePairs_36 : decode cX0_choosePairs 36 = .ok (.bipush 30, 2) := by decide +kernel
theorem dX0_choosePairs_38 : decode cX0_choosePairs 38 = .ok (.if_icmp .ge 87, 3) := by decide +kernel
theorem dX0_choosePairs_41 : decode cX0_choosePairs 41 = .ok (.aload_n 0, 1) := by decide +kernel
theorem dX0_choosePairs_42 : decode cX0_choosePairs 42 = .ok (.getfield 21, 3) := by decide +kernel
theorem dX0_choosePairs_45 : decode cX0_choosePairs 45 = .ok (.iload_n 1, 1) := by decide +kernel
theorem dX0_choosePairs_46 : decode cX0_choosePairs 46 = .ok (.iaload, 1) := by decide +kernel
theorem dX0_choosePairs_47 : decode cX0_choosePairs 47 = .ok (.istore_n 2, 1) := by decide +kernel
theorem dX0_choosePairs_48 : decode cX0_choosePairs 48 = .ok (.aload_n 0, 1) := by decide +kernel
theorem dX0_choosePairs_49 : decode cX0_choosePairs 49 = .ok (.getfield 25, 3) := by decide +kernel
theorem dX0_choosePairs_52 : decode cX0_choosePairs 52 = .ok (.iload_n 1, 1) := by decide +kernel
theorem dX0_choosePairs_53 : decode cX0_choosePairs 53 = .ok (.iaload, 1) := by decide +kernel
theorem dX0_choosePairs_54 : decode cX0_choosePairs 54 = .ok (.istore_n 3, 1) := by decide +kernel
theorem dX0_choosePairs_55 : decode cX0_choosePairs 55 = .ok (.aload_n 0, 1) := by decide +kernel
theorem dX0_choosePairs_56 : decode cX0_choosePairs 56 = .ok (.getfield 12, 3) := by decide +kernel
theorem dX0_choosePairs_59 : decode cX0_choosePairs 59 = .ok (.getfield 85, 3) := by decide +kernel
theorem dX0_choosePairs_62 : decode cX0_choosePairs 62 = .ok (.iload_n 2, 1) := by decide +kernel
theorem dX0_choosePairs_63 : decode cX0_choosePairs 63 = .ok (.iaload, 1) := by decide +kernel
theorem dX0_choosePairs_64 : decode cX0_choosePairs 64 = .ok (.iload_n 2, 1) := by decide +kernel
theorem dX0_choosePairs_65 : decode cX0_choosePairs 65 = .ok (.if_icmp .ge 54, 3) := by decide +kernel
theorem dX0_choosePairs_68 : decode cX0_choosePairs 68 = .ok (.aload_n 0, 1) := by decide +kernel
theorem dX0_choosePairs_69 : decode cX0_choosePairs 69 = .ok (.getfield 18, 3) := by decide +kernel
theorem dX0_choosePairs_72 : decode cX0_choosePairs 72 = .ok (.getfield 85, 3) := by decide +kernel
theorem dX0_choosePairs_75 : decode cX0_choosePairs 75 = .ok (.iload_n 3, 1) := by decide +kernel
theorem dX0_choosePairs_76 : decode cX0_choosePairs 76 = .ok (.iaload, 1) := by decide +kernel
theorem dX0_choosePairs_77 : decode cX0_choosePairs 77 = .ok (.iload_n 3, 1) := by decide +kernel
theorem dX0_choosePairs_78 : decode cX0_choosePairs 78 = .ok (.if_icmp .ge 41, 3) := by decide +kernel
theorem dX0_choosePairs_81 : decode cX0_choosePairs 81 = .ok (.aload_n 0, 1) := by decide +kernel
theorem dX0_choosePairs_82 : decode cX0_choosePairs 82 = .ok (.iload_n 2, 1) := by decide +kernel
theorem dX0_choosePairs_83 : decode cX0_choosePairs 83 = .ok (.iload_n 3, 1) := by decide +kernel
theorem dX0_choosePairs_84 : decode cX0_choosePairs 84 = .ok (.invokevirtual 61, 3) := by decide +kernel
theorem dX0_choosePairs_87 : decode cX0_choosePairs 87 = .ok (.aload_n 0, 1) := by decide +kernel
theorem dX0_choosePairs_88 : decode cX0_choosePairs 88 = .ok (.iload_n 2, 1) := by decide +kernel
theorem dX0_choosePairs_89 : decode cX0_choosePairs 89 = .ok (.iconst 1, 1) := by decide +kernel
theorem dX0_choosePairs_90 : decode cX0_choosePairs 90 = .ok (.isub, 1) := by decide +kernel
theorem dX0_choosePairs_91 : decode cX0_choosePairs 91 = .ok (.iload_n 3, 1) := by decide +kernel
theorem dX0_choosePairs_92 : decode cX0_choosePairs 92 = .ok (.iconst 1, 1) := by decide +kernel
theorem dX0_choosePairs_93 : decode cX0_choosePairs 93 = .ok (.isub, 1) := by decide +kernel
theorem dX0_choosePairs_94 : decode cX0_choosePairs 94 = .ok (.aload_n 0, 1) := by decide +kernel
theorem dX0_choosePairs_95 : decode cX0_choosePairs 95 = .ok (.getfield 12, 3) := by decide +kernel
theorem dX0_choosePairs_98 : decode cX0_choosePairs 98 = .ok (.getfield 85, 3) := by decide +kernel
theorem dX0_choosePairs_101 : decode cX0_choosePairs 101 = .ok (.iload_n 2, 1) := by decide +kernel
theorem dX0_choosePairs_102 : decode cX0_choosePairs 102 = .ok (.iaload, 1) := by decide +kernel
theorem dX0_choosePairs_103 : decode cX0_choosePairs 103 = .ok (.iconst 1, 1) := by decide +kernel
theorem dX0_choosePairs_104 : decode cX0_choosePairs 104 = .ok (.isub, 1) := by decide +kernel
theorem dX0_choosePairs_105 : decode cX0_choosePairs 105 = .ok (.aload_n 0, 1) := by decide +kernel
theorem dX0_choosePairs_106 : decode cX0_choosePairs 106 = .ok (.getfield 18, 3) := by decide +kernel
theorem dX0_choosePairs_109 : decode cX0_choosePairs 109 = .ok (.getfield 85, 3) := by decide +kernel
theorem dX0_choosePairs_112 : decode cX0_choosePairs 112 = .ok (.iload_n 3, 1) := by decide +kernel
theorem dX0_choosePairs_113 : decode cX0_choosePairs 113 = .ok (.iaload, 1) := by decide +kernel
theorem dX0_choosePairs_114 : decode cX0_choosePairs 114 = .ok (.iconst 1, 1) := by decide +kernel
theorem dX0_choosePairs_115 : decode cX0_choosePairs 115 = .ok (.isub, 1) := by decide +kernel
theorem dX0_choosePairs_116 : decode cX0_choosePairs 116 = .ok (.invokevirtual 104, 3) := by decide +kernel
theorem dX0_choosePairs_119 : decode cX0_choosePairs 119 = .ok (.iinc 1 1, 3) := by decide +kernel
theorem dX0_choosePairs_122 : decode cX0_choosePairs 122 = .ok (.goto (-95), 3) := by decide +kernel
theorem dX0_choosePairs_125 : decode cX0_choosePairs 125 = .ok (.return_, 1) := by decide +kernel
theorem dX0_walkBack_0 : decode cX0_walkBack 0 = .ok (.iload_n 1, 1) := by decide +kernel
theorem dX0_walkBack_1 : decode cX0_walkBack 1 = .ok (.istore 5, 2) := by decide +kernel
theorem dX0_walkBack_3 : decode cX0_walkBack 3 = .ok (.iload_n 2, 1) := by decide +kernel
theorem dX0_walkBack_4 : decode cX0_walkBack 4 = .ok (.istore 6, 2) := by decide +kernel
theorem dX0_walkBack_6 : decode cX0_walkBack 6 = .ok (.iconst 0, 1) := by decide +kernel
theorem dX0_walkBack_7 : decode cX0_walkBack 7 = .ok (.istore 7, 2) := by decide +kernel
theorem dX0_walkBack_9 : decode cX0_walkBack 9 = .ok (.iload 7, 2) := by decide +kernel
theorem dX0_walkBack_11 : decode cX0_walkBack 11 = .ok (.bipush 60, 2) := by decide +kernel
theorem dX0_walkBack_13 : decode cX0_walkBack 13 = .ok (.if_icmp .ge 121, 3) := by decide +kernel
theorem dX0_walkBack_16 : decode cX0_walkBack 16 = .ok (.iload 5, 2) := by decide +kernel
theorem dX0_walkBack_18 : decode cX0_walkBack 18 = .ok (.iload_n 3, 1) := by decide +kernel
theorem dX0_walkBack_19 : decode cX0_walkBack 19 = .ok (.if_icmp .le 115, 3) := by decide +kernel
theorem dX0_walkBack_22 : decode cX0_walkBack 22 = .ok (.iload 6, 2) := by decide +kernel
theorem dX0_walkBack_24 : decode cX0_walkBack 24 = .ok (.iload 4, 2) := by decide +kernel
theorem dX0_walkBack_26 : decode cX0_walkBack 26 = .ok (.if_icmp .le 108, 3) := by decide +kernel
theorem dX0_walkBack_29 : decode cX0_walkBack 29 = .ok (.aload_n 0, 1) := by decide +kernel
theorem dX0_walkBack_30 : decode cX0_walkBack 30 = .ok (.iload 5, 2) := by decide +kernel
theorem dX0_walkBack_32 : decode cX0_walkBack 32 = .ok (.iload 6, 2) := by decide +kernel
theorem dX0_walkBack_34 : decode cX0_walkBack 34 = .ok (.invokevirtual 108, 3) := by decide +kernel
theorem dX0_walkBack_37 : decode cX0_walkBack 37 = .ok (.aload_n 0, 1) := by decide +kernel
theorem dX0_walkBack_38 : decode cX0_walkBack 38 = .ok (.getfield 30, 3) := by decide +kernel
theorem dX0_walkBack_41 : decode cX0_walkBack 41 = .ok (.iload 5, 2) := by decide +kernel
theorem dX0_walkBack_43 : decode cX0_walkBack 43 = .ok (.aaload, 1) := by decide +kernel
theorem dX0_walkBack_44 : decode cX0_walkBack 44 = .ok (.iload 6, 2) := by decide +kernel
theorem dX0_walkBack_46 : decode cX0_walkBack 46 = .ok (.iaload, 1) := by decide +kernel
theorem dX0_walkBack_47 : decode cX0_walkBack 47 = .ok (.if_icmp .ne 42, 3) := by decide +kernel
theorem dX0_walkBack_50 : decode cX0_walkBack 50 = .ok (.aload_n 0, 1) := by decide +kernel
theorem dX0_walkBack_51 : decode cX0_walkBack 51 = .ok (.iload 5, 2) := by decide +kernel
theorem dX0_walkBack_53 : decode cX0_walkBack 53 = .ok (.iload 6, 2) := by decide +kernel
theorem dX0_walkBack_55 : decode cX0_walkBack 55 = .ok (.invokevirtual 111, 3) := by decide +kernel
theorem dX0_walkBack_58 : decode cX0_walkBack 58 = .ok (.aload_n 0, 1) := by decide +kernel
theorem dX0_walkBack_59 : decode cX0_walkBack 59 = .ok (.getfield 12, 3) := by decide +kernel
theorem dX0_walkBack_62 : decode cX0_walkBack 62 = .ok (.getfield 85, 3) := by decide +kernel
theorem dX0_walkBack_65 : decode cX0_walkBack 65 = .ok (.iload 5, 2) := by decide +kernel
theorem dX0_walkBack_67 : decode cX0_walkBack 67 = .ok (.iaload, 1) := by decide +kernel
theorem dX0_walkBack_68 : decode cX0_walkBack 68 = .ok (.iconst 1, 1) := by decide +kernel
theorem dX0_walkBack_69 : decode cX0_walkBack 69 = .ok (.isub, 1) := by decide +kernel
theorem dX0_walkBack_70 : decode cX0_walkBack 70 = .ok (.istore 5, 2) := by decide +kernel
theorem dX0_walkBack_72 : decode cX0_walkBack 72 = .ok (.aload_n 0, 1) := by decide +kernel
theorem dX0_walkBack_73 : decode cX0_walkBack 73 = .ok (.getfield 18, 3) := by decide +kernel
theorem dX0_walkBack_76 : decode cX0_walkBack 76 = .ok (.getfield 85, 3) := by decide +kernel
theorem dX0_walkBack_79 : decode cX0_walkBack 79 = .ok (.iload 6, 2) := by decide +kernel
theorem dX0_walkBack_81 : decode cX0_walkBack 81 = .ok (.iaload, 1) := by decide +kernel
theorem dX0_walkBack_82 : decode cX0_walkBack 82 = .ok (.iconst 1, 1) := by decide +kernel
theorem dX0_walkBack_83 : decode cX0_walkBack 83 = .ok (.isub, 1) := by decide +kernel
theorem dX0_walkBack_84 : decode cX0_walkBack 84 = .ok (.istore 6, 2) := by decide +kernel
theorem dX0_walkBack_86 : decode cX0_walkBack 86 = .ok (.goto 42, 3) := by decide +kernel
theorem dX0_walkBack_89 : decode cX0_walkBack 89 = .ok (.aload_n 0, 1) := by decide +kernel
theorem dX0_walkBack_90 : decode cX0_walkBack 90 = .ok (.getfield 30, 3) := by decide +kernel
theorem dX0_walkBack_93 : decode cX0_walkBack 93 = .ok (.iload 5, 2) := by decide +kernel
theorem dX0_walkBack_95 : decode cX0_walkBack 95 = .ok (.iconst 1, 1) := by decide +kernel
theorem dX0_walkBack_96 : decode cX0_walkBack 96 = .ok (.isub, 1) := by decide +kernel
theorem dX0_walkBack_97 : decode cX0_walkBack 97 = .ok (.aaload, 1) := by decide +kernel
theorem dX0_walkBack_98 : decode cX0_walkBack 98 = .ok (.iload 6, 2) := by decide +kernel
theorem dX0_walkBack_100 : decode cX0_walkBack 100 = .ok (.iaload, 1) := by decide +kernel
theorem dX0_walkBack_101 : decode cX0_walkBack 101 = .ok (.aload_n 0, 1) := by decide +kernel
theorem dX0_walkBack_102 : decode cX0_walkBack 102 = .ok (.getfield 43, 3) := by decide +kernel
theorem dX0_walkBack_105 : decode cX0_walkBack 105 = .ok (.iadd, 1) := by decide +kernel
theorem dX0_walkBack_106 : decode cX0_walkBack 106 = .ok (.aload_n 0, 1) := by decide +kernel
theorem dX0_walkBack_107 : decode cX0_walkBack 107 = .ok (.getfield 30, 3) := by decide +kernel
theorem dX0_walkBack_110 : decode cX0_walkBack 110 = .ok (.iload 5, 2) := by decide +kernel
theorem dX0_walkBack_112 : decode cX0_walkBack 112 = .ok (.aaload, 1) := by decide +kernel
theorem dX0_walkBack_113 : decode cX0_walkBack 113 = .ok (.iload 6, 2) := by decide +kernel
theorem dX0_walkBack_115 : decode cX0_walkBack 115 = .ok (.iaload, 1) := by decide +kernel
theorem dX0_walkBack_116 : decode cX0_walkBack 116 = .ok (.if_icmp .ne 9, 3) := by decide +kernel
theorem dX0_walkBack_119 : decode cX0_walkBack 119 = .ok (.iinc 5 (-1), 3) := by decide +kernel
theorem dX0_walkBack_122 : decode cX0_walkBack 122 = .ok (.goto 6, 3) := by decide +kernel
theorem dX0_walkBack_125 : decode cX0_walkBack 125 = .ok (.iinc 6 (-1), 3) := by decide +kernel
theorem dX0_walkBack_128 : decode cX0_walkBack 128 = .ok (.iinc 7 1, 3) := by decide +kernel
theorem dX0_walkBack_131 : decode cX0_walkBack 131 = .ok (.goto (-122), 3) := by decide +kernel
theorem dX0_walkBack_134 : decode cX0_walkBack 134 = .ok (.return_, 1) := by decide +kernel
theorem dX0_addPair_0 : decode cX0_addPair 0 = .ok (.aload_n 0, 1) := by decide +kernel
theorem dX0_addPair_1 : decode cX0_addPair 1 = .ok (.getfield 101, 3) := by decide +kernel
theorem dX0_addPair_4 : decode cX0_addPair 4 = .ok (.bipush 30, 2) := by decide +kernel
theorem dX0_addPair_6 : decode cX0_addPair 6 = .ok (.if_icmp .ge 33, 3) := by decide +kernel
theorem dX0_addPair_9 : decode cX0_addPair 9 = .ok (.aload_n 0, 1) := by decide +kernel
theorem dX0_addPair_10 : decode cX0_addPair 10 = .ok (.getfield 21, 3) := by decide +kernel
theorem dX0_addPair_13 : decode cX0_addPair 13 = .ok (.aload_n 0, 1) := by decide +kernel
theorem dX0_addPair_14 : decode cX0_addPair 14 = .ok (.getfield 101, 3) := by decide +kernel
theorem dX0_addPair_17 : decode cX0_addPair 17 = .ok (.iload_n 1, 1) := by decide +kernel
theorem dX0_addPair_18 : decode cX0_addPair 18 = .ok (.iastore, 1) := by decide +kernel
theorem dX0_addPair_19 : decode cX0_addPair 19 = .ok (.aload_n 0, 1) := by decide +kernel
theorem dX0_addPair_20 : decode cX0_addPair 20 = .ok (.getfield 25, 3) := by decide +kernel
theorem dX0_addPair_23 : decode cX0_addPair 23 = .ok (.aload_n 0, 1) := by decide +kernel
theorem dX0_addPair_24 : decode cX0_addPair 24 = .ok (.getfield 101, 3) := by decide +kernel
theorem dX0_addPair_27 : decode cX0_addPair 27 = .ok (.iload_n 2, 1) := by decide +kernel
theorem dX0_addPair_28 : decode cX0_addPair 28 = .ok (.iastore, 1) := by decide +kernel
theorem dX0_addPair_29 : decode cX0_addPair 29 = .ok (.aload_n 0, 1) := by decide +kernel
theorem dX0_addPair_30 : decode cX0_addPair 30 = .ok (.dup, 1) := by decide +kernel
theorem dX0_addPair_31 : decode cX0_addPair 31 = .ok (.getfield 101, 3) := by decide +kernel
theorem dX0_addPair_34 : decode cX0_addPair 34 = .ok (.iconst 1, 1) := by decide +kernel
theorem dX0_addPair_35 : decode cX0_addPair 35 = .ok (.iadd, 1) := by decide +kernel
theorem dX0_addPair_36 : decode cX0_addPair 36 = .ok (.putfield 101, 3) := by decide +kernel
theorem dX0_addPair_39 : decode cX0_addPair 39 = .ok (.return_, 1) := by decide +kernel
theorem dX1_init_0 : decode cX1_init 0 = .ok (.aload_n 0, 1) := by decide +kernel
theorem dX1_init_1 : decode cX1_init 1 = .ok (.invokespecial 3, 3) := by decide +kernel
theorem dX1_init_4 : decode cX1_init 4 = .ok (.aload_n 0, 1) := by decide +kernel
theorem dX1_init_5 : decode cX1_init 5 = .ok (.bipush 31, 2) := by decide +kernel
theorem dX1_init_7 : decode cX1_init 7 = .ok (.newarray .int, 2) := by decide +kernel
theorem dX1_init_9 : decode cX1_init 9 = .ok (.putfield 9, 3) := by decide +kernel
theorem dX1_init_12 : decode cX1_init 12 = .ok (.aload_n 0, 1) := by decide +kernel
theorem dX1_init_13 : decode cX1_init 13 = .ok (.bipush 31, 2) := by decide +kernel
theorem dX1_init_15 : decode cX1_init 15 = .ok (.newarray .int, 2) := by decide +kernel
theorem dX1_init_17 : decode cX1_init 17 = .ok (.putfield 15, 3) := by decide +kernel
theorem dX1_init_20 : decode cX1_init 20 = .ok (.aload_n 0, 1) := by decide +kernel
theorem dX1_init_21 : decode cX1_init 21 = .ok (.bipush 31, 2) := by decide +kernel
theorem dX1_init_23 : decode cX1_init 23 = .ok (.newarray .boolean, 2) := by decide +kernel
theorem dX1_init_25 : decode cX1_init 25 = .ok (.putfield 18, 3) := by decide +kernel
theorem dX1_init_28 : decode cX1_init 28 = .ok (.return_, 1) := by decide +kernel
theorem dX1_arrange_0 : decode cX1_arrange 0 = .ok (.aload_n 0, 1) := by decide +kernel
theorem dX1_arrange_1 : decode cX1_arrange 1 = .ok (.aload_n 1, 1) := by decide +kernel
theorem dX1_arrange_2 : decode cX1_arrange 2 = .ok (.getfield 22, 3) := by decide +kernel
theorem dX1_arrange_5 : decode cX1_arrange 5 = .ok (.putfield 28, 3) := by decide +kernel
theorem dX1_arrange_8 : decode cX1_arrange 8 = .ok (.iconst 0, 1) := by decide +kernel
theorem dX1_arrange_9 : decode cX1_arrange 9 = .ok (.istore_n 2, 1) := by decide +kernel
theorem dX1_arrange_10 : decode cX1_arrange 10 = .ok (.iload_n 2, 1) := by decide +kernel
theorem dX1_arrange_11 : decode cX1_arrange 11 = .ok (.aload_n 0, 1) := by decide +kernel
theorem dX1_arrange_12 : decode cX1_arrange 12 = .ok (.getfield 28, 3) := by decide +kernel
theorem dX1_arrange_15 : decode cX1_arrange 15 = .ok (.if_icmp .ge 66, 3) := by decide +kernel
theorem dX1_arrange_18 : decode cX1_arrange 18 = .ok (.aload_n 1, 1) := by decide +kernel
theorem dX1_arrange_19 : decode cX1_arrange 19 = .ok (.iload_n 2, 1) := by decide +kernel
theorem dX1_arrange_20 : decode cX1_arrange 20 = .ok (.invokevirtual 29, 3) := by decide +kernel
theorem dX1_arrange_23 : decode cX1_arrange 23 = .ok (.iconst 1, 1) := by decide +kernel
theorem dX1_arrange_24 : decode cX1_arrange 24 = .ok (.iadd, 1) := by decide +kernel
theorem dX1_arrange_25 : decode cX1_arrange 25 = .ok (.istore_n 3, 1) := by decide +kernel
theorem dX1_arrange_26 : decode cX1_arrange 26 = .ok (.aload_n 0, 1) := by decide +kernel
theorem dX1_arrange_27 : decode cX1_arrange 27 = .ok (.getfield 9, 3) := by decide +kernel
theorem dX1_arrange_30 : decode cX1_arrange 30 = .ok (.iload_n 3, 1) := by decide +kernel
theorem dX1_arrange_31 : decode cX1_arrange 31 = .ok (.iload_n 2, 1) := by decide +kernel
theorem dX1_arrange_32 : decode cX1_arrange 32 = .ok (.iastore, 1) := by decide +kernel
theorem dX1_arrange_33 : decode cX1_arrange 33 = .ok (.aload_n 0, 1) := by decide +kernel
theorem dX1_arrange_34 : decode cX1_arrange 34 = .ok (.getfield 15, 3) := by decide +kernel
theorem dX1_arrange_37 : decode cX1_arrange 37 = .ok (.iload_n 3, 1) := by decide +kernel
theorem dX1_arrange_38 : decode cX1_arrange 38 = .ok (.iload_n 3, 1) := by decide +kernel
theorem dX1_arrange_39 : decode cX1_arrange 39 = .ok (.aload_n 1, 1) := by decide +kernel
theorem dX1_arrange_40 : decode cX1_arrange 40 = .ok (.getfield 33, 3) := by decide +kernel
theorem dX1_arrange_43 : decode cX1_arrange 43 = .ok (.iload_n 2, 1) := by decide +kernel
theorem dX1_arrange_44 : decode cX1_arrange 44 = .ok (.iaload, 1) := by decide +kernel
theorem dX1_arrange_45 : decode cX1_arrange 45 = .ok (.isub, 1) := by decide +kernel
theorem dX1_arrange_46 : decode cX1_arrange 46 = .ok (.iconst 1, 1) := by decide +kernel
theorem dX1_arrange_47 : decode cX1_arrange 47 = .ok (.iadd, 1) := by decide +kernel
theorem dX1_arrange_48 : decode cX1_arrange 48 = .ok (.iastore, 1) := by decide +kernel
theorem dX1_arrange_49 : decode cX1_arrange 49 = .ok (.aload_n 0, 1) := by decide +kernel
theorem dX1_arrange_50 : decode cX1_arrange 50 = .ok (.getfield 18, 3) := by decide +kernel
theorem dX1_arrange_53 : decode cX1_arrange 53 = .ok (.iload_n 3, 1) := by decide +kernel
theorem dX1_arrange_54 : decode cX1_arrange 54 = .ok (.iload_n 2, 1) := by decide +kernel
theorem dX1_arrange_55 : decode cX1_arrange 55 = .ok (.ifCond .eq 14, 3) := by decide +kernel
theorem dX1_arrange_58 : decode cX1_arrange 58 = .ok (.aload_n 1, 1) := by decide +kernel
theorem dX1_arrange_59 : decode cX1_arrange 59 = .ok (.iload_n 2, 1) := by decide +kernel
theorem dX1_arrange_60 : decode cX1_arrange 60 = .ok (.iload_n 2, 1) := by decide +kernel
theorem dX1_arrange_61 : decode cX1_arrange 61 = .ok (.iconst 1, 1) := by decide +kernel
theorem dX1_arrange_62 : decode cX1_arrange 62 = .ok (.isub, 1) := by decide +kernel
theorem dX1_arrange_63 : decode cX1_arrange 63 = .ok (.invokevirtual 36, 3) := by decide +kernel
theorem dX1_arrange_66 : decode cX1_arrange 66 = .ok (.ifCond .ne 7, 3) := by decide +kernel
theorem dX1_arrange_69 : decode cX1_arrange 69 = .ok (.iconst 1, 1) := by decide +kernel
theorem dX1_arrange_70 : decode cX1_arrange 70 = .ok (.goto 4, 3) := by decide +kernel
theorem dX1_arrange_73 : decode cX1_arrange 73 = .ok (.iconst 0, 1) := by decide +kernel
theorem dX1_arrange_74 : decode cX1_arrange 74 = .ok (.bastore, 1) := by decide +kernel
theorem dX1_arrange_75 : decode cX1_arrange 75 = .ok (.iinc 2 1, 3) := by decide +kernel
theorem dX1_arrange_78 : decode cX1_arrange 78 = .ok (.goto (-68), 3) := by decide +kernel
theorem dX1_arrange_81 : decode cX1_arrange 81 = .ok (.return_, 1) := by decide +kernel
theorem dX2_init_0 : decode cX2_init 0 = .ok (.aload_n 0, 1) := by decide +kernel
theorem dX2_init_1 : decode cX2_init 1 = .ok (.invokespecial 3, 3) := by decide +kernel
theorem dX2_init_4 : decode cX2_init 4 = .ok (.aload_n 0, 1) := by decide +kernel
theorem dX2_init_5 : decode cX2_init 5 = .ok (.bipush 30, 2) := by decide +kernel
theorem dX2_init_7 : decode cX2_init 7 = .ok (.newarray .int, 2) := by decide +kernel
theorem dX2_init_9 : decode cX2_init 9 = .ok (.putfield 9, 3) := by decide +kernel
theorem dX2_init_12 : decode cX2_init 12 = .ok (.aload_n 0, 1) := by decide +kernel
theorem dX2_init_13 : decode cX2_init 13 = .ok (.bipush 60, 2) := by decide +kernel
theorem dX2_init_15 : decode cX2_init 15 = .ok (.newarray .int, 2) := by decide +kernel
theorem dX2_init_17 : decode cX2_init 17 = .ok (.putfield 15, 3) := by decide +kernel
theorem dX2_init_20 : decode cX2_init 20 = .ok (.aload_n 0, 1) := by decide +kernel
theorem dX2_init_21 : decode cX2_init 21 = .ok (.bipush 60, 2) := by decide +kernel
theorem dX2_init_23 : decode cX2_init 23 = .ok (.newarray .long, 2) := by decide +kernel
theorem dX2_init_25 : decode cX2_init 25 = .ok (.putfield 18, 3) := by decide +kernel
theorem dX2_init_28 : decode cX2_init 28 = .ok (.aload_n 0, 1) := by decide +kernel
theorem dX2_init_29 : decode cX2_init 29 = .ok (.bipush 60, 2) := by decide +kernel
theorem dX2_init_31 : decode cX2_init 31 = .ok (.newarray .long, 2) := by decide +kernel
theorem dX2_init_33 : decode cX2_init 33 = .ok (.putfield 22, 3) := by decide +kernel
theorem dX2_init_36 : decode cX2_init 36 = .ok (.aload_n 0, 1) := by decide +kernel
theorem dX2_init_37 : decode cX2_init 37 = .ok (.bipush 60, 2) := by decide +kernel
theorem dX2_init_39 : decode cX2_init 39 = .ok (.newarray .int, 2) := by decide +kernel
theorem dX2_init_41 : decode cX2_init 41 = .ok (.putfield 25, 3) := by decide +kernel
theorem dX2_init_44 : decode cX2_init 44 = .ok (.aload_n 0, 1) := by decide +kernel
theorem dX2_init_45 : decode cX2_init 45 = .ok (.bipush 60, 2) := by decide +kernel
theorem dX2_init_47 : decode cX2_init 47 = .ok (.newarray .int, 2) := by decide +kernel
theorem dX2_init_49 : decode cX2_init 49 = .ok (.putfield 28, 3) := by decide +kernel
theorem dX2_init_52 : decode cX2_init 52 = .ok (.aload_n 0, 1) := by decide +kernel
theorem dX2_init_53 : decode cX2_init 53 = .ok (.bipush 60, 2) := by decide +kernel
theorem dX2_init_55 : decode cX2_init 55 = .ok (.newarray .int, 2) := by decide +kernel
theorem dX2_init_57 : decode cX2_init 57 = .ok (.putfield 31, 3) := by decide +kernel
theorem dX2_init_60 : decode cX2_init 60 = .ok (.return_, 1) := by decide +kernel
theorem dX2_forget_0 : decode cX2_forget 0 = .ok (.aload_n 0, 1) := by decide +kernel
theorem dX2_forget_1 : decode cX2_forget 1 = .ok (.iconst 0, 1) := by decide +kernel
theorem dX2_forget_2 : decode cX2_forget 2 = .ok (.putfield 34, 3) := by decide +kernel
theorem dX2_forget_5 : decode cX2_forget 5 = .ok (.aload_n 0, 1) := by decide +kernel
theorem dX2_forget_6 : decode cX2_forget 6 = .ok (.iconst 0, 1) := by decide +kernel
theorem dX2_forget_7 : decode cX2_forget 7 = .ok (.putfield 38, 3) := by decide +kernel
theorem dX2_forget_10 : decode cX2_forget 10 = .ok (.return_, 1) := by decide +kernel
theorem dX2_groupAll_0 : decode cX2_groupAll 0 = .ok (.aload_n 1, 1) := by decide +kernel
theorem dX2_groupAll_1 : decode cX2_groupAll 1 = .ok (.getfield 41, 3) := by decide +kernel
theorem dX2_groupAll_4 : decode cX2_groupAll 4 = .ok (.iconst 1, 1) := by decide +kernel
theorem dX2_groupAll_5 : decode cX2_groupAll 5 = .ok (.isub, 1) := by decide +kernel
theorem dX2_groupAll_6 : decode cX2_groupAll 6 = .ok (.istore_n 2, 1) := by decide +kernel
theorem dX2_groupAll_7 : decode cX2_groupAll 7 = .ok (.iload_n 2, 1) := by decide +kernel
theorem dX2_groupAll_8 : decode cX2_groupAll 8 = .ok (.ifCond .lt 21, 3) := by decide +kernel
theorem dX2_groupAll_11 : decode cX2_groupAll 11 = .ok (.aload_n 0, 1) := by decide +kernel
theorem dX2_groupAll_12 : decode cX2_groupAll 12 = .ok (.getfield 9, 3) := by decide +kernel
theorem dX2_groupAll_15 : decode cX2_groupAll 15 = .ok (.iload_n 2, 1) := by decide +kernel
theorem dX2_groupAll_16 : decode cX2_groupAll 16 = .ok (.aload_n 0, 1) := by decide +kernel
theorem dX2_groupAll_17 : decode cX2_groupAll 17 = .ok (.aload_n 1, 1) := by decide +kernel
theorem dX2_groupAll_18 : decode cX2_groupAll 18 = .ok (.iload_n 2, 1) := by decide +kernel
theorem dX2_groupAll_19 : decode cX2_groupAll 19 = .ok (.invokevirtual 46, 3) := by decide +kernel
theorem dX2_groupAll_22 : decode cX2_groupAll 22 = .ok (.iastore, 1) := by decide +kernel
theorem dX2_groupAll_23 : decode cX2_groupAll 23 = .ok (.iinc 2 (-1), 3) := by decide +kernel
theorem dX2_groupAll_26 : decode cX2_groupAll 26 = .ok (.goto (-19), 3) := by decide +kernel
theorem dX2_groupAll_29 : decode cX2_groupAll 29 = .ok (.return_, 1) := by decide +kernel
theorem dX2_groupFor_0 : decode cX2_groupFor 0 = .ok (.aload_n 0, 1) := by decide +kernel
theorem dX2_groupFor_1 : decode cX2_groupFor 1 = .ok (.aload_n 1, 1) := by decide +kernel
theorem dX2_groupFor_2 : decode cX2_groupFor 2 = .ok (.iload_n 2, 1) := by decide +kernel
theorem dX2_groupFor_3 : decode cX2_groupFor 3 = .ok (.invokevirtual 50, 3) := by decide +kernel
theorem dX2_groupFor_6 : decode cX2_groupFor 6 = .ok (.istore_n 3, 1) := by decide +kernel
theorem dX2_groupFor_7 : decode cX2_groupFor 7 = .ok (.iconst 0, 1) := by decide +kernel
theorem dX2_groupFor_8 : decode cX2_groupFor 8 = .ok (.istore 4, 2) := by decide +kernel
theorem dX2_groupFor_10 : decode cX2_groupFor 10 = .ok (.iload 4, 2) := by decide +kernel
theorem dX2_groupFor_12 : decode cX2_groupFor 12 = .ok (.aload_n 0, 1) := by decide +kernel
theorem dX2_groupFor_13 : decode cX2_groupFor 13 = .ok (.getfield 34, 3) := by decide +kernel
theorem dX2_groupFor_16 : decode cX2_groupFor 16 = .ok (.if_icmp .ge 24, 3) := by decide +kernel
theorem dX2_groupFor_19 : decode cX2_groupFor 19 = .ok (.aload_n 0, 1) := by decide +kernel
theorem dX2_groupFor_20 : decode cX2_groupFor 20 = .ok (.iload 4, 2) := by decide +kernel
theorem dX2_groupFor_22 : decode cX2_groupFor 22 = .ok (.aload_n 1, 1) := by decide +kernel
theorem dX2_groupFor_23 : decode cX2_groupFor 23 = .ok (.iload_n 2, 1) := by decide +kernel
theorem dX2_groupFor_24 : decode cX2_groupFor 24 = .ok (.iload_n 3, 1) := by decide +kernel
theorem dX2_groupFor_25 : decode cX2_groupFor 25 = .ok (.invokevirtual 53, 3) := by decide +kernel
theorem dX2_groupFor_28 : decode cX2_groupFor 28 = .ok (.ifCond .eq 6, 3) := by decide +kernel
theorem dX2_groupFor_31 : decode cX2_groupFor 31 = .ok (.iload 4, 2) := by decide +kernel
theorem dX2_groupFor_33 : decode cX2_groupFor 33 = .ok (.ireturn, 1) := by decide +kernel
theorem dX2_groupFor_34 : decode cX2_groupFor 34 = .ok (.iinc 4 1, 3) := by decide +kernel
theorem dX2_groupFor_37 : decode cX2_groupFor 37 = .ok (.goto (-27), 3) := by decide +kernel
theorem dX2_groupFor_40 : decode cX2_groupFor 40 = .ok (.aload_n 0, 1) := by decide +kernel
theorem dX2_groupFor_41 : decode cX2_groupFor 41 = .ok (.getfield 34, 3) := by decide +kernel
theorem dX2_groupFor_44 : decode cX2_groupFor 44 = .ok (.bipush 60, 2) := by decide +kernel
theorem dX2_groupFor_46 : decode cX2_groupFor 46 = .ok (.if_icmp .lt 5, 3) := by decide +kernel
theorem dX2_groupFor_49 : decode cX2_groupFor 49 = .ok (.iconst (-1), 1) := by decide +kernel
theorem dX2_groupFor_50 : decode cX2_groupFor 50 = .ok (.ireturn, 1) := by decide +kernel
theorem dX2_groupFor_51 : decode cX2_groupFor 51 = .ok (.aload_n 0, 1) := by decide +kernel
theorem dX2_groupFor_52 : decode cX2_groupFor 52 = .ok (.getfield 15, 3) := by decide +kernel
theorem dX2_groupFor_55 : decode cX2_groupFor 55 = .ok (.aload_n 0, 1) := by decide +kernel
theorem dX2_groupFor_56 : decode cX2_groupFor 56 = .ok (.getfield 34, 3) := by decide +kernel
theorem dX2_groupFor_59 : decode cX2_groupFor 59 = .ok (.aload_n 1, 1) := by decide +kernel
theorem dX2_groupFor_60 : decode cX2_groupFor 60 = .ok (.getfield 57, 3) := by decide +kernel
theorem dX2_groupFor_63 : decode cX2_groupFor 63 = .ok (.iload_n 2, 1) := by decide +kernel
theorem dX2_groupFor_64 : decode cX2_groupFor 64 = .ok (.iaload, 1) := by decide +kernel
theorem dX2_groupFor_65 : decode cX2_groupFor 65 = .ok (.iastore, 1) := by decide +kernel
theorem dX2_groupFor_66 : decode cX2_groupFor 66 = .ok (.aload_n 0, 1) := by decide +kernel
theorem dX2_groupFor_67 : decode cX2_groupFor 67 = .ok (.getfield 18, 3) := by decide +kernel
theorem dX2_groupFor_70 : decode cX2_groupFor 70 = .ok (.aload_n 0, 1) := by decide +kernel
theorem dX2_groupFor_71 : decode cX2_groupFor 71 = .ok (.getfield 34, 3) := by decide +kernel
theorem dX2_groupFor_74 : decode cX2_groupFor 74 = .ok (.aload_n 1, 1) := by decide +kernel
theorem dX2_groupFor_75 : decode cX2_groupFor 75 = .ok (.getfield 58, 3) := by decide +kernel
theorem dX2_groupFor_78 : decode cX2_groupFor 78 = .ok (.iload_n 2, 1) := by decide +kernel
theorem dX2_groupFor_79 : decode cX2_groupFor 79 = .ok (.laload, 1) := by decide +kernel
theorem dX2_groupFor_80 : decode cX2_groupFor 80 = .ok (.lastore, 1) := by decide +kernel
theorem dX2_groupFor_81 : decode cX2_groupFor 81 = .ok (.aload_n 0, 1) := by decide +kernel
theorem dX2_groupFor_82 : decode cX2_groupFor 82 = .ok (.getfield 22, 3) := by decide +kernel
theorem dX2_groupFor_85 : decode cX2_groupFor 85 = .ok (.aload_n 0, 1) := by decide +kernel
theorem dX2_groupFor_86 : decode cX2_groupFor 86 = .ok (.getfield 34, 3) := by decide +kernel
theorem dX2_groupFor_89 : decode cX2_groupFor 89 = .ok (.aload_n 1, 1) := by decide +kernel
theorem dX2_groupFor_90 : decode cX2_groupFor 90 = .ok (.getfield 59, 3) := by decide +kernel
theorem dX2_groupFor_93 : decode cX2_groupFor 93 = .ok (.iload_n 2, 1) := by decide +kernel
theorem dX2_groupFor_94 : decode cX2_groupFor 94 = .ok (.laload, 1) := by decide +kernel
theorem dX2_groupFor_95 : decode cX2_groupFor 95 = .ok (.lastore, 1) := by decide +kernel
theorem dX2_groupFor_96 : decode cX2_groupFor 96 = .ok (.aload_n 0, 1) := by decide +kernel
theorem dX2_groupFor_97 : decode cX2_groupFor 97 = .ok (.getfield 25, 3) := by decide +kernel
theorem dX2_groupFor_100 : decode cX2_groupFor 100 = .ok (.aload_n 0, 1) := by decide +kernel
theorem dX2_groupFor_101 : decode cX2_groupFor 101 = .ok (.getfield 34, 3) := by decide +kernel
theorem dX2_groupFor_104 : decode cX2_groupFor 104 = .ok (.aload_n 0, 1) := by decide +kernel
theorem dX2_groupFor_105 : decode cX2_groupFor 105 = .ok (.getfield 38, 3) := by decide +kernel
theorem dX2_groupFor_108 : decode cX2_groupFor 108 = .ok (.iastore, 1) := by decide +kernel
theorem dX2_groupFor_109 : decode cX2_groupFor 109 = .ok (.aload_n 0, 1) := by decide +kernel
theorem dX2_groupFor_110 : decode cX2_groupFor 110 = .ok (.getfield 28, 3) := by decide +kernel
theorem dX2_groupFor_113 : decode cX2_groupFor 113 = .ok (.aload_n 0, 1) := by decide +kernel
theorem dX2_groupFor_114 : decode cX2_groupFor 114 = .ok (.getfield 34, 3) := by decide +kernel
theorem dX2_groupFor_117 : decode cX2_groupFor 117 = .ok (.iload_n 3, 1) := by decide +kernel
theorem dX2_groupFor_118 : decode cX2_groupFor 118 = .ok (.iastore, 1) := by decide +kernel
theorem dX2_groupFor_119 : decode cX2_groupFor 119 = .ok (.aload_n 0, 1) := by decide +kernel
theorem dX2_groupFor_120 : decode cX2_groupFor 120 = .ok (.dup, 1) := by decide +kernel
theorem dX2_groupFor_121 : decode cX2_groupFor 121 = .ok (.getfield 38, 3) := by decide +kernel
theorem dX2_groupFor_124 : decode cX2_groupFor 124 = .ok (.iload_n 3, 1) := by decide +kernel
theorem dX2_groupFor_125 : decode cX2_groupFor 125 = .ok (.iadd, 1) := by decide +kernel
theorem dX2_groupFor_126 : decode cX2_groupFor 126 = .ok (.putfield 38, 3) := by decide +kernel
theorem dX2_groupFor_129 : decode cX2_groupFor 129 = .ok (.aload_n 0, 1) := by decide +kernel
theorem dX2_groupFor_130 : decode cX2_groupFor 130 = .ok (.dup, 1) := by decide +kernel
theorem dX2_groupFor_131 : decode cX2_groupFor 131 = .ok (.getfield 34, 3) := by decide +kernel
theorem dX2_groupFor_134 : decode cX2_groupFor 134 = .ok (.iconst 1, 1) := by decide +kernel
theorem dX2_groupFor_135 : decode cX2_groupFor 135 = .ok (.iadd, 1) := by decide +kernel
theorem dX2_groupFor_136 : decode cX2_groupFor 136 = .ok (.putfield 34, 3) := by decide +kernel
theorem dX2_groupFor_139 : decode cX2_groupFor 139 = .ok (.aload_n 0, 1) := by decide +kernel
theorem dX2_groupFor_140 : decode cX2_groupFor 140 = .ok (.getfield 34, 3) := by decide +kernel
theorem dX2_groupFor_143 : decode cX2_groupFor 143 = .ok (.iconst 1, 1) := by decide +kernel
theorem dX2_groupFor_144 : decode cX2_groupFor 144 = .ok (.isub, 1) := by decide +kernel
theorem dX2_groupFor_145 : decode cX2_groupFor 145 = .ok (.ireturn, 1) := by decide +kernel
theorem dX2_gatherKids_0 : decode cX2_gatherKids 0 = .ok (.iconst 0, 1) := by decide +kernel
theorem dX2_gatherKids_1 : decode cX2_gatherKids 1 = .ok (.istore_n 3, 1) := by decide +kernel
theorem dX2_gatherKids_2 : decode cX2_gatherKids 2 = .ok (.iload_n 2, 1) := by decide +kernel
theorem dX2_gatherKids_3 : decode cX2_gatherKids 3 = .ok (.iconst 1, 1) := by decide +kernel
theorem dX2_gatherKids_4 : decode cX2_gatherKids 4 = .ok (.iadd, 1) := by decide +kernel
theorem dX2_gatherKids_5 : decode cX2_gatherKids 5 = .ok (.istore 4, 2) := by decide +kernel
theorem dX2_gatherKids_7 : decode cX2_gatherKids 7 = .ok (.iload 4, 2) := by decide +kernel
theorem dX2_gatherKids_9 : decode cX2_gatherKids 9 = .ok (.aload_n 1, 1) := by decide +kernel
theorem dX2_gatherKids_10 : decode cX2_gatherKids 10 = .ok (.iload_n 2, 1) := by decide +kernel
theorem dX2_gatherKids_11 : decode cX2_gatherKids 11 = .ok (.invokevirtual 60, 3) := by decide +kernel
theorem dX2_gatherKids_14 : decode cX2_gatherKids 14 = .ok (.if_icmp .ge 65, 3) := by decide +kernel
theorem dX2_gatherKids_17 : decode cX2_gatherKids 17 = .ok (.aload_n 1, 1) := by decide +kernel
theorem dX2_gatherKids_18 : decode cX2_gatherKids 18 = .ok (.iload 4, 2) := by decide +kernel
theorem dX2_gatherKids_20 : decode cX2_gatherKids 20 = .ok (.iload_n 2, 1) := by decide +kernel
theorem dX2_gatherKids_21 : decode cX2_gatherKids 21 = .ok (.invokevirtual 64, 3) := by decide +kernel
theorem dX2_gatherKids_24 : decode cX2_gatherKids 24 = .ok (.ifCond .eq 49, 3) := by decide +kernel
theorem dX2_gatherKids_27 : decode cX2_gatherKids 27 = .ok (.aload_n 0, 1) := by decide +kernel
theorem dX2_gatherKids_28 : decode cX2_gatherKids 28 = .ok (.getfield 38, 3) := by decide +kernel
theorem dX2_gatherKids_31 : decode cX2_gatherKids 31 = .ok (.iload_n 3, 1) := by decide +kernel
theorem dX2_gatherKids_32 : decode cX2_gatherKids 32 = .ok (.iadd, 1) := by decide +kernel
theorem dX2_gatherKids_33 : decode cX2_gatherKids 33 = .ok (.bipush 60, 2) := by decide +kernel
theorem dX2_gatherKids_35 : decode cX2_gatherKids 35 = .ok (.if_icmp .ge 38, 3) := by decide +kernel
theorem dX2_gatherKids_38 : decode cX2_gatherKids 38 = .ok (.aload_n 0, 1) := by decide +kernel
theorem dX2_gatherKids_39 : decode cX2_gatherKids 39 = .ok (.getfield 31, 3) := by decide +kernel
theorem dX2_gatherKids_42 : decode cX2_gatherKids 42 = .ok (.aload_n 0, 1) := by decide +kernel
theorem dX2_gatherKids_43 : decode cX2_gatherKids 43 = .ok (.getfield 38, 3) := by decide +kernel
theorem dX2_gatherKids_46 : decode cX2_gatherKids 46 = .ok (.iload_n 3, 1) := by decide +kernel
theorem dX2_gatherKids_47 : decode cX2_gatherKids 47 = .ok (.iadd, 1) := by decide +kernel
theorem dX2_gatherKids_48 : decode cX2_gatherKids 48 = .ok (.aload_n 0, 1) := by decide +kernel
theorem dX2_gatherKids_49 : decode cX2_gatherKids 49 = .ok (.getfield 9, 3) := by decide +kernel
theorem dX2_gatherKids_52 : decode cX2_gatherKids 52 = .ok (.iload 4, 2) := by decide +kernel
theorem dX2_gatherKids_54 : decode cX2_gatherKids 54 = .ok (.iaload, 1) := by decide +kernel
theorem dX2_gatherKids_55 : decode cX2_gatherKids 55 = .ok (.iastore, 1) := by decide +kernel
theorem dX2_gatherKids_56 : decode cX2_gatherKids 56 = .ok (.iinc 3 1, 3) := by decide +kernel
theorem dX2_gatherKids_59 : decode cX2_gatherKids 59 = .ok (.aload_n 1, 1) := by decide +kernel
theorem dX2_gatherKids_60 : decode cX2_gatherKids 60 = .ok (.getfield 57, 3) := by decide +kernel
theorem dX2_gatherKids_63 : decode cX2_gatherKids 63 = .ok (.iload_n 2, 1) := by decide +kernel
theorem dX2_gatherKids_64 : decode cX2_gatherKids 64 = .ok (.iaload, 1) := by decide +kernel
theorem dX2_gatherKids_65 : decode cX2_gatherKids 65 = .ok (.ifCond .eq 8, 3) := by decide +kernel
theorem dX2_gatherKids_68 : decode cX2_gatherKids 68 = .ok (.aload_n 0, 1) := by decide +kernel
theorem dX2_gatherKids_69 : decode cX2_gatherKids 69 = .ok (.iload_n 3, 1) := by decide +kernel
theorem dX2_gatherKids_70 : decode cX2_gatherKids 70 = .ok (.invokevirtual 68, 3) := by decide +kernel
theorem dX2_gatherKids_73 : decode cX2_gatherKids 73 = .ok (.iinc 4 1, 3) := by decide +kernel
theorem dX2_gatherKids_76 : decode cX2_gatherKids 76 = .ok (.goto (-69), 3) := by decide +kernel
theorem dX2_gatherKids_79 : decode cX2_gatherKids 79 = .ok (.iload_n 3, 1) := by decide +kernel
theorem dX2_gatherKids_80 : decode cX2_gatherKids 80 = .ok (.ireturn, 1) := by decide +kernel
theorem dX2_sinkLastKid_0 : decode cX2_sinkLastKid 0 = .ok (.aload_n 0, 1) := by decide +kernel
theorem dX2_sinkLastKid_1 : decode cX2_sinkLastKid 1 = .ok (.getfield 38, 3) := by decide +kernel
theorem dX2_sinkLastKid_4 : decode cX2_sinkLastKid 4 = .ok (.iload_n 1, 1) := by decide +kernel
theorem dX2_sinkLastKid_5 : decode cX2_sinkLastKid 5 = .ok (.iadd, 1) := by decide +kernel
theorem dX2_sinkLastKid_6 : decode cX2_sinkLastKid 6 = .ok (.iconst 1, 1) := by decide +kernel
theorem dX2_sinkLastKid_7 : decode cX2_sinkLastKid 7 = .ok (.isub, 1) := by decide +kernel
theorem dX2_sinkLastKid_8 : decode cX2_sinkLastKid 8 = .ok (.istore_n 2, 1) := by decide +kernel
theorem dX2_sinkLastKid_9 : decode cX2_sinkLastKid 9 = .ok (.iload_n 2, 1) := by decide +kernel
theorem dX2_sinkLastKid_10 : decode cX2_sinkLastKid 10 = .ok (.aload_n 0, 1) := by decide +kernel
theorem dX2_sinkLastKid_11 : decode cX2_sinkLastKid 11 = .ok (.getfield 38, 3) := by decide +kernel
theorem dX2_sinkLastKid_14 : decode cX2_sinkLastKid 14 = .ok (.if_icmp .le 56, 3) := by decide +kernel
theorem dX2_sinkLastKid_17 : decode cX2_sinkLastKid 17 = .ok (.aload_n 0, 1) := by decide +kernel
theorem dX2_sinkLastKid_18 : decode cX2_sinkLastKid 18 = .ok (.getfield 31, 3) := by decide +kernel
theorem dX2_sinkLastKid_21 : decode cX2_sinkLastKid 21 = .ok (.iload_n 2, 1) := by decide +kernel
theorem dX2_sinkLastKid_22 : decode cX2_sinkLastKid 22 = .ok (.iconst 1, 1) := by decide +kernel
theorem dX2_sinkLastKid_23 : decode cX2_sinkLastKid 23 = .ok (.isub, 1) := by decide +kernel
theorem dX2_sinkLastKid_24 : decode cX2_sinkLastKid 24 = .ok (.iaload, 1) := by decide +kernel
theorem dX2_sinkLastKid_25 : decode cX2_sinkLastKid 25 = .ok (.aload_n 0, 1) := by decide +kernel
theorem dX2_sinkLastKid_26 : decode cX2_sinkLastKid 26 = .ok (.getfield 31, 3) := by decide +kernel
theorem dX2_sinkLastKid_29 : decode cX2_sinkLastKid 29 = .ok (.iload_n 2, 1) := by decide +kernel
theorem dX2_sinkLastKid_30 : decode cX2_sinkLastKid 30 = .ok (.iaload, 1) := by decide +kernel
theorem dX2_sinkLastKid_31 : decode cX2_sinkLastKid 31 = .ok (.if_icmp .le 39, 3) := by decide +kernel
theorem dX2_sinkLastKid_34 : decode cX2_sinkLastKid 34 = .ok (.aload_n 0, 1) := by decide +kernel
theorem dX2_sinkLastKid_35 : decode cX2_sinkLastKid 35 = .ok (.getfield 31, 3) := by decide +kernel
theorem dX2_sinkLastKid_38 : decode cX2_sinkLastKid 38 = .ok (.iload_n 2, 1) := by decide +kernel
theorem dX2_sinkLastKid_39 : decode cX2_sinkLastKid 39 = .ok (.iconst 1, 1) := by decide +kernel
theorem dX2_sinkLastKid_40 : decode cX2_sinkLastKid 40 = .ok (.isub, 1) := by decide +kernel
theorem dX2_sinkLastKid_41 : decode cX2_sinkLastKid 41 = .ok (.iaload, 1) := by decide +kernel
theorem dX2_sinkLastKid_42 : decode cX2_sinkLastKid 42 = .ok (.istore_n 3, 1) := by decide +kernel
theorem dX2_sinkLastKid_43 : decode cX2_sinkLastKid 43 = .ok (.aload_n 0, 1) := by decide +kernel
theorem dX2_sinkLastKid_44 : decode cX2_sinkLastKid 44 = .ok (.getfield 31, 3) := by decide +kernel
theorem dX2_sinkLastKid_47 : decode cX2_sinkLastKid 47 = .ok (.iload_n 2, 1) := by decide +kernel
theorem dX2_sinkLastKid_48 : decode cX2_sinkLastKid 48 = .ok (.iconst 1, 1) := by decide +kernel
theorem dX2_sinkLastKid_49 : decode cX2_sinkLastKid 49 = .ok (.isub, 1) := by decide +kernel
theorem dX2_sinkLastKid_50 : decode cX2_sinkLastKid 50 = .ok (.aload_n 0, 1) := by decide +kernel
theorem dX2_sinkLastKid_51 : decode cX2_sinkLastKid 51 = .ok (.getfield 31, 3) := by decide +kernel
theorem dX2_sinkLastKid_54 : decode cX2_sinkLastKid 54 = .ok (.iload_n 2, 1) := by decide +kernel
theorem dX2_sinkLastKid_55 : decode cX2_sinkLastKid 55 = .ok (.iaload, 1) := by decide +kernel
theorem dX2_sinkLastKid_56 : decode cX2_sinkLastKid 56 = .ok (.iastore, 1) := by decide +kernel
theorem dX2_sinkLastKid_57 : decode cX2_sinkLastKid 57 = .ok (.aload_n 0, 1) := by decide +kernel
theorem dX2_sinkLastKid_58 : decode cX2_sinkLastKid 58 = .ok (.getfield 31, 3) := by decide +kernel
theorem dX2_sinkLastKid_61 : decode cX2_sinkLastKid 61 = .ok (.iload_n 2, 1) := by decide +kernel
theorem dX2_sinkLastKid_62 : decode cX2_sinkLastKid 62 = .ok (.iload_n 3, 1) := by decide +kernel
theorem dX2_sinkLastKid_63 : decode cX2_sinkLastKid 63 = .ok (.iastore, 1) := by decide +kernel
theorem dX2_sinkLastKid_64 : decode cX2_sinkLastKid 64 = .ok (.iinc 2 (-1), 3) := by decide +kernel
theorem dX2_sinkLastKid_67 : decode cX2_sinkLastKid 67 = .ok (.goto (-58), 3) := by decide +kernel
theorem dX2_sinkLastKid_70 : decode cX2_sinkLastKid 70 = .ok (.return_, 1) := by decide +kernel
theorem dX2_isOf_0 : decode cX2_isOf 0 = .ok (.aload_n 0, 1) := by decide +kernel
theorem dX2_isOf_1 : decode cX2_isOf 1 = .ok (.getfield 15, 3) := by decide +kernel
theorem dX2_isOf_4 : decode cX2_isOf 4 = .ok (.iload_n 1, 1) := by decide +kernel
theorem dX2_isOf_5 : decode cX2_isOf 5 = .ok (.iaload, 1) := by decide +kernel
theorem dX2_isOf_6 : decode cX2_isOf 6 = .ok (.aload_n 2, 1) := by decide +kernel
theorem dX2_isOf_7 : decode cX2_isOf 7 = .ok (.getfield 57, 3) := by decide +kernel
theorem dX2_isOf_10 : decode cX2_isOf 10 = .ok (.iload_n 3, 1) := by decide +kernel
theorem dX2_isOf_11 : decode cX2_isOf 11 = .ok (.iaload, 1) := by decide +kernel
theorem dX2_isOf_12 : decode cX2_isOf 12 = .ok (.if_icmp .ne 19, 3) := by decide +kernel
theorem dX2_isOf_15 : decode cX2_isOf 15 = .ok (.aload_n 0, 1) := by decide +kernel
theorem dX2_isOf_16 : decode cX2_isOf 16 = .ok (.getfield 18, 3) := by decide +kernel
theorem dX2_isOf_19 : decode cX2_isOf 19 = .ok (.iload_n 1, 1) := by decide +kernel
theorem dX2_isOf_20 : decode cX2_isOf 20 = .ok (.laload, 1) := by decide +kernel
theorem dX2_isOf_21 : decode cX2_isOf 21 = .ok (.aload_n 2, 1) := by decide +kernel
theorem dX2_isOf_22 : decode cX2_isOf 22 = .ok (.getfield 58, 3) := by decide +kernel
theorem dX2_isOf_25 : decode cX2_isOf 25 = .ok (.iload_n 3, 1) := by decide +kernel
theorem dX2_isOf_26 : decode cX2_isOf 26 = .ok (.laload, 1) := by decide +kernel
theorem dX2_isOf_27 : decode cX2_isOf 27 = .ok (.lcmp, 1) := by decide +kernel
theorem dX2_isOf_28 : decode cX2_isOf 28 = .ok (.ifCond .eq 5, 3) := by decide +kernel
theorem dX2_isOf_31 : decode cX2_isOf 31 = .ok (.iconst 0, 1) := by decide +kernel
theorem dX2_isOf_32 : decode cX2_isOf 32 = .ok (.ireturn, 1) := by decide +kernel
theorem dX2_isOf_33 : decode cX2_isOf 33 = .ok (.aload_n 0, 1) := by decide +kernel
theorem dX2_isOf_34 : decode cX2_isOf 34 = .ok (.getfield 22, 3) := by decide +kernel
theorem dX2_isOf_37 : decode cX2_isOf 37 = .ok (.iload_n 1, 1) := by decide +kernel
theorem dX2_isOf_38 : decode cX2_isOf 38 = .ok (.laload, 1) := by decide +kernel
theorem dX2_isOf_39 : decode cX2_isOf 39 = .ok (.aload_n 2, 1) := by decide +kernel
theorem dX2_isOf_40 : decode cX2_isOf 40 = .ok (.getfield 59, 3) := by decide +kernel
theorem dX2_isOf_43 : decode cX2_isOf 43 = .ok (.iload_n 3, 1) := by decide +kernel
theorem dX2_isOf_44 : decode cX2_isOf 44 = .ok (.laload, 1) := by decide +kernel
theorem dX2_isOf_45 : decode cX2_isOf 45 = .ok (.lcmp, 1) := by decide +kernel
theorem dX2_isOf_46 : decode cX2_isOf 46 = .ok (.ifCond .ne 14, 3) := by decide +kernel
theorem dX2_isOf_49 : decode cX2_isOf 49 = .ok (.aload_n 0, 1) := by decide +kernel
theorem dX2_isOf_50 : decode cX2_isOf 50 = .ok (.getfield 28, 3) := by decide +kernel
theorem dX2_isOf_53 : decode cX2_isOf 53 = .ok (.iload_n 1, 1) := by decide +kernel
theorem dX2_isOf_54 : decode cX2_isOf 54 = .ok (.iaload, 1) := by decide +kernel
theorem dX2_isOf_55 : decode cX2_isOf 55 = .ok (.iload 4, 2) := by decide +kernel
theorem dX2_isOf_57 : decode cX2_isOf 57 = .ok (.if_icmp .eq 5, 3) := by decide +kernel
theorem dX2_isOf_60 : decode cX2_isOf 60 = .ok (.iconst 0, 1) := by decide +kernel
theorem dX2_isOf_61 : decode cX2_isOf 61 = .ok (.ireturn, 1) := by decide +kernel
theorem dX2_isOf_62 : decode cX2_isOf 62 = .ok (.iconst 0, 1) := by decide +kernel
theorem dX2_isOf_63 : decode cX2_isOf 63 = .ok (.istore 5, 2) := by decide +kernel
theorem dX2_isOf_65 : decode cX2_isOf 65 = .ok (.iload 5, 2) := by decide +kernel
theorem dX2_isOf_67 : decode cX2_isOf 67 = .ok (.iload 4, 2) := by decide +kernel
theorem dX2_isOf_69 : decode cX2_isOf 69 = .ok (.if_icmp .ge 40, 3) := by decide +kernel
theorem dX2_isOf_72 : decode cX2_isOf 72 = .ok (.aload_n 0, 1) := by decide +kernel
theorem dX2_isOf_73 : decode cX2_isOf 73 = .ok (.getfield 31, 3) := by decide +kernel
theorem dX2_isOf_76 : decode cX2_isOf 76 = .ok (.aload_n 0, 1) := by decide +kernel
theorem dX2_isOf_77 : decode cX2_isOf 77 = .ok (.getfield 25, 3) := by decide +kernel
theorem dX2_isOf_80 : decode cX2_isOf 80 = .ok (.iload_n 1, 1) := by decide +kernel
theorem dX2_isOf_81 : decode cX2_isOf 81 = .ok (.iaload, 1) := by decide +kernel
theorem dX2_isOf_82 : decode cX2_isOf 82 = .ok (.iload 5, 2) := by decide +kernel
theorem dX2_isOf_84 : decode cX2_isOf 84 = .ok (.iadd, 1) := by decide +kernel
theorem dX2_isOf_85 : decode cX2_isOf 85 = .ok (.iaload, 1) := by decide +kernel
theorem dX2_isOf_86 : decode cX2_isOf 86 = .ok (.aload_n 0, 1) := by decide +kernel
theorem dX2_isOf_87 : decode cX2_isOf 87 = .ok (.getfield 31, 3) := by decide +kernel
theorem dX2_isOf_90 : decode cX2_isOf 90 = .ok (.aload_n 0, 1) := by decide +kernel
theorem dX2_isOf_91 : decode cX2_isOf 91 = .ok (.getfield 38, 3) := by decide +kernel
theorem dX2_isOf_94 : decode cX2_isOf 94 = .ok (.iload 5, 2) := by decide +kernel
theorem dX2_isOf_96 : decode cX2_isOf 96 = .ok (.iadd, 1) := by decide +kernel
theorem dX2_isOf_97 : decode cX2_isOf 97 = .ok (.iaload, 1) := by decide +kernel
theorem dX2_isOf_98 : decode cX2_isOf 98 = .ok (.if_icmp .eq 5, 3) := by decide +kernel
theorem dX2_isOf_101 : decode cX2_isOf 101 = .ok (.iconst 0, 1) := by decide +kernel
theorem dX2_isOf_102 : decode cX2_isOf 102 = .ok (.ireturn, 1) := by decide +kernel
theorem dX2_isOf_103 : decode cX2_isOf 103 = .ok (.iinc 5 1, 3) := by decide +kernel
theorem dX2_isOf_106 : decode cX2_isOf 106 = .ok (.goto (-41), 3) := by decide +kernel
theorem dX2_isOf_109 : decode cX2_isOf 109 = .ok (.iconst 1, 1) := by decide +kernel
theorem dX2_isOf_110 : decode cX2_isOf 110 = .ok (.ireturn, 1) := by decide +kernel
theorem dX3_init_0 : decode cX3_init 0 = .ok (.aload_n 0, 1) := by decide +kernel
theorem dX3_init_1 : decode cX3_init 1 = .ok (.invokespecial 3, 3) := by decide +kernel
theorem dX3_init_4 : decode cX3_init 4 = .ok (.aload_n 0, 1) := by decide +kernel
theorem dX3_init_5 : decode cX3_init 5 = .ok (.bipush 30, 2) := by decide +kernel
theorem dX3_init_7 : decode cX3_init 7 = .ok (.newarray .int, 2) := by decide +kernel
theorem dX3_init_9 : decode cX3_init 9 = .ok (.putfield 9, 3) := by decide +kernel
theorem dX3_init_12 : decode cX3_init 12 = .ok (.aload_n 0, 1) := by decide +kernel
theorem dX3_init_13 : decode cX3_init 13 = .ok (.bipush 30, 2) := by decide +kernel
theorem dX3_init_15 : decode cX3_init 15 = .ok (.newarray .int, 2) := by decide +kernel
theorem dX3_init_17 : decode cX3_init 17 = .ok (.putfield 15, 3) := by decide +kernel
theorem dX3_init_20 : decode cX3_init 20 = .ok (.aload_n 0, 1) := by decide +kernel
theorem dX3_init_21 : decode cX3_init 21 = .ok (.bipush 60, 2) := by decide +kernel
theorem dX3_init_23 : decode cX3_init 23 = .ok (.newarray .int, 2) := by decide +kernel
theorem dX3_init_25 : decode cX3_init 25 = .ok (.putfield 18, 3) := by decide +kernel
theorem dX3_init_28 : decode cX3_init 28 = .ok (.aload_n 0, 1) := by decide +kernel
theorem dX3_init_29 : decode cX3_init 29 = .ok (.bipush 60, 2) := by decide +kernel
theorem dX3_init_31 : decode cX3_init 31 = .ok (.newarray .int, 2) := by decide +kernel
theorem dX3_init_33 : decode cX3_init 33 = .ok (.putfield 21, 3) := by decide +kernel
theorem dX3_init_36 : decode cX3_init 36 = .ok (.aload_n 0, 1) := by decide +kernel
theorem dX3_init_37 : decode cX3_init 37 = .ok (.bipush 60, 2) := by decide +kernel
theorem dX3_init_39 : decode cX3_init 39 = .ok (.newarray .int, 2) := by decide +kernel
theorem dX3_init_41 : decode cX3_init 41 = .ok (.putfield 24, 3) := by decide +kernel
theorem dX3_init_44 : decode cX3_init 44 = .ok (.aload_n 0, 1) := by decide +kernel
theorem dX3_init_45 : decode cX3_init 45 = .ok (.bipush 30, 2) := by decide +kernel
theorem dX3_init_47 : decode cX3_init 47 = .ok (.newarray .int, 2) := by decide +kernel
theorem dX3_init_49 : decode cX3_init 49 = .ok (.putfield 27, 3) := by decide +kernel
theorem dX3_init_52 : decode cX3_init 52 = .ok (.aload_n 0, 1) := by decide +kernel
theorem dX3_init_53 : decode cX3_init 53 = .ok (.bipush 30, 2) := by decide +kernel
theorem dX3_init_55 : decode cX3_init 55 = .ok (.newarray .boolean, 2) := by decide +kernel
theorem dX3_init_57 : decode cX3_init 57 = .ok (.putfield 30, 3) := by decide +kernel
theorem dX3_init_60 : decode cX3_init 60 = .ok (.return_, 1) := by decide +kernel
theorem dX3_plan_0 : decode cX3_plan 0 = .ok (.aload_n 0, 1) := by decide +kernel
theorem dX3_plan_1 : decode cX3_plan 1 = .ok (.aload_n 1, 1) := by decide +kernel
theorem dX3_plan_2 : decode cX3_plan 2 = .ok (.getfield 34, 3) := by decide +kernel
theorem dX3_plan_5 : decode cX3_plan 5 = .ok (.aload_n 2, 1) := by decide +kernel
theorem dX3_plan_6 : decode cX3_plan 6 = .ok (.getfield 34, 3) := by decide +kernel
theorem dX3_plan_9 : decode cX3_plan 9 = .ok (.iadd, 1) := by decide +kernel
theorem dX3_plan_10 : decode cX3_plan 10 = .ok (.putfield 40, 3) := by decide +kernel
theorem dX3_plan_13 : decode cX3_plan 13 = .ok (.aload_n 0, 1) := by decide +kernel
theorem dX3_plan_14 : decode cX3_plan 14 = .ok (.iconst 0, 1) := by decide +kernel
theorem dX3_plan_15 : decode cX3_plan 15 = .ok (.putfield 43, 3) := by decide +kernel
theorem dX3_plan_18 : decode cX3_plan 18 = .ok (.aload_n 0, 1) := by decide +kernel
theorem dX3_plan_19 : decode cX3_plan 19 = .ok (.iconst 0, 1) := by decide +kernel
theorem dX3_plan_20 : decode cX3_plan 20 = .ok (.putfield 46, 3) := by decide +kernel
theorem dX3_plan_23 : decode cX3_plan 23 = .ok (.aload_n 0, 1) := by decide +kernel
theorem dX3_plan_24 : decode cX3_plan 24 = .ok (.aload_n 3, 1) := by decide +kernel
theorem dX3_plan_25 : decode cX3_plan 25 = .ok (.invokevirtual 49, 3) := by decide +kernel
theorem dX3_plan_28 : decode cX3_plan 28 = .ok (.aload_n 0, 1) := by decide +kernel
theorem dX3_plan_29 : decode cX3_plan 29 = .ok (.aload_n 1, 1) := by decide +kernel
theorem dX3_plan_30 : decode cX3_plan 30 = .ok (.aload 4, 2) := by decide +kernel
theorem dX3_plan_32 : decode cX3_plan 32 = .ok (.iconst 3, 1) := by decide +kernel
theorem dX3_plan_33 : decode cX3_plan 33 = .ok (.iaload, 1) := by decide +kernel
theorem dX3_plan_34 : decode cX3_plan 34 = .ok (.invokevirtual 53, 3) := by decide +kernel
theorem dX3_plan_37 : decode cX3_plan 37 = .ok (.aload_n 0, 1) := by decide +kernel
theorem dX3_plan_38 : decode cX3_plan 38 = .ok (.aload_n 1, 1) := by decide +kernel
theorem dX3_plan_39 : decode cX3_plan 39 = .ok (.aload_n 2, 1) := by decide +kernel
theorem dX3_plan_40 : decode cX3_plan 40 = .ok (.aload 4, 2) := by decide +kernel
theorem dX3_plan_42 : decode cX3_plan 42 = .ok (.invokevirtual 57, 3) := by decide +kernel
theorem dX3_plan_45 : decode cX3_plan 45 = .ok (.aload_n 0, 1) := by decide +kernel
theorem dX3_plan_46 : decode cX3_plan 46 = .ok (.aload_n 2, 1) := by decide +kernel
theorem dX3_plan_47 : decode cX3_plan 47 = .ok (.aload_n 3, 1) := by decide +kernel
theorem dX3_plan_48 : decode cX3_plan 48 = .ok (.getfield 61, 3) := by decide +kernel
theorem dX3_plan_51 : decode cX3_plan 51 = .ok (.aload 4, 2) := by decide +kernel
theorem dX3_plan_53 : decode cX3_plan 53 = .ok (.iconst 2, 1) := by decide +kernel
theorem dX3_plan_54 : decode cX3_plan 54 = .ok (.iaload, 1) := by decide +kernel
theorem dX3_plan_55 : decode cX3_plan 55 = .ok (.invokevirtual 67, 3) := by decide +kernel
theorem dX3_plan_58 : decode cX3_plan 58 = .ok (.return_, 1) := by decide +kernel
theorem dX3_matchRows_0 : decode cX3_matchRows 0 = .ok (.iconst 0, 1) := by decide +kernel
theorem dX3_matchRows_1 : decode cX3_matchRows 1 = .ok (.istore_n 2, 1) := by decide +kernel
theorem dX3_matchRows_2 : decode cX3_matchRows 2 = .ok (.iload_n 2, 1) := by decide +kernel
theorem dX3_matchRows_3 : decode cX3_matchRows 3 = .ok (.bipush 30, 2) := by decide +kernel
theorem dX3_matchRows_5 : decode cX3_matchRows 5 = .ok (.if_icmp .ge 23, 3) := by decide +kernel
theorem dX3_matchRows_8 : decode cX3_matchRows 8 = .ok (.aload_n 0, 1) := by decide +kernel
theorem dX3_matchRows_9 : decode cX3_matchRows 9 = .ok (.getfield 27, 3) := by decide +kernel
theorem dX3_matchRows_12 : decode cX3_matchRows 12 = .ok (.iload_n 2, 1) := by decide +kernel
theorem dX3_matchRows_13 : decode cX3_matchRows 13 = .ok (.iconst (-1), 1) := by decide +kernel
theorem dX3_matchRows_14 : decode cX3_matchRows 14 = .ok (.iastore, 1) := by decide +kernel
theorem dX3_matchRows_15 : decode cX3_matchRows 15 = .ok (.aload_n 0, 1) := by decide +kernel
theorem dX3_matchRows_16 : decode cX3_matchRows 16 = .ok (.getfield 30, 3) := by decide +kernel
theorem dX3_matchRows_19 : decode cX3_matchRows 19 = .ok (.iload_n 2, 1) := by decide +kernel
theorem dX3_matchRows_20 : decode cX3_matchRows 20 = .ok (.iconst 0, 1) := by decide +kernel
theorem dX3_matchRows_21 : decode cX3_matchRows 21 = .ok (.bastore, 1) := by decide +kernel
theorem dX3_matchRows_22 : decode cX3_matchRows 22 = .ok (.iinc 2 1, 3) := by decide +kernel
theorem dX3_matchRows_25 : decode cX3_matchRows 25 = .ok (.goto (-23), 3) := by decide +kernel
theorem dX3_matchRows_28 : decode cX3_matchRows 28 = .ok (.iconst 0, 1) := by decide +kernel
theorem dX3_matchRows_29 : decode cX3_matchRows 29 = .ok (.istore_n 2, 1) := by decide +kernel
theorem dX3_matchRows_30 : decode cX3_matchRows 30 = .ok (.iload_n 2, 1) := by decide +kernel
theorem dX3_matchRows_31 : decode cX3_matchRows 31 = .ok (.aload_n 1, 1) := by decide +kernel
theorem dX3_matchRows_32 : decode cX3_matchRows 32 = .ok (.getfield 71, 3) := by decide +kernel
theorem dX3_matchRows_35 : decode cX3_matchRows 35 = .ok (.if_icmp .ge 51, 3) := by decide +kernel
theorem dX3_matchRows_38 : decode cX3_matchRows 38 = .ok (.aload_n 1, 1) := by decide +kernel
theorem dX3_matchRows_39 : decode cX3_matchRows 39 = .ok (.getfield 61, 3) := by decide +kernel
theorem dX3_matchRows_42 : decode cX3_matchRows 42 = .ok (.getfield 72, 3) := by decide +kernel
theorem dX3_matchRows_45 : decode cX3_matchRows 45 = .ok (.aload_n 1, 1) := by decide +kernel
theorem dX3_matchRows_46 : decode cX3_matchRows 46 = .ok (.getfield 77, 3) := by decide +kernel
theorem dX3_matchRows_49 : decode cX3_matchRows 49 = .ok (.iload_n 2, 1) := by decide +kernel
theorem dX3_matchRows_50 : decode cX3_matchRows 50 = .ok (.iaload, 1) := by decide +kernel
theorem dX3_matchRows_51 : decode cX3_matchRows 51 = .ok (.iaload, 1) := by decide +kernel
theorem dX3_matchRows_52 : decode cX3_matchRows 52 = .ok (.istore_n 3, 1) := by decide +kernel
theorem dX3_matchRows_53 : decode cX3_matchRows 53 = .ok (.aload_n 0, 1) := by decide +kernel
theorem dX3_matchRows_54 : decode cX3_matchRows 54 = .ok (.getfield 27, 3) := by decide +kernel
theorem dX3_matchRows_57 : decode cX3_matchRows 57 = .ok (.aload_n 1, 1) := by decide +kernel
theorem dX3_matchRows_58 : decode cX3_matchRows 58 = .ok (.getfield 80, 3) := by decide +kernel
theorem dX3_matchRows_61 : decode cX3_matchRows 61 = .ok (.getfield 72, 3) := by decide +kernel
theorem dX3_matchRows_64 : decode cX3_matchRows 64 = .ok (.aload_n 1, 1) := by decide +kernel
theorem dX3_matchRows_65 : decode cX3_matchRows 65 = .ok (.getfield 83, 3) := by decide +kernel
theorem dX3_matchRows_68 : decode cX3_matchRows 68 = .ok (.iload_n 2, 1) := by decide +kernel
theorem dX3_matchRows_69 : decode cX3_matchRows 69 = .ok (.iaload, 1) := by decide +kernel
theorem dX3_matchRows_70 : decode cX3_matchRows 70 = .ok (.iaload, 1) := by decide +kernel
theorem dX3_matchRows_71 : decode cX3_matchRows 71 = .ok (.iload_n 3, 1) := by decide +kernel
theorem dX3_matchRows_72 : decode cX3_matchRows 72 = .ok (.iastore, 1) := by decide +kernel
theorem dX3_matchRows_73 : decode cX3_matchRows 73 = .ok (.aload_n 0, 1) := by decide +kernel
theorem dX3_matchRows_74 : decode cX3_matchRows 74 = .ok (.getfield 30, 3) := by decide +kernel
theorem dX3_matchRows_77 : decode cX3_matchRows 77 = .ok (.iload_n 3, 1) := by decide +kernel
theorem dX3_matchRows_78 : decode cX3_matchRows 78 = .ok (.iconst 1, 1) := by decide +kernel
theorem dX3_matchRows_79 : decode cX3_matchRows 79 = .ok (.bastore, 1) := by decide +kernel
theorem dX3_matchRows_80 : decode cX3_matchRows 80 = .ok (.iinc 2 1, 3) := by decide +kernel
theorem dX3_matchRows_83 : decode cX3_matchRows 83 = .ok (.goto (-53), 3) := by decide +kernel
theorem dX3_matchRows_86 : decode cX3_matchRows 86 = .ok (.return_, 1) := by decide +kernel
theorem dX3_takeLonely_0 : decode cX3_takeLonely 0 = .ok (.iconst 0, 1) := by decide +kernel
theorem dX3_takeLonely_1 : decode cX3_takeLonely 1 = .ok (.istore_n 3, 1) := by decide +kernel
theorem dX3_takeLonely_2 : decode cX3_takeLonely 2 = .ok (.iload_n 3, 1) := by decide +kernel
theorem dX3_takeLonely_3 : decode cX3_takeLonely 3 = .ok (.aload_n 1, 1) := by decide +kernel
theorem dX3_takeLonely_4 : decode cX3_takeLonely 4 = .ok (.getfield 34, 3) := by decide +kernel
theorem dX3_takeLonely_7 : decode cX3_takeLonely 7 = .ok (.if_icmp .ge 31, 3) := by decide +kernel
theorem dX3_takeLonely_10 : decode cX3_takeLonely 10 = .ok (.aload_n 0, 1) := by decide +kernel
theorem dX3_takeLonely_11 : decode cX3_takeLonely 11 = .ok (.getfield 27, 3) := by decide +kernel
theorem dX3_takeLonely_14 : decode cX3_takeLonely 14 = .ok (.iload_n 3, 1) := by decide +kernel
theorem dX3_takeLonely_15 : decode cX3_takeLonely 15 = .ok (.iaload, 1) := by decide +kernel
theorem dX3_takeLonely_16 : decode cX3_takeLonely 16 = .ok (.iconst (-1), 1) := by decide +kernel
theorem dX3_takeLonely_17 : decode cX3_takeLonely 17 = .ok (.if_icmp .ne 15, 3) := by decide +kernel
theorem dX3_takeLonely_20 : decode cX3_takeLonely 20 = .ok (.aload_n 0, 1) := by decide +kernel
theorem dX3_takeLonely_21 : decode cX3_takeLonely 21 = .ok (.iconst 3, 1) := by decide +kernel
theorem dX3_takeLonely_22 : decode cX3_takeLonely 22 = .ok (.aload_n 1, 1) := by decide +kernel
theorem dX3_takeLonely_23 : decode cX3_takeLonely 23 = .ok (.getfield 86, 3) := by decide +kernel
theorem dX3_takeLonely_26 : decode cX3_takeLonely 26 = .ok (.iload_n 3, 1) := by decide +kernel
theorem dX3_takeLonely_27 : decode cX3_takeLonely 27 = .ok (.iaload, 1) := by decide +kernel
theorem dX3_takeLonely_28 : decode cX3_takeLonely 28 = .ok (.iload_n 2, 1) := by decide +kernel
theorem dX3_takeLonely_29 : decode cX3_takeLonely 29 = .ok (.invokevirtual 89, 3) := by decide +kernel
theorem dX3_takeLonely_32 : decode cX3_takeLonely 32 = .ok (.iinc 3 1, 3) := by decide +kernel
theorem dX3_takeLonely_35 : decode cX3_takeLonely 35 = .ok (.goto (-33), 3) := by decide +kernel
theorem dX3_takeLonely_38 : decode cX3_takeLonely 38 = .ok (.return_, 1) := by decide +kernel
theorem dX3_mendPairs_0 : decode cX3_mendPairs 0 = .ok (.iconst 0, 1) := by decide +kernel
theorem dX3_mendPairs_1 : decode cX3_mendPairs 1 = .ok (.istore 4, 2) := by decide +kernel
theorem dX3_mendPairs_3 : decode cX3_mendPairs 3 = .ok (.iload 4, 2) := by decide +kernel
theorem dX3_mendPairs_5 : decode cX3_mendPairs 5 = .ok (.aload_n 1, 1) := by decide +kernel
theorem dX3_mendPairs_6 : decode cX3_mendPairs 6 = .ok (.getfield 34, 3) := by decide +kernel
theorem dX3_mendPairs_9 : decode cX3_mendPairs 9 = .ok (.if_icmp .ge 135, 3) := by decide +kernel
theorem dX3_mendPairs_12 : decode cX3_mendPairs 12 = .ok (.aload_n 0, 1) := by decide +kernel
theorem dX3_mendPairs_13 : decode cX3_mendPairs 13 = .ok (.getfield 27, 3) := by decide +kernel
theorem dX3_mendPairs_16 : decode cX3_mendPairs 16 = .ok (.iload 4, 2) := by decide +kernel
theorem dX3_mendPairs_18 : decode cX3_mendPairs 18 = .ok (.iaload, 1) := by decide +kernel
theorem dX3_mendPairs_19 : decode cX3_mendPairs 19 = .ok (.istore 5, 2) := by decide +kernel
theorem dX3_mendPairs_21 : decode cX3_mendPairs 21 = .ok (.iload 5, 2) := by decide +kernel
theorem dX3_mendPairs_23 : decode cX3_mendPairs 23 = .ok (.iconst (-1), 1) := by decide +kernel
theorem dX3_mendPairs_24 : decode cX3_mendPairs 24 = .ok (.if_icmp .ne 6, 3) := by decide +kernel
theorem dX3_mendPairs_27 : decode cX3_mendPairs 27 = .ok (.goto 111, 3) := by decide +kernel
theorem dX3_mendPairs_30 : decode cX3_mendPairs 30 = .ok (.aload_n 0, 1) := by decide +kernel
theorem dX3_mendPairs_31 : decode cX3_mendPairs 31 = .ok (.getfield 9, 3) := by decide +kernel
theorem dX3_mendPairs_34 : decode cX3_mendPairs 34 = .ok (.aload_n 0, 1) := by decide +kernel
theorem dX3_mendPairs_35 : decode cX3_mendPairs 35 = .ok (.getfield 43, 3) := by decide +kernel
theorem dX3_mendPairs_38 : decode cX3_mendPairs 38 = .ok (.aload_n 1, 1) := by decide +kernel
theorem dX3_mendPairs_39 : decode cX3_mendPairs 39 = .ok (.getfield 86, 3) := by decide +kernel
theorem dX3_mendPairs_42 : decode cX3_mendPairs 42 = .ok (.iload 4, 2) := by decide +kernel
theorem dX3_mendPairs_44 : decode cX3_mendPairs 44 = .ok (.iaload, 1) := by decide +kernel
theorem dX3_mendPairs_45 : decode cX3_mendPairs 45 = .ok (.iastore, 1) := by decide +kernel
theorem dX3_mendPairs_46 : decode cX3_mendPairs 46 = .ok (.aload_n 0, 1) := by decide +kernel
theorem dX3_mendPairs_47 : decode cX3_mendPairs 47 = .ok (.getfield 15, 3) := by decide +kernel
theorem dX3_mendPairs_50 : decode cX3_mendPairs 50 = .ok (.aload_n 0, 1) := by decide +kernel
theorem dX3_mendPairs_51 : decode cX3_mendPairs 51 = .ok (.getfield 43, 3) := by decide +kernel
theorem dX3_mendPairs_54 : decode cX3_mendPairs 54 = .ok (.aload_n 2, 1) := by decide +kernel
theorem dX3_mendPairs_55 : decode cX3_mendPairs 55 = .ok (.getfield 86, 3) := by decide +kernel
theorem dX3_mendPairs_58 : decode cX3_mendPairs 58 = .ok (.iload 5, 2) := by decide +kernel
theorem dX3_mendPairs_60 : decode cX3_mendPairs 60 = .ok (.iaload, 1) := by decide +kernel
theorem dX3_mendPairs_61 : decode cX3_mendPairs 61 = .ok (.iastore, 1) := by decide +kernel
theorem dX3_mendPairs_62 : decode cX3_mendPairs 62 = .ok (.aload_n 0, 1) := by decide +kernel
theorem dX3_mendPairs_63 : decode cX3_mendPairs 63 = .ok (.dup, 1) := by decide +kernel
theorem dX3_mendPairs_64 : decode cX3_mendPairs 64 = .ok (.getfield 43, 3) := by decide +kernel
theorem dX3_mendPairs_67 : decode cX3_mendPairs 67 = .ok (.iconst 1, 1) := by decide +kernel
theorem dX3_mendPairs_68 : decode cX3_mendPairs 68 = .ok (.iadd, 1) := by decide +kernel
theorem dX3_mendPairs_69 : decode cX3_mendPairs 69 = .ok (.putfield 43, 3) := by decide +kernel
theorem dX3_mendPairs_72 : decode cX3_mendPairs 72 = .ok (.aload_n 1, 1) := by decide +kernel
theorem dX3_mendPairs_73 : decode cX3_mendPairs 73 = .ok (.getfield 93, 3) := by decide +kernel
theorem dX3_mendPairs_76 : decode cX3_mendPairs 76 = .ok (.iload 4, 2) := by decide +kernel
theorem dX3_mendPairs_78 : decode cX3_mendPairs 78 = .ok (.laload, 1) := by decide +kernel
theorem dX3_mendPairs_79 : decode cX3_mendPairs 79 = .ok (.aload_n 2, 1) := by decide +kernel
theorem dX3_mendPairs_80 : decode cX3_mendPairs 80 = .ok (.getfield 93, 3) := by decide +kernel
theorem dX3_mendPairs_83 : decode cX3_mendPairs 83 = .ok (.iload 5, 2) := by decide +kernel
theorem dX3_mendPairs_85 : decode cX3_mendPairs 85 = .ok (.laload, 1) := by decide +kernel
theorem dX3_mendPairs_86 : decode cX3_mendPairs 86 = .ok (.lcmp, 1) := by decide +kernel
theorem dX3_mendPairs_87 : decode cX3_mendPairs 87 = .ok (.ifCond .eq 18, 3) := by decide +kernel
theorem dX3_mendPairs_90 : decode cX3_mendPairs 90 = .ok (.aload_n 0, 1) := by decide +kernel
theorem dX3_mendPairs_91 : decode cX3_mendPairs 91 = .ok (.iconst 0, 1) := by decide +kernel
theorem dX3_mendPairs_92 : decode cX3_mendPairs 92 = .ok (.aload_n 1, 1) := by decide +kernel
theorem dX3_mendPairs_93 : decode cX3_mendPairs 93 = .ok (.getfield 86, 3) := by decide +kernel
theorem dX3_mendPairs_96 : decode cX3_mendPairs 96 = .ok (.iload 4, 2) := by decide +kernel
theorem dX3_mendPairs_98 : decode cX3_mendPairs 98 = .ok (.iaload, 1) := by decide +kernel
theorem dX3_mendPairs_99 : decode cX3_mendPairs 99 = .ok (.aload_n 3, 1) := by decide +kernel
theorem dX3_mendPairs_100 : decode cX3_mendPairs 100 = .ok (.iconst 0, 1) := by decide +kernel
theorem dX3_mendPairs_101 : decode cX3_mendPairs 101 = .ok (.iaload, 1) := by decide +kernel
theorem dX3_mendPairs_102 : decode cX3_mendPairs 102 = .ok (.invokevirtual 89, 3) := by decide +kernel
theorem dX3_mendPairs_105 : decode cX3_mendPairs 105 = .ok (.aload_n 1, 1) := by decide +kernel
theorem dX3_mendPairs_106 : decode cX3_mendPairs 106 = .ok (.getfield 97, 3) := by decide +kernel
theorem dX3_mendPairs_109 : decode cX3_mendPairs 109 = .ok (.iload 4, 2) := by decide +kernel
theorem dX3_mendPairs_111 : decode cX3_mendPairs 111 = .ok (.laload, 1) := by decide +kernel
theorem dX3_mendPairs_112 : decode cX3_mendPairs 112 = .ok (.aload_n 2, 1) := by decide +kernel
theorem dX3_mendPairs_113 : decode cX3_mendPairs 113 = .ok (.getfield 97, 3) := by decide +kernel
theorem dX3_mendPairs_116 : decode cX3_mendPairs 116 = .ok (.iload 5, 2) := by decide +kernel
theorem dX3_mendPairs_118 : decode cX3_mendPairs 118 = .ok (.laload, 1) := by decide +kernel
theorem dX3_mendPairs_119 : decode cX3_mendPairs 119 = .ok (.lcmp, 1) := by decide +kernel
theorem dX3_mendPairs_120 : decode cX3_mendPairs 120 = .ok (.ifCond .eq 18, 3) := by decide +kernel
theorem dX3_mendPairs_123 : decode cX3_mendPairs 123 = .ok (.aload_n 0, 1) := by decide +kernel
theorem dX3_mendPairs_124 : decode cX3_mendPairs 124 = .ok (.iconst 1, 1) := by decide +kernel
theorem dX3_mendPairs_125 : decode cX3_mendPairs 125 = .ok (.aload_n 1, 1) := by decide +kernel
theorem dX3_mendPairs_126 : decode cX3_mendPairs 126 = .ok (.getfield 86, 3) := by decide +kernel
theorem dX3_mendPairs_129 : decode cX3_mendPairs 129 = .ok (.iload 4, 2) := by decide +kernel
theorem dX3_mendPairs_131 : decode cX3_mendPairs 131 = .ok (.iaload, 1) := by decide +kernel
theorem dX3_mendPairs_132 : decode cX3_mendPairs 132 = .ok (.aload_n 3, 1) := by decide +kernel
theorem dX3_mendPairs_133 : decode cX3_mendPairs 133 = .ok (.iconst 1, 1) := by decide +kernel
theorem dX3_mendPairs_134 : decode cX3_mendPairs 134 = .ok (.iaload, 1) := by decide +kernel
theorem dX3_mendPairs_135 : decode cX3_mendPairs 135 = .ok (.invokevirtual 89, 3) := by decide +kernel
theorem dX3_mendPairs_138 : decode cX3_mendPairs 138 = .ok (.iinc 4 1, 3) := by decide +kernel
theorem dX3_mendPairs_141 : decode cX3_mendPairs 141 = .ok (.goto (-138), 3) := by decide +kernel
theorem dX3_mendPairs_144 : decode cX3_mendPairs 144 = .ok (.return_, 1) := by decide +kernel
theorem dX3_putLonely_0 : decode cX3_putLonely 0 = .ok (.iconst 1, 1) := by decide +kernel
theorem dX3_putLonely_1 : decode cX3_putLonely 1 = .ok (.istore 4, 2) := by decide +kernel
theorem dX3_putLonely_3 : decode cX3_putLonely 3 = .ok (.iload 4, 2) := by decide +kernel
theorem dX3_putLonely_5 : decode cX3_putLonely 5 = .ok (.aload_n 2, 1) := by decide +kernel
theorem dX3_putLonely_6 : decode cX3_putLonely 6 = .ok (.getfield 100, 3) := by decide +kernel
theorem dX3_putLonely_9 : decode cX3_putLonely 9 = .ok (.if_icmp .gt 41, 3) := by decide +kernel
theorem dX3_putLonely_12 : decode cX3_putLonely 12 = .ok (.aload_n 2, 1) := by decide +kernel
theorem dX3_putLonely_13 : decode cX3_putLonely 13 = .ok (.getfield 72, 3) := by decide +kernel
theorem dX3_putLonely_16 : decode cX3_putLonely 16 = .ok (.iload 4, 2) := by decide +kernel
theorem dX3_putLonely_18 : decode cX3_putLonely 18 = .ok (.iaload, 1) := by decide +kernel
theorem dX3_putLonely_19 : decode cX3_putLonely 19 = .ok (.istore 5, 2) := by decide +kernel
theorem dX3_putLonely_21 : decode cX3_putLonely 21 = .ok (.aload_n 0, 1) := by decide +kernel
theorem dX3_putLonely_22 : decode cX3_putLonely 22 = .ok (.getfield 30, 3) := by decide +kernel
theorem dX3_putLonely_25 : decode cX3_putLonely 25 = .ok (.iload 5, 2) := by decide +kernel
theorem dX3_putLonely_27 : decode cX3_putLonely 27 = .ok (.baload, 1) := by decide +kernel
theorem dX3_putLonely_28 : decode cX3_putLonely 28 = .ok (.ifCond .ne 16, 3) := by decide +kernel
theorem dX3_putLonely_31 : decode cX3_putLonely 31 = .ok (.aload_n 0, 1) := by decide +kernel
theorem dX3_putLonely_32 : decode cX3_putLonely 32 = .ok (.iconst 2, 1) := by decide +kernel
theorem dX3_putLonely_33 : decode cX3_putLonely 33 = .ok (.aload_n 1, 1) := by decide +kernel
theorem dX3_putLonely_34 : decode cX3_putLonely 34 = .ok (.getfield 86, 3) := by decide +kernel
theorem dX3_putLonely_37 : decode cX3_putLonely 37 = .ok (.iload 5, 2) := by decide +kernel
theorem dX3_putLonely_39 : decode cX3_putLonely 39 = .ok (.iaload, 1) := by decide +kernel
theorem dX3_putLonely_40 : decode cX3_putLonely 40 = .ok (.iload_n 3, 1) := by decide +kernel
theorem dX3_putLonely_41 : decode cX3_putLonely 41 = .ok (.invokevirtual 89, 3) := by decide +kernel
theorem dX3_putLonely_44 : decode cX3_putLonely 44 = .ok (.iinc 4 1, 3) := by decide +kernel
theorem dX3_putLonely_47 : decode cX3_putLonely 47 = .ok (.goto (-44), 3) := by decide +kernel
theorem dX3_putLonely_50 : decode cX3_putLonely 50 = .ok (.return_, 1) := by decide +kernel
theorem dX3_addAct_0 : decode cX3_addAct 0 = .ok (.aload_n 0, 1) := by decide +kernel
theorem dX3_addAct_1 : decode cX3_addAct 1 = .ok (.getfield 46, 3) := by decide +kernel
theorem dX3_addAct_4 : decode cX3_addAct 4 = .ok (.bipush 60, 2) := by decide +kernel
theorem dX3_addAct_6 : decode cX3_addAct 6 = .ok (.if_icmp .ge 43, 3) := by decide +kernel
theorem dX3_addAct_9 : decode cX3_addAct 9 = .ok (.aload_n 0, 1) := by decide +kernel
theorem dX3_addAct_10 : decode cX3_addAct 10 = .ok (.getfield 18, 3) := by decide +kernel
theorem dX3_addAct_13 : decode cX3_addAct 13 = .ok (.aload_n 0, 1) := by decide +kernel
theorem dX3_addAct_14 : decode cX3_addAct 14 = .ok (.getfield 46, 3) := by decide +kernel
theorem dX3_addAct_17 : decode cX3_addAct 17 = .ok (.iload_n 1, 1) := by decide +kernel
theorem dX3_addAct_18 : decode cX3_addAct 18 = .ok (.iastore, 1) := by decide +kernel
theorem dX3_addAct_19 : decode cX3_addAct 19 = .ok (.aload_n 0, 1) := by decide +kernel
theorem dX3_addAct_20 : decode cX3_addAct 20 = .ok (.getfield 21, 3) := by decide +kernel
theorem dX3_addAct_23 : decode cX3_addAct 23 = .ok (.aload_n 0, 1) := by decide +kernel
theorem dX3_addAct_24 : decode cX3_addAct 24 = .ok (.getfield 46, 3) := by decide +kernel
theorem dX3_addAct_27 : decode cX3_addAct 27 = .ok (.iload_n 2, 1) := by decide +kernel
theorem dX3_addAct_28 : decode cX3_addAct 28 = .ok (.iastore, 1) := by decide +kernel
theorem dX3_addAct_29 : decode cX3_addAct 29 = .ok (.aload_n 0, 1) := by decide +kernel
theorem dX3_addAct_30 : decode cX3_addAct 30 = .ok (.getfield 24, 3) := by decide +kernel
theorem dX3_addAct_33 : decode cX3_addAct 33 = .ok (.aload_n 0, 1) := by decide +kernel
theorem dX3_addAct_34 : decode cX3_addAct 34 = .ok (.getfield 46, 3) := by decide +kernel
theorem dX3_addAct_37 : decode cX3_addAct 37 = .ok (.iload_n 3, 1) := by decide +kernel
theorem dX3_addAct_38 : decode cX3_addAct 38 = .ok (.iastore, 1) := by decide +kernel
theorem dX3_addAct_39 : decode cX3_addAct 39 = .ok (.aload_n 0, 1) := by decide +kernel
theorem dX3_addAct_40 : decode cX3_addAct 40 = .ok (.dup, 1) := by decide +kernel
theorem dX3_addAct_41 : decode cX3_addAct 41 = .ok (.getfield 46, 3) := by decide +kernel
theorem dX3_addAct_44 : decode cX3_addAct 44 = .ok (.iconst 1, 1) := by decide +kernel
theorem dX3_addAct_45 : decode cX3_addAct 45 = .ok (.iadd, 1) := by decide +kernel
theorem dX3_addAct_46 : decode cX3_addAct 46 = .ok (.putfield 46, 3) := by decide +kernel
theorem dX3_addAct_49 : decode cX3_addAct 49 = .ok (.return_, 1) := by decide +kernel
theorem dX4_init_0 : decode cX4_init 0 = .ok (.aload_n 0, 1) := by decide +kernel
theorem dX4_init_1 : decode cX4_init 1 = .ok (.invokespecial 3, 3) := by decide +kernel
theorem dX4_init_4 : decode cX4_init 4 = .ok (.aload_n 0, 1) := by decide +kernel
theorem dX4_init_5 : decode cX4_init 5 = .ok (.new 9, 3) := by decide +kernel
theorem dX4_init_8 : decode cX4_init 8 = .ok (.dup, 1) := by decide +kernel
theorem dX4_init_9 : decode cX4_init 9 = .ok (.invokespecial 11, 3) := by decide +kernel
theorem dX4_init_12 : decode cX4_init 12 = .ok (.putfield 12, 3) := by decide +kernel
theorem dX4_init_15 : decode cX4_init 15 = .ok (.aload_n 0, 1) := by decide +kernel
theorem dX4_init_16 : decode cX4_init 16 = .ok (.bipush 121, 2) := by decide +kernel
theorem dX4_init_18 : decode cX4_init 18 = .ok (.newarray .int, 2) := by decide +kernel
theorem dX4_init_20 : decode cX4_init 20 = .ok (.putfield 18, 3) := by decide +kernel
theorem dX4_init_23 : decode cX4_init 23 = .ok (.aload_n 0, 1) := by decide +kernel
theorem dX4_init_24 : decode cX4_init 24 = .ok (.bipush 121, 2) := by decide +kernel
theorem dX4_init_26 : decode cX4_init 26 = .ok (.newarray .int, 2) := by decide +kernel
theorem dX4_init_28 : decode cX4_init 28 = .ok (.putfield 22, 3) := by decide +kernel
theorem dX4_init_31 : decode cX4_init 31 = .ok (.aload_n 0, 1) := by decide +kernel
theorem dX4_init_32 : decode cX4_init 32 = .ok (.aload_n 0, 1) := by decide +kernel
theorem dX4_init_33 : decode cX4_init 33 = .ok (.getfield 12, 3) := by decide +kernel
theorem dX4_init_36 : decode cX4_init 36 = .ok (.putfield 25, 3) := by decide +kernel
theorem dX4_init_39 : decode cX4_init 39 = .ok (.aload_n 0, 1) := by decide +kernel
theorem dX4_init_40 : decode cX4_init 40 = .ok (.aload_n 0, 1) := by decide +kernel
theorem dX4_init_41 : decode cX4_init 41 = .ok (.getfield 12, 3) := by decide +kernel
theorem dX4_init_44 : decode cX4_init 44 = .ok (.putfield 28, 3) := by decide +kernel
theorem dX4_init_47 : decode cX4_init 47 = .ok (.aload_n 0, 1) := by decide +kernel
theorem dX4_init_48 : decode cX4_init 48 = .ok (.aload_n 0, 1) := by decide +kernel
theorem dX4_init_49 : decode cX4_init 49 = .ok (.getfield 12, 3) := by decide +kernel
theorem dX4_init_52 : decode cX4_init 52 = .ok (.putfield 31, 3) := by decide +kernel
theorem dX4_init_55 : decode cX4_init 55 = .ok (.aload_n 0, 1) := by decide +kernel
theorem dX4_init_56 : decode cX4_init 56 = .ok (.bipush 30, 2) := by decide +kernel
theorem dX4_init_58 : decode cX4_init 58 = .ok (.newarray .int, 2) := by decide +kernel
theorem dX4_init_60 : decode cX4_init 60 = .ok (.putfield 34, 3) := by decide +kernel
theorem dX4_init_63 : decode cX4_init 63 = .ok (.return_, 1) := by decide +kernel
theorem dX4_layTogether_0 : decode cX4_layTogether 0 = .ok (.aload_n 0, 1) := by decide +kernel
theorem dX4_layTogether_1 : decode cX4_layTogether 1 = .ok (.aload_n 1, 1) := by decide +kernel
theorem dX4_layTogether_2 : decode cX4_layTogether 2 = .ok (.putfield 25, 3) := by decide +kernel
theorem dX4_layTogether_5 : decode cX4_layTogether 5 = .ok (.aload_n 0, 1) := by decide +kernel
theorem dX4_layTogether_6 : decode cX4_layTogether 6 = .ok (.aload_n 2, 1) := by decide +kernel
theorem dX4_layTogether_7 : decode cX4_layTogether 7 = .ok (.putfield 28, 3) := by decide +kernel
theorem dX4_layTogether_10 : decode cX4_layTogether 10 = .ok (.aload_n 0, 1) := by decide +kernel
theorem dX4_layTogether_11 : decode cX4_layTogether 11 = .ok (.aload_n 3, 1) := by decide +kernel
theorem dX4_layTogether_12 : decode cX4_layTogether 12 = .ok (.putfield 31, 3) := by decide +kernel
theorem dX4_layTogether_15 : decode cX4_layTogether 15 = .ok (.aload_n 0, 1) := by decide +kernel
theorem dX4_layTogether_16 : decode cX4_layTogether 16 = .ok (.iconst 0, 1) := by decide +kernel
theorem dX4_layTogether_17 : decode cX4_layTogether 17 = .ok (.putfield 37, 3) := by decide +kernel
theorem dX4_layTogether_20 : decode cX4_layTogether 20 = .ok (.aload_n 0, 1) := by decide +kernel
theorem dX4_layTogether_21 : decode cX4_layTogether 21 = .ok (.getfield 12, 3) := by decide +kernel
theorem dX4_layTogether_24 : decode cX4_layTogether 24 = .ok (.iconst 0, 1) := by decide +kernel
theorem dX4_layTogether_25 : decode cX4_layTogether 25 = .ok (.putfield 41, 3) := by decide +kernel
theorem dX4_layTogether_28 : decode cX4_layTogether 28 = .ok (.aload_n 2, 1) := by decide +kernel
theorem dX4_layTogether_29 : decode cX4_layTogether 29 = .ok (.getfield 44, 3) := by decide +kernel
theorem dX4_layTogether_32 : decode cX4_layTogether 32 = .ok (.iconst 0, 1) := by decide +kernel
theorem dX4_layTogether_33 : decode cX4_layTogether 33 = .ok (.iaload, 1) := by decide +kernel
theorem dX4_layTogether_34 : decode cX4_layTogether 34 = .ok (.aload_n 1, 1) := by decide +kernel
theorem dX4_layTogether_35 : decode cX4_layTogether 35 = .ok (.getfield 44, 3) := by decide +kernel
theorem dX4_layTogether_38 : decode cX4_layTogether 38 = .ok (.iconst 0, 1) := by decide +kernel
theorem dX4_layTogether_39 : decode cX4_layTogether 39 = .ok (.iaload, 1) := by decide +kernel
theorem dX4_layTogether_40 : decode cX4_layTogether 40 = .ok (.if_icmp .ne 18, 3) := by decide +kernel
theorem dX4_layTogether_43 : decode cX4_layTogether 43 = .ok (.aload_n 3, 1) := by decide +kernel
theorem dX4_layTogether_44 : decode cX4_layTogether 44 = .ok (.getfield 44, 3) := by decide +kernel
theorem dX4_layTogether_47 : decode cX4_layTogether 47 = .ok (.iconst 0, 1) := by decide +kernel
theorem dX4_layTogether_48 : decode cX4_layTogether 48 = .ok (.iaload, 1) := by decide +kernel
theorem dX4_layTogether_49 : decode cX4_layTogether 49 = .ok (.aload_n 1, 1) := by decide +kernel
theorem dX4_layTogether_50 : decode cX4_layTogether 50 = .ok (.getfield 44, 3) := by decide +kernel
theorem dX4_layTogether_53 : decode cX4_layTogether 53 = .ok (.iconst 0, 1) := by decide +kernel
theorem dX4_layTogether_54 : decode cX4_layTogether 54 = .ok (.iaload, 1) := by decide +kernel
theorem dX4_layTogether_55 : decode cX4_layTogether 55 = .ok (.if_icmp .eq 10, 3) := by decide +kernel
theorem dX4_layTogether_58 : decode cX4_layTogether 58 = .ok (.aload_n 0, 1) := by decide +kernel
theorem dX4_layTogether_59 : decode cX4_layTogether 59 = .ok (.iconst (-1), 1) := by decide +kernel
theorem dX4_layTogether_60 : decode cX4_layTogether 60 = .ok (.iconst 4, 1) := by decide +kernel
theorem dX4_layTogether_61 : decode cX4_layTogether 61 = .ok (.invokevirtual 47, 3) := by decide +kernel
theorem dX4_layTogether_64 : decode cX4_layTogether 64 = .ok (.return_, 1) := by decide +kernel
theorem dX4_layTogether_65 : decode cX4_layTogether 65 = .ok (.aload_n 0, 1) := by decide +kernel
theorem dX4_layTogether_66 : decode cX4_layTogether 66 = .ok (.aload_n 1, 1) := by decide +kernel
theorem dX4_layTogether_67 : decode cX4_layTogether 67 = .ok (.getfield 44, 3) := by decide +kernel
theorem dX4_layTogether_70 : decode cX4_layTogether 70 = .ok (.iconst 0, 1) := by decide +kernel
theorem dX4_layTogether_71 : decode cX4_layTogether 71 = .ok (.iaload, 1) := by decide +kernel
theorem dX4_layTogether_72 : decode cX4_layTogether 72 = .ok (.iconst 0, 1) := by decide +kernel
theorem dX4_layTogether_73 : decode cX4_layTogether 73 = .ok (.invokevirtual 51, 3) := by decide +kernel
theorem dX4_layTogether_76 : decode cX4_layTogether 76 = .ok (.istore 4, 2) := by decide +kernel
theorem dX4_layTogether_78 : decode cX4_layTogether 78 = .ok (.aload_n 0, 1) := by decide +kernel
theorem dX4_layTogether_79 : decode cX4_layTogether 79 = .ok (.getfield 12, 3) := by decide +kernel
theorem dX4_layTogether_82 : decode cX4_layTogether 82 = .ok (.invokevirtual 55, 3) := by decide +kernel
theorem dX4_layTogether_85 : decode cX4_layTogether 85 = .ok (.iload 4, 2) := by decide +kernel
theorem dX4_layTogether_87 : decode cX4_layTogether 87 = .ok (.ifCond .eq 13, 3) := by decide +kernel
theorem dX4_layTogether_90 : decode cX4_layTogether 90 = .ok (.aload_n 0, 1) := by decide +kernel
theorem dX4_layTogether_91 : decode cX4_layTogether 91 = .ok (.getfield 12, 3) := by decide +kernel
theorem dX4_layTogether_94 : decode cX4_layTogether 94 = .ok (.invokevirtual 58, 3) := by decide +kernel
theorem dX4_layTogether_97 : decode cX4_layTogether 97 = .ok (.ifCond .eq 17, 3) := by decide +kernel
theorem dX4_layTogether_100 : decode cX4_layTogether 100 = .ok (.aload_n 0, 1) := by decide +kernel
theorem dX4_layTogether_101 : decode cX4_layTogether 101 = .ok (.getfield 12, 3) := by decide +kernel
theorem dX4_layTogether_104 : decode cX4_layTogether 104 = .ok (.iconst 0, 1) := by decide +kernel
theorem dX4_layTogether_105 : decode cX4_layTogether 105 = .ok (.putfield 41, 3) := by decide +kernel
theorem dX4_layTogether_108 : decode cX4_layTogether 108 = .ok (.aload_n 0, 1) := by decide +kernel
theorem dX4_layTogether_109 : decode cX4_layTogether 109 = .ok (.iconst (-1), 1) := by decide +kernel
theorem dX4_layTogether_110 : decode cX4_layTogether 110 = .ok (.iconst 5, 1) := by decide +kernel
theorem dX4_layTogether_111 : decode cX4_layTogether 111 = .ok (.invokevirtual 47, 3) := by decide +kernel
theorem dX4_layTogether_114 : decode cX4_layTogether 114 = .ok (.aload_n 0, 1) := by decide +kernel
theorem dX4_layTogether_115 : decode cX4_layTogether 115 = .ok (.invokevirtual 62, 3) := by decide +kernel
theorem dX4_layTogether_118 : decode cX4_layTogether 118 = .ok (.return_, 1) := by decide +kernel
theorem dX4_comeTo_0 : decode cX4_comeTo 0 = .ok (.aload_n 0, 1) := by decide +kernel
theorem dX4_comeTo_1 : decode cX4_comeTo 1 = .ok (.getfield 25, 3) := by decide +kernel
theorem dX4_comeTo_4 : decode cX4_comeTo 4 = .ok (.iload_n 1, 1) := by decide +kernel
theorem dX4_comeTo_5 : decode cX4_comeTo 5 = .ok (.invokevirtual 65, 3) := by decide +kernel
theorem dX4_comeTo_8 : decode cX4_comeTo 8 = .ok (.istore_n 3, 1) := by decide +kernel
theorem dX4_comeTo_9 : decode cX4_comeTo 9 = .ok (.aload_n 0, 1) := by decide +kernel
theorem dX4_comeTo_10 : decode cX4_comeTo 10 = .ok (.getfield 28, 3) := by decide +kernel
theorem dX4_comeTo_13 : decode cX4_comeTo 13 = .ok (.iload_n 1, 1) := by decide +kernel
theorem dX4_comeTo_14 : decode cX4_comeTo 14 = .ok (.invokevirtual 65, 3) := by decide +kernel
theorem dX4_comeTo_17 : decode cX4_comeTo 17 = .ok (.istore 4, 2) := by decide +kernel
theorem dX4_comeTo_19 : decode cX4_comeTo 19 = .ok (.aload_n 0, 1) := by decide +kernel
theorem dX4_comeTo_20 : decode cX4_comeTo 20 = .ok (.getfield 31, 3) := by decide +kernel
theorem dX4_comeTo_23 : decode cX4_comeTo 23 = .ok (.iload_n 1, 1) := by decide +kernel
theorem dX4_comeTo_24 : decode cX4_comeTo 24 = .ok (.invokevirtual 65, 3) := by decide +kernel
theorem dX4_comeTo_27 : decode cX4_comeTo 27 = .ok (.istore 5, 2) := by decide +kernel
theorem dX4_comeTo_29 : decode cX4_comeTo 29 = .ok (.iload_n 2, 1) := by decide +kernel
theorem dX4_comeTo_30 : decode cX4_comeTo 30 = .ok (.bipush 11, 2) := by decide +kernel
theorem dX4_comeTo_32 : decode cX4_comeTo 32 = .ok (.if_icmp .gt 27, 3) := by decide +kernel
theorem dX4_comeTo_35 : decode cX4_comeTo 35 = .ok (.iload 4, 2) := by decide +kernel
theorem dX4_comeTo_37 : decode cX4_comeTo 37 = .ok (.iconst (-1), 1) := by decide +kernel
theorem dX4_comeTo_38 : decode cX4_comeTo 38 = .ok (.if_icmp .ne 9, 3) := by decide +kernel
theorem dX4_comeTo_41 : decode cX4_comeTo 41 = .ok (.iload 5, 2) := by decide +kernel
theorem dX4_comeTo_43 : decode cX4_comeTo 43 = .ok (.iconst (-1), 1) := by decide +kernel
theorem dX4_comeTo_44 : decode cX4_comeTo 44 = .ok (.if_icmp .eq 15, 3) := by decide +kernel
theorem dX4_comeTo_47 : decode cX4_comeTo 47 = .ok (.aload_n 0, 1) := by decide +kernel
theorem dX4_comeTo_48 : decode cX4_comeTo 48 = .ok (.getfield 12, 3) := by decide +kernel
theorem dX4_comeTo_51 : decode cX4_comeTo 51 = .ok (.iload_n 1, 1) := by decide +kernel
theorem dX4_comeTo_52 : decode cX4_comeTo 52 = .ok (.invokevirtual 65, 3) := by decide +kernel
theorem dX4_comeTo_55 : decode cX4_comeTo 55 = .ok (.iconst (-1), 1) := by decide +kernel
theorem dX4_comeTo_56 : decode cX4_comeTo 56 = .ok (.if_icmp .eq 5, 3) := by decide +kernel
theorem dX4_comeTo_59 : decode cX4_comeTo 59 = .ok (.iconst 0, 1) := by decide +kernel
theorem dX4_comeTo_60 : decode cX4_comeTo 60 = .ok (.ireturn, 1) := by decide +kernel
theorem dX4_comeTo_61 : decode cX4_comeTo 61 = .ok (.aload_n 0, 1) := by decide +kernel
theorem dX4_comeTo_62 : decode cX4_comeTo 62 = .ok (.getfield 12, 3) := by decide +kernel
theorem dX4_comeTo_65 : decode cX4_comeTo 65 = .ok (.iload_n 2, 1) := by decide +kernel
theorem dX4_comeTo_66 : decode cX4_comeTo 66 = .ok (.invokevirtual 69, 3) := by decide +kernel
theorem dX4_comeTo_69 : decode cX4_comeTo 69 = .ok (.istore 6, 2) := by decide +kernel
theorem dX4_comeTo_71 : decode cX4_comeTo 71 = .ok (.iload 6, 2) := by decide +kernel
theorem dX4_comeTo_73 : decode cX4_comeTo 73 = .ok (.iconst (-1), 1) := by decide +kernel
theorem dX4_comeTo_74 : decode cX4_comeTo 74 = .ok (.if_icmp .ne 5, 3) := by decide +kernel
theorem dX4_comeTo_77 : decode cX4_comeTo 77 = .ok (.iconst 0, 1) := by decide +kernel
theorem dX4_comeTo_78 : decode cX4_comeTo 78 = .ok (.ireturn, 1) := by decide +kernel
theorem dX4_comeTo_79 : decode cX4_comeTo 79 = .ok (.aload_n 0, 1) := by decide +kernel
theorem dX4_comeTo_80 : decode cX4_comeTo 80 = .ok (.iconst 0, 1) := by decide +kernel
theorem dX4_comeTo_81 : decode cX4_comeTo 81 = .ok (.iload_n 3, 1) := by decide +kernel
theorem dX4_comeTo_82 : decode cX4_comeTo 82 = .ok (.iload 4, 2) := by decide +kernel
theorem dX4_comeTo_84 : decode cX4_comeTo 84 = .ok (.iload 5, 2) := by decide +kernel
theorem dX4_comeTo_86 : decode cX4_comeTo 86 = .ok (.invokevirtual 72, 3) := by decide +kernel
theorem dX4_comeTo_89 : decode cX4_comeTo 89 = .ok (.l2i, 1) := by decide +kernel
theorem dX4_comeTo_90 : decode cX4_comeTo 90 = .ok (.istore 7, 2) := by decide +kernel
theorem dX4_comeTo_92 : decode cX4_comeTo 92 = .ok (.aload_n 0, 1) := by decide +kernel
theorem dX4_comeTo_93 : decode cX4_comeTo 93 = .ok (.getfield 12, 3) := by decide +kernel
theorem dX4_comeTo_96 : decode cX4_comeTo 96 = .ok (.iload 6, 2) := by decide +kernel
theorem dX4_comeTo_98 : decode cX4_comeTo 98 = .ok (.iload_n 1, 1) := by decide +kernel
theorem dX4_comeTo_99 : decode cX4_comeTo 99 = .ok (.iload 7, 2) := by decide +kernel
theorem dX4_comeTo_101 : decode cX4_comeTo 101 = .ok (.aload_n 0, 1) := by decide +kernel
theorem dX4_comeTo_102 : decode cX4_comeTo 102 = .ok (.iconst 1, 1) := by decide +kernel
theorem dX4_comeTo_103 : decode cX4_comeTo 103 = .ok (.iload_n 3, 1) := by decide +kernel
theorem dX4_comeTo_104 : decode cX4_comeTo 104 = .ok (.iload 4, 2) := by decide +kernel
theorem dX4_comeTo_106 : decode cX4_comeTo 106 = .ok (.iload 5, 2) := by decide +kernel
theorem dX4_comeTo_108 : decode cX4_comeTo 108 = .ok (.invokevirtual 72, 3) := by decide +kernel
theorem dX4_comeTo_111 : decode cX4_comeTo 111 = .ok (.invokevirtual 76, 3) := by decide +kernel
theorem dX4_comeTo_114 : decode cX4_comeTo 114 = .ok (.aload_n 0, 1) := by decide +kernel
theorem dX4_comeTo_115 : decode cX4_comeTo 115 = .ok (.getfield 12, 3) := by decide +kernel
theorem dX4_comeTo_118 : decode cX4_comeTo 118 = .ok (.getfield 80, 3) := by decide +kernel
theorem dX4_comeTo_121 : decode cX4_comeTo 121 = .ok (.iload 6, 2) := by decide +kernel
theorem dX4_comeTo_123 : decode cX4_comeTo 123 = .ok (.aload_n 0, 1) := by decide +kernel
theorem dX4_comeTo_124 : decode cX4_comeTo 124 = .ok (.iconst 2, 1) := by decide +kernel
theorem dX4_comeTo_125 : decode cX4_comeTo 125 = .ok (.iload_n 3, 1) := by decide +kernel
theorem dX4_comeTo_126 : decode cX4_comeTo 126 = .ok (.iload 4, 2) := by decide +kernel
theorem dX4_comeTo_128 : decode cX4_comeTo 128 = .ok (.iload 5, 2) := by decide +kernel
theorem dX4_comeTo_130 : decode cX4_comeTo 130 = .ok (.invokevirtual 72, 3) := by decide +kernel
theorem dX4_comeTo_133 : decode cX4_comeTo 133 = .ok (.lastore, 1) := by decide +kernel
theorem dX4_comeTo_134 : decode cX4_comeTo 134 = .ok (.aload_n 0, 1) := by decide +kernel
theorem dX4_comeTo_135 : decode cX4_comeTo 135 = .ok (.iload_n 3, 1) := by decide +kernel
theorem dX4_comeTo_136 : decode cX4_comeTo 136 = .ok (.iload 4, 2) := by decide +kernel
theorem dX4_comeTo_138 : decode cX4_comeTo 138 = .ok (.iload 5, 2) := by decide +kernel
theorem dX4_comeTo_140 : decode cX4_comeTo 140 = .ok (.invokevirtual 84, 3) := by decide +kernel
theorem dX4_comeTo_143 : decode cX4_comeTo 143 = .ok (.astore 8, 2) := by decide +kernel
theorem dX4_comeTo_145 : decode cX4_comeTo 145 = .ok (.aload 8, 2) := by decide +kernel
theorem dX4_comeTo_147 : decode cX4_comeTo 147 = .ok (.iload_n 1, 1) := by decide +kernel
theorem dX4_comeTo_148 : decode cX4_comeTo 148 = .ok (.invokevirtual 65, 3) := by decide +kernel
theorem dX4_comeTo_151 : decode cX4_comeTo 151 = .ok (.istore 9, 2) := by decide +kernel
theorem dX4_comeTo_153 : decode cX4_comeTo 153 = .ok (.iload 9, 2) := by decide +kernel
theorem dX4_comeTo_155 : decode cX4_comeTo 155 = .ok (.iconst (-1), 1) := by decide +kernel
theorem dX4_comeTo_156 : decode cX4_comeTo 156 = .ok (.if_icmp .eq 21, 3) := by decide +kernel
theorem dX4_comeTo_159 : decode cX4_comeTo 159 = .ok (.iload 7, 2) := by decide +kernel
theorem dX4_comeTo_161 : decode cX4_comeTo 161 = .ok (.iconst 3, 1) := by decide +kernel
theorem dX4_comeTo_162 : decode cX4_comeTo 162 = .ok (.if_icmp .ne 17, 3) := by decide +kernel
theorem dX4_comeTo_165 : decode cX4_comeTo 165 = .ok (.aload 8, 2) := by decide +kernel
theorem dX4_comeTo_167 : decode cX4_comeTo 167 = .ok (.getfield 88, 3) := by decide +kernel
theorem dX4_comeTo_170 : decode cX4_comeTo 170 = .ok (.iload 9, 2) := by decide +kernel
theorem dX4_comeTo_172 : decode cX4_comeTo 172 = .ok (.iaload, 1) := by decide +kernel
theorem dX4_comeTo_173 : decode cX4_comeTo 173 = .ok (.iconst 1, 1) := by decide +kernel
theorem dX4_comeTo_174 : decode cX4_comeTo 174 = .ok (.if_icmp .le 5, 3) := by decide +kernel
theorem dX4_comeTo_177 : decode cX4_comeTo 177 = .ok (.iconst 0, 1) := by decide +kernel
theorem dX4_comeTo_178 : decode cX4_comeTo 178 = .ok (.ireturn, 1) := by decide +kernel
theorem dX4_comeTo_179 : decode cX4_comeTo 179 = .ok (.aload_n 0, 1) := by decide +kernel
theorem dX4_comeTo_180 : decode cX4_comeTo 180 = .ok (.aload 8, 2) := by decide +kernel
theorem dX4_comeTo_182 : decode cX4_comeTo 182 = .ok (.iload 9, 2) := by decide +kernel
theorem dX4_comeTo_184 : decode cX4_comeTo 184 = .ok (.iload_n 2, 1) := by decide +kernel
theorem dX4_comeTo_185 : decode cX4_comeTo 185 = .ok (.iconst 1, 1) := by decide +kernel
theorem dX4_comeTo_186 : decode cX4_comeTo 186 = .ok (.iadd, 1) := by decide +kernel
theorem dX4_comeTo_187 : decode cX4_comeTo 187 = .ok (.invokevirtual 91, 3) := by decide +kernel
theorem dX4_comeTo_190 : decode cX4_comeTo 190 = .ok (.ireturn, 1) := by decide +kernel
theorem dX4_comeToChildren_0 : decode cX4_comeToChildren 0 = .ok (.iload_n 2, 1) := by decide +kernel
theorem dX4_comeToChildren_1 : decode cX4_comeToChildren 1 = .ok (.iconst 1, 1) := by decide +kernel
theorem dX4_comeToChildren_2 : decode cX4_comeToChildren 2 = .ok (.iadd, 1) := by decide +kernel
theorem dX4_comeToChildren_3 : decode cX4_comeToChildren 3 = .ok (.istore 4, 2) := by decide +kernel
theorem dX4_comeToChildren_5 : decode cX4_comeToChildren 5 = .ok (.iload 4, 2) := by decide +kernel
theorem dX4_comeToChildren_7 : decode cX4_comeToChildren 7 = .ok (.aload_n 1, 1) := by decide +kernel
theorem dX4_comeToChildren_8 : decode cX4_comeToChildren 8 = .ok (.iload_n 2, 1) := by decide +kernel
theorem dX4_comeToChildren_9 : decode cX4_comeToChildren 9 = .ok (.invokevirtual 95, 3) := by decide +kernel
theorem dX4_comeToChildren_12 : decode cX4_comeToChildren 12 = .ok (.if_icmp .ge 36, 3) := by decide +kernel
theorem dX4_comeToChildren_15 : decode cX4_comeToChildren 15 = .ok (.aload_n 1, 1) := by decide +kernel
theorem dX4_comeToChildren_16 : decode cX4_comeToChildren 16 = .ok (.iload 4, 2) := by decide +kernel
theorem dX4_comeToChildren_18 : decode cX4_comeToChildren 18 = .ok (.iload_n 2, 1) := by decide +kernel
theorem dX4_comeToChildren_19 : decode cX4_comeToChildren 19 = .ok (.invokevirtual 98, 3) := by decide +kernel
theorem dX4_comeToChildren_22 : decode cX4_comeToChildren 22 = .ok (.ifCond .eq 20, 3) := by decide +kernel
theorem dX4_comeToChildren_25 : decode cX4_comeToChildren 25 = .ok (.aload_n 0, 1) := by decide +kernel
theorem dX4_comeToChildren_26 : decode cX4_comeToChildren 26 = .ok (.aload_n 1, 1) := by decide +kernel
theorem dX4_comeToChildren_27 : decode cX4_comeToChildren 27 = .ok (.getfield 44, 3) := by decide +kernel
theorem dX4_comeToChildren_30 : decode cX4_comeToChildren 30 = .ok (.iload 4, 2) := by decide +kernel
theorem dX4_comeToChildren_32 : decode cX4_comeToChildren 32 = .ok (.iaload, 1) := by decide +kernel
theorem dX4_comeToChildren_33 : decode cX4_comeToChildren 33 = .ok (.iload_n 3, 1) := by decide +kernel
theorem dX4_comeToChildren_34 : decode cX4_comeToChildren 34 = .ok (.invokevirtual 51, 3) := by decide +kernel
theorem dX4_comeToChildren_37 : decode cX4_comeToChildren 37 = .ok (.ifCond .ne 5, 3) := by decide +kernel
theorem dX4_comeToChildren_40 : decode cX4_comeToChildren 40 = .ok (.iconst 0, 1) := by decide +kernel
theorem dX4_comeToChildren_41 : decode cX4_comeToChildren 41 = .ok (.ireturn, 1) := by decide +kernel
theorem dX4_comeToChildren_42 : decode cX4_comeToChildren 42 = .ok (.iinc 4 1, 3) := by decide +kernel
theorem dX4_comeToChildren_45 : decode cX4_comeToChildren 45 = .ok (.goto (-40), 3) := by decide +kernel
theorem dX4_comeToChildren_48 : decode cX4_comeToChildren 48 = .ok (.iconst 1, 1) := by decide +kernel
theorem dX4_comeToChildren_49 : decode cX4_comeToChildren 49 = .ok (.ireturn, 1) := by decide +kernel
theorem dX4_settledField_0 : decode cX4_settledField 0 = .ok (.aload_n 0, 1) := by decide +kernel
theorem dX4_settledField_1 : decode cX4_settledField 1 = .ok (.getfield 28, 3) := by decide +kernel
theorem dX4_settledField_4 : decode cX4_settledField 4 = .ok (.iload_n 3, 1) := by decide +kernel
theorem dX4_settledField_5 : decode cX4_settledField 5 = .ok (.iload_n 1, 1) := by decide +kernel
theorem dX4_settledField_6 : decode cX4_settledField 6 = .ok (.invokestatic 101, 3) := by decide +kernel
theorem dX4_settledField_9 : decode cX4_settledField 9 = .ok (.lstore 5, 2) := by decide +kernel
theorem dX4_settledField_11 : decode cX4_settledField 11 = .ok (.aload_n 0, 1) := by decide +kernel
theorem dX4_settledField_12 : decode cX4_settledField 12 = .ok (.getfield 31, 3) := by decide +kernel
theorem dX4_settledField_15 : decode cX4_settledField 15 = .ok (.iload 4, 2) := by decide +kernel
theorem dX4_settledField_17 : decode cX4_settledField 17 = .ok (.iload_n 1, 1) := by decide +kernel
theorem dX4_settledField_18 : decode cX4_settledField 18 = .ok (.invokestatic 101, 3) := by decide +kernel
theorem dX4_settledField_21 : decode cX4_settledField 21 = .ok (.lstore 7, 2) := by decide +kernel
theorem dX4_settledField_23 : decode cX4_settledField 23 = .ok (.iload_n 3, 1) := by decide +kernel
theorem dX4_settledField_24 : decode cX4_settledField 24 = .ok (.iconst (-1), 1) := by decide +kernel
theorem dX4_settledField_25 : decode cX4_settledField 25 = .ok (.if_icmp .ne 6, 3) := by decide +kernel
theorem dX4_settledField_28 : decode cX4_settledField 28 = .ok (.lload 7, 2) := by decide +kernel
theorem dX4_settledField_30 : decode cX4_settledField 30 = .ok (.lreturn, 1) := by decide +kernel
theorem dX4_settledField_31 : decode cX4_settledField 31 = .ok (.iload 4, 2) := by decide +kernel
theorem dX4_settledField_33 : decode cX4_settledField 33 = .ok (.iconst (-1), 1) := by decide +kernel
theorem dX4_settledField_34 : decode cX4_settledField 34 = .ok (.if_icmp .eq 16, 3) := by decide +kernel
theorem dX4_settledField_37 : decode cX4_settledField 37 = .ok (.iload_n 2, 1) := by decide +kernel
theorem dX4_settledField_38 : decode cX4_settledField 38 = .ok (.iconst (-1), 1) := by decide +kernel
theorem dX4_settledField_39 : decode cX4_settledField 39 = .ok (.if_icmp .eq 11, 3) := by decide +kernel
theorem dX4_settledField_42 : decode cX4_settledField 42 = .ok (.lload 5, 2) := by decide +kernel
theorem dX4_settledField_44 : decode cX4_settledField 44 = .ok (.lload 7, 2) := by decide +kernel
theorem dX4_settledField_46 : decode cX4_settledField 46 = .ok (.lcmp, 1) := by decide +kernel
theorem dX4_settledField_47 : decode cX4_settledField 47 = .ok (.ifCond .ne 6, 3) := by decide +kernel
theorem dX4_settledField_50 : decode cX4_settledField 50 = .ok (.lload 5, 2) := by decide +kernel
theorem dX4_settledField_52 : decode cX4_settledField 52 = .ok (.lreturn, 1) := by decide +kernel
theorem dX4_settledField_53 : decode cX4_settledField 53 = .ok (.aload_n 0, 1) := by decide +kernel
theorem dX4_settledField_54 : decode cX4_settledField 54 = .ok (.getfield 25, 3) := by decide +kernel
theorem dX4_settledField_57 : decode cX4_settledField 57 = .ok (.iload_n 2, 1) := by decide +kernel
theorem dX4_settledField_58 : decode cX4_settledField 58 = .ok (.iload_n 1, 1) := by decide +kernel
theorem dX4_settledField_59 : decode cX4_settledField 59 = .ok (.invokestatic 101, 3) := by decide +kernel
theorem dX4_settledField_62 : decode cX4_settledField 62 = .ok (.lstore 9, 2) := by decide +kernel
theorem dX4_settledField_64 : decode cX4_settledField 64 = .ok (.lload 5, 2) := by decide +kernel
theorem dX4_settledField_66 : decode cX4_settledField 66 = .ok (.lload 9, 2) := by decide +kernel
theorem dX4_settledField_68 : decode cX4_settledField 68 = .ok (.lcmp, 1) := by decide +kernel
theorem dX4_settledField_69 : decode cX4_settledField 69 = .ok (.ifCond .ne 6, 3) := by decide +kernel
theorem dX4_settledField_72 : decode cX4_settledField 72 = .ok (.lload 7, 2) := by decide +kernel
theorem dX4_settledField_74 : decode cX4_settledField 74 = .ok (.lreturn, 1) := by decide +kernel
theorem dX4_settledField_75 : decode cX4_settledField 75 = .ok (.lload 7, 2) := by decide +kernel
theorem dX4_settledField_77 : decode cX4_settledField 77 = .ok (.lload 9, 2) := by decide +kernel
theorem dX4_settledField_79 : decode cX4_settledField 79 = .ok (.lcmp, 1) := by decide +kernel
theorem dX4_settledField_80 : decode cX4_settledField 80 = .ok (.ifCond .ne 8, 3) := by decide +kernel
theorem dX4_settledField_83 : decode cX4_settledField 83 = .ok (.lload 5, 2) := by decide +kernel
theorem dX4_settledField_85 : decode cX4_settledField 85 = .ok (.goto 5, 3) := by decide +kernel
theorem dX4_settledField_88 : decode cX4_settledField 88 = .ok (.lload 9, 2) := by decide +kernel
theorem dX4_settledField_90 : decode cX4_settledField 90 = .ok (.lreturn, 1) := by decide +kernel
theorem dX4_settledList_0 : decode cX4_settledList 0 = .ok (.iload_n 2, 1) := by decide +kernel
theorem dX4_settledList_1 : decode cX4_settledList 1 = .ok (.iconst (-1), 1) := by decide +kernel
theorem dX4_settledList_2 : decode cX4_settledList 2 = .ok (.if_icmp .ne 8, 3) := by decide +kernel
theorem dX4_settledList_5 : decode cX4_settledList 5 = .ok (.aload_n 0, 1) := by decide +kernel
theorem dX4_settledList_6 : decode cX4_settledList 6 = .ok (.getfield 31, 3) := by decide +kernel
theorem dX4_settledList_9 : decode cX4_settledList 9 = .ok (.areturn, 1) := by decide +kernel
theorem dX4_settledList_10 : decode cX4_settledList 10 = .ok (.iload_n 3, 1) := by decide +kernel
theorem dX4_settledList_11 : decode cX4_settledList 11 = .ok (.iconst (-1), 1) := by decide +kernel
theorem dX4_settledList_12 : decode cX4_settledList 12 = .ok (.if_icmp .eq 24, 3) := by decide +kernel
theorem dX4_settledList_15 : decode cX4_settledList 15 = .ok (.iload_n 1, 1) := by decide +kernel
theorem dX4_settledList_16 : decode cX4_settledList 16 = .ok (.iconst (-1), 1) := by decide +kernel
theorem dX4_settledList_17 : decode cX4_settledList 17 = .ok (.if_icmp .eq 19, 3) := by decide +kernel
theorem dX4_settledList_20 : decode cX4_settledList 20 = .ok (.aload_n 0, 1) := by decide +kernel
theorem dX4_settledList_21 : decode cX4_settledList 21 = .ok (.getfield 28, 3) := by decide +kernel
theorem dX4_settledList_24 : decode cX4_settledList 24 = .ok (.iload_n 2, 1) := by decide +kernel
theorem dX4_settledList_25 : decode cX4_settledList 25 = .ok (.aload_n 0, 1) := by decide +kernel
theorem dX4_settledList_26 : decode cX4_settledList 26 = .ok (.getfield 31, 3) := by decide +kernel
theorem dX4_settledList_29 : decode cX4_settledList 29 = .ok (.iload_n 3, 1) := by decide +kernel
theorem dX4_settledList_30 : decode cX4_settledList 30 = .ok (.invokestatic 105, 3) := by decide +kernel
theorem dX4_settledList_33 : decode cX4_settledList 33 = .ok (.ifCond .eq 8, 3) := by decide +kernel
theorem dX4_settledList_36 : decode cX4_settledList 36 = .ok (.aload_n 0, 1) := by decide +kernel
theorem dX4_settledList_37 : decode cX4_settledList 37 = .ok (.getfield 28, 3) := by decide +kernel
theorem dX4_settledList_40 : decode cX4_settledList 40 = .ok (.areturn, 1) := by decide +kernel
theorem dX4_settledList_41 : decode cX4_settledList 41 = .ok (.aload_n 0, 1) := by decide +kernel
theorem dX4_settledList_42 : decode cX4_settledList 42 = .ok (.getfield 28, 3) := by decide +kernel
theorem dX4_settledList_45 : decode cX4_settledList 45 = .ok (.iload_n 2, 1) := by decide +kernel
theorem dX4_settledList_46 : decode cX4_settledList 46 = .ok (.aload_n 0, 1) := by decide +kernel
theorem dX4_settledList_47 : decode cX4_settledList 47 = .ok (.getfield 25, 3) := by decide +kernel
theorem dX4_settledList_50 : decode cX4_settledList 50 = .ok (.iload_n 1, 1) := by decide +kernel
theorem dX4_settledList_51 : decode cX4_settledList 51 = .ok (.invokestatic 105, 3) := by decide +kernel
theorem dX4_settledList_54 : decode cX4_settledList 54 = .ok (.ifCond .eq 8, 3) := by decide +kernel
theorem dX4_settledList_57 : decode cX4_settledList 57 = .ok (.aload_n 0, 1) := by decide +kernel
theorem dX4_settledList_58 : decode cX4_settledList 58 = .ok (.getfield 31, 3) := by decide +kernel
theorem dX4_settledList_61 : decode cX4_settledList 61 = .ok (.areturn, 1) := by decide +kernel
theorem dX4_settledList_62 : decode cX4_settledList 62 = .ok (.aload_n 0, 1) := by decide +kernel
theorem dX4_settledList_63 : decode cX4_settledList 63 = .ok (.getfield 31, 3) := by decide +kernel
theorem dX4_settledList_66 : decode cX4_settledList 66 = .ok (.iload_n 3, 1) := by decide +kernel
theorem dX4_settledList_67 : decode cX4_settledList 67 = .ok (.aload_n 0, 1) := by decide +kernel
theorem dX4_settledList_68 : decode cX4_settledList 68 = .ok (.getfield 25, 3) := by decide +kernel
theorem dX4_settledList_71 : decode cX4_settledList 71 = .ok (.iload_n 1, 1) := by decide +kernel
end
section
theorem dX4_settledList_72 : decode cX4_settledList 72 = .ok (.invokestatic 105, 3) := by decide +kernel
theorem dX4_settledList_75 : decode cX4_settledList 75 = .ok (.ifCond .eq 10, 3) := by decide +kernel
theorem dX4_settledList_78 : decode cX4_settledList 78 = .ok (.aload_n 0, 1) := by decide +kernel
theorem dX4_settledList_79 : decode cX4_settledList 79 = .ok (.getfield 28, 3) := by decide +kernel
theorem dX4_settledList_82 : decode cX4_settledList 82 = .ok (.goto 7, 3) := by decide +kernel
theorem dX4_settledList_85 : decode cX4_settledList 85 = .ok (.aload_n 0, 1) := by decide +kernel
theorem dX4_settledList_86 : decode cX4_settledList 86 = .ok (.getfield 25, 3) := by decide +kernel
theorem dX4_settledList_89 : decode cX4_settledList 89 = .ok (.areturn, 1) := by decide +kernel
theorem dX4_fieldOf_0 : decode cX4_fieldOf 0 = .ok (.iload_n 1, 1) := by decide +kernel
theorem dX4_fieldOf_1 : decode cX4_fieldOf 1 = .ok (.iconst (-1), 1) := by decide +kernel
theorem dX4_fieldOf_2 : decode cX4_fieldOf 2 = .ok (.if_icmp .ne 7, 3) := by decide +kernel
theorem dX4_fieldOf_5 : decode cX4_fieldOf 5 = .ok (.ldc2_w 109, 3) := by decide +kernel
theorem dX4_fieldOf_8 : decode cX4_fieldOf 8 = .ok (.lreturn, 1) := by decide +kernel
theorem dX4_fieldOf_9 : decode cX4_fieldOf 9 = .ok (.iload_n 2, 1) := by decide +kernel
theorem dX4_fieldOf_10 : decode cX4_fieldOf 10 = .ok (.iconst 1, 1) := by decide +kernel
theorem dX4_fieldOf_11 : decode cX4_fieldOf 11 = .ok (.if_icmp .ne 10, 3) := by decide +kernel
theorem dX4_fieldOf_14 : decode cX4_fieldOf 14 = .ok (.aload_n 0, 1) := by decide +kernel
theorem dX4_fieldOf_15 : decode cX4_fieldOf 15 = .ok (.getfield 111, 3) := by decide +kernel
theorem dX4_fieldOf_18 : decode cX4_fieldOf 18 = .ok (.iload_n 1, 1) := by decide +kernel
theorem dX4_fieldOf_19 : decode cX4_fieldOf 19 = .ok (.laload, 1) := by decide +kernel
theorem dX4_fieldOf_20 : decode cX4_fieldOf 20 = .ok (.lreturn, 1) := by decide +kernel
theorem dX4_fieldOf_21 : decode cX4_fieldOf 21 = .ok (.iload_n 2, 1) := by decide +kernel
theorem dX4_fieldOf_22 : decode cX4_fieldOf 22 = .ok (.iconst 2, 1) := by decide +kernel
theorem dX4_fieldOf_23 : decode cX4_fieldOf 23 = .ok (.if_icmp .ne 12, 3) := by decide +kernel
theorem dX4_fieldOf_26 : decode cX4_fieldOf 26 = .ok (.aload_n 0, 1) := by decide +kernel
theorem dX4_fieldOf_27 : decode cX4_fieldOf 27 = .ok (.getfield 80, 3) := by decide +kernel
theorem dX4_fieldOf_30 : decode cX4_fieldOf 30 = .ok (.iload_n 1, 1) := by decide +kernel
theorem dX4_fieldOf_31 : decode cX4_fieldOf 31 = .ok (.laload, 1) := by decide +kernel
theorem dX4_fieldOf_32 : decode cX4_fieldOf 32 = .ok (.goto 10, 3) := by decide +kernel
theorem dX4_fieldOf_35 : decode cX4_fieldOf 35 = .ok (.aload_n 0, 1) := by decide +kernel
theorem dX4_fieldOf_36 : decode cX4_fieldOf 36 = .ok (.getfield 114, 3) := by decide +kernel
theorem dX4_fieldOf_39 : decode cX4_fieldOf 39 = .ok (.iload_n 1, 1) := by decide +kernel
theorem dX4_fieldOf_40 : decode cX4_fieldOf 40 = .ok (.iaload, 1) := by decide +kernel
theorem dX4_fieldOf_41 : decode cX4_fieldOf 41 = .ok (.i2l, 1) := by decide +kernel
theorem dX4_fieldOf_42 : decode cX4_fieldOf 42 = .ok (.lreturn, 1) := by decide +kernel
theorem dX4_isSameList_0 : decode cX4_isSameList 0 = .ok (.iload_n 1, 1) := by decide +kernel
theorem dX4_isSameList_1 : decode cX4_isSameList 1 = .ok (.iconst (-1), 1) := by decide +kernel
theorem dX4_isSameList_2 : decode cX4_isSameList 2 = .ok (.if_icmp .eq 8, 3) := by decide +kernel
theorem dX4_isSameList_5 : decode cX4_isSameList 5 = .ok (.iload_n 3, 1) := by decide +kernel
theorem dX4_isSameList_6 : decode cX4_isSameList 6 = .ok (.iconst (-1), 1) := by decide +kernel
theorem dX4_isSameList_7 : decode cX4_isSameList 7 = .ok (.if_icmp .ne 5, 3) := by decide +kernel
theorem dX4_isSameList_10 : decode cX4_isSameList 10 = .ok (.iconst 0, 1) := by decide +kernel
theorem dX4_isSameList_11 : decode cX4_isSameList 11 = .ok (.ireturn, 1) := by decide +kernel
theorem dX4_isSameList_12 : decode cX4_isSameList 12 = .ok (.aload_n 0, 1) := by decide +kernel
theorem dX4_isSameList_13 : decode cX4_isSameList 13 = .ok (.iload_n 1, 1) := by decide +kernel
theorem dX4_isSameList_14 : decode cX4_isSameList 14 = .ok (.iload_n 1, 1) := by decide +kernel
theorem dX4_isSameList_15 : decode cX4_isSameList 15 = .ok (.invokevirtual 117, 3) := by decide +kernel
theorem dX4_isSameList_18 : decode cX4_isSameList 18 = .ok (.istore 4, 2) := by decide +kernel
theorem dX4_isSameList_20 : decode cX4_isSameList 20 = .ok (.aload_n 2, 1) := by decide +kernel
theorem dX4_isSameList_21 : decode cX4_isSameList 21 = .ok (.iload_n 3, 1) := by decide +kernel
theorem dX4_isSameList_22 : decode cX4_isSameList 22 = .ok (.iload_n 3, 1) := by decide +kernel
theorem dX4_isSameList_23 : decode cX4_isSameList 23 = .ok (.invokevirtual 117, 3) := by decide +kernel
theorem dX4_isSameList_26 : decode cX4_isSameList 26 = .ok (.istore 5, 2) := by decide +kernel
theorem dX4_isSameList_28 : decode cX4_isSameList 28 = .ok (.iconst 0, 1) := by decide +kernel
theorem dX4_isSameList_29 : decode cX4_isSameList 29 = .ok (.istore 6, 2) := by decide +kernel
theorem dX4_isSameList_31 : decode cX4_isSameList 31 = .ok (.iload 6, 2) := by decide +kernel
theorem dX4_isSameList_33 : decode cX4_isSameList 33 = .ok (.bipush 30, 2) := by decide +kernel
theorem dX4_isSameList_35 : decode cX4_isSameList 35 = .ok (.if_icmp .ge 66, 3) := by decide +kernel
theorem dX4_isSameList_38 : decode cX4_isSameList 38 = .ok (.iload 4, 2) := by decide +kernel
theorem dX4_isSameList_40 : decode cX4_isSameList 40 = .ok (.aload_n 0, 1) := by decide +kernel
theorem dX4_isSameList_41 : decode cX4_isSameList 41 = .ok (.iload_n 1, 1) := by decide +kernel
theorem dX4_isSameList_42 : decode cX4_isSameList 42 = .ok (.invokevirtual 95, 3) := by decide +kernel
theorem dX4_isSameList_45 : decode cX4_isSameList 45 = .ok (.if_icmp .ge 56, 3) := by decide +kernel
theorem dX4_isSameList_48 : decode cX4_isSameList 48 = .ok (.iload 5, 2) := by decide +kernel
theorem dX4_isSameList_50 : decode cX4_isSameList 50 = .ok (.aload_n 2, 1) := by decide +kernel
theorem dX4_isSameList_51 : decode cX4_isSameList 51 = .ok (.iload_n 3, 1) := by decide +kernel
theorem dX4_isSameList_52 : decode cX4_isSameList 52 = .ok (.invokevirtual 95, 3) := by decide +kernel
theorem dX4_isSameList_55 : decode cX4_isSameList 55 = .ok (.if_icmp .ge 46, 3) := by decide +kernel
theorem dX4_isSameList_58 : decode cX4_isSameList 58 = .ok (.aload_n 0, 1) := by decide +kernel
theorem dX4_isSameList_59 : decode cX4_isSameList 59 = .ok (.getfield 44, 3) := by decide +kernel
theorem dX4_isSameList_62 : decode cX4_isSameList 62 = .ok (.iload 4, 2) := by decide +kernel
theorem dX4_isSameList_64 : decode cX4_isSameList 64 = .ok (.iaload, 1) := by decide +kernel
theorem dX4_isSameList_65 : decode cX4_isSameList 65 = .ok (.aload_n 2, 1) := by decide +kernel
theorem dX4_isSameList_66 : decode cX4_isSameList 66 = .ok (.getfield 44, 3) := by decide +kernel
theorem dX4_isSameList_69 : decode cX4_isSameList 69 = .ok (.iload 5, 2) := by decide +kernel
theorem dX4_isSameList_71 : decode cX4_isSameList 71 = .ok (.iaload, 1) := by decide +kernel
theorem dX4_isSameList_72 : decode cX4_isSameList 72 = .ok (.if_icmp .eq 5, 3) := by decide +kernel
theorem dX4_isSameList_75 : decode cX4_isSameList 75 = .ok (.iconst 0, 1) := by decide +kernel
theorem dX4_isSameList_76 : decode cX4_isSameList 76 = .ok (.ireturn, 1) := by decide +kernel
theorem dX4_isSameList_77 : decode cX4_isSameList 77 = .ok (.aload_n 0, 1) := by decide +kernel
theorem dX4_isSameList_78 : decode cX4_isSameList 78 = .ok (.iload_n 1, 1) := by decide +kernel
theorem dX4_isSameList_79 : decode cX4_isSameList 79 = .ok (.iload 4, 2) := by decide +kernel
theorem dX4_isSameList_81 : decode cX4_isSameList 81 = .ok (.invokevirtual 117, 3) := by decide +kernel
theorem dX4_isSameList_84 : decode cX4_isSameList 84 = .ok (.istore 4, 2) := by decide +kernel
theorem dX4_isSameList_86 : decode cX4_isSameList 86 = .ok (.aload_n 2, 1) := by decide +kernel
theorem dX4_isSameList_87 : decode cX4_isSameList 87 = .ok (.iload_n 3, 1) := by decide +kernel
theorem dX4_isSameList_88 : decode cX4_isSameList 88 = .ok (.iload 5, 2) := by decide +kernel
theorem dX4_isSameList_90 : decode cX4_isSameList 90 = .ok (.invokevirtual 117, 3) := by decide +kernel
theorem dX4_isSameList_93 : decode cX4_isSameList 93 = .ok (.istore 5, 2) := by decide +kernel
theorem dX4_isSameList_95 : decode cX4_isSameList 95 = .ok (.iinc 6 1, 3) := by decide +kernel
theorem dX4_isSameList_98 : decode cX4_isSameList 98 = .ok (.goto (-67), 3) := by decide +kernel
theorem dX4_isSameList_101 : decode cX4_isSameList 101 = .ok (.iload 4, 2) := by decide +kernel
theorem dX4_isSameList_103 : decode cX4_isSameList 103 = .ok (.aload_n 0, 1) := by decide +kernel
theorem dX4_isSameList_104 : decode cX4_isSameList 104 = .ok (.iload_n 1, 1) := by decide +kernel
theorem dX4_isSameList_105 : decode cX4_isSameList 105 = .ok (.invokevirtual 95, 3) := by decide +kernel
theorem dX4_isSameList_108 : decode cX4_isSameList 108 = .ok (.if_icmp .ne 17, 3) := by decide +kernel
theorem dX4_isSameList_111 : decode cX4_isSameList 111 = .ok (.iload 5, 2) := by decide +kernel
theorem dX4_isSameList_113 : decode cX4_isSameList 113 = .ok (.aload_n 2, 1) := by decide +kernel
theorem dX4_isSameList_114 : decode cX4_isSameList 114 = .ok (.iload_n 3, 1) := by decide +kernel
theorem dX4_isSameList_115 : decode cX4_isSameList 115 = .ok (.invokevirtual 95, 3) := by decide +kernel
theorem dX4_isSameList_118 : decode cX4_isSameList 118 = .ok (.if_icmp .ne 7, 3) := by decide +kernel
theorem dX4_isSameList_121 : decode cX4_isSameList 121 = .ok (.iconst 1, 1) := by decide +kernel
theorem dX4_isSameList_122 : decode cX4_isSameList 122 = .ok (.goto 4, 3) := by decide +kernel
theorem dX4_isSameList_125 : decode cX4_isSameList 125 = .ok (.iconst 0, 1) := by decide +kernel
theorem dX4_isSameList_126 : decode cX4_isSameList 126 = .ok (.ireturn, 1) := by decide +kernel
theorem dX4_tellClashes_0 : decode cX4_tellClashes 0 = .ok (.aload_n 0, 1) := by decide +kernel
theorem dX4_tellClashes_1 : decode cX4_tellClashes 1 = .ok (.invokevirtual 121, 3) := by decide +kernel
theorem dX4_tellClashes_4 : decode cX4_tellClashes 4 = .ok (.istore_n 1, 1) := by decide +kernel
theorem dX4_tellClashes_5 : decode cX4_tellClashes 5 = .ok (.iconst 0, 1) := by decide +kernel
theorem dX4_tellClashes_6 : decode cX4_tellClashes 6 = .ok (.istore_n 2, 1) := by decide +kernel
theorem dX4_tellClashes_7 : decode cX4_tellClashes 7 = .ok (.iload_n 2, 1) := by decide +kernel
theorem dX4_tellClashes_8 : decode cX4_tellClashes 8 = .ok (.iload_n 1, 1) := by decide +kernel
theorem dX4_tellClashes_9 : decode cX4_tellClashes 9 = .ok (.if_icmp .ge 19, 3) := by decide +kernel
theorem dX4_tellClashes_12 : decode cX4_tellClashes 12 = .ok (.aload_n 0, 1) := by decide +kernel
theorem dX4_tellClashes_13 : decode cX4_tellClashes 13 = .ok (.aload_n 0, 1) := by decide +kernel
theorem dX4_tellClashes_14 : decode cX4_tellClashes 14 = .ok (.getfield 34, 3) := by decide +kernel
theorem dX4_tellClashes_17 : decode cX4_tellClashes 17 = .ok (.iload_n 2, 1) := by decide +kernel
theorem dX4_tellClashes_18 : decode cX4_tellClashes 18 = .ok (.iaload, 1) := by decide +kernel
theorem dX4_tellClashes_19 : decode cX4_tellClashes 19 = .ok (.invokevirtual 125, 3) := by decide +kernel
theorem dX4_tellClashes_22 : decode cX4_tellClashes 22 = .ok (.iinc 2 1, 3) := by decide +kernel
theorem dX4_tellClashes_25 : decode cX4_tellClashes 25 = .ok (.goto (-18), 3) := by decide +kernel
theorem dX4_tellClashes_28 : decode cX4_tellClashes 28 = .ok (.return_, 1) := by decide +kernel
theorem dX4_gatherCommon_0 : decode cX4_gatherCommon 0 = .ok (.iconst 0, 1) := by decide +kernel
theorem dX4_gatherCommon_1 : decode cX4_gatherCommon 1 = .ok (.istore_n 1, 1) := by decide +kernel
theorem dX4_gatherCommon_2 : decode cX4_gatherCommon 2 = .ok (.iconst 0, 1) := by decide +kernel
theorem dX4_gatherCommon_3 : decode cX4_gatherCommon 3 = .ok (.istore_n 2, 1) := by decide +kernel
theorem dX4_gatherCommon_4 : decode cX4_gatherCommon 4 = .ok (.iload_n 2, 1) := by decide +kernel
theorem dX4_gatherCommon_5 : decode cX4_gatherCommon 5 = .ok (.aload_n 0, 1) := by decide +kernel
theorem dX4_gatherCommon_6 : decode cX4_gatherCommon 6 = .ok (.getfield 28, 3) := by decide +kernel
theorem dX4_gatherCommon_9 : decode cX4_gatherCommon 9 = .ok (.getfield 41, 3) := by decide +kernel
theorem dX4_gatherCommon_12 : decode cX4_gatherCommon 12 = .ok (.if_icmp .ge 85, 3) := by decide +kernel
theorem dX4_gatherCommon_15 : decode cX4_gatherCommon 15 = .ok (.aload_n 0, 1) := by decide +kernel
theorem dX4_gatherCommon_16 : decode cX4_gatherCommon 16 = .ok (.getfield 28, 3) := by decide +kernel
theorem dX4_gatherCommon_19 : decode cX4_gatherCommon 19 = .ok (.getfield 44, 3) := by decide +kernel
theorem dX4_gatherCommon_22 : decode cX4_gatherCommon 22 = .ok (.iload_n 2, 1) := by decide +kernel
theorem dX4_gatherCommon_23 : decode cX4_gatherCommon 23 = .ok (.iaload, 1) := by decide +kernel
theorem dX4_gatherCommon_24 : decode cX4_gatherCommon 24 = .ok (.istore_n 3, 1) := by decide +kernel
theorem dX4_gatherCommon_25 : decode cX4_gatherCommon 25 = .ok (.aload_n 0, 1) := by decide +kernel
theorem dX4_gatherCommon_26 : decode cX4_gatherCommon 26 = .ok (.getfield 31, 3) := by decide +kernel
theorem dX4_gatherCommon_29 : decode cX4_gatherCommon 29 = .ok (.iload_n 3, 1) := by decide +kernel
theorem dX4_gatherCommon_30 : decode cX4_gatherCommon 30 = .ok (.invokevirtual 65, 3) := by decide +kernel
theorem dX4_gatherCommon_33 : decode cX4_gatherCommon 33 = .ok (.iconst (-1), 1) := by decide +kernel
theorem dX4_gatherCommon_34 : decode cX4_gatherCommon 34 = .ok (.if_icmp .eq 57, 3) := by decide +kernel
theorem dX4_gatherCommon_37 : decode cX4_gatherCommon 37 = .ok (.iload_n 1, 1) := by decide +kernel
theorem dX4_gatherCommon_38 : decode cX4_gatherCommon 38 = .ok (.istore 4, 2) := by decide +kernel
theorem dX4_gatherCommon_40 : decode cX4_gatherCommon 40 = .ok (.iload 4, 2) := by decide +kernel
theorem dX4_gatherCommon_42 : decode cX4_gatherCommon 42 = .ok (.ifCond .le 38, 3) := by decide +kernel
theorem dX4_gatherCommon_45 : decode cX4_gatherCommon 45 = .ok (.aload_n 0, 1) := by decide +kernel
theorem dX4_gatherCommon_46 : decode cX4_gatherCommon 46 = .ok (.getfield 34, 3) := by decide +kernel
theorem dX4_gatherCommon_49 : decode cX4_gatherCommon 49 = .ok (.iload 4, 2) := by decide +kernel
theorem dX4_gatherCommon_51 : decode cX4_gatherCommon 51 = .ok (.iconst 1, 1) := by decide +kernel
theorem dX4_gatherCommon_52 : decode cX4_gatherCommon 52 = .ok (.isub, 1) := by decide +kernel
theorem dX4_gatherCommon_53 : decode cX4_gatherCommon 53 = .ok (.iaload, 1) := by decide +kernel
theorem dX4_gatherCommon_54 : decode cX4_gatherCommon 54 = .ok (.iload_n 3, 1) := by decide +kernel
theorem dX4_gatherCommon_55 : decode cX4_gatherCommon 55 = .ok (.if_icmp .le 25, 3) := by decide +kernel
theorem dX4_gatherCommon_58 : decode cX4_gatherCommon 58 = .ok (.aload_n 0, 1) := by decide +kernel
theorem dX4_gatherCommon_59 : decode cX4_gatherCommon 59 = .ok (.getfield 34, 3) := by decide +kernel
theorem dX4_gatherCommon_62 : decode cX4_gatherCommon 62 = .ok (.iload 4, 2) := by decide +kernel
theorem dX4_gatherCommon_64 : decode cX4_gatherCommon 64 = .ok (.aload_n 0, 1) := by decide +kernel
theorem dX4_gatherCommon_65 : decode cX4_gatherCommon 65 = .ok (.getfield 34, 3) := by decide +kernel
theorem dX4_gatherCommon_68 : decode cX4_gatherCommon 68 = .ok (.iload 4, 2) := by decide +kernel
theorem dX4_gatherCommon_70 : decode cX4_gatherCommon 70 = .ok (.iconst 1, 1) := by decide +kernel
theorem dX4_gatherCommon_71 : decode cX4_gatherCommon 71 = .ok (.isub, 1) := by decide +kernel
theorem dX4_gatherCommon_72 : decode cX4_gatherCommon 72 = .ok (.iaload, 1) := by decide +kernel
theorem dX4_gatherCommon_73 : decode cX4_gatherCommon 73 = .ok (.iastore, 1) := by decide +kernel
theorem dX4_gatherCommon_74 : decode cX4_gatherCommon 74 = .ok (.iinc 4 (-1), 3) := by decide +kernel
theorem dX4_gatherCommon_77 : decode cX4_gatherCommon 77 = .ok (.goto (-37), 3) := by decide +kernel
theorem dX4_gatherCommon_80 : decode cX4_gatherCommon 80 = .ok (.aload_n 0, 1) := by decide +kernel
theorem dX4_gatherCommon_81 : decode cX4_gatherCommon 81 = .ok (.getfield 34, 3) := by decide +kernel
theorem dX4_gatherCommon_84 : decode cX4_gatherCommon 84 = .ok (.iload 4, 2) := by decide +kernel
theorem dX4_gatherCommon_86 : decode cX4_gatherCommon 86 = .ok (.iload_n 3, 1) := by decide +kernel
theorem dX4_gatherCommon_87 : decode cX4_gatherCommon 87 = .ok (.iastore, 1) := by decide +kernel
theorem dX4_gatherCommon_88 : decode cX4_gatherCommon 88 = .ok (.iinc 1 1, 3) := by decide +kernel
theorem dX4_gatherCommon_91 : decode cX4_gatherCommon 91 = .ok (.iinc 2 1, 3) := by decide +kernel
theorem dX4_gatherCommon_94 : decode cX4_gatherCommon 94 = .ok (.goto (-90), 3) := by decide +kernel
theorem dX4_gatherCommon_97 : decode cX4_gatherCommon 97 = .ok (.iload_n 1, 1) := by decide +kernel
theorem dX4_gatherCommon_98 : decode cX4_gatherCommon 98 = .ok (.ireturn, 1) := by decide +kernel
theorem dX4_tellClashesOf_0 : decode cX4_tellClashesOf 0 = .ok (.aload_n 0, 1) := by decide +kernel
theorem dX4_tellClashesOf_1 : decode cX4_tellClashesOf 1 = .ok (.getfield 25, 3) := by decide +kernel
theorem dX4_tellClashesOf_4 : decode cX4_tellClashesOf 4 = .ok (.iload_n 1, 1) := by decide +kernel
theorem dX4_tellClashesOf_5 : decode cX4_tellClashesOf 5 = .ok (.invokevirtual 65, 3) := by decide +kernel
theorem dX4_tellClashesOf_8 : decode cX4_tellClashesOf 8 = .ok (.istore_n 2, 1) := by decide +kernel
theorem dX4_tellClashesOf_9 : decode cX4_tellClashesOf 9 = .ok (.aload_n 0, 1) := by decide +kernel
theorem dX4_tellClashesOf_10 : decode cX4_tellClashesOf 10 = .ok (.getfield 28, 3) := by decide +kernel
theorem dX4_tellClashesOf_13 : decode cX4_tellClashesOf 13 = .ok (.iload_n 1, 1) := by decide +kernel
theorem dX4_tellClashesOf_14 : decode cX4_tellClashesOf 14 = .ok (.invokevirtual 65, 3) := by decide +kernel
theorem dX4_tellClashesOf_17 : decode cX4_tellClashesOf 17 = .ok (.istore_n 3, 1) := by decide +kernel
theorem dX4_tellClashesOf_18 : decode cX4_tellClashesOf 18 = .ok (.aload_n 0, 1) := by decide +kernel
theorem dX4_tellClashesOf_19 : decode cX4_tellClashesOf 19 = .ok (.getfield 31, 3) := by decide +kernel
theorem dX4_tellClashesOf_22 : decode cX4_tellClashesOf 22 = .ok (.iload_n 1, 1) := by decide +kernel
theorem dX4_tellClashesOf_23 : decode cX4_tellClashesOf 23 = .ok (.invokevirtual 65, 3) := by decide +kernel
theorem dX4_tellClashesOf_26 : decode cX4_tellClashesOf 26 = .ok (.istore 4, 2) := by decide +kernel
theorem dX4_tellClashesOf_28 : decode cX4_tellClashesOf 28 = .ok (.iconst 0, 1) := by decide +kernel
theorem dX4_tellClashesOf_29 : decode cX4_tellClashesOf 29 = .ok (.istore 5, 2) := by decide +kernel
theorem dX4_tellClashesOf_31 : decode cX4_tellClashesOf 31 = .ok (.iload 5, 2) := by decide +kernel
theorem dX4_tellClashesOf_33 : decode cX4_tellClashesOf 33 = .ok (.iconst 2, 1) := by decide +kernel
theorem dX4_tellClashesOf_34 : decode cX4_tellClashesOf 34 = .ok (.if_icmp .gt 77, 3) := by decide +kernel
theorem dX4_tellClashesOf_37 : decode cX4_tellClashesOf 37 = .ok (.aload_n 0, 1) := by decide +kernel
theorem dX4_tellClashesOf_38 : decode cX4_tellClashesOf 38 = .ok (.getfield 25, 3) := by decide +kernel
theorem dX4_tellClashesOf_41 : decode cX4_tellClashesOf 41 = .ok (.iload_n 2, 1) := by decide +kernel
theorem dX4_tellClashesOf_42 : decode cX4_tellClashesOf 42 = .ok (.iload 5, 2) := by decide +kernel
theorem dX4_tellClashesOf_44 : decode cX4_tellClashesOf 44 = .ok (.invokestatic 101, 3) := by decide +kernel
theorem dX4_tellClashesOf_47 : decode cX4_tellClashesOf 47 = .ok (.lstore 6, 2) := by decide +kernel
theorem dX4_tellClashesOf_49 : decode cX4_tellClashesOf 49 = .ok (.aload_n 0, 1) := by decide +kernel
theorem dX4_tellClashesOf_50 : decode cX4_tellClashesOf 50 = .ok (.getfield 28, 3) := by decide +kernel
theorem dX4_tellClashesOf_53 : decode cX4_tellClashesOf 53 = .ok (.iload_n 3, 1) := by decide +kernel
theorem dX4_tellClashesOf_54 : decode cX4_tellClashesOf 54 = .ok (.iload 5, 2) := by decide +kernel
theorem dX4_tellClashesOf_56 : decode cX4_tellClashesOf 56 = .ok (.invokestatic 101, 3) := by decide +kernel
theorem dX4_tellClashesOf_59 : decode cX4_tellClashesOf 59 = .ok (.lstore 8, 2) := by decide +kernel
theorem dX4_tellClashesOf_61 : decode cX4_tellClashesOf 61 = .ok (.aload_n 0, 1) := by decide +kernel
theorem dX4_tellClashesOf_62 : decode cX4_tellClashesOf 62 = .ok (.getfield 31, 3) := by decide +kernel
theorem dX4_tellClashesOf_65 : decode cX4_tellClashesOf 65 = .ok (.iload 4, 2) := by decide +kernel
theorem dX4_tellClashesOf_67 : decode cX4_tellClashesOf 67 = .ok (.iload 5, 2) := by decide +kernel
theorem dX4_tellClashesOf_69 : decode cX4_tellClashesOf 69 = .ok (.invokestatic 101, 3) := by decide +kernel
theorem dX4_tellClashesOf_72 : decode cX4_tellClashesOf 72 = .ok (.lstore 10, 2) := by decide +kernel
theorem dX4_tellClashesOf_74 : decode cX4_tellClashesOf 74 = .ok (.lload 8, 2) := by decide +kernel
theorem dX4_tellClashesOf_76 : decode cX4_tellClashesOf 76 = .ok (.lload 10, 2) := by decide +kernel
theorem dX4_tellClashesOf_78 : decode cX4_tellClashesOf 78 = .ok (.lcmp, 1) := by decide +kernel
theorem dX4_tellClashesOf_79 : decode cX4_tellClashesOf 79 = .ok (.ifCond .eq 26, 3) := by decide +kernel
theorem dX4_tellClashesOf_82 : decode cX4_tellClashesOf 82 = .ok (.lload 8, 2) := by decide +kernel
theorem dX4_tellClashesOf_84 : decode cX4_tellClashesOf 84 = .ok (.lload 6, 2) := by decide +kernel
theorem dX4_tellClashesOf_86 : decode cX4_tellClashesOf 86 = .ok (.lcmp, 1) := by decide +kernel
theorem dX4_tellClashesOf_87 : decode cX4_tellClashesOf 87 = .ok (.ifCond .eq 18, 3) := by decide +kernel
theorem dX4_tellClashesOf_90 : decode cX4_tellClashesOf 90 = .ok (.lload 10, 2) := by decide +kernel
theorem dX4_tellClashesOf_92 : decode cX4_tellClashesOf 92 = .ok (.lload 6, 2) := by decide +kernel
theorem dX4_tellClashesOf_94 : decode cX4_tellClashesOf 94 = .ok (.lcmp, 1) := by decide +kernel
theorem dX4_tellClashesOf_95 : decode cX4_tellClashesOf 95 = .ok (.ifCond .eq 10, 3) := by decide +kernel
theorem dX4_tellClashesOf_98 : decode cX4_tellClashesOf 98 = .ok (.aload_n 0, 1) := by decide +kernel
theorem dX4_tellClashesOf_99 : decode cX4_tellClashesOf 99 = .ok (.iload_n 1, 1) := by decide +kernel
theorem dX4_tellClashesOf_100 : decode cX4_tellClashesOf 100 = .ok (.iload 5, 2) := by decide +kernel
theorem dX4_tellClashesOf_102 : decode cX4_tellClashesOf 102 = .ok (.invokevirtual 47, 3) := by decide +kernel
theorem dX4_tellClashesOf_105 : decode cX4_tellClashesOf 105 = .ok (.iinc 5 1, 3) := by decide +kernel
theorem dX4_tellClashesOf_108 : decode cX4_tellClashesOf 108 = .ok (.goto (-77), 3) := by decide +kernel
theorem dX4_tellClashesOf_111 : decode cX4_tellClashesOf 111 = .ok (.aload_n 0, 1) := by decide +kernel
theorem dX4_tellClashesOf_112 : decode cX4_tellClashesOf 112 = .ok (.getfield 28, 3) := by decide +kernel
theorem dX4_tellClashesOf_115 : decode cX4_tellClashesOf 115 = .ok (.iload_n 3, 1) := by decide +kernel
theorem dX4_tellClashesOf_116 : decode cX4_tellClashesOf 116 = .ok (.aload_n 0, 1) := by decide +kernel
theorem dX4_tellClashesOf_117 : decode cX4_tellClashesOf 117 = .ok (.getfield 31, 3) := by decide +kernel
theorem dX4_tellClashesOf_120 : decode cX4_tellClashesOf 120 = .ok (.iload 4, 2) := by decide +kernel
theorem dX4_tellClashesOf_122 : decode cX4_tellClashesOf 122 = .ok (.invokestatic 105, 3) := by decide +kernel
theorem dX4_tellClashesOf_125 : decode cX4_tellClashesOf 125 = .ok (.ifCond .ne 42, 3) := by decide +kernel
theorem dX4_tellClashesOf_128 : decode cX4_tellClashesOf 128 = .ok (.aload_n 0, 1) := by decide +kernel
theorem dX4_tellClashesOf_129 : decode cX4_tellClashesOf 129 = .ok (.getfield 28, 3) := by decide +kernel
theorem dX4_tellClashesOf_132 : decode cX4_tellClashesOf 132 = .ok (.iload_n 3, 1) := by decide +kernel
theorem dX4_tellClashesOf_133 : decode cX4_tellClashesOf 133 = .ok (.aload_n 0, 1) := by decide +kernel
theorem dX4_tellClashesOf_134 : decode cX4_tellClashesOf 134 = .ok (.getfield 25, 3) := by decide +kernel
theorem dX4_tellClashesOf_137 : decode cX4_tellClashesOf 137 = .ok (.iload_n 2, 1) := by decide +kernel
theorem dX4_tellClashesOf_138 : decode cX4_tellClashesOf 138 = .ok (.invokestatic 105, 3) := by decide +kernel
theorem dX4_tellClashesOf_141 : decode cX4_tellClashesOf 141 = .ok (.ifCond .ne 26, 3) := by decide +kernel
theorem dX4_tellClashesOf_144 : decode cX4_tellClashesOf 144 = .ok (.aload_n 0, 1) := by decide +kernel
theorem dX4_tellClashesOf_145 : decode cX4_tellClashesOf 145 = .ok (.getfield 31, 3) := by decide +kernel
theorem dX4_tellClashesOf_148 : decode cX4_tellClashesOf 148 = .ok (.iload 4, 2) := by decide +kernel
theorem dX4_tellClashesOf_150 : decode cX4_tellClashesOf 150 = .ok (.aload_n 0, 1) := by decide +kernel
theorem dX4_tellClashesOf_151 : decode cX4_tellClashesOf 151 = .ok (.getfield 25, 3) := by decide +kernel
theorem dX4_tellClashesOf_154 : decode cX4_tellClashesOf 154 = .ok (.iload_n 2, 1) := by decide +kernel
theorem dX4_tellClashesOf_155 : decode cX4_tellClashesOf 155 = .ok (.invokestatic 105, 3) := by decide +kernel
theorem dX4_tellClashesOf_158 : decode cX4_tellClashesOf 158 = .ok (.ifCond .ne 9, 3) := by decide +kernel
theorem dX4_tellClashesOf_161 : decode cX4_tellClashesOf 161 = .ok (.aload_n 0, 1) := by decide +kernel
theorem dX4_tellClashesOf_162 : decode cX4_tellClashesOf 162 = .ok (.iload_n 1, 1) := by decide +kernel
theorem dX4_tellClashesOf_163 : decode cX4_tellClashesOf 163 = .ok (.iconst 3, 1) := by decide +kernel
theorem dX4_tellClashesOf_164 : decode cX4_tellClashesOf 164 = .ok (.invokevirtual 47, 3) := by decide +kernel
theorem dX4_tellClashesOf_167 : decode cX4_tellClashesOf 167 = .ok (.return_, 1) := by decide +kernel
theorem dX4_addClash_0 : decode cX4_addClash 0 = .ok (.aload_n 0, 1) := by decide +kernel
theorem dX4_addClash_1 : decode cX4_addClash 1 = .ok (.getfield 37, 3) := by decide +kernel
theorem dX4_addClash_4 : decode cX4_addClash 4 = .ok (.bipush 121, 2) := by decide +kernel
theorem dX4_addClash_6 : decode cX4_addClash 6 = .ok (.if_icmp .ge 33, 3) := by decide +kernel
theorem dX4_addClash_9 : decode cX4_addClash 9 = .ok (.aload_n 0, 1) := by decide +kernel
theorem dX4_addClash_10 : decode cX4_addClash 10 = .ok (.getfield 18, 3) := by decide +kernel
theorem dX4_addClash_13 : decode cX4_addClash 13 = .ok (.aload_n 0, 1) := by decide +kernel
theorem dX4_addClash_14 : decode cX4_addClash 14 = .ok (.getfield 37, 3) := by decide +kernel
theorem dX4_addClash_17 : decode cX4_addClash 17 = .ok (.iload_n 1, 1) := by decide +kernel
theorem dX4_addClash_18 : decode cX4_addClash 18 = .ok (.iastore, 1) := by decide +kernel
theorem dX4_addClash_19 : decode cX4_addClash 19 = .ok (.aload_n 0, 1) := by decide +kernel
theorem dX4_addClash_20 : decode cX4_addClash 20 = .ok (.getfield 22, 3) := by decide +kernel
theorem dX4_addClash_23 : decode cX4_addClash 23 = .ok (.aload_n 0, 1) := by decide +kernel
theorem dX4_addClash_24 : decode cX4_addClash 24 = .ok (.getfield 37, 3) := by decide +kernel
theorem dX4_addClash_27 : decode cX4_addClash 27 = .ok (.iload_n 2, 1) := by decide +kernel
theorem dX4_addClash_28 : decode cX4_addClash 28 = .ok (.iastore, 1) := by decide +kernel
theorem dX4_addClash_29 : decode cX4_addClash 29 = .ok (.aload_n 0, 1) := by decide +kernel
theorem dX4_addClash_30 : decode cX4_addClash 30 = .ok (.dup, 1) := by decide +kernel
theorem dX4_addClash_31 : decode cX4_addClash 31 = .ok (.getfield 37, 3) := by decide +kernel
theorem dX4_addClash_34 : decode cX4_addClash 34 = .ok (.iconst 1, 1) := by decide +kernel
theorem dX4_addClash_35 : decode cX4_addClash 35 = .ok (.iadd, 1) := by decide +kernel
theorem dX4_addClash_36 : decode cX4_addClash 36 = .ok (.putfield 37, 3) := by decide +kernel
theorem dX4_addClash_39 : decode cX4_addClash 39 = .ok (.return_, 1) := by decide +kernel
theorem dX5_init_0 : decode cX5_init 0 = .ok (.aload_n 0, 1) := by decide +kernel
theorem dX5_init_1 : decode cX5_init 1 = .ok (.invokespecial 3, 3) := by decide +kernel
theorem dX5_init_4 : decode cX5_init 4 = .ok (.aload_n 0, 1) := by decide +kernel
theorem dX5_init_5 : decode cX5_init 5 = .ok (.bipush 12, 2) := by decide +kernel
theorem dX5_init_7 : decode cX5_init 7 = .ok (.newarray .int, 2) := by decide +kernel
theorem dX5_init_9 : decode cX5_init 9 = .ok (.putfield 9, 3) := by decide +kernel
theorem dX5_init_12 : decode cX5_init 12 = .ok (.aload_n 0, 1) := by decide +kernel
theorem dX5_init_13 : decode cX5_init 13 = .ok (.aload_n 1, 1) := by decide +kernel
theorem dX5_init_14 : decode cX5_init 14 = .ok (.putfield 15, 3) := by decide +kernel
theorem dX5_init_17 : decode cX5_init 17 = .ok (.aload_n 0, 1) := by decide +kernel
theorem dX5_init_18 : decode cX5_init 18 = .ok (.aload_n 2, 1) := by decide +kernel
theorem dX5_init_19 : decode cX5_init 19 = .ok (.putfield 19, 3) := by decide +kernel
theorem dX5_init_22 : decode cX5_init 22 = .ok (.return_, 1) := by decide +kernel
theorem dX5_parse_0 : decode cX5_parse 0 = .ok (.aload_n 0, 1) := by decide +kernel
theorem dX5_parse_1 : decode cX5_parse 1 = .ok (.iconst 0, 1) := by decide +kernel
theorem dX5_parse_2 : decode cX5_parse 2 = .ok (.putfield 23, 3) := by decide +kernel
theorem dX5_parse_5 : decode cX5_parse 5 = .ok (.aload_n 0, 1) := by decide +kernel
theorem dX5_parse_6 : decode cX5_parse 6 = .ok (.getfield 19, 3) := by decide +kernel
theorem dX5_parse_9 : decode cX5_parse 9 = .ok (.iconst 0, 1) := by decide +kernel
theorem dX5_parse_10 : decode cX5_parse 10 = .ok (.putfield 27, 3) := by decide +kernel
theorem dX5_parse_13 : decode cX5_parse 13 = .ok (.iconst 0, 1) := by decide +kernel
theorem dX5_parse_14 : decode cX5_parse 14 = .ok (.istore_n 1, 1) := by decide +kernel
theorem dX5_parse_15 : decode cX5_parse 15 = .ok (.iconst 0, 1) := by decide +kernel
theorem dX5_parse_16 : decode cX5_parse 16 = .ok (.istore_n 2, 1) := by decide +kernel
theorem dX5_parse_17 : decode cX5_parse 17 = .ok (.iload_n 2, 1) := by decide +kernel
theorem dX5_parse_18 : decode cX5_parse 18 = .ok (.bipush 30, 2) := by decide +kernel
theorem dX5_parse_20 : decode cX5_parse 20 = .ok (.if_icmp .gt 32, 3) := by decide +kernel
theorem dX5_parse_23 : decode cX5_parse 23 = .ok (.iload_n 1, 1) := by decide +kernel
theorem dX5_parse_24 : decode cX5_parse 24 = .ok (.ifCond .lt 28, 3) := by decide +kernel
theorem dX5_parse_27 : decode cX5_parse 27 = .ok (.aload_n 0, 1) := by decide +kernel
theorem dX5_parse_28 : decode cX5_parse 28 = .ok (.iload_n 1, 1) := by decide +kernel
theorem dX5_parse_29 : decode cX5_parse 29 = .ok (.invokevirtual 32, 3) := by decide +kernel
theorem dX5_parse_32 : decode cX5_parse 32 = .ok (.ifCond .eq 11, 3) := by decide +kernel
theorem dX5_parse_35 : decode cX5_parse 35 = .ok (.aload_n 0, 1) := by decide +kernel
theorem dX5_parse_36 : decode cX5_parse 36 = .ok (.iload_n 1, 1) := by decide +kernel
theorem dX5_parse_37 : decode cX5_parse 37 = .ok (.invokevirtual 36, 3) := by decide +kernel
theorem dX5_parse_40 : decode cX5_parse 40 = .ok (.goto 5, 3) := by decide +kernel
theorem dX5_parse_43 : decode cX5_parse 43 = .ok (.bipush (-2), 2) := by decide +kernel
theorem dX5_parse_45 : decode cX5_parse 45 = .ok (.istore_n 1, 1) := by decide +kernel
theorem dX5_parse_46 : decode cX5_parse 46 = .ok (.iinc 2 1, 3) := by decide +kernel
theorem dX5_parse_49 : decode cX5_parse 49 = .ok (.goto (-32), 3) := by decide +kernel
theorem dX5_parse_52 : decode cX5_parse 52 = .ok (.iload_n 1, 1) := by decide +kernel
theorem dX5_parse_53 : decode cX5_parse 53 = .ok (.iconst (-1), 1) := by decide +kernel
theorem dX5_parse_54 : decode cX5_parse 54 = .ok (.if_icmp .ne 17, 3) := by decide +kernel
theorem dX5_parse_57 : decode cX5_parse 57 = .ok (.aload_n 0, 1) := by decide +kernel
theorem dX5_parse_58 : decode cX5_parse 58 = .ok (.getfield 23, 3) := by decide +kernel
theorem dX5_parse_61 : decode cX5_parse 61 = .ok (.aload_n 0, 1) := by decide +kernel
theorem dX5_parse_62 : decode cX5_parse 62 = .ok (.getfield 15, 3) := by decide +kernel
theorem dX5_parse_65 : decode cX5_parse 65 = .ok (.getfield 40, 3) := by decide +kernel
theorem dX5_parse_68 : decode cX5_parse 68 = .ok (.if_icmp .ge 8, 3) := by decide +kernel
theorem dX5_parse_71 : decode cX5_parse 71 = .ok (.aload_n 0, 1) := by decide +kernel
theorem dX5_parse_72 : decode cX5_parse 72 = .ok (.getfield 23, 3) := by decide +kernel
theorem dX5_parse_75 : decode cX5_parse 75 = .ok (.ireturn, 1) := by decide +kernel
theorem dX5_parse_76 : decode cX5_parse 76 = .ok (.aload_n 0, 1) := by decide +kernel
theorem dX5_parse_77 : decode cX5_parse 77 = .ok (.getfield 19, 3) := by decide +kernel
theorem dX5_parse_80 : decode cX5_parse 80 = .ok (.invokevirtual 45, 3) := by decide +kernel
theorem dX5_parse_83 : decode cX5_parse 83 = .ok (.iconst (-1), 1) := by decide +kernel
theorem dX5_parse_84 : decode cX5_parse 84 = .ok (.ireturn, 1) := by decide +kernel
theorem dX5_readNode_0 : decode cX5_readNode 0 = .ok (.iload_n 1, 1) := by decide +kernel
theorem dX5_readNode_1 : decode cX5_readNode 1 = .ok (.bipush 11, 2) := by decide +kernel
theorem dX5_readNode_3 : decode cX5_readNode 3 = .ok (.if_icmp .gt 15, 3) := by decide +kernel
theorem dX5_readNode_6 : decode cX5_readNode 6 = .ok (.aload_n 0, 1) := by decide +kernel
theorem dX5_readNode_7 : decode cX5_readNode 7 = .ok (.getfield 19, 3) := by decide +kernel
theorem dX5_readNode_10 : decode cX5_readNode 10 = .ok (.getfield 27, 3) := by decide +kernel
theorem dX5_readNode_13 : decode cX5_readNode 13 = .ok (.bipush 30, 2) := by decide +kernel
theorem dX5_readNode_15 : decode cX5_readNode 15 = .ok (.if_icmp .ne 5, 3) := by decide +kernel
theorem dX5_readNode_18 : decode cX5_readNode 18 = .ok (.iconst 0, 1) := by decide +kernel
theorem dX5_readNode_19 : decode cX5_readNode 19 = .ok (.ireturn, 1) := by decide +kernel
theorem dX5_readNode_20 : decode cX5_readNode 20 = .ok (.aload_n 0, 1) := by decide +kernel
theorem dX5_readNode_21 : decode cX5_readNode 21 = .ok (.getfield 23, 3) := by decide +kernel
theorem dX5_readNode_24 : decode cX5_readNode 24 = .ok (.istore_n 2, 1) := by decide +kernel
theorem dX5_readNode_25 : decode cX5_readNode 25 = .ok (.aload_n 0, 1) := by decide +kernel
theorem dX5_readNode_26 : decode cX5_readNode 26 = .ok (.invokevirtual 48, 3) := by decide +kernel
theorem dX5_readNode_29 : decode cX5_readNode 29 = .ok (.ifCond .ne 5, 3) := by decide +kernel
theorem dX5_readNode_32 : decode cX5_readNode 32 = .ok (.iconst 0, 1) := by decide +kernel
theorem dX5_readNode_33 : decode cX5_readNode 33 = .ok (.ireturn, 1) := by decide +kernel
theorem dX5_readNode_34 : decode cX5_readNode 34 = .ok (.aload_n 0, 1) := by decide +kernel
theorem dX5_readNode_35 : decode cX5_readNode 35 = .ok (.getfield 15, 3) := by decide +kernel
theorem dX5_readNode_38 : decode cX5_readNode 38 = .ok (.iload_n 2, 1) := by decide +kernel
theorem dX5_readNode_39 : decode cX5_readNode 39 = .ok (.aload_n 0, 1) := by decide +kernel
theorem dX5_readNode_40 : decode cX5_readNode 40 = .ok (.getfield 23, 3) := by decide +kernel
theorem dX5_readNode_43 : decode cX5_readNode 43 = .ok (.iload_n 2, 1) := by decide +kernel
theorem dX5_readNode_44 : decode cX5_readNode 44 = .ok (.isub, 1) := by decide +kernel
theorem dX5_readNode_45 : decode cX5_readNode 45 = .ok (.invokevirtual 52, 3) := by decide +kernel
theorem dX5_readNode_48 : decode cX5_readNode 48 = .ok (.lstore_n 3, 1) := by decide +kernel
theorem dX5_readNode_49 : decode cX5_readNode 49 = .ok (.iload_n 1, 1) := by decide +kernel
theorem dX5_readNode_50 : decode cX5_readNode 50 = .ok (.ifCond .le 26, 3) := by decide +kernel
theorem dX5_readNode_53 : decode cX5_readNode 53 = .ok (.aload_n 0, 1) := by decide +kernel
theorem dX5_readNode_54 : decode cX5_readNode 54 = .ok (.aload_n 0, 1) := by decide +kernel
theorem dX5_readNode_55 : decode cX5_readNode 55 = .ok (.getfield 9, 3) := by decide +kernel
theorem dX5_readNode_58 : decode cX5_readNode 58 = .ok (.iload_n 1, 1) := by decide +kernel
theorem dX5_readNode_59 : decode cX5_readNode 59 = .ok (.iconst 1, 1) := by decide +kernel
theorem dX5_readNode_60 : decode cX5_readNode 60 = .ok (.isub, 1) := by decide +kernel
theorem dX5_readNode_61 : decode cX5_readNode 61 = .ok (.iaload, 1) := by decide +kernel
theorem dX5_readNode_62 : decode cX5_readNode 62 = .ok (.lload_n 3, 1) := by decide +kernel
theorem dX5_readNode_63 : decode cX5_readNode 63 = .ok (.invokevirtual 56, 3) := by decide +kernel
theorem dX5_readNode_66 : decode cX5_readNode 66 = .ok (.ifCond .eq 10, 3) := by decide +kernel
theorem dX5_readNode_69 : decode cX5_readNode 69 = .ok (.aload_n 0, 1) := by decide +kernel
theorem dX5_readNode_70 : decode cX5_readNode 70 = .ok (.iload_n 2, 1) := by decide +kernel
theorem dX5_readNode_71 : decode cX5_readNode 71 = .ok (.putfield 23, 3) := by decide +kernel
theorem dX5_readNode_74 : decode cX5_readNode 74 = .ok (.iconst 0, 1) := by decide +kernel
theorem dX5_readNode_75 : decode cX5_readNode 75 = .ok (.ireturn, 1) := by decide +kernel
theorem dX5_readNode_76 : decode cX5_readNode 76 = .ok (.aload_n 0, 1) := by decide +kernel
theorem dX5_readNode_77 : decode cX5_readNode 77 = .ok (.getfield 19, 3) := by decide +kernel
theorem dX5_readNode_80 : decode cX5_readNode 80 = .ok (.iload_n 1, 1) := by decide +kernel
theorem dX5_readNode_81 : decode cX5_readNode 81 = .ok (.invokevirtual 60, 3) := by decide +kernel
theorem dX5_readNode_84 : decode cX5_readNode 84 = .ok (.istore 5, 2) := by decide +kernel
theorem dX5_readNode_86 : decode cX5_readNode 86 = .ok (.aload_n 0, 1) := by decide +kernel
theorem dX5_readNode_87 : decode cX5_readNode 87 = .ok (.getfield 9, 3) := by decide +kernel
theorem dX5_readNode_90 : decode cX5_readNode 90 = .ok (.iload_n 1, 1) := by decide +kernel
theorem dX5_readNode_91 : decode cX5_readNode 91 = .ok (.iload 5, 2) := by decide +kernel
theorem dX5_readNode_93 : decode cX5_readNode 93 = .ok (.iastore, 1) := by decide +kernel
theorem dX5_readNode_94 : decode cX5_readNode 94 = .ok (.aload_n 0, 1) := by decide +kernel
theorem dX5_readNode_95 : decode cX5_readNode 95 = .ok (.getfield 19, 3) := by decide +kernel
theorem dX5_readNode_98 : decode cX5_readNode 98 = .ok (.iload 5, 2) := by decide +kernel
theorem dX5_readNode_100 : decode cX5_readNode 100 = .ok (.iconst 0, 1) := by decide +kernel
theorem dX5_readNode_101 : decode cX5_readNode 101 = .ok (.iconst 0, 1) := by decide +kernel
theorem dX5_readNode_102 : decode cX5_readNode 102 = .ok (.lload_n 3, 1) := by decide +kernel
theorem dX5_readNode_103 : decode cX5_readNode 103 = .ok (.invokevirtual 63, 3) := by decide +kernel
theorem dX5_readNode_106 : decode cX5_readNode 106 = .ok (.aload_n 0, 1) := by decide +kernel
theorem dX5_readNode_107 : decode cX5_readNode 107 = .ok (.iload 5, 2) := by decide +kernel
theorem dX5_readNode_109 : decode cX5_readNode 109 = .ok (.invokevirtual 67, 3) := by decide +kernel
theorem dX5_readNode_112 : decode cX5_readNode 112 = .ok (.ifCond .ne 5, 3) := by decide +kernel
theorem dX5_readNode_115 : decode cX5_readNode 115 = .ok (.iconst 0, 1) := by decide +kernel
theorem dX5_readNode_116 : decode cX5_readNode 116 = .ok (.ireturn, 1) := by decide +kernel
theorem dX5_readNode_117 : decode cX5_readNode 117 = .ok (.aload_n 0, 1) := by decide +kernel
theorem dX5_readNode_118 : decode cX5_readNode 118 = .ok (.iload 5, 2) := by decide +kernel
theorem dX5_readNode_120 : decode cX5_readNode 120 = .ok (.invokevirtual 70, 3) := by decide +kernel
theorem dX5_readNode_123 : decode cX5_readNode 123 = .ok (.iconst 1, 1) := by decide +kernel
theorem dX5_readNode_124 : decode cX5_readNode 124 = .ok (.ireturn, 1) := by decide +kernel
theorem dX5_isTwin_0 : decode cX5_isTwin 0 = .ok (.aload_n 0, 1) := by decide +kernel
theorem dX5_isTwin_1 : decode cX5_isTwin 1 = .ok (.getfield 19, 3) := by decide +kernel
theorem dX5_isTwin_4 : decode cX5_isTwin 4 = .ok (.getfield 74, 3) := by decide +kernel
theorem dX5_isTwin_7 : decode cX5_isTwin 7 = .ok (.iload_n 1, 1) := by decide +kernel
theorem dX5_isTwin_8 : decode cX5_isTwin 8 = .ok (.iaload, 1) := by decide +kernel
theorem dX5_isTwin_9 : decode cX5_isTwin 9 = .ok (.iconst 2, 1) := by decide +kernel
theorem dX5_isTwin_10 : decode cX5_isTwin 10 = .ok (.if_icmp .ne 29, 3) := by decide +kernel
theorem dX5_isTwin_13 : decode cX5_isTwin 13 = .ok (.aload_n 0, 1) := by decide +kernel
theorem dX5_isTwin_14 : decode cX5_isTwin 14 = .ok (.getfield 19, 3) := by decide +kernel
theorem dX5_isTwin_17 : decode cX5_isTwin 17 = .ok (.iload_n 1, 1) := by decide +kernel
theorem dX5_isTwin_18 : decode cX5_isTwin 18 = .ok (.iload_n 1, 1) := by decide +kernel
theorem dX5_isTwin_19 : decode cX5_isTwin 19 = .ok (.iconst 1, 1) := by decide +kernel
theorem dX5_isTwin_20 : decode cX5_isTwin 20 = .ok (.iadd, 1) := by decide +kernel
theorem dX5_isTwin_21 : decode cX5_isTwin 21 = .ok (.aload_n 0, 1) := by decide +kernel
theorem dX5_isTwin_22 : decode cX5_isTwin 22 = .ok (.getfield 19, 3) := by decide +kernel
theorem dX5_isTwin_25 : decode cX5_isTwin 25 = .ok (.getfield 27, 3) := by decide +kernel
theorem dX5_isTwin_28 : decode cX5_isTwin 28 = .ok (.lload_n 2, 1) := by decide +kernel
theorem dX5_isTwin_29 : decode cX5_isTwin 29 = .ok (.invokevirtual 77, 3) := by decide +kernel
theorem dX5_isTwin_32 : decode cX5_isTwin 32 = .ok (.ifCond .eq 7, 3) := by decide +kernel
theorem dX5_isTwin_35 : decode cX5_isTwin 35 = .ok (.iconst 1, 1) := by decide +kernel
theorem dX5_isTwin_36 : decode cX5_isTwin 36 = .ok (.goto 4, 3) := by decide +kernel
theorem dX5_isTwin_39 : decode cX5_isTwin 39 = .ok (.iconst 0, 1) := by decide +kernel
theorem dX5_isTwin_40 : decode cX5_isTwin 40 = .ok (.ireturn, 1) := by decide +kernel
theorem dX5_passLabel_0 : decode cX5_passLabel 0 = .ok (.aload_n 0, 1) := by decide +kernel
theorem dX5_passLabel_1 : decode cX5_passLabel 1 = .ok (.getfield 15, 3) := by decide +kernel
theorem dX5_passLabel_4 : decode cX5_passLabel 4 = .ok (.aload_n 0, 1) := by decide +kernel
theorem dX5_passLabel_5 : decode cX5_passLabel 5 = .ok (.getfield 23, 3) := by decide +kernel
theorem dX5_passLabel_8 : decode cX5_passLabel 8 = .ok (.invokevirtual 81, 3) := by decide +kernel
theorem dX5_passLabel_11 : decode cX5_passLabel 11 = .ok (.istore_n 1, 1) := by decide +kernel
theorem dX5_passLabel_12 : decode cX5_passLabel 12 = .ok (.aload_n 0, 1) := by decide +kernel
theorem dX5_passLabel_13 : decode cX5_passLabel 13 = .ok (.dup, 1) := by decide +kernel
theorem dX5_passLabel_14 : decode cX5_passLabel 14 = .ok (.getfield 23, 3) := by decide +kernel
theorem dX5_passLabel_17 : decode cX5_passLabel 17 = .ok (.iload_n 1, 1) := by decide +kernel
theorem dX5_passLabel_18 : decode cX5_passLabel 18 = .ok (.iadd, 1) := by decide +kernel
theorem dX5_passLabel_19 : decode cX5_passLabel 19 = .ok (.putfield 23, 3) := by decide +kernel
theorem dX5_passLabel_22 : decode cX5_passLabel 22 = .ok (.iload_n 1, 1) := by decide +kernel
theorem dX5_passLabel_23 : decode cX5_passLabel 23 = .ok (.ifCond .le 24, 3) := by decide +kernel
theorem dX5_passLabel_26 : decode cX5_passLabel 26 = .ok (.aload_n 0, 1) := by decide +kernel
theorem dX5_passLabel_27 : decode cX5_passLabel 27 = .ok (.getfield 15, 3) := by decide +kernel
theorem dX5_passLabel_30 : decode cX5_passLabel 30 = .ok (.aload_n 0, 1) := by decide +kernel
theorem dX5_passLabel_31 : decode cX5_passLabel 31 = .ok (.getfield 23, 3) := by decide +kernel
theorem dX5_passLabel_34 : decode cX5_passLabel 34 = .ok (.invokevirtual 84, 3) := by decide +kernel
theorem dX5_passLabel_37 : decode cX5_passLabel 37 = .ok (.invokestatic 87, 3) := by decide +kernel
theorem dX5_passLabel_40 : decode cX5_passLabel 40 = .ok (.ifCond .ne 7, 3) := by decide +kernel
theorem dX5_passLabel_43 : decode cX5_passLabel 43 = .ok (.iconst 1, 1) := by decide +kernel
theorem dX5_passLabel_44 : decode cX5_passLabel 44 = .ok (.goto 4, 3) := by decide +kernel
theorem dX5_passLabel_47 : decode cX5_passLabel 47 = .ok (.iconst 0, 1) := by decide +kernel
theorem dX5_passLabel_48 : decode cX5_passLabel 48 = .ok (.ireturn, 1) := by decide +kernel
theorem dX5_readText_0 : decode cX5_readText 0 = .ok (.aload_n 0, 1) := by decide +kernel
theorem dX5_readText_1 : decode cX5_readText 1 = .ok (.bipush 61, 2) := by decide +kernel
theorem dX5_readText_3 : decode cX5_readText 3 = .ok (.invokevirtual 90, 3) := by decide +kernel
theorem dX5_readText_6 : decode cX5_readText 6 = .ok (.ifCond .ne 5, 3) := by decide +kernel
theorem dX5_readText_9 : decode cX5_readText 9 = .ok (.iconst 1, 1) := by decide +kernel
theorem dX5_readText_10 : decode cX5_readText 10 = .ok (.ireturn, 1) := by decide +kernel
theorem dX5_readText_11 : decode cX5_readText 11 = .ok (.aload_n 0, 1) := by decide +kernel
theorem dX5_readText_12 : decode cX5_readText 12 = .ok (.getfield 15, 3) := by decide +kernel
theorem dX5_readText_15 : decode cX5_readText 15 = .ok (.aload_n 0, 1) := by decide +kernel
theorem dX5_readText_16 : decode cX5_readText 16 = .ok (.getfield 23, 3) := by decide +kernel
theorem dX5_readText_19 : decode cX5_readText 19 = .ok (.invokevirtual 93, 3) := by decide +kernel
theorem dX5_readText_22 : decode cX5_readText 22 = .ok (.istore_n 2, 1) := by decide +kernel
theorem dX5_readText_23 : decode cX5_readText 23 = .ok (.aload_n 0, 1) := by decide +kernel
theorem dX5_readText_24 : decode cX5_readText 24 = .ok (.getfield 19, 3) := by decide +kernel
theorem dX5_readText_27 : decode cX5_readText 27 = .ok (.getfield 96, 3) := by decide +kernel
theorem dX5_readText_30 : decode cX5_readText 30 = .ok (.iload_n 1, 1) := by decide +kernel
theorem dX5_readText_31 : decode cX5_readText 31 = .ok (.aload_n 0, 1) := by decide +kernel
theorem dX5_readText_32 : decode cX5_readText 32 = .ok (.getfield 15, 3) := by decide +kernel
theorem dX5_readText_35 : decode cX5_readText 35 = .ok (.aload_n 0, 1) := by decide +kernel
theorem dX5_readText_36 : decode cX5_readText 36 = .ok (.getfield 23, 3) := by decide +kernel
theorem dX5_readText_39 : decode cX5_readText 39 = .ok (.iload_n 2, 1) := by decide +kernel
theorem dX5_readText_40 : decode cX5_readText 40 = .ok (.invokevirtual 52, 3) := by decide +kernel
theorem dX5_readText_43 : decode cX5_readText 43 = .ok (.lastore, 1) := by decide +kernel
theorem dX5_readText_44 : decode cX5_readText 44 = .ok (.aload_n 0, 1) := by decide +kernel
theorem dX5_readText_45 : decode cX5_readText 45 = .ok (.dup, 1) := by decide +kernel
theorem dX5_readText_46 : decode cX5_readText 46 = .ok (.getfield 23, 3) := by decide +kernel
theorem dX5_readText_49 : decode cX5_readText 49 = .ok (.iload_n 2, 1) := by decide +kernel
theorem dX5_readText_50 : decode cX5_readText 50 = .ok (.iadd, 1) := by decide +kernel
theorem dX5_readText_51 : decode cX5_readText 51 = .ok (.putfield 23, 3) := by decide +kernel
theorem dX5_readText_54 : decode cX5_readText 54 = .ok (.iload_n 2, 1) := by decide +kernel
theorem dX5_readText_55 : decode cX5_readText 55 = .ok (.ifCond .le 24, 3) := by decide +kernel
theorem dX5_readText_58 : decode cX5_readText 58 = .ok (.aload_n 0, 1) := by decide +kernel
theorem dX5_readText_59 : decode cX5_readText 59 = .ok (.getfield 15, 3) := by decide +kernel
theorem dX5_readText_62 : decode cX5_readText 62 = .ok (.aload_n 0, 1) := by decide +kernel
theorem dX5_readText_63 : decode cX5_readText 63 = .ok (.getfield 23, 3) := by decide +kernel
theorem dX5_readText_66 : decode cX5_readText 66 = .ok (.invokevirtual 84, 3) := by decide +kernel
theorem dX5_readText_69 : decode cX5_readText 69 = .ok (.invokestatic 100, 3) := by decide +kernel
theorem dX5_readText_72 : decode cX5_readText 72 = .ok (.ifCond .ne 7, 3) := by decide +kernel
theorem dX5_readText_75 : decode cX5_readText 75 = .ok (.iconst 1, 1) := by decide +kernel
theorem dX5_readText_76 : decode cX5_readText 76 = .ok (.goto 4, 3) := by decide +kernel
theorem dX5_readText_79 : decode cX5_readText 79 = .ok (.iconst 0, 1) := by decide +kernel
theorem dX5_readText_80 : decode cX5_readText 80 = .ok (.ireturn, 1) := by decide +kernel
theorem dX5_readMark_0 : decode cX5_readMark 0 = .ok (.aload_n 0, 1) := by decide +kernel
theorem dX5_readMark_1 : decode cX5_readMark 1 = .ok (.iconst 0, 1) := by decide +kernel
theorem dX5_readMark_2 : decode cX5_readMark 2 = .ok (.putfield 103, 3) := by decide +kernel
theorem dX5_readMark_5 : decode cX5_readMark 5 = .ok (.aload_n 0, 1) := by decide +kernel
theorem dX5_readMark_6 : decode cX5_readMark 6 = .ok (.bipush 33, 2) := by decide +kernel
theorem dX5_readMark_8 : decode cX5_readMark 8 = .ok (.invokevirtual 90, 3) := by decide +kernel
theorem dX5_readMark_11 : decode cX5_readMark 11 = .ok (.ifCond .eq 16, 3) := by decide +kernel
theorem dX5_readMark_14 : decode cX5_readMark 14 = .ok (.aload_n 0, 1) := by decide +kernel
theorem dX5_readMark_15 : decode cX5_readMark 15 = .ok (.getfield 19, 3) := by decide +kernel
theorem dX5_readMark_18 : decode cX5_readMark 18 = .ok (.getfield 74, 3) := by decide +kernel
theorem dX5_readMark_21 : decode cX5_readMark 21 = .ok (.iload_n 1, 1) := by decide +kernel
theorem dX5_readMark_22 : decode cX5_readMark 22 = .ok (.iconst 3, 1) := by decide +kernel
theorem dX5_readMark_23 : decode cX5_readMark 23 = .ok (.iastore, 1) := by decide +kernel
theorem dX5_readMark_24 : decode cX5_readMark 24 = .ok (.goto 97, 3) := by decide +kernel
theorem dX5_readMark_27 : decode cX5_readMark 27 = .ok (.aload_n 0, 1) := by decide +kernel
theorem dX5_readMark_28 : decode cX5_readMark 28 = .ok (.bipush 40, 2) := by decide +kernel
theorem dX5_readMark_30 : decode cX5_readMark 30 = .ok (.invokevirtual 90, 3) := by decide +kernel
theorem dX5_readMark_33 : decode cX5_readMark 33 = .ok (.ifCond .eq 11, 3) := by decide +kernel
theorem dX5_readMark_36 : decode cX5_readMark 36 = .ok (.aload_n 0, 1) := by decide +kernel
theorem dX5_readMark_37 : decode cX5_readMark 37 = .ok (.iconst 1, 1) := by decide +kernel
theorem dX5_readMark_38 : decode cX5_readMark 38 = .ok (.putfield 103, 3) := by decide +kernel
theorem dX5_readMark_41 : decode cX5_readMark 41 = .ok (.goto 80, 3) := by decide +kernel
theorem dX5_readMark_44 : decode cX5_readMark 44 = .ok (.aload_n 0, 1) := by decide +kernel
theorem dX5_readMark_45 : decode cX5_readMark 45 = .ok (.bipush 123, 2) := by decide +kernel
theorem dX5_readMark_47 : decode cX5_readMark 47 = .ok (.invokevirtual 90, 3) := by decide +kernel
theorem dX5_readMark_50 : decode cX5_readMark 50 = .ok (.ifCond .eq 34, 3) := by decide +kernel
theorem dX5_readMark_53 : decode cX5_readMark 53 = .ok (.aload_n 0, 1) := by decide +kernel
theorem dX5_readMark_54 : decode cX5_readMark 54 = .ok (.getfield 19, 3) := by decide +kernel
theorem dX5_readMark_57 : decode cX5_readMark 57 = .ok (.getfield 74, 3) := by decide +kernel
theorem dX5_readMark_60 : decode cX5_readMark 60 = .ok (.iload_n 1, 1) := by decide +kernel
theorem dX5_readMark_61 : decode cX5_readMark 61 = .ok (.iconst 1, 1) := by decide +kernel
theorem dX5_readMark_62 : decode cX5_readMark 62 = .ok (.iastore, 1) := by decide +kernel
theorem dX5_readMark_63 : decode cX5_readMark 63 = .ok (.aload_n 0, 1) := by decide +kernel
theorem dX5_readMark_64 : decode cX5_readMark 64 = .ok (.aload_n 0, 1) := by decide +kernel
theorem dX5_readMark_65 : decode cX5_readMark 65 = .ok (.bipush 125, 2) := by decide +kernel
theorem dX5_readMark_67 : decode cX5_readMark 67 = .ok (.invokevirtual 90, 3) := by decide +kernel
theorem dX5_readMark_70 : decode cX5_readMark 70 = .ok (.ifCond .ne 7, 3) := by decide +kernel
theorem dX5_readMark_73 : decode cX5_readMark 73 = .ok (.iconst 1, 1) := by decide +kernel
theorem dX5_readMark_74 : decode cX5_readMark 74 = .ok (.goto 4, 3) := by decide +kernel
theorem dX5_readMark_77 : decode cX5_readMark 77 = .ok (.iconst 0, 1) := by decide +kernel
theorem dX5_readMark_78 : decode cX5_readMark 78 = .ok (.putfield 103, 3) := by decide +kernel
theorem dX5_readMark_81 : decode cX5_readMark 81 = .ok (.goto 40, 3) := by decide +kernel
theorem dX5_readMark_84 : decode cX5_readMark 84 = .ok (.aload_n 0, 1) := by decide +kernel
theorem dX5_readMark_85 : decode cX5_readMark 85 = .ok (.bipush 60, 2) := by decide +kernel
theorem dX5_readMark_87 : decode cX5_readMark 87 = .ok (.invokevirtual 90, 3) := by decide +kernel
theorem dX5_readMark_90 : decode cX5_readMark 90 = .ok (.ifCond .eq 31, 3) := by decide +kernel
theorem dX5_readMark_93 : decode cX5_readMark 93 = .ok (.aload_n 0, 1) := by decide +kernel
theorem dX5_readMark_94 : decode cX5_readMark 94 = .ok (.getfield 19, 3) := by decide +kernel
theorem dX5_readMark_97 : decode cX5_readMark 97 = .ok (.getfield 74, 3) := by decide +kernel
theorem dX5_readMark_100 : decode cX5_readMark 100 = .ok (.iload_n 1, 1) := by decide +kernel
theorem dX5_readMark_101 : decode cX5_readMark 101 = .ok (.iconst 2, 1) := by decide +kernel
theorem dX5_readMark_102 : decode cX5_readMark 102 = .ok (.iastore, 1) := by decide +kernel
theorem dX5_readMark_103 : decode cX5_readMark 103 = .ok (.aload_n 0, 1) := by decide +kernel
theorem dX5_readMark_104 : decode cX5_readMark 104 = .ok (.aload_n 0, 1) := by decide +kernel
theorem dX5_readMark_105 : decode cX5_readMark 105 = .ok (.bipush 62, 2) := by decide +kernel
theorem dX5_readMark_107 : decode cX5_readMark 107 = .ok (.invokevirtual 90, 3) := by decide +kernel
theorem dX5_readMark_110 : decode cX5_readMark 110 = .ok (.ifCond .ne 7, 3) := by decide +kernel
theorem dX5_readMark_113 : decode cX5_readMark 113 = .ok (.iconst 1, 1) := by decide +kernel
theorem dX5_readMark_114 : decode cX5_readMark 114 = .ok (.goto 4, 3) := by decide +kernel
theorem dX5_readMark_117 : decode cX5_readMark 117 = .ok (.iconst 0, 1) := by decide +kernel
theorem dX5_readMark_118 : decode cX5_readMark 118 = .ok (.putfield 103, 3) := by decide +kernel
theorem dX5_readMark_121 : decode cX5_readMark 121 = .ok (.return_, 1) := by decide +kernel
theorem dX5_nextDepth_0 : decode cX5_nextDepth 0 = .ok (.aload_n 0, 1) := by decide +kernel
theorem dX5_nextDepth_1 : decode cX5_nextDepth 1 = .ok (.getfield 103, 3) := by decide +kernel
theorem dX5_nextDepth_4 : decode cX5_nextDepth 4 = .ok (.ifCond .eq 7, 3) := by decide +kernel
theorem dX5_nextDepth_7 : decode cX5_nextDepth 7 = .ok (.iload_n 1, 1) := by decide +kernel
theorem dX5_nextDepth_8 : decode cX5_nextDepth 8 = .ok (.iconst 1, 1) := by decide +kernel
theorem dX5_nextDepth_9 : decode cX5_nextDepth 9 = .ok (.iadd, 1) := by decide +kernel
theorem dX5_nextDepth_10 : decode cX5_nextDepth 10 = .ok (.ireturn, 1) := by decide +kernel
theorem dX5_nextDepth_11 : decode cX5_nextDepth 11 = .ok (.iload_n 1, 1) := by decide +kernel
theorem dX5_nextDepth_12 : decode cX5_nextDepth 12 = .ok (.istore_n 2, 1) := by decide +kernel
theorem dX5_nextDepth_13 : decode cX5_nextDepth 13 = .ok (.iload_n 2, 1) := by decide +kernel
theorem dX5_nextDepth_14 : decode cX5_nextDepth 14 = .ok (.ifCond .le 49, 3) := by decide +kernel
theorem dX5_nextDepth_17 : decode cX5_nextDepth 17 = .ok (.aload_n 0, 1) := by decide +kernel
theorem dX5_nextDepth_18 : decode cX5_nextDepth 18 = .ok (.bipush 44, 2) := by decide +kernel
theorem dX5_nextDepth_20 : decode cX5_nextDepth 20 = .ok (.invokevirtual 90, 3) := by decide +kernel
theorem dX5_nextDepth_23 : decode cX5_nextDepth 23 = .ok (.ifCond .eq 5, 3) := by decide +kernel
theorem dX5_nextDepth_26 : decode cX5_nextDepth 26 = .ok (.iload_n 2, 1) := by decide +kernel
theorem dX5_nextDepth_27 : decode cX5_nextDepth 27 = .ok (.ireturn, 1) := by decide +kernel
theorem dX5_nextDepth_28 : decode cX5_nextDepth 28 = .ok (.aload_n 0, 1) := by decide +kernel
theorem dX5_nextDepth_29 : decode cX5_nextDepth 29 = .ok (.aload_n 0, 1) := by decide +kernel
theorem dX5_nextDepth_30 : decode cX5_nextDepth 30 = .ok (.getfield 19, 3) := by decide +kernel
theorem dX5_nextDepth_33 : decode cX5_nextDepth 33 = .ok (.getfield 74, 3) := by decide +kernel
theorem dX5_nextDepth_36 : decode cX5_nextDepth 36 = .ok (.aload_n 0, 1) := by decide +kernel
theorem dX5_nextDepth_37 : decode cX5_nextDepth 37 = .ok (.getfield 9, 3) := by decide +kernel
theorem dX5_nextDepth_40 : decode cX5_nextDepth 40 = .ok (.iload_n 2, 1) := by decide +kernel
theorem dX5_nextDepth_41 : decode cX5_nextDepth 41 = .ok (.iconst 1, 1) := by decide +kernel
theorem dX5_nextDepth_42 : decode cX5_nextDepth 42 = .ok (.isub, 1) := by decide +kernel
theorem dX5_nextDepth_43 : decode cX5_nextDepth 43 = .ok (.iaload, 1) := by decide +kernel
theorem dX5_nextDepth_44 : decode cX5_nextDepth 44 = .ok (.iaload, 1) := by decide +kernel
theorem dX5_nextDepth_45 : decode cX5_nextDepth 45 = .ok (.invokestatic 107, 3) := by decide +kernel
theorem dX5_nextDepth_48 : decode cX5_nextDepth 48 = .ok (.invokevirtual 90, 3) := by decide +kernel
theorem dX5_nextDepth_51 : decode cX5_nextDepth 51 = .ok (.ifCond .ne 6, 3) := by decide +kernel
theorem dX5_nextDepth_54 : decode cX5_nextDepth 54 = .ok (.bipush (-2), 2) := by decide +kernel
theorem dX5_nextDepth_56 : decode cX5_nextDepth 56 = .ok (.ireturn, 1) := by decide +kernel
theorem dX5_nextDepth_57 : decode cX5_nextDepth 57 = .ok (.iinc 2 (-1), 3) := by decide +kernel
theorem dX5_nextDepth_60 : decode cX5_nextDepth 60 = .ok (.goto (-47), 3) := by decide +kernel
theorem dX5_nextDepth_63 : decode cX5_nextDepth 63 = .ok (.iconst (-1), 1) := by decide +kernel
theorem dX5_nextDepth_64 : decode cX5_nextDepth 64 = .ok (.ireturn, 1) := by decide +kernel
theorem dX5_pass_0 : decode cX5_pass 0 = .ok (.aload_n 0, 1) := by decide +kernel
theorem dX5_pass_1 : decode cX5_pass 1 = .ok (.getfield 15, 3) := by decide +kernel
theorem dX5_pass_4 : decode cX5_pass 4 = .ok (.aload_n 0, 1) := by decide +kernel
theorem dX5_pass_5 : decode cX5_pass 5 = .ok (.getfield 23, 3) := by decide +kernel
theorem dX5_pass_8 : decode cX5_pass 8 = .ok (.invokevirtual 84, 3) := by decide +kernel
theorem dX5_pass_11 : decode cX5_pass 11 = .ok (.iload_n 1, 1) := by decide +kernel
theorem dX5_pass_12 : decode cX5_pass 12 = .ok (.if_icmp .eq 5, 3) := by decide +kernel
theorem dX5_pass_15 : decode cX5_pass 15 = .ok (.iconst 0, 1) := by decide +kernel
theorem dX5_pass_16 : decode cX5_pass 16 = .ok (.ireturn, 1) := by decide +kernel
theorem dX5_pass_17 : decode cX5_pass 17 = .ok (.aload_n 0, 1) := by decide +kernel
theorem dX5_pass_18 : decode cX5_pass 18 = .ok (.dup, 1) := by decide +kernel
theorem dX5_pass_19 : decode cX5_pass 19 = .ok (.getfield 23, 3) := by decide +kernel
theorem dX5_pass_22 : decode cX5_pass 22 = .ok (.iconst 1, 1) := by decide +kernel
theorem dX5_pass_23 : decode cX5_pass 23 = .ok (.iadd, 1) := by decide +kernel
theorem dX5_pass_24 : decode cX5_pass 24 = .ok (.putfield 23, 3) := by decide +kernel
theorem dX5_pass_27 : decode cX5_pass 27 = .ok (.iconst 1, 1) := by decide +kernel
theorem dX5_pass_28 : decode cX5_pass 28 = .ok (.ireturn, 1) := by decide +kernel
theorem dX6_init_0 : decode cX6_init 0 = .ok (.aload_n 0, 1) := by decide +kernel
theorem dX6_init_1 : decode cX6_init 1 = .ok (.invokespecial 3, 3) := by decide +kernel
theorem dX6_init_4 : decode cX6_init 4 = .ok (.aload_n 0, 1) := by decide +kernel
theorem dX6_init_5 : decode cX6_init 5 = .ok (.sipush 400, 3) := by decide +kernel
theorem dX6_init_8 : decode cX6_init 8 = .ok (.newarray .int, 2) := by decide +kernel
theorem dX6_init_10 : decode cX6_init 10 = .ok (.putfield 9, 3) := by decide +kernel
theorem dX6_init_13 : decode cX6_init 13 = .ok (.return_, 1) := by decide +kernel
theorem dX6_append_0 : decode cX6_append 0 = .ok (.aload_n 0, 1) := by decide +kernel
theorem dX6_append_1 : decode cX6_append 1 = .ok (.getfield 15, 3) := by decide +kernel
theorem dX6_append_4 : decode cX6_append 4 = .ok (.sipush 400, 3) := by decide +kernel
theorem dX6_append_7 : decode cX6_append 7 = .ok (.if_icmp .ge 23, 3) := by decide +kernel
theorem dX6_append_10 : decode cX6_append 10 = .ok (.aload_n 0, 1) := by decide +kernel
theorem dX6_append_11 : decode cX6_append 11 = .ok (.getfield 9, 3) := by decide +kernel
theorem dX6_append_14 : decode cX6_append 14 = .ok (.aload_n 0, 1) := by decide +kernel
theorem dX6_append_15 : decode cX6_append 15 = .ok (.getfield 15, 3) := by decide +kernel
theorem dX6_append_18 : decode cX6_append 18 = .ok (.iload_n 1, 1) := by decide +kernel
theorem dX6_append_19 : decode cX6_append 19 = .ok (.iastore, 1) := by decide +kernel
theorem dX6_append_20 : decode cX6_append 20 = .ok (.aload_n 0, 1) := by decide +kernel
theorem dX6_append_21 : decode cX6_append 21 = .ok (.dup, 1) := by decide +kernel
theorem dX6_append_22 : decode cX6_append 22 = .ok (.getfield 15, 3) := by decide +kernel
theorem dX6_append_25 : decode cX6_append 25 = .ok (.iconst 1, 1) := by decide +kernel
theorem dX6_append_26 : decode cX6_append 26 = .ok (.iadd, 1) := by decide +kernel
theorem dX6_append_27 : decode cX6_append 27 = .ok (.putfield 15, 3) := by decide +kernel
theorem dX6_append_30 : decode cX6_append 30 = .ok (.return_, 1) := by decide +kernel
theorem dX6_signOn_0 : decode cX6_signOn 0 = .ok (.iload_n 1, 1) := by decide +kernel
theorem dX6_signOn_1 : decode cX6_signOn 1 = .ok (.ifCond .lt 20, 3) := by decide +kernel
theorem dX6_signOn_4 : decode cX6_signOn 4 = .ok (.iload_n 1, 1) := by decide +kernel
theorem dX6_signOn_5 : decode cX6_signOn 5 = .ok (.aload_n 0, 1) := by decide +kernel
theorem dX6_signOn_6 : decode cX6_signOn 6 = .ok (.getfield 15, 3) := by decide +kernel
theorem dX6_signOn_9 : decode cX6_signOn 9 = .ok (.if_icmp .ge 12, 3) := by decide +kernel
theorem dX6_signOn_12 : decode cX6_signOn 12 = .ok (.aload_n 0, 1) := by decide +kernel
theorem dX6_signOn_13 : decode cX6_signOn 13 = .ok (.getfield 9, 3) := by decide +kernel
theorem dX6_signOn_16 : decode cX6_signOn 16 = .ok (.iload_n 1, 1) := by decide +kernel
theorem dX6_signOn_17 : decode cX6_signOn 17 = .ok (.iaload, 1) := by decide +kernel
theorem dX6_signOn_18 : decode cX6_signOn 18 = .ok (.goto 4, 3) := by decide +kernel
theorem dX6_signOn_21 : decode cX6_signOn 21 = .ok (.iconst (-1), 1) := by decide +kernel
theorem dX6_signOn_22 : decode cX6_signOn 22 = .ok (.ireturn, 1) := by decide +kernel
theorem dX6_lettersFrom_0 : decode cX6_lettersFrom 0 = .ok (.iconst 0, 1) := by decide +kernel
theorem dX6_lettersFrom_1 : decode cX6_lettersFrom 1 = .ok (.istore_n 2, 1) := by decide +kernel
theorem dX6_lettersFrom_2 : decode cX6_lettersFrom 2 = .ok (.iload_n 2, 1) := by decide +kernel
theorem dX6_lettersFrom_3 : decode cX6_lettersFrom 3 = .ok (.bipush 6, 2) := by decide +kernel
theorem dX6_lettersFrom_5 : decode cX6_lettersFrom 5 = .ok (.if_icmp .ge 22, 3) := by decide +kernel
theorem dX6_lettersFrom_8 : decode cX6_lettersFrom 8 = .ok (.aload_n 0, 1) := by decide +kernel
theorem dX6_lettersFrom_9 : decode cX6_lettersFrom 9 = .ok (.iload_n 1, 1) := by decide +kernel
theorem dX6_lettersFrom_10 : decode cX6_lettersFrom 10 = .ok (.iload_n 2, 1) := by decide +kernel
theorem dX6_lettersFrom_11 : decode cX6_lettersFrom 11 = .ok (.iadd, 1) := by decide +kernel
theorem dX6_lettersFrom_12 : decode cX6_lettersFrom 12 = .ok (.invokevirtual 19, 3) := by decide +kernel
theorem dX6_lettersFrom_15 : decode cX6_lettersFrom 15 = .ok (.invokestatic 23, 3) := by decide +kernel
theorem dX6_lettersFrom_18 : decode cX6_lettersFrom 18 = .ok (.ifCond .eq 9, 3) := by decide +kernel
theorem dX6_lettersFrom_21 : decode cX6_lettersFrom 21 = .ok (.iinc 2 1, 3) := by decide +kernel
theorem dX6_lettersFrom_24 : decode cX6_lettersFrom 24 = .ok (.goto (-22), 3) := by decide +kernel
theorem dX6_lettersFrom_27 : decode cX6_lettersFrom 27 = .ok (.iload_n 2, 1) := by decide +kernel
theorem dX6_lettersFrom_28 : decode cX6_lettersFrom 28 = .ok (.ireturn, 1) := by decide +kernel
theorem dX6_textSignsFrom_0 : decode cX6_textSignsFrom 0 = .ok (.iconst 0, 1) := by decide +kernel
theorem dX6_textSignsFrom_1 : decode cX6_textSignsFrom 1 = .ok (.istore_n 2, 1) := by decide +kernel
theorem dX6_textSignsFrom_2 : decode cX6_textSignsFrom 2 = .ok (.iload_n 2, 1) := by decide +kernel
theorem dX6_textSignsFrom_3 : decode cX6_textSignsFrom 3 = .ok (.bipush 8, 2) := by decide +kernel
theorem dX6_textSignsFrom_5 : decode cX6_textSignsFrom 5 = .ok (.if_icmp .ge 22, 3) := by decide +kernel
theorem dX6_textSignsFrom_8 : decode cX6_textSignsFrom 8 = .ok (.aload_n 0, 1) := by decide +kernel
theorem dX6_textSignsFrom_9 : decode cX6_textSignsFrom 9 = .ok (.iload_n 1, 1) := by decide +kernel
theorem dX6_textSignsFrom_10 : decode cX6_textSignsFrom 10 = .ok (.iload_n 2, 1) := by decide +kernel
theorem dX6_textSignsFrom_11 : decode cX6_textSignsFrom 11 = .ok (.iadd, 1) := by decide +kernel
theorem dX6_textSignsFrom_12 : decode cX6_textSignsFrom 12 = .ok (.invokevirtual 19, 3) := by decide +kernel
theorem dX6_textSignsFrom_15 : decode cX6_textSignsFrom 15 = .ok (.invokestatic 27, 3) := by decide +kernel
theorem dX6_textSignsFrom_18 : decode cX6_textSignsFrom 18 = .ok (.ifCond .eq 9, 3) := by decide +kernel
theorem dX6_textSignsFrom_21 : decode cX6_textSignsFrom 21 = .ok (.iinc 2 1, 3) := by decide +kernel
theorem dX6_textSignsFrom_24 : decode cX6_textSignsFrom 24 = .ok (.goto (-22), 3) := by decide +kernel
theorem dX6_textSignsFrom_27 : decode cX6_textSignsFrom 27 = .ok (.iload_n 2, 1) := by decide +kernel
theorem dX6_textSignsFrom_28 : decode cX6_textSignsFrom 28 = .ok (.ireturn, 1) := by decide +kernel
theorem dX6_word_0 : decode cX6_word 0 = .ok (.lconst 0, 1) := by decide +kernel
theorem dX6_word_1 : decode cX6_word 1 = .ok (.lstore_n 3, 1) := by decide +kernel
theorem dX6_word_2 : decode cX6_word 2 = .ok (.iconst 0, 1) := by decide +kernel
theorem dX6_word_3 : decode cX6_word 3 = .ok (.istore 5, 2) := by decide +kernel
theorem dX6_word_5 : decode cX6_word 5 = .ok (.iload 5, 2) := by decide +kernel
theorem dX6_word_7 : decode cX6_word 7 = .ok (.iload_n 2, 1) := by decide +kernel
theorem dX6_word_8 : decode cX6_word 8 = .ok (.if_icmp .ge 38, 3) := by decide +kernel
theorem dX6_word_11 : decode cX6_word 11 = .ok (.iload 5, 2) := by decide +kernel
theorem dX6_word_13 : decode cX6_word 13 = .ok (.bipush 8, 2) := by decide +kernel
theorem dX6_word_15 : decode cX6_word 15 = .ok (.if_icmp .ge 31, 3) := by decide +kernel
theorem dX6_word_18 : decode cX6_word 18 = .ok (.lload_n 3, 1) := by decide +kernel
theorem dX6_word_19 : decode cX6_word 19 = .ok (.aload_n 0, 1) := by decide +kernel
theorem dX6_word_20 : decode cX6_word 20 = .ok (.iload_n 1, 1) := by decide +kernel
theorem dX6_word_21 : decode cX6_word 21 = .ok (.iload 5, 2) := by decide +kernel
theorem dX6_word_23 : decode cX6_word 23 = .ok (.iadd, 1) := by decide +kernel
theorem dX6_word_24 : decode cX6_word 24 = .ok (.invokevirtual 19, 3) := by decide +kernel
theorem dX6_word_27 : decode cX6_word 27 = .ok (.i2l, 1) := by decide +kernel
theorem dX6_word_28 : decode cX6_word 28 = .ok (.ldc2_w 30, 3) := by decide +kernel
theorem dX6_word_31 : decode cX6_word 31 = .ok (.land, 1) := by decide +kernel
theorem dX6_word_32 : decode cX6_word 32 = .ok (.bipush 8, 2) := by decide +kernel
theorem dX6_word_34 : decode cX6_word 34 = .ok (.iload 5, 2) := by decide +kernel
theorem dX6_word_36 : decode cX6_word 36 = .ok (.imul, 1) := by decide +kernel
theorem dX6_word_37 : decode cX6_word 37 = .ok (.lshl, 1) := by decide +kernel
theorem dX6_word_38 : decode cX6_word 38 = .ok (.lor, 1) := by decide +kernel
theorem dX6_word_39 : decode cX6_word 39 = .ok (.lstore_n 3, 1) := by decide +kernel
theorem dX6_word_40 : decode cX6_word 40 = .ok (.iinc 5 1, 3) := by decide +kernel
theorem dX6_word_43 : decode cX6_word 43 = .ok (.goto (-38), 3) := by decide +kernel
theorem dX6_word_46 : decode cX6_word 46 = .ok (.lload_n 3, 1) := by decide +kernel
theorem dX6_word_47 : decode cX6_word 47 = .ok (.lreturn, 1) := by decide +kernel
theorem dX6_asLabel_0 : decode cX6_asLabel 0 = .ok (.aload_n 0, 1) := by decide +kernel
theorem dX6_asLabel_1 : decode cX6_asLabel 1 = .ok (.iconst 0, 1) := by decide +kernel
theorem dX6_asLabel_2 : decode cX6_asLabel 2 = .ok (.invokevirtual 32, 3) := by decide +kernel
theorem dX6_asLabel_5 : decode cX6_asLabel 5 = .ok (.istore_n 1, 1) := by decide +kernel
theorem dX6_asLabel_6 : decode cX6_asLabel 6 = .ok (.iload_n 1, 1) := by decide +kernel
theorem dX6_asLabel_7 : decode cX6_asLabel 7 = .ok (.ifCond .le 20, 3) := by decide +kernel
theorem dX6_asLabel_10 : decode cX6_asLabel 10 = .ok (.iload_n 1, 1) := by decide +kernel
theorem dX6_asLabel_11 : decode cX6_asLabel 11 = .ok (.aload_n 0, 1) := by decide +kernel
theorem dX6_asLabel_12 : decode cX6_asLabel 12 = .ok (.getfield 15, 3) := by decide +kernel
theorem dX6_asLabel_15 : decode cX6_asLabel 15 = .ok (.if_icmp .ne 12, 3) := by decide +kernel
theorem dX6_asLabel_18 : decode cX6_asLabel 18 = .ok (.aload_n 0, 1) := by decide +kernel
theorem dX6_asLabel_19 : decode cX6_asLabel 19 = .ok (.iconst 0, 1) := by decide +kernel
theorem dX6_asLabel_20 : decode cX6_asLabel 20 = .ok (.iload_n 1, 1) := by decide +kernel
theorem dX6_asLabel_21 : decode cX6_asLabel 21 = .ok (.invokevirtual 35, 3) := by decide +kernel
theorem dX6_asLabel_24 : decode cX6_asLabel 24 = .ok (.goto 6, 3) := by decide +kernel
theorem dX6_asLabel_27 : decode cX6_asLabel 27 = .ok (.ldc2_w 39, 3) := by decide +kernel
theorem dX6_asLabel_30 : decode cX6_asLabel 30 = .ok (.lreturn, 1) := by decide +kernel
theorem dX6_asText_0 : decode cX6_asText 0 = .ok (.aload_n 0, 1) := by decide +kernel
theorem dX6_asText_1 : decode cX6_asText 1 = .ok (.iconst 0, 1) := by decide +kernel
theorem dX6_asText_2 : decode cX6_asText 2 = .ok (.invokevirtual 41, 3) := by decide +kernel
theorem dX6_asText_5 : decode cX6_asText 5 = .ok (.istore_n 1, 1) := by decide +kernel
theorem dX6_asText_6 : decode cX6_asText 6 = .ok (.iload_n 1, 1) := by decide +kernel
theorem dX6_asText_7 : decode cX6_asText 7 = .ok (.aload_n 0, 1) := by decide +kernel
theorem dX6_asText_8 : decode cX6_asText 8 = .ok (.getfield 15, 3) := by decide +kernel
theorem dX6_asText_11 : decode cX6_asText 11 = .ok (.if_icmp .ne 12, 3) := by decide +kernel
theorem dX6_asText_14 : decode cX6_asText 14 = .ok (.aload_n 0, 1) := by decide +kernel
theorem dX6_asText_15 : decode cX6_asText 15 = .ok (.iconst 0, 1) := by decide +kernel
theorem dX6_asText_16 : decode cX6_asText 16 = .ok (.iload_n 1, 1) := by decide +kernel
theorem dX6_asText_17 : decode cX6_asText 17 = .ok (.invokevirtual 35, 3) := by decide +kernel
theorem dX6_asText_20 : decode cX6_asText 20 = .ok (.goto 6, 3) := by decide +kernel
theorem dX6_asText_23 : decode cX6_asText 23 = .ok (.ldc2_w 39, 3) := by decide +kernel
theorem dX6_asText_26 : decode cX6_asText 26 = .ok (.lreturn, 1) := by decide +kernel
theorem dX7_init_0 : decode cX7_init 0 = .ok (.aload_n 0, 1) := by decide +kernel
theorem dX7_init_1 : decode cX7_init 1 = .ok (.invokespecial 3, 3) := by decide +kernel
theorem dX7_init_4 : decode cX7_init 4 = .ok (.aload_n 0, 1) := by decide +kernel
theorem dX7_init_5 : decode cX7_init 5 = .ok (.bipush 30, 2) := by decide +kernel
theorem dX7_init_7 : decode cX7_init 7 = .ok (.newarray .int, 2) := by decide +kernel
theorem dX7_init_9 : decode cX7_init 9 = .ok (.putfield 9, 3) := by decide +kernel
theorem dX7_init_12 : decode cX7_init 12 = .ok (.aload_n 0, 1) := by decide +kernel
theorem dX7_init_13 : decode cX7_init 13 = .ok (.bipush 30, 2) := by decide +kernel
theorem dX7_init_15 : decode cX7_init 15 = .ok (.newarray .int, 2) := by decide +kernel
theorem dX7_init_17 : decode cX7_init 17 = .ok (.putfield 15, 3) := by decide +kernel
theorem dX7_init_20 : decode cX7_init 20 = .ok (.aload_n 0, 1) := by decide +kernel
theorem dX7_init_21 : decode cX7_init 21 = .ok (.bipush 30, 2) := by decide +kernel
theorem dX7_init_23 : decode cX7_init 23 = .ok (.newarray .int, 2) := by decide +kernel
theorem dX7_init_25 : decode cX7_init 25 = .ok (.putfield 18, 3) := by decide +kernel
theorem dX7_init_28 : decode cX7_init 28 = .ok (.aload_n 0, 1) := by decide +kernel
theorem dX7_init_29 : decode cX7_init 29 = .ok (.bipush 30, 2) := by decide +kernel
theorem dX7_init_31 : decode cX7_init 31 = .ok (.newarray .int, 2) := by decide +kernel
theorem dX7_init_33 : decode cX7_init 33 = .ok (.putfield 21, 3) := by decide +kernel
theorem dX7_init_36 : decode cX7_init 36 = .ok (.aload_n 0, 1) := by decide +kernel
theorem dX7_init_37 : decode cX7_init 37 = .ok (.bipush 30, 2) := by decide +kernel
theorem dX7_init_39 : decode cX7_init 39 = .ok (.newarray .long, 2) := by decide +kernel
theorem dX7_init_41 : decode cX7_init 41 = .ok (.putfield 24, 3) := by decide +kernel
theorem dX7_init_44 : decode cX7_init 44 = .ok (.aload_n 0, 1) := by decide +kernel
theorem dX7_init_45 : decode cX7_init 45 = .ok (.bipush 30, 2) := by decide +kernel
theorem dX7_init_47 : decode cX7_init 47 = .ok (.newarray .long, 2) := by decide +kernel
theorem dX7_init_49 : decode cX7_init 49 = .ok (.putfield 28, 3) := by decide +kernel
theorem dX7_init_52 : decode cX7_init 52 = .ok (.return_, 1) := by decide +kernel
theorem dX7_become_0 : decode cX7_become 0 = .ok (.aload_n 0, 1) := by decide +kernel
theorem dX7_become_1 : decode cX7_become 1 = .ok (.aload_n 1, 1) := by decide +kernel
theorem dX7_become_2 : decode cX7_become 2 = .ok (.iconst 0, 1) := by decide +kernel
theorem dX7_become_3 : decode cX7_become 3 = .ok (.iconst 0, 1) := by decide +kernel
theorem dX7_become_4 : decode cX7_become 4 = .ok (.aload_n 1, 1) := by decide +kernel
theorem dX7_become_5 : decode cX7_become 5 = .ok (.getfield 31, 3) := by decide +kernel
theorem dX7_become_8 : decode cX7_become 8 = .ok (.invokevirtual 35, 3) := by decide +kernel
theorem dX7_become_11 : decode cX7_become 11 = .ok (.aload_n 0, 1) := by decide +kernel
theorem dX7_become_12 : decode cX7_become 12 = .ok (.aload_n 1, 1) := by decide +kernel
theorem dX7_become_13 : decode cX7_become 13 = .ok (.getfield 31, 3) := by decide +kernel
theorem dX7_become_16 : decode cX7_become 16 = .ok (.putfield 31, 3) := by decide +kernel
theorem dX7_become_19 : decode cX7_become 19 = .ok (.aload_n 0, 1) := by decide +kernel
theorem dX7_become_20 : decode cX7_become 20 = .ok (.invokevirtual 39, 3) := by decide +kernel
theorem dX7_become_23 : decode cX7_become 23 = .ok (.return_, 1) := by decide +kernel
theorem dX7_copyRows_0 : decode cX7_copyRows 0 = .ok (.iload_n 2, 1) := by decide +kernel
theorem dX7_copyRows_1 : decode cX7_copyRows 1 = .ok (.ifCond .lt 31, 3) := by decide +kernel
theorem dX7_copyRows_4 : decode cX7_copyRows 4 = .ok (.iload_n 3, 1) := by decide +kernel
theorem dX7_copyRows_5 : decode cX7_copyRows 5 = .ok (.ifCond .lt 27, 3) := by decide +kernel
theorem dX7_copyRows_8 : decode cX7_copyRows 8 = .ok (.iload 4, 2) := by decide +kernel
theorem dX7_copyRows_10 : decode cX7_copyRows 10 = .ok (.iconst 1, 1) := by decide +kernel
theorem dX7_copyRows_11 : decode cX7_copyRows 11 = .ok (.if_icmp .lt 21, 3) := by decide +kernel
theorem dX7_copyRows_14 : decode cX7_copyRows 14 = .ok (.iload 4, 2) := by decide +kernel
theorem dX7_copyRows_16 : decode cX7_copyRows 16 = .ok (.bipush 30, 2) := by decide +kernel
theorem dX7_copyRows_18 : decode cX7_copyRows 18 = .ok (.iload_n 2, 1) := by decide +kernel
theorem dX7_copyRows_19 : decode cX7_copyRows 19 = .ok (.isub, 1) := by decide +kernel
theorem dX7_copyRows_20 : decode cX7_copyRows 20 = .ok (.if_icmp .gt 12, 3) := by decide +kernel
theorem dX7_copyRows_23 : decode cX7_copyRows 23 = .ok (.iload 4, 2) := by decide +kernel
theorem dX7_copyRows_25 : decode cX7_copyRows 25 = .ok (.bipush 30, 2) := by decide +kernel
theorem dX7_copyRows_27 : decode cX7_copyRows 27 = .ok (.iload_n 3, 1) := by decide +kernel
theorem dX7_copyRows_28 : decode cX7_copyRows 28 = .ok (.isub, 1) := by decide +kernel
theorem dX7_copyRows_29 : decode cX7_copyRows 29 = .ok (.if_icmp .le 4, 3) := by decide +kernel
theorem dX7_copyRows_32 : decode cX7_copyRows 32 = .ok (.return_, 1) := by decide +kernel
theorem dX7_copyRows_33 : decode cX7_copyRows 33 = .ok (.aload_n 1, 1) := by decide +kernel
theorem dX7_copyRows_34 : decode cX7_copyRows 34 = .ok (.getfield 9, 3) := by decide +kernel
theorem dX7_copyRows_37 : decode cX7_copyRows 37 = .ok (.iload_n 2, 1) := by decide +kernel
theorem dX7_copyRows_38 : decode cX7_copyRows 38 = .ok (.aload_n 0, 1) := by decide +kernel
theorem dX7_copyRows_39 : decode cX7_copyRows 39 = .ok (.getfield 9, 3) := by decide +kernel
theorem dX7_copyRows_42 : decode cX7_copyRows 42 = .ok (.iload_n 3, 1) := by decide +kernel
theorem dX7_copyRows_43 : decode cX7_copyRows 43 = .ok (.iload 4, 2) := by decide +kernel
theorem dX7_copyRows_45 : decode cX7_copyRows 45 = .ok (.invokestatic 42, 3) := by decide +kernel
theorem dX7_copyRows_48 : decode cX7_copyRows 48 = .ok (.aload_n 1, 1) := by decide +kernel
theorem dX7_copyRows_49 : decode cX7_copyRows 49 = .ok (.getfield 15, 3) := by decide +kernel
theorem dX7_copyRows_52 : decode cX7_copyRows 52 = .ok (.iload_n 2, 1) := by decide +kernel
theorem dX7_copyRows_53 : decode cX7_copyRows 53 = .ok (.aload_n 0, 1) := by decide +kernel
theorem dX7_copyRows_54 : decode cX7_copyRows 54 = .ok (.getfield 15, 3) := by decide +kernel
theorem dX7_copyRows_57 : decode cX7_copyRows 57 = .ok (.iload_n 3, 1) := by decide +kernel
theorem dX7_copyRows_58 : decode cX7_copyRows 58 = .ok (.iload 4, 2) := by decide +kernel
theorem dX7_copyRows_60 : decode cX7_copyRows 60 = .ok (.invokestatic 42, 3) := by decide +kernel
theorem dX7_copyRows_63 : decode cX7_copyRows 63 = .ok (.aload_n 1, 1) := by decide +kernel
theorem dX7_copyRows_64 : decode cX7_copyRows 64 = .ok (.getfield 18, 3) := by decide +kernel
theorem dX7_copyRows_67 : decode cX7_copyRows 67 = .ok (.iload_n 2, 1) := by decide +kernel
theorem dX7_copyRows_68 : decode cX7_copyRows 68 = .ok (.aload_n 0, 1) := by decide +kernel
theorem dX7_copyRows_69 : decode cX7_copyRows 69 = .ok (.getfield 18, 3) := by decide +kernel
theorem dX7_copyRows_72 : decode cX7_copyRows 72 = .ok (.iload_n 3, 1) := by decide +kernel
theorem dX7_copyRows_73 : decode cX7_copyRows 73 = .ok (.iload 4, 2) := by decide +kernel
theorem dX7_copyRows_75 : decode cX7_copyRows 75 = .ok (.invokestatic 42, 3) := by decide +kernel
theorem dX7_copyRows_78 : decode cX7_copyRows 78 = .ok (.aload_n 1, 1) := by decide +kernel
theorem dX7_copyRows_79 : decode cX7_copyRows 79 = .ok (.getfield 24, 3) := by decide +kernel
theorem dX7_copyRows_82 : decode cX7_copyRows 82 = .ok (.iload_n 2, 1) := by decide +kernel
theorem dX7_copyRows_83 : decode cX7_copyRows 83 = .ok (.aload_n 0, 1) := by decide +kernel
theorem dX7_copyRows_84 : decode cX7_copyRows 84 = .ok (.getfield 24, 3) := by decide +kernel
theorem dX7_copyRows_87 : decode cX7_copyRows 87 = .ok (.iload_n 3, 1) := by decide +kernel
theorem dX7_copyRows_88 : decode cX7_copyRows 88 = .ok (.iload 4, 2) := by decide +kernel
theorem dX7_copyRows_90 : decode cX7_copyRows 90 = .ok (.invokestatic 42, 3) := by decide +kernel
theorem dX7_copyRows_93 : decode cX7_copyRows 93 = .ok (.aload_n 1, 1) := by decide +kernel
theorem dX7_copyRows_94 : decode cX7_copyRows 94 = .ok (.getfield 28, 3) := by decide +kernel
theorem dX7_copyRows_97 : decode cX7_copyRows 97 = .ok (.iload_n 2, 1) := by decide +kernel
theorem dX7_copyRows_98 : decode cX7_copyRows 98 = .ok (.aload_n 0, 1) := by decide +kernel
theorem dX7_copyRows_99 : decode cX7_copyRows 99 = .ok (.getfield 28, 3) := by decide +kernel
theorem dX7_copyRows_102 : decode cX7_copyRows 102 = .ok (.iload_n 3, 1) := by decide +kernel
theorem dX7_copyRows_103 : decode cX7_copyRows 103 = .ok (.iload 4, 2) := by decide +kernel
theorem dX7_copyRows_105 : decode cX7_copyRows 105 = .ok (.invokestatic 42, 3) := by decide +kernel
theorem dX7_copyRows_108 : decode cX7_copyRows 108 = .ok (.return_, 1) := by decide +kernel
theorem dX7_measure_0 : decode cX7_measure 0 = .ok (.iconst 0, 1) := by decide +kernel
theorem dX7_measure_1 : decode cX7_measure 1 = .ok (.istore_n 1, 1) := by decide +kernel
theorem dX7_measure_2 : decode cX7_measure 2 = .ok (.iload_n 1, 1) := by decide +kernel
theorem dX7_measure_3 : decode cX7_measure 3 = .ok (.aload_n 0, 1) := by decide +kernel
theorem dX7_measure_4 : decode cX7_measure 4 = .ok (.getfield 31, 3) := by decide +kernel
theorem dX7_measure_7 : decode cX7_measure 7 = .ok (.if_icmp .ge 51, 3) := by decide +kernel
theorem dX7_measure_10 : decode cX7_measure 10 = .ok (.iload_n 1, 1) := by decide +kernel
theorem dX7_measure_11 : decode cX7_measure 11 = .ok (.iconst 1, 1) := by decide +kernel
theorem dX7_measure_12 : decode cX7_measure 12 = .ok (.iadd, 1) := by decide +kernel
theorem dX7_measure_13 : decode cX7_measure 13 = .ok (.istore_n 2, 1) := by decide +kernel
theorem dX7_measure_14 : decode cX7_measure 14 = .ok (.iload_n 2, 1) := by decide +kernel
theorem dX7_measure_15 : decode cX7_measure 15 = .ok (.aload_n 0, 1) := by decide +kernel
theorem dX7_measure_16 : decode cX7_measure 16 = .ok (.getfield 31, 3) := by decide +kernel
theorem dX7_measure_19 : decode cX7_measure 19 = .ok (.if_icmp .ge 24, 3) := by decide +kernel
theorem dX7_measure_22 : decode cX7_measure 22 = .ok (.aload_n 0, 1) := by decide +kernel
theorem dX7_measure_23 : decode cX7_measure 23 = .ok (.getfield 18, 3) := by decide +kernel
theorem dX7_measure_26 : decode cX7_measure 26 = .ok (.iload_n 2, 1) := by decide +kernel
theorem dX7_measure_27 : decode cX7_measure 27 = .ok (.iaload, 1) := by decide +kernel
theorem dX7_measure_28 : decode cX7_measure 28 = .ok (.aload_n 0, 1) := by decide +kernel
theorem dX7_measure_29 : decode cX7_measure 29 = .ok (.getfield 18, 3) := by decide +kernel
theorem dX7_measure_32 : decode cX7_measure 32 = .ok (.iload_n 1, 1) := by decide +kernel
theorem dX7_measure_33 : decode cX7_measure 33 = .ok (.iaload, 1) := by decide +kernel
theorem dX7_measure_34 : decode cX7_measure 34 = .ok (.if_icmp .le 9, 3) := by decide +kernel
theorem dX7_measure_37 : decode cX7_measure 37 = .ok (.iinc 2 1, 3) := by decide +kernel
theorem dX7_measure_40 : decode cX7_measure 40 = .ok (.goto (-26), 3) := by decide +kernel
theorem dX7_measure_43 : decode cX7_measure 43 = .ok (.aload_n 0, 1) := by decide +kernel
theorem dX7_measure_44 : decode cX7_measure 44 = .ok (.getfield 21, 3) := by decide +kernel
theorem dX7_measure_47 : decode cX7_measure 47 = .ok (.iload_n 1, 1) := by decide +kernel
theorem dX7_measure_48 : decode cX7_measure 48 = .ok (.iload_n 2, 1) := by decide +kernel
theorem dX7_measure_49 : decode cX7_measure 49 = .ok (.iload_n 1, 1) := by decide +kernel
theorem dX7_measure_50 : decode cX7_measure 50 = .ok (.isub, 1) := by decide +kernel
theorem dX7_measure_51 : decode cX7_measure 51 = .ok (.iastore, 1) := by decide +kernel
theorem dX7_measure_52 : decode cX7_measure 52 = .ok (.iinc 1 1, 3) := by decide +kernel
theorem dX7_measure_55 : decode cX7_measure 55 = .ok (.goto (-53), 3) := by decide +kernel
theorem dX7_measure_58 : decode cX7_measure 58 = .ok (.return_, 1) := by decide +kernel
theorem dX7_addRow_0 : decode cX7_addRow 0 = .ok (.aload_n 0, 1) := by decide +kernel
theorem dX7_addRow_1 : decode cX7_addRow 1 = .ok (.getfield 31, 3) := by decide +kernel
theorem dX7_addRow_4 : decode cX7_addRow 4 = .ok (.bipush 30, 2) := by decide +kernel
theorem dX7_addRow_6 : decode cX7_addRow 6 = .ok (.if_icmp .lt 5, 3) := by decide +kernel
theorem dX7_addRow_9 : decode cX7_addRow 9 = .ok (.iconst (-1), 1) := by decide +kernel
theorem dX7_addRow_10 : decode cX7_addRow 10 = .ok (.ireturn, 1) := by decide +kernel
theorem dX7_addRow_11 : decode cX7_addRow 11 = .ok (.aload_n 0, 1) := by decide +kernel
theorem dX7_addRow_12 : decode cX7_addRow 12 = .ok (.getfield 18, 3) := by decide +kernel
theorem dX7_addRow_15 : decode cX7_addRow 15 = .ok (.aload_n 0, 1) := by decide +kernel
theorem dX7_addRow_16 : decode cX7_addRow 16 = .ok (.getfield 31, 3) := by decide +kernel
theorem dX7_addRow_19 : decode cX7_addRow 19 = .ok (.iload_n 1, 1) := by decide +kernel
theorem dX7_addRow_20 : decode cX7_addRow 20 = .ok (.iastore, 1) := by decide +kernel
theorem dX7_addRow_21 : decode cX7_addRow 21 = .ok (.aload_n 0, 1) := by decide +kernel
theorem dX7_addRow_22 : decode cX7_addRow 22 = .ok (.dup, 1) := by decide +kernel
theorem dX7_addRow_23 : decode cX7_addRow 23 = .ok (.getfield 31, 3) := by decide +kernel
theorem dX7_addRow_26 : decode cX7_addRow 26 = .ok (.iconst 1, 1) := by decide +kernel
theorem dX7_addRow_27 : decode cX7_addRow 27 = .ok (.iadd, 1) := by decide +kernel
theorem dX7_addRow_28 : decode cX7_addRow 28 = .ok (.putfield 31, 3) := by decide +kernel
theorem dX7_addRow_31 : decode cX7_addRow 31 = .ok (.aload_n 0, 1) := by decide +kernel
theorem dX7_addRow_32 : decode cX7_addRow 32 = .ok (.getfield 31, 3) := by decide +kernel
theorem dX7_addRow_35 : decode cX7_addRow 35 = .ok (.iconst 1, 1) := by decide +kernel
theorem dX7_addRow_36 : decode cX7_addRow 36 = .ok (.isub, 1) := by decide +kernel
theorem dX7_addRow_37 : decode cX7_addRow 37 = .ok (.ireturn, 1) := by decide +kernel
theorem dX7_setRow_0 : decode cX7_setRow 0 = .ok (.aload_n 0, 1) := by decide +kernel
theorem dX7_setRow_1 : decode cX7_setRow 1 = .ok (.getfield 9, 3) := by decide +kernel
theorem dX7_setRow_4 : decode cX7_setRow 4 = .ok (.iload_n 1, 1) := by decide +kernel
theorem dX7_setRow_5 : decode cX7_setRow 5 = .ok (.iload_n 2, 1) := by decide +kernel
theorem dX7_setRow_6 : decode cX7_setRow 6 = .ok (.iastore, 1) := by decide +kernel
theorem dX7_setRow_7 : decode cX7_setRow 7 = .ok (.aload_n 0, 1) := by decide +kernel
theorem dX7_setRow_8 : decode cX7_setRow 8 = .ok (.getfield 15, 3) := by decide +kernel
theorem dX7_setRow_11 : decode cX7_setRow 11 = .ok (.iload_n 1, 1) := by decide +kernel
theorem dX7_setRow_12 : decode cX7_setRow 12 = .ok (.iload_n 3, 1) := by decide +kernel
theorem dX7_setRow_13 : decode cX7_setRow 13 = .ok (.iastore, 1) := by decide +kernel
theorem dX7_setRow_14 : decode cX7_setRow 14 = .ok (.aload_n 0, 1) := by decide +kernel
theorem dX7_setRow_15 : decode cX7_setRow 15 = .ok (.getfield 24, 3) := by decide +kernel
theorem dX7_setRow_18 : decode cX7_setRow 18 = .ok (.iload_n 1, 1) := by decide +kernel
theorem dX7_setRow_19 : decode cX7_setRow 19 = .ok (.lload 4, 2) := by decide +kernel
theorem dX7_setRow_21 : decode cX7_setRow 21 = .ok (.lastore, 1) := by decide +kernel
theorem dX7_setRow_22 : decode cX7_setRow 22 = .ok (.aload_n 0, 1) := by decide +kernel
theorem dX7_setRow_23 : decode cX7_setRow 23 = .ok (.getfield 28, 3) := by decide +kernel
theorem dX7_setRow_26 : decode cX7_setRow 26 = .ok (.iload_n 1, 1) := by decide +kernel
theorem dX7_setRow_27 : decode cX7_setRow 27 = .ok (.lconst 0, 1) := by decide +kernel
theorem dX7_setRow_28 : decode cX7_setRow 28 = .ok (.lastore, 1) := by decide +kernel
theorem dX7_setRow_29 : decode cX7_setRow 29 = .ok (.return_, 1) := by decide +kernel
theorem dX7_rowOf_0 : decode cX7_rowOf 0 = .ok (.iconst 0, 1) := by decide +kernel
theorem dX7_rowOf_1 : decode cX7_rowOf 1 = .ok (.istore_n 2, 1) := by decide +kernel
theorem dX7_rowOf_2 : decode cX7_rowOf 2 = .ok (.iload_n 2, 1) := by decide +kernel
theorem dX7_rowOf_3 : decode cX7_rowOf 3 = .ok (.aload_n 0, 1) := by decide +kernel
theorem dX7_rowOf_4 : decode cX7_rowOf 4 = .ok (.getfield 31, 3) := by decide +kernel
theorem dX7_rowOf_7 : decode cX7_rowOf 7 = .ok (.if_icmp .ge 21, 3) := by decide +kernel
theorem dX7_rowOf_10 : decode cX7_rowOf 10 = .ok (.aload_n 0, 1) := by decide +kernel
theorem dX7_rowOf_11 : decode cX7_rowOf 11 = .ok (.getfield 9, 3) := by decide +kernel
theorem dX7_rowOf_14 : decode cX7_rowOf 14 = .ok (.iload_n 2, 1) := by decide +kernel
theorem dX7_rowOf_15 : decode cX7_rowOf 15 = .ok (.iaload, 1) := by decide +kernel
theorem dX7_rowOf_16 : decode cX7_rowOf 16 = .ok (.iload_n 1, 1) := by decide +kernel
theorem dX7_rowOf_17 : decode cX7_rowOf 17 = .ok (.if_icmp .ne 5, 3) := by decide +kernel
theorem dX7_rowOf_20 : decode cX7_rowOf 20 = .ok (.iload_n 2, 1) := by decide +kernel
theorem dX7_rowOf_21 : decode cX7_rowOf 21 = .ok (.ireturn, 1) := by decide +kernel
theorem dX7_rowOf_22 : decode cX7_rowOf 22 = .ok (.iinc 2 1, 3) := by decide +kernel
theorem dX7_rowOf_25 : decode cX7_rowOf 25 = .ok (.goto (-23), 3) := by decide +kernel
theorem dX7_rowOf_28 : decode cX7_rowOf 28 = .ok (.iconst (-1), 1) := by decide +kernel
theorem dX7_rowOf_29 : decode cX7_rowOf 29 = .ok (.ireturn, 1) := by decide +kernel
theorem dX7_endOf_0 : decode cX7_endOf 0 = .ok (.iload_n 1, 1) := by decide +kernel
theorem dX7_endOf_1 : decode cX7_endOf 1 = .ok (.aload_n 0, 1) := by decide +kernel
theorem dX7_endOf_2 : decode cX7_endOf 2 = .ok (.getfield 21, 3) := by decide +kernel
theorem dX7_endOf_5 : decode cX7_endOf 5 = .ok (.iload_n 1, 1) := by decide +kernel
theorem dX7_endOf_6 : decode cX7_endOf 6 = .ok (.iaload, 1) := by decide +kernel
theorem dX7_endOf_7 : decode cX7_endOf 7 = .ok (.iadd, 1) := by decide +kernel
theorem dX7_endOf_8 : decode cX7_endOf 8 = .ok (.ireturn, 1) := by decide +kernel
theorem dX7_isChild_0 : decode cX7_isChild 0 = .ok (.aload_n 0, 1) := by decide +kernel
theorem dX7_isChild_1 : decode cX7_isChild 1 = .ok (.getfield 18, 3) := by decide +kernel
theorem dX7_isChild_4 : decode cX7_isChild 4 = .ok (.iload_n 1, 1) := by decide +kernel
theorem dX7_isChild_5 : decode cX7_isChild 5 = .ok (.iaload, 1) := by decide +kernel
theorem dX7_isChild_6 : decode cX7_isChild 6 = .ok (.aload_n 0, 1) := by decide +kernel
theorem dX7_isChild_7 : decode cX7_isChild 7 = .ok (.getfield 18, 3) := by decide +kernel
theorem dX7_isChild_10 : decode cX7_isChild 10 = .ok (.iload_n 2, 1) := by decide +kernel
theorem dX7_isChild_11 : decode cX7_isChild 11 = .ok (.iaload, 1) := by decide +kernel
theorem dX7_isChild_12 : decode cX7_isChild 12 = .ok (.iconst 1, 1) := by decide +kernel
theorem dX7_isChild_13 : decode cX7_isChild 13 = .ok (.iadd, 1) := by decide +kernel
theorem dX7_isChild_14 : decode cX7_isChild 14 = .ok (.if_icmp .ne 7, 3) := by decide +kernel
theorem dX7_isChild_17 : decode cX7_isChild 17 = .ok (.iconst 1, 1) := by decide +kernel
theorem dX7_isChild_18 : decode cX7_isChild 18 = .ok (.goto 4, 3) := by decide +kernel
theorem dX7_isChild_21 : decode cX7_isChild 21 = .ok (.iconst 0, 1) := by decide +kernel
theorem dX7_isChild_22 : decode cX7_isChild 22 = .ok (.ireturn, 1) := by decide +kernel
theorem dX7_childrenOf_0 : decode cX7_childrenOf 0 = .ok (.iconst 0, 1) := by decide +kernel
theorem dX7_childrenOf_1 : decode cX7_childrenOf 1 = .ok (.istore_n 2, 1) := by decide +kernel
theorem dX7_childrenOf_2 : decode cX7_childrenOf 2 = .ok (.iload_n 1, 1) := by decide +kernel
theorem dX7_childrenOf_3 : decode cX7_childrenOf 3 = .ok (.iconst 1, 1) := by decide +kernel
theorem dX7_childrenOf_4 : decode cX7_childrenOf 4 = .ok (.iadd, 1) := by decide +kernel
theorem dX7_childrenOf_5 : decode cX7_childrenOf 5 = .ok (.istore_n 3, 1) := by decide +kernel
theorem dX7_childrenOf_6 : decode cX7_childrenOf 6 = .ok (.iload_n 3, 1) := by decide +kernel
theorem dX7_childrenOf_7 : decode cX7_childrenOf 7 = .ok (.aload_n 0, 1) := by decide +kernel
theorem dX7_childrenOf_8 : decode cX7_childrenOf 8 = .ok (.iload_n 1, 1) := by decide +kernel
theorem dX7_childrenOf_9 : decode cX7_childrenOf 9 = .ok (.invokevirtual 48, 3) := by decide +kernel
theorem dX7_childrenOf_12 : decode cX7_childrenOf 12 = .ok (.if_icmp .ge 21, 3) := by decide +kernel
theorem dX7_childrenOf_15 : decode cX7_childrenOf 15 = .ok (.aload_n 0, 1) := by decide +kernel
theorem dX7_childrenOf_16 : decode cX7_childrenOf 16 = .ok (.iload_n 3, 1) := by decide +kernel
theorem dX7_childrenOf_17 : decode cX7_childrenOf 17 = .ok (.iload_n 1, 1) := by decide +kernel
theorem dX7_childrenOf_18 : decode cX7_childrenOf 18 = .ok (.invokevirtual 52, 3) := by decide +kernel
theorem dX7_childrenOf_21 : decode cX7_childrenOf 21 = .ok (.ifCond .eq 6, 3) := by decide +kernel
theorem dX7_childrenOf_24 : decode cX7_childrenOf 24 = .ok (.iinc 2 1, 3) := by decide +kernel
theorem dX7_childrenOf_27 : decode cX7_childrenOf 27 = .ok (.iinc 3 1, 3) := by decide +kernel
theorem dX7_childrenOf_30 : decode cX7_childrenOf 30 = .ok (.goto (-24), 3) := by decide +kernel
theorem dX7_childrenOf_33 : decode cX7_childrenOf 33 = .ok (.iload_n 2, 1) := by decide +kernel
theorem dX7_childrenOf_34 : decode cX7_childrenOf 34 = .ok (.ireturn, 1) := by decide +kernel
theorem dX7_childAfter_0 : decode cX7_childAfter 0 = .ok (.iload_n 2, 1) := by decide +kernel
theorem dX7_childAfter_1 : decode cX7_childAfter 1 = .ok (.iconst 1, 1) := by decide +kernel
theorem dX7_childAfter_2 : decode cX7_childAfter 2 = .ok (.iadd, 1) := by decide +kernel
theorem dX7_childAfter_3 : decode cX7_childAfter 3 = .ok (.istore_n 3, 1) := by decide +kernel
theorem dX7_childAfter_4 : decode cX7_childAfter 4 = .ok (.iload_n 3, 1) := by decide +kernel
theorem dX7_childAfter_5 : decode cX7_childAfter 5 = .ok (.aload_n 0, 1) := by decide +kernel
theorem dX7_childAfter_6 : decode cX7_childAfter 6 = .ok (.iload_n 1, 1) := by decide +kernel
theorem dX7_childAfter_7 : decode cX7_childAfter 7 = .ok (.invokevirtual 48, 3) := by decide +kernel
theorem dX7_childAfter_10 : decode cX7_childAfter 10 = .ok (.if_icmp .ge 20, 3) := by decide +kernel
theorem dX7_childAfter_13 : decode cX7_childAfter 13 = .ok (.aload_n 0, 1) := by decide +kernel
theorem dX7_childAfter_14 : decode cX7_childAfter 14 = .ok (.iload_n 3, 1) := by decide +kernel
theorem dX7_childAfter_15 : decode cX7_childAfter 15 = .ok (.iload_n 1, 1) := by decide +kernel
theorem dX7_childAfter_16 : decode cX7_childAfter 16 = .ok (.invokevirtual 52, 3) := by decide +kernel
theorem dX7_childAfter_19 : decode cX7_childAfter 19 = .ok (.ifCond .eq 5, 3) := by decide +kernel
theorem dX7_childAfter_22 : decode cX7_childAfter 22 = .ok (.iload_n 3, 1) := by decide +kernel
theorem dX7_childAfter_23 : decode cX7_childAfter 23 = .ok (.ireturn, 1) := by decide +kernel
theorem dX7_childAfter_24 : decode cX7_childAfter 24 = .ok (.iinc 3 1, 3) := by decide +kernel
theorem dX7_childAfter_27 : decode cX7_childAfter 27 = .ok (.goto (-23), 3) := by decide +kernel
theorem dX7_childAfter_30 : decode cX7_childAfter 30 = .ok (.aload_n 0, 1) := by decide +kernel
theorem dX7_childAfter_31 : decode cX7_childAfter 31 = .ok (.iload_n 1, 1) := by decide +kernel
theorem dX7_childAfter_32 : decode cX7_childAfter 32 = .ok (.invokevirtual 48, 3) := by decide +kernel
theorem dX7_childAfter_35 : decode cX7_childAfter 35 = .ok (.ireturn, 1) := by decide +kernel
theorem dX7_childAt_0 : decode cX7_childAt 0 = .ok (.aload_n 0, 1) := by decide +kernel
theorem dX7_childAt_1 : decode cX7_childAt 1 = .ok (.iload_n 1, 1) := by decide +kernel
theorem dX7_childAt_2 : decode cX7_childAt 2 = .ok (.iload_n 1, 1) := by decide +kernel
theorem dX7_childAt_3 : decode cX7_childAt 3 = .ok (.invokevirtual 56, 3) := by decide +kernel
theorem dX7_childAt_6 : decode cX7_childAt 6 = .ok (.istore_n 3, 1) := by decide +kernel
theorem dX7_childAt_7 : decode cX7_childAt 7 = .ok (.iconst 0, 1) := by decide +kernel
theorem dX7_childAt_8 : decode cX7_childAt 8 = .ok (.istore 4, 2) := by decide +kernel
theorem dX7_childAt_10 : decode cX7_childAt 10 = .ok (.iload 4, 2) := by decide +kernel
theorem dX7_childAt_12 : decode cX7_childAt 12 = .ok (.iload_n 2, 1) := by decide +kernel
theorem dX7_childAt_13 : decode cX7_childAt 13 = .ok (.if_icmp .ge 25, 3) := by decide +kernel
theorem dX7_childAt_16 : decode cX7_childAt 16 = .ok (.iload_n 3, 1) := by decide +kernel
theorem dX7_childAt_17 : decode cX7_childAt 17 = .ok (.aload_n 0, 1) := by decide +kernel
theorem dX7_childAt_18 : decode cX7_childAt 18 = .ok (.iload_n 1, 1) := by decide +kernel
theorem dX7_childAt_19 : decode cX7_childAt 19 = .ok (.invokevirtual 48, 3) := by decide +kernel
theorem dX7_childAt_22 : decode cX7_childAt 22 = .ok (.if_icmp .ge 16, 3) := by decide +kernel
theorem dX7_childAt_25 : decode cX7_childAt 25 = .ok (.aload_n 0, 1) := by decide +kernel
theorem dX7_childAt_26 : decode cX7_childAt 26 = .ok (.iload_n 1, 1) := by decide +kernel
theorem dX7_childAt_27 : decode cX7_childAt 27 = .ok (.iload_n 3, 1) := by decide +kernel
theorem dX7_childAt_28 : decode cX7_childAt 28 = .ok (.invokevirtual 56, 3) := by decide +kernel
theorem dX7_childAt_31 : decode cX7_childAt 31 = .ok (.istore_n 3, 1) := by decide +kernel
theorem dX7_childAt_32 : decode cX7_childAt 32 = .ok (.iinc 4 1, 3) := by decide +kernel
theorem dX7_childAt_35 : decode cX7_childAt 35 = .ok (.goto (-25), 3) := by decide +kernel
theorem dX7_childAt_38 : decode cX7_childAt 38 = .ok (.iload_n 3, 1) := by decide +kernel
theorem dX7_childAt_39 : decode cX7_childAt 39 = .ok (.ireturn, 1) := by decide +kernel
theorem dX7_parentOf_0 : decode cX7_parentOf 0 = .ok (.iload_n 1, 1) := by decide +kernel
theorem dX7_parentOf_1 : decode cX7_parentOf 1 = .ok (.iconst 1, 1) := by decide +kernel
theorem dX7_parentOf_2 : decode cX7_parentOf 2 = .ok (.isub, 1) := by decide +kernel
theorem dX7_parentOf_3 : decode cX7_parentOf 3 = .ok (.istore_n 2, 1) := by decide +kernel
theorem dX7_parentOf_4 : decode cX7_parentOf 4 = .ok (.iload_n 2, 1) := by decide +kernel
theorem dX7_parentOf_5 : decode cX7_parentOf 5 = .ok (.ifCond .lt 26, 3) := by decide +kernel
theorem dX7_parentOf_8 : decode cX7_parentOf 8 = .ok (.aload_n 0, 1) := by decide +kernel
theorem dX7_parentOf_9 : decode cX7_parentOf 9 = .ok (.getfield 18, 3) := by decide +kernel
theorem dX7_parentOf_12 : decode cX7_parentOf 12 = .ok (.iload_n 2, 1) := by decide +kernel
theorem dX7_parentOf_13 : decode cX7_parentOf 13 = .ok (.iaload, 1) := by decide +kernel
theorem dX7_parentOf_14 : decode cX7_parentOf 14 = .ok (.aload_n 0, 1) := by decide +kernel
theorem dX7_parentOf_15 : decode cX7_parentOf 15 = .ok (.getfield 18, 3) := by decide +kernel
theorem dX7_parentOf_18 : decode cX7_parentOf 18 = .ok (.iload_n 1, 1) := by decide +kernel
theorem dX7_parentOf_19 : decode cX7_parentOf 19 = .ok (.iaload, 1) := by decide +kernel
theorem dX7_parentOf_20 : decode cX7_parentOf 20 = .ok (.if_icmp .ge 5, 3) := by decide +kernel
theorem dX7_parentOf_23 : decode cX7_parentOf 23 = .ok (.iload_n 2, 1) := by decide +kernel
theorem dX7_parentOf_24 : decode cX7_parentOf 24 = .ok (.ireturn, 1) := by decide +kernel
theorem dX7_parentOf_25 : decode cX7_parentOf 25 = .ok (.iinc 2 (-1), 3) := by decide +kernel
theorem dX7_parentOf_28 : decode cX7_parentOf 28 = .ok (.goto (-24), 3) := by decide +kernel
theorem dX7_parentOf_31 : decode cX7_parentOf 31 = .ok (.iconst (-1), 1) := by decide +kernel
theorem dX7_parentOf_32 : decode cX7_parentOf 32 = .ok (.ireturn, 1) := by decide +kernel
theorem dX7_behind_0 : decode cX7_behind 0 = .ok (.iload_n 1, 1) := by decide +kernel
theorem dX7_behind_1 : decode cX7_behind 1 = .ok (.aload_n 0, 1) := by decide +kernel
theorem dX7_behind_2 : decode cX7_behind 2 = .ok (.getfield 18, 3) := by decide +kernel
theorem dX7_behind_5 : decode cX7_behind 5 = .ok (.iload_n 1, 1) := by decide +kernel
theorem dX7_behind_6 : decode cX7_behind 6 = .ok (.iaload, 1) := by decide +kernel
theorem dX7_behind_7 : decode cX7_behind 7 = .ok (.isub, 1) := by decide +kernel
theorem dX7_behind_8 : decode cX7_behind 8 = .ok (.aload_n 0, 1) := by decide +kernel
theorem dX7_behind_9 : decode cX7_behind 9 = .ok (.getfield 21, 3) := by decide +kernel
theorem dX7_behind_12 : decode cX7_behind 12 = .ok (.iload_n 1, 1) := by decide +kernel
theorem dX7_behind_13 : decode cX7_behind 13 = .ok (.iaload, 1) := by decide +kernel
theorem dX7_behind_14 : decode cX7_behind 14 = .ok (.iadd, 1) := by decide +kernel
theorem dX7_behind_15 : decode cX7_behind 15 = .ok (.iconst 1, 1) := by decide +kernel
theorem dX7_behind_16 : decode cX7_behind 16 = .ok (.isub, 1) := by decide +kernel
theorem dX7_behind_17 : decode cX7_behind 17 = .ok (.ireturn, 1) := by decide +kernel
theorem dX7_isTooDeep_0 : decode cX7_isTooDeep 0 = .ok (.iconst 0, 1) := by decide +kernel
theorem dX7_isTooDeep_1 : decode cX7_isTooDeep 1 = .ok (.istore_n 1, 1) := by decide +kernel
theorem dX7_isTooDeep_2 : decode cX7_isTooDeep 2 = .ok (.iload_n 1, 1) := by decide +kernel
theorem dX7_isTooDeep_3 : decode cX7_isTooDeep 3 = .ok (.aload_n 0, 1) := by decide +kernel
theorem dX7_isTooDeep_4 : decode cX7_isTooDeep 4 = .ok (.getfield 31, 3) := by decide +kernel
theorem dX7_isTooDeep_7 : decode cX7_isTooDeep 7 = .ok (.if_icmp .ge 22, 3) := by decide +kernel
theorem dX7_isTooDeep_10 : decode cX7_isTooDeep 10 = .ok (.aload_n 0, 1) := by decide +kernel
theorem dX7_isTooDeep_11 : decode cX7_isTooDeep 11 = .ok (.getfield 18, 3) := by decide +kernel
theorem dX7_isTooDeep_14 : decode cX7_isTooDeep 14 = .ok (.iload_n 1, 1) := by decide +kernel
theorem dX7_isTooDeep_15 : decode cX7_isTooDeep 15 = .ok (.iaload, 1) := by decide +kernel
theorem dX7_isTooDeep_16 : decode cX7_isTooDeep 16 = .ok (.bipush 11, 2) := by decide +kernel
theorem dX7_isTooDeep_18 : decode cX7_isTooDeep 18 = .ok (.if_icmp .le 5, 3) := by decide +kernel
theorem dX7_isTooDeep_21 : decode cX7_isTooDeep 21 = .ok (.iconst 1, 1) := by decide +kernel
theorem dX7_isTooDeep_22 : decode cX7_isTooDeep 22 = .ok (.ireturn, 1) := by decide +kernel
theorem dX7_isTooDeep_23 : decode cX7_isTooDeep 23 = .ok (.iinc 1 1, 3) := by decide +kernel
theorem dX7_isTooDeep_26 : decode cX7_isTooDeep 26 = .ok (.goto (-24), 3) := by decide +kernel
theorem dX7_isTooDeep_29 : decode cX7_isTooDeep 29 = .ok (.iconst 0, 1) := by decide +kernel
theorem dX7_isTooDeep_30 : decode cX7_isTooDeep 30 = .ok (.ireturn, 1) := by decide +kernel
theorem dX7_hasTwins_0 : decode cX7_hasTwins 0 = .ok (.iconst 0, 1) := by decide +kernel
theorem dX7_hasTwins_1 : decode cX7_hasTwins 1 = .ok (.istore_n 1, 1) := by decide +kernel
theorem dX7_hasTwins_2 : decode cX7_hasTwins 2 = .ok (.iload_n 1, 1) := by decide +kernel
theorem dX7_hasTwins_3 : decode cX7_hasTwins 3 = .ok (.aload_n 0, 1) := by decide +kernel
theorem dX7_hasTwins_4 : decode cX7_hasTwins 4 = .ok (.getfield 31, 3) := by decide +kernel
theorem dX7_hasTwins_7 : decode cX7_hasTwins 7 = .ok (.if_icmp .ge 29, 3) := by decide +kernel
theorem dX7_hasTwins_10 : decode cX7_hasTwins 10 = .ok (.aload_n 0, 1) := by decide +kernel
theorem dX7_hasTwins_11 : decode cX7_hasTwins 11 = .ok (.getfield 15, 3) := by decide +kernel
theorem dX7_hasTwins_14 : decode cX7_hasTwins 14 = .ok (.iload_n 1, 1) := by decide +kernel
theorem dX7_hasTwins_15 : decode cX7_hasTwins 15 = .ok (.iaload, 1) := by decide +kernel
theorem dX7_hasTwins_16 : decode cX7_hasTwins 16 = .ok (.iconst 2, 1) := by decide +kernel
theorem dX7_hasTwins_17 : decode cX7_hasTwins 17 = .ok (.if_icmp .ne 13, 3) := by decide +kernel
theorem dX7_hasTwins_20 : decode cX7_hasTwins 20 = .ok (.aload_n 0, 1) := by decide +kernel
theorem dX7_hasTwins_21 : decode cX7_hasTwins 21 = .ok (.iload_n 1, 1) := by decide +kernel
theorem dX7_hasTwins_22 : decode cX7_hasTwins 22 = .ok (.invokevirtual 60, 3) := by decide +kernel
theorem dX7_hasTwins_25 : decode cX7_hasTwins 25 = .ok (.ifCond .eq 5, 3) := by decide +kernel
theorem dX7_hasTwins_28 : decode cX7_hasTwins 28 = .ok (.iconst 1, 1) := by decide +kernel
theorem dX7_hasTwins_29 : decode cX7_hasTwins 29 = .ok (.ireturn, 1) := by decide +kernel
theorem dX7_hasTwins_30 : decode cX7_hasTwins 30 = .ok (.iinc 1 1, 3) := by decide +kernel
theorem dX7_hasTwins_33 : decode cX7_hasTwins 33 = .ok (.goto (-31), 3) := by decide +kernel
theorem dX7_hasTwins_36 : decode cX7_hasTwins 36 = .ok (.iconst 0, 1) := by decide +kernel
theorem dX7_hasTwins_37 : decode cX7_hasTwins 37 = .ok (.ireturn, 1) := by decide +kernel
theorem dX7_hasTwinsUnder_0 : decode cX7_hasTwinsUnder 0 = .ok (.iload_n 1, 1) := by decide +kernel
theorem dX7_hasTwinsUnder_1 : decode cX7_hasTwinsUnder 1 = .ok (.iconst 1, 1) := by decide +kernel
theorem dX7_hasTwinsUnder_2 : decode cX7_hasTwinsUnder 2 = .ok (.iadd, 1) := by decide +kernel
theorem dX7_hasTwinsUnder_3 : decode cX7_hasTwinsUnder 3 = .ok (.istore_n 2, 1) := by decide +kernel
theorem dX7_hasTwinsUnder_4 : decode cX7_hasTwinsUnder 4 = .ok (.iload_n 2, 1) := by decide +kernel
theorem dX7_hasTwinsUnder_5 : decode cX7_hasTwinsUnder 5 = .ok (.aload_n 0, 1) := by decide +kernel
theorem dX7_hasTwinsUnder_6 : decode cX7_hasTwinsUnder 6 = .ok (.iload_n 1, 1) := by decide +kernel
theorem dX7_hasTwinsUnder_7 : decode cX7_hasTwinsUnder 7 = .ok (.invokevirtual 48, 3) := by decide +kernel
theorem dX7_hasTwinsUnder_10 : decode cX7_hasTwinsUnder 10 = .ok (.if_icmp .ge 42, 3) := by decide +kernel
theorem dX7_hasTwinsUnder_13 : decode cX7_hasTwinsUnder 13 = .ok (.aload_n 0, 1) := by decide +kernel
theorem dX7_hasTwinsUnder_14 : decode cX7_hasTwinsUnder 14 = .ok (.iload_n 2, 1) := by decide +kernel
theorem dX7_hasTwinsUnder_15 : decode cX7_hasTwinsUnder 15 = .ok (.iload_n 1, 1) := by decide +kernel
theorem dX7_hasTwinsUnder_16 : decode cX7_hasTwinsUnder 16 = .ok (.invokevirtual 52, 3) := by decide +kernel
theorem dX7_hasTwinsUnder_19 : decode cX7_hasTwinsUnder 19 = .ok (.ifCond .eq 27, 3) := by decide +kernel
theorem dX7_hasTwinsUnder_22 : decode cX7_hasTwinsUnder 22 = .ok (.aload_n 0, 1) := by decide +kernel
theorem dX7_hasTwinsUnder_23 : decode cX7_hasTwinsUnder 23 = .ok (.iload_n 1, 1) := by decide +kernel
theorem dX7_hasTwinsUnder_24 : decode cX7_hasTwinsUnder 24 = .ok (.iload_n 2, 1) := by decide +kernel
theorem dX7_hasTwinsUnder_25 : decode cX7_hasTwinsUnder 25 = .ok (.iconst 1, 1) := by decide +kernel
theorem dX7_hasTwinsUnder_26 : decode cX7_hasTwinsUnder 26 = .ok (.iadd, 1) := by decide +kernel
theorem dX7_hasTwinsUnder_27 : decode cX7_hasTwinsUnder 27 = .ok (.aload_n 0, 1) := by decide +kernel
theorem dX7_hasTwinsUnder_28 : decode cX7_hasTwinsUnder 28 = .ok (.iload_n 1, 1) := by decide +kernel
theorem dX7_hasTwinsUnder_29 : decode cX7_hasTwinsUnder 29 = .ok (.invokevirtual 48, 3) := by decide +kernel
theorem dX7_hasTwinsUnder_32 : decode cX7_hasTwinsUnder 32 = .ok (.aload_n 0, 1) := by decide +kernel
theorem dX7_hasTwinsUnder_33 : decode cX7_hasTwinsUnder 33 = .ok (.getfield 24, 3) := by decide +kernel
theorem dX7_hasTwinsUnder_36 : decode cX7_hasTwinsUnder 36 = .ok (.iload_n 2, 1) := by decide +kernel
theorem dX7_hasTwinsUnder_37 : decode cX7_hasTwinsUnder 37 = .ok (.laload, 1) := by decide +kernel
theorem dX7_hasTwinsUnder_38 : decode cX7_hasTwinsUnder 38 = .ok (.invokevirtual 64, 3) := by decide +kernel
theorem dX7_hasTwinsUnder_41 : decode cX7_hasTwinsUnder 41 = .ok (.ifCond .eq 5, 3) := by decide +kernel
theorem dX7_hasTwinsUnder_44 : decode cX7_hasTwinsUnder 44 = .ok (.iconst 1, 1) := by decide +kernel
theorem dX7_hasTwinsUnder_45 : decode cX7_hasTwinsUnder 45 = .ok (.ireturn, 1) := by decide +kernel
theorem dX7_hasTwinsUnder_46 : decode cX7_hasTwinsUnder 46 = .ok (.iinc 2 1, 3) := by decide +kernel
theorem dX7_hasTwinsUnder_49 : decode cX7_hasTwinsUnder 49 = .ok (.goto (-45), 3) := by decide +kernel
theorem dX7_hasTwinsUnder_52 : decode cX7_hasTwinsUnder 52 = .ok (.iconst 0, 1) := by decide +kernel
theorem dX7_hasTwinsUnder_53 : decode cX7_hasTwinsUnder 53 = .ok (.ireturn, 1) := by decide +kernel
theorem dX7_isLabelUnder_0 : decode cX7_isLabelUnder 0 = .ok (.iload_n 2, 1) := by decide +kernel
theorem dX7_isLabelUnder_1 : decode cX7_isLabelUnder 1 = .ok (.istore 6, 2) := by decide +kernel
theorem dX7_isLabelUnder_3 : decode cX7_isLabelUnder 3 = .ok (.iload 6, 2) := by decide +kernel
theorem dX7_isLabelUnder_5 : decode cX7_isLabelUnder 5 = .ok (.iload_n 3, 1) := by decide +kernel
theorem dX7_isLabelUnder_6 : decode cX7_isLabelUnder 6 = .ok (.if_icmp .ge 34, 3) := by decide +kernel
theorem dX7_isLabelUnder_9 : decode cX7_isLabelUnder 9 = .ok (.aload_n 0, 1) := by decide +kernel
theorem dX7_isLabelUnder_10 : decode cX7_isLabelUnder 10 = .ok (.iload 6, 2) := by decide +kernel
theorem dX7_isLabelUnder_12 : decode cX7_isLabelUnder 12 = .ok (.iload_n 1, 1) := by decide +kernel
theorem dX7_isLabelUnder_13 : decode cX7_isLabelUnder 13 = .ok (.invokevirtual 52, 3) := by decide +kernel
theorem dX7_isLabelUnder_16 : decode cX7_isLabelUnder 16 = .ok (.ifCond .eq 18, 3) := by decide +kernel
theorem dX7_isLabelUnder_19 : decode cX7_isLabelUnder 19 = .ok (.aload_n 0, 1) := by decide +kernel
theorem dX7_isLabelUnder_20 : decode cX7_isLabelUnder 20 = .ok (.getfield 24, 3) := by decide +kernel
theorem dX7_isLabelUnder_23 : decode cX7_isLabelUnder 23 = .ok (.iload 6, 2) := by decide +kernel
theorem dX7_isLabelUnder_25 : decode cX7_isLabelUnder 25 = .ok (.laload, 1) := by decide +kernel
theorem dX7_isLabelUnder_26 : decode cX7_isLabelUnder 26 = .ok (.lload 4, 2) := by decide +kernel
theorem dX7_isLabelUnder_28 : decode cX7_isLabelUnder 28 = .ok (.lcmp, 1) := by decide +kernel
theorem dX7_isLabelUnder_29 : decode cX7_isLabelUnder 29 = .ok (.ifCond .ne 5, 3) := by decide +kernel
theorem dX7_isLabelUnder_32 : decode cX7_isLabelUnder 32 = .ok (.iconst 1, 1) := by decide +kernel
theorem dX7_isLabelUnder_33 : decode cX7_isLabelUnder 33 = .ok (.ireturn, 1) := by decide +kernel
theorem dX7_isLabelUnder_34 : decode cX7_isLabelUnder 34 = .ok (.iinc 6 1, 3) := by decide +kernel
theorem dX7_isLabelUnder_37 : decode cX7_isLabelUnder 37 = .ok (.goto (-34), 3) := by decide +kernel
theorem dX7_isLabelUnder_40 : decode cX7_isLabelUnder 40 = .ok (.iconst 0, 1) := by decide +kernel
theorem dX7_isLabelUnder_41 : decode cX7_isLabelUnder 41 = .ok (.ireturn, 1) := by decide +kernel
theorem dX7_shiftDepths_0 : decode cX7_shiftDepths 0 = .ok (.iload_n 1, 1) := by decide +kernel
theorem dX7_shiftDepths_1 : decode cX7_shiftDepths 1 = .ok (.istore 4, 2) := by decide +kernel
theorem dX7_shiftDepths_3 : decode cX7_shiftDepths 3 = .ok (.iload 4, 2) := by decide +kernel
theorem dX7_shiftDepths_5 : decode cX7_shiftDepths 5 = .ok (.iload_n 2, 1) := by decide +kernel
theorem dX7_shiftDepths_6 : decode cX7_shiftDepths 6 = .ok (.if_icmp .ge 20, 3) := by decide +kernel
theorem dX7_shiftDepths_9 : decode cX7_shiftDepths 9 = .ok (.aload_n 0, 1) := by decide +kernel
theorem dX7_shiftDepths_10 : decode cX7_shiftDepths 10 = .ok (.getfield 18, 3) := by decide +kernel
theorem dX7_shiftDepths_13 : decode cX7_shiftDepths 13 = .ok (.iload 4, 2) := by decide +kernel
theorem dX7_shiftDepths_15 : decode cX7_shiftDepths 15 = .ok (.dup2, 1) := by decide +kernel
theorem dX7_shiftDepths_16 : decode cX7_shiftDepths 16 = .ok (.iaload, 1) := by decide +kernel
theorem dX7_shiftDepths_17 : decode cX7_shiftDepths 17 = .ok (.iload_n 3, 1) := by decide +kernel
theorem dX7_shiftDepths_18 : decode cX7_shiftDepths 18 = .ok (.iadd, 1) := by decide +kernel
theorem dX7_shiftDepths_19 : decode cX7_shiftDepths 19 = .ok (.iastore, 1) := by decide +kernel
theorem dX7_shiftDepths_20 : decode cX7_shiftDepths 20 = .ok (.iinc 4 1, 3) := by decide +kernel
theorem dX7_shiftDepths_23 : decode cX7_shiftDepths 23 = .ok (.goto (-20), 3) := by decide +kernel
theorem dX7_shiftDepths_26 : decode cX7_shiftDepths 26 = .ok (.return_, 1) := by decide +kernel
theorem dX7_wrap_0 : decode cX7_wrap 0 = .ok (.aload_n 0, 1) := by decide +kernel
theorem dX7_wrap_1 : decode cX7_wrap 1 = .ok (.iload_n 1, 1) := by decide +kernel
theorem dX7_wrap_2 : decode cX7_wrap 2 = .ok (.iload_n 2, 1) := by decide +kernel
theorem dX7_wrap_3 : decode cX7_wrap 3 = .ok (.invokevirtual 68, 3) := by decide +kernel
theorem dX7_wrap_6 : decode cX7_wrap 6 = .ok (.istore 4, 2) := by decide +kernel
theorem dX7_wrap_8 : decode cX7_wrap 8 = .ok (.aload_n 0, 1) := by decide +kernel
theorem dX7_wrap_9 : decode cX7_wrap 9 = .ok (.iload_n 1, 1) := by decide +kernel
theorem dX7_wrap_10 : decode cX7_wrap 10 = .ok (.iload_n 2, 1) := by decide +kernel
theorem dX7_wrap_11 : decode cX7_wrap 11 = .ok (.iload_n 3, 1) := by decide +kernel
theorem dX7_wrap_12 : decode cX7_wrap 12 = .ok (.iadd, 1) := by decide +kernel
theorem dX7_wrap_13 : decode cX7_wrap 13 = .ok (.invokevirtual 68, 3) := by decide +kernel
theorem dX7_wrap_16 : decode cX7_wrap 16 = .ok (.istore 5, 2) := by decide +kernel
theorem dX7_wrap_18 : decode cX7_wrap 18 = .ok (.aload_n 0, 1) := by decide +kernel
theorem dX7_wrap_19 : decode cX7_wrap 19 = .ok (.aload_n 0, 1) := by decide +kernel
theorem dX7_wrap_20 : decode cX7_wrap 20 = .ok (.iload 4, 2) := by decide +kernel
theorem dX7_wrap_22 : decode cX7_wrap 22 = .ok (.iload 4, 2) := by decide +kernel
theorem dX7_wrap_24 : decode cX7_wrap 24 = .ok (.iconst 1, 1) := by decide +kernel
theorem dX7_wrap_25 : decode cX7_wrap 25 = .ok (.iadd, 1) := by decide +kernel
theorem dX7_wrap_26 : decode cX7_wrap 26 = .ok (.aload_n 0, 1) := by decide +kernel
theorem dX7_wrap_27 : decode cX7_wrap 27 = .ok (.getfield 31, 3) := by decide +kernel
theorem dX7_wrap_30 : decode cX7_wrap 30 = .ok (.iload 4, 2) := by decide +kernel
theorem dX7_wrap_32 : decode cX7_wrap 32 = .ok (.isub, 1) := by decide +kernel
theorem dX7_wrap_33 : decode cX7_wrap 33 = .ok (.invokevirtual 35, 3) := by decide +kernel
theorem dX7_wrap_36 : decode cX7_wrap 36 = .ok (.aload_n 0, 1) := by decide +kernel
theorem dX7_wrap_37 : decode cX7_wrap 37 = .ok (.dup, 1) := by decide +kernel
theorem dX7_wrap_38 : decode cX7_wrap 38 = .ok (.getfield 31, 3) := by decide +kernel
theorem dX7_wrap_41 : decode cX7_wrap 41 = .ok (.iconst 1, 1) := by decide +kernel
theorem dX7_wrap_42 : decode cX7_wrap 42 = .ok (.iadd, 1) := by decide +kernel
theorem dX7_wrap_43 : decode cX7_wrap 43 = .ok (.putfield 31, 3) := by decide +kernel
theorem dX7_wrap_46 : decode cX7_wrap 46 = .ok (.aload_n 0, 1) := by decide +kernel
theorem dX7_wrap_47 : decode cX7_wrap 47 = .ok (.getfield 18, 3) := by decide +kernel
theorem dX7_wrap_50 : decode cX7_wrap 50 = .ok (.iload 4, 2) := by decide +kernel
theorem dX7_wrap_52 : decode cX7_wrap 52 = .ok (.aload_n 0, 1) := by decide +kernel
theorem dX7_wrap_53 : decode cX7_wrap 53 = .ok (.getfield 18, 3) := by decide +kernel
theorem dX7_wrap_56 : decode cX7_wrap 56 = .ok (.iload_n 1, 1) := by decide +kernel
theorem dX7_wrap_57 : decode cX7_wrap 57 = .ok (.iaload, 1) := by decide +kernel
theorem dX7_wrap_58 : decode cX7_wrap 58 = .ok (.iconst 1, 1) := by decide +kernel
theorem dX7_wrap_59 : decode cX7_wrap 59 = .ok (.iadd, 1) := by decide +kernel
theorem dX7_wrap_60 : decode cX7_wrap 60 = .ok (.iastore, 1) := by decide +kernel
theorem dX7_wrap_61 : decode cX7_wrap 61 = .ok (.aload_n 0, 1) := by decide +kernel
theorem dX7_wrap_62 : decode cX7_wrap 62 = .ok (.iload 4, 2) := by decide +kernel
theorem dX7_wrap_64 : decode cX7_wrap 64 = .ok (.iconst 1, 1) := by decide +kernel
theorem dX7_wrap_65 : decode cX7_wrap 65 = .ok (.iadd, 1) := by decide +kernel
theorem dX7_wrap_66 : decode cX7_wrap 66 = .ok (.iload 5, 2) := by decide +kernel
theorem dX7_wrap_68 : decode cX7_wrap 68 = .ok (.iconst 1, 1) := by decide +kernel
theorem dX7_wrap_69 : decode cX7_wrap 69 = .ok (.iadd, 1) := by decide +kernel
theorem dX7_wrap_70 : decode cX7_wrap 70 = .ok (.iconst 1, 1) := by decide +kernel
theorem dX7_wrap_71 : decode cX7_wrap 71 = .ok (.invokevirtual 71, 3) := by decide +kernel
theorem dX7_wrap_74 : decode cX7_wrap 74 = .ok (.aload_n 0, 1) := by decide +kernel
theorem dX7_wrap_75 : decode cX7_wrap 75 = .ok (.invokevirtual 39, 3) := by decide +kernel
theorem dX7_wrap_78 : decode cX7_wrap 78 = .ok (.iload 4, 2) := by decide +kernel
theorem dX7_wrap_80 : decode cX7_wrap 80 = .ok (.ireturn, 1) := by decide +kernel
theorem dX7_dissolve_0 : decode cX7_dissolve 0 = .ok (.aload_n 0, 1) := by decide +kernel
theorem dX7_dissolve_1 : decode cX7_dissolve 1 = .ok (.iload_n 1, 1) := by decide +kernel
theorem dX7_dissolve_2 : decode cX7_dissolve 2 = .ok (.iconst 1, 1) := by decide +kernel
theorem dX7_dissolve_3 : decode cX7_dissolve 3 = .ok (.iadd, 1) := by decide +kernel
theorem dX7_dissolve_4 : decode cX7_dissolve 4 = .ok (.aload_n 0, 1) := by decide +kernel
theorem dX7_dissolve_5 : decode cX7_dissolve 5 = .ok (.iload_n 1, 1) := by decide +kernel
theorem dX7_dissolve_6 : decode cX7_dissolve 6 = .ok (.invokevirtual 48, 3) := by decide +kernel
theorem dX7_dissolve_9 : decode cX7_dissolve 9 = .ok (.iconst (-1), 1) := by decide +kernel
theorem dX7_dissolve_10 : decode cX7_dissolve 10 = .ok (.invokevirtual 71, 3) := by decide +kernel
theorem dX7_dissolve_13 : decode cX7_dissolve 13 = .ok (.aload_n 0, 1) := by decide +kernel
theorem dX7_dissolve_14 : decode cX7_dissolve 14 = .ok (.aload_n 0, 1) := by decide +kernel
theorem dX7_dissolve_15 : decode cX7_dissolve 15 = .ok (.iload_n 1, 1) := by decide +kernel
theorem dX7_dissolve_16 : decode cX7_dissolve 16 = .ok (.iconst 1, 1) := by decide +kernel
theorem dX7_dissolve_17 : decode cX7_dissolve 17 = .ok (.iadd, 1) := by decide +kernel
theorem dX7_dissolve_18 : decode cX7_dissolve 18 = .ok (.iload_n 1, 1) := by decide +kernel
theorem dX7_dissolve_19 : decode cX7_dissolve 19 = .ok (.aload_n 0, 1) := by decide +kernel
theorem dX7_dissolve_20 : decode cX7_dissolve 20 = .ok (.getfield 31, 3) := by decide +kernel
theorem dX7_dissolve_23 : decode cX7_dissolve 23 = .ok (.iload_n 1, 1) := by decide +kernel
theorem dX7_dissolve_24 : decode cX7_dissolve 24 = .ok (.isub, 1) := by decide +kernel
theorem dX7_dissolve_25 : decode cX7_dissolve 25 = .ok (.iconst 1, 1) := by decide +kernel
theorem dX7_dissolve_26 : decode cX7_dissolve 26 = .ok (.isub, 1) := by decide +kernel
theorem dX7_dissolve_27 : decode cX7_dissolve 27 = .ok (.invokevirtual 35, 3) := by decide +kernel
theorem dX7_dissolve_30 : decode cX7_dissolve 30 = .ok (.aload_n 0, 1) := by decide +kernel
theorem dX7_dissolve_31 : decode cX7_dissolve 31 = .ok (.dup, 1) := by decide +kernel
theorem dX7_dissolve_32 : decode cX7_dissolve 32 = .ok (.getfield 31, 3) := by decide +kernel
theorem dX7_dissolve_35 : decode cX7_dissolve 35 = .ok (.iconst 1, 1) := by decide +kernel
theorem dX7_dissolve_36 : decode cX7_dissolve 36 = .ok (.isub, 1) := by decide +kernel
theorem dX7_dissolve_37 : decode cX7_dissolve 37 = .ok (.putfield 31, 3) := by decide +kernel
theorem dX7_dissolve_40 : decode cX7_dissolve 40 = .ok (.aload_n 0, 1) := by decide +kernel
theorem dX7_dissolve_41 : decode cX7_dissolve 41 = .ok (.invokevirtual 39, 3) := by decide +kernel
theorem dX7_dissolve_44 : decode cX7_dissolve 44 = .ok (.return_, 1) := by decide +kernel
theorem dX7_cutOut_0 : decode cX7_cutOut 0 = .ok (.aload_n 0, 1) := by decide +kernel
theorem dX7_cutOut_1 : decode cX7_cutOut 1 = .ok (.getfield 21, 3) := by decide +kernel
theorem dX7_cutOut_4 : decode cX7_cutOut 4 = .ok (.iload_n 1, 1) := by decide +kernel
theorem dX7_cutOut_5 : decode cX7_cutOut 5 = .ok (.iaload, 1) := by decide +kernel
theorem dX7_cutOut_6 : decode cX7_cutOut 6 = .ok (.istore_n 2, 1) := by decide +kernel
theorem dX7_cutOut_7 : decode cX7_cutOut 7 = .ok (.aload_n 0, 1) := by decide +kernel
theorem dX7_cutOut_8 : decode cX7_cutOut 8 = .ok (.aload_n 0, 1) := by decide +kernel
theorem dX7_cutOut_9 : decode cX7_cutOut 9 = .ok (.iload_n 1, 1) := by decide +kernel
theorem dX7_cutOut_10 : decode cX7_cutOut 10 = .ok (.iload_n 2, 1) := by decide +kernel
theorem dX7_cutOut_11 : decode cX7_cutOut 11 = .ok (.iadd, 1) := by decide +kernel
theorem dX7_cutOut_12 : decode cX7_cutOut 12 = .ok (.iload_n 1, 1) := by decide +kernel
theorem dX7_cutOut_13 : decode cX7_cutOut 13 = .ok (.aload_n 0, 1) := by decide +kernel
theorem dX7_cutOut_14 : decode cX7_cutOut 14 = .ok (.getfield 31, 3) := by decide +kernel
theorem dX7_cutOut_17 : decode cX7_cutOut 17 = .ok (.iload_n 1, 1) := by decide +kernel
theorem dX7_cutOut_18 : decode cX7_cutOut 18 = .ok (.isub, 1) := by decide +kernel
theorem dX7_cutOut_19 : decode cX7_cutOut 19 = .ok (.iload_n 2, 1) := by decide +kernel
theorem dX7_cutOut_20 : decode cX7_cutOut 20 = .ok (.isub, 1) := by decide +kernel
theorem dX7_cutOut_21 : decode cX7_cutOut 21 = .ok (.invokevirtual 35, 3) := by decide +kernel
theorem dX7_cutOut_24 : decode cX7_cutOut 24 = .ok (.aload_n 0, 1) := by decide +kernel
theorem dX7_cutOut_25 : decode cX7_cutOut 25 = .ok (.dup, 1) := by decide +kernel
theorem dX7_cutOut_26 : decode cX7_cutOut 26 = .ok (.getfield 31, 3) := by decide +kernel
theorem dX7_cutOut_29 : decode cX7_cutOut 29 = .ok (.iload_n 2, 1) := by decide +kernel
theorem dX7_cutOut_30 : decode cX7_cutOut 30 = .ok (.isub, 1) := by decide +kernel
theorem dX7_cutOut_31 : decode cX7_cutOut 31 = .ok (.putfield 31, 3) := by decide +kernel
theorem dX7_cutOut_34 : decode cX7_cutOut 34 = .ok (.aload_n 0, 1) := by decide +kernel
theorem dX7_cutOut_35 : decode cX7_cutOut 35 = .ok (.invokevirtual 39, 3) := by decide +kernel
theorem dX7_cutOut_38 : decode cX7_cutOut 38 = .ok (.return_, 1) := by decide +kernel
theorem dX7_graft_0 : decode cX7_graft 0 = .ok (.aload_n 0, 1) := by decide +kernel
theorem dX7_graft_1 : decode cX7_graft 1 = .ok (.iload_n 3, 1) := by decide +kernel
theorem dX7_graft_2 : decode cX7_graft 2 = .ok (.iload 4, 2) := by decide +kernel
theorem dX7_graft_4 : decode cX7_graft 4 = .ok (.invokevirtual 68, 3) := by decide +kernel
theorem dX7_graft_7 : decode cX7_graft 7 = .ok (.istore 5, 2) := by decide +kernel
theorem dX7_graft_9 : decode cX7_graft 9 = .ok (.aload_n 1, 1) := by decide +kernel
theorem dX7_graft_10 : decode cX7_graft 10 = .ok (.getfield 21, 3) := by decide +kernel
theorem dX7_graft_13 : decode cX7_graft 13 = .ok (.iload_n 2, 1) := by decide +kernel
theorem dX7_graft_14 : decode cX7_graft 14 = .ok (.iaload, 1) := by decide +kernel
theorem dX7_graft_15 : decode cX7_graft 15 = .ok (.istore 6, 2) := by decide +kernel
theorem dX7_graft_17 : decode cX7_graft 17 = .ok (.aload_n 0, 1) := by decide +kernel
theorem dX7_graft_18 : decode cX7_graft 18 = .ok (.aload_n 0, 1) := by decide +kernel
theorem dX7_graft_19 : decode cX7_graft 19 = .ok (.iload 5, 2) := by decide +kernel
theorem dX7_graft_21 : decode cX7_graft 21 = .ok (.iload 5, 2) := by decide +kernel
theorem dX7_graft_23 : decode cX7_graft 23 = .ok (.iload 6, 2) := by decide +kernel
theorem dX7_graft_25 : decode cX7_graft 25 = .ok (.iadd, 1) := by decide +kernel
theorem dX7_graft_26 : decode cX7_graft 26 = .ok (.aload_n 0, 1) := by decide +kernel
theorem dX7_graft_27 : decode cX7_graft 27 = .ok (.getfield 31, 3) := by decide +kernel
theorem dX7_graft_30 : decode cX7_graft 30 = .ok (.iload 5, 2) := by decide +kernel
theorem dX7_graft_32 : decode cX7_graft 32 = .ok (.isub, 1) := by decide +kernel
theorem dX7_graft_33 : decode cX7_graft 33 = .ok (.invokevirtual 35, 3) := by decide +kernel
theorem dX7_graft_36 : decode cX7_graft 36 = .ok (.aload_n 0, 1) := by decide +kernel
theorem dX7_graft_37 : decode cX7_graft 37 = .ok (.aload_n 1, 1) := by decide +kernel
theorem dX7_graft_38 : decode cX7_graft 38 = .ok (.iload_n 2, 1) := by decide +kernel
theorem dX7_graft_39 : decode cX7_graft 39 = .ok (.iload 5, 2) := by decide +kernel
theorem dX7_graft_41 : decode cX7_graft 41 = .ok (.iload 6, 2) := by decide +kernel
theorem dX7_graft_43 : decode cX7_graft 43 = .ok (.invokevirtual 35, 3) := by decide +kernel
theorem dX7_graft_46 : decode cX7_graft 46 = .ok (.aload_n 0, 1) := by decide +kernel
theorem dX7_graft_47 : decode cX7_graft 47 = .ok (.dup, 1) := by decide +kernel
theorem dX7_graft_48 : decode cX7_graft 48 = .ok (.getfield 31, 3) := by decide +kernel
theorem dX7_graft_51 : decode cX7_graft 51 = .ok (.iload 6, 2) := by decide +kernel
theorem dX7_graft_53 : decode cX7_graft 53 = .ok (.iadd, 1) := by decide +kernel
theorem dX7_graft_54 : decode cX7_graft 54 = .ok (.putfield 31, 3) := by decide +kernel
theorem dX7_graft_57 : decode cX7_graft 57 = .ok (.aload_n 0, 1) := by decide +kernel
theorem dX7_graft_58 : decode cX7_graft 58 = .ok (.iload 5, 2) := by decide +kernel
theorem dX7_graft_60 : decode cX7_graft 60 = .ok (.iload 5, 2) := by decide +kernel
theorem dX7_graft_62 : decode cX7_graft 62 = .ok (.iload 6, 2) := by decide +kernel
theorem dX7_graft_64 : decode cX7_graft 64 = .ok (.iadd, 1) := by decide +kernel
theorem dX7_graft_65 : decode cX7_graft 65 = .ok (.aload_n 0, 1) := by decide +kernel
theorem dX7_graft_66 : decode cX7_graft 66 = .ok (.getfield 18, 3) := by decide +kernel
theorem dX7_graft_69 : decode cX7_graft 69 = .ok (.iload_n 3, 1) := by decide +kernel
theorem dX7_graft_70 : decode cX7_graft 70 = .ok (.iaload, 1) := by decide +kernel
theorem dX7_graft_71 : decode cX7_graft 71 = .ok (.iconst 1, 1) := by decide +kernel
theorem dX7_graft_72 : decode cX7_graft 72 = .ok (.iadd, 1) := by decide +kernel
theorem dX7_graft_73 : decode cX7_graft 73 = .ok (.aload_n 1, 1) := by decide +kernel
theorem dX7_graft_74 : decode cX7_graft 74 = .ok (.getfield 18, 3) := by decide +kernel
theorem dX7_graft_77 : decode cX7_graft 77 = .ok (.iload_n 2, 1) := by decide +kernel
theorem dX7_graft_78 : decode cX7_graft 78 = .ok (.iaload, 1) := by decide +kernel
theorem dX7_graft_79 : decode cX7_graft 79 = .ok (.isub, 1) := by decide +kernel
theorem dX7_graft_80 : decode cX7_graft 80 = .ok (.invokevirtual 71, 3) := by decide +kernel
theorem dX7_graft_83 : decode cX7_graft 83 = .ok (.aload_n 0, 1) := by decide +kernel
theorem dX7_graft_84 : decode cX7_graft 84 = .ok (.invokevirtual 39, 3) := by decide +kernel
theorem dX7_graft_87 : decode cX7_graft 87 = .ok (.return_, 1) := by decide +kernel
theorem dX8_init_0 : decode cX8_init 0 = .ok (.aload_n 0, 1) := by decide +kernel
theorem dX8_init_1 : decode cX8_init 1 = .ok (.invokespecial 3, 3) := by decide +kernel
theorem dX8_init_4 : decode cX8_init 4 = .ok (.aload_n 0, 1) := by decide +kernel
theorem dX8_init_5 : decode cX8_init 5 = .ok (.sipush 540, 3) := by decide +kernel
theorem dX8_init_8 : decode cX8_init 8 = .ok (.newarray .int, 2) := by decide +kernel
theorem dX8_init_10 : decode cX8_init 10 = .ok (.putfield 11, 3) := by decide +kernel
theorem dX8_init_13 : decode cX8_init 13 = .ok (.aload_n 0, 1) := by decide +kernel
theorem dX8_init_14 : decode cX8_init 14 = .ok (.bipush 12, 2) := by decide +kernel
theorem dX8_init_16 : decode cX8_init 16 = .ok (.newarray .int, 2) := by decide +kernel
theorem dX8_init_18 : decode cX8_init 18 = .ok (.putfield 15, 3) := by decide +kernel
theorem dX8_init_21 : decode cX8_init 21 = .ok (.return_, 1) := by decide +kernel
theorem dX8_spell_0 : decode cX8_spell 0 = .ok (.aload_n 0, 1) := by decide +kernel
theorem dX8_spell_1 : decode cX8_spell 1 = .ok (.iconst 0, 1) := by decide +kernel
theorem dX8_spell_2 : decode cX8_spell 2 = .ok (.putfield 18, 3) := by decide +kernel
theorem dX8_spell_5 : decode cX8_spell 5 = .ok (.iconst 0, 1) := by decide +kernel
theorem dX8_spell_6 : decode cX8_spell 6 = .ok (.istore_n 2, 1) := by decide +kernel
theorem dX8_spell_7 : decode cX8_spell 7 = .ok (.iload_n 2, 1) := by decide +kernel
theorem dX8_spell_8 : decode cX8_spell 8 = .ok (.aload_n 1, 1) := by decide +kernel
theorem dX8_spell_9 : decode cX8_spell 9 = .ok (.getfield 22, 3) := by decide +kernel
theorem dX8_spell_12 : decode cX8_spell 12 = .ok (.if_icmp .ge 31, 3) := by decide +kernel
theorem dX8_spell_15 : decode cX8_spell 15 = .ok (.aload_n 0, 1) := by decide +kernel
theorem dX8_spell_16 : decode cX8_spell 16 = .ok (.aload_n 1, 1) := by decide +kernel
theorem dX8_spell_17 : decode cX8_spell 17 = .ok (.iload_n 2, 1) := by decide +kernel
theorem dX8_spell_18 : decode cX8_spell 18 = .ok (.invokevirtual 27, 3) := by decide +kernel
theorem dX8_spell_21 : decode cX8_spell 21 = .ok (.aload_n 1, 1) := by decide +kernel
theorem dX8_spell_22 : decode cX8_spell 22 = .ok (.getfield 31, 3) := by decide +kernel
theorem dX8_spell_25 : decode cX8_spell 25 = .ok (.iload_n 2, 1) := by decide +kernel
theorem dX8_spell_26 : decode cX8_spell 26 = .ok (.iaload, 1) := by decide +kernel
theorem dX8_spell_27 : decode cX8_spell 27 = .ok (.iconst 1, 1) := by decide +kernel
theorem dX8_spell_28 : decode cX8_spell 28 = .ok (.if_icmp .ne 9, 3) := by decide +kernel
theorem dX8_spell_31 : decode cX8_spell 31 = .ok (.aload_n 0, 1) := by decide +kernel
theorem dX8_spell_32 : decode cX8_spell 32 = .ok (.aload_n 1, 1) := by decide +kernel
theorem dX8_spell_33 : decode cX8_spell 33 = .ok (.iload_n 2, 1) := by decide +kernel
theorem dX8_spell_34 : decode cX8_spell 34 = .ok (.invokevirtual 34, 3) := by decide +kernel
theorem dX8_spell_37 : decode cX8_spell 37 = .ok (.iinc 2 1, 3) := by decide +kernel
theorem dX8_spell_40 : decode cX8_spell 40 = .ok (.goto (-33), 3) := by decide +kernel
theorem dX8_spell_43 : decode cX8_spell 43 = .ok (.return_, 1) := by decide +kernel
theorem dX8_spellNode_0 : decode cX8_spellNode 0 = .ok (.aload_n 1, 1) := by decide +kernel
theorem dX8_spellNode_1 : decode cX8_spellNode 1 = .ok (.getfield 37, 3) := by decide +kernel
theorem dX8_spellNode_4 : decode cX8_spellNode 4 = .ok (.iload_n 2, 1) := by decide +kernel
theorem dX8_spellNode_5 : decode cX8_spellNode 5 = .ok (.iaload, 1) := by decide +kernel
theorem dX8_spellNode_6 : decode cX8_spellNode 6 = .ok (.istore_n 3, 1) := by decide +kernel
theorem dX8_spellNode_7 : decode cX8_spellNode 7 = .ok (.aload_n 0, 1) := by decide +kernel
theorem dX8_spellNode_8 : decode cX8_spellNode 8 = .ok (.aload_n 1, 1) := by decide +kernel
theorem dX8_spellNode_9 : decode cX8_spellNode 9 = .ok (.getfield 40, 3) := by decide +kernel
theorem dX8_spellNode_12 : decode cX8_spellNode 12 = .ok (.iload_n 2, 1) := by decide +kernel
theorem dX8_spellNode_13 : decode cX8_spellNode 13 = .ok (.laload, 1) := by decide +kernel
theorem dX8_spellNode_14 : decode cX8_spellNode 14 = .ok (.invokevirtual 44, 3) := by decide +kernel
theorem dX8_spellNode_17 : decode cX8_spellNode 17 = .ok (.aload_n 1, 1) := by decide +kernel
theorem dX8_spellNode_18 : decode cX8_spellNode 18 = .ok (.getfield 48, 3) := by decide +kernel
theorem dX8_spellNode_21 : decode cX8_spellNode 21 = .ok (.iload_n 2, 1) := by decide +kernel
theorem dX8_spellNode_22 : decode cX8_spellNode 22 = .ok (.laload, 1) := by decide +kernel
theorem dX8_spellNode_23 : decode cX8_spellNode 23 = .ok (.lconst 0, 1) := by decide +kernel
theorem dX8_spellNode_24 : decode cX8_spellNode 24 = .ok (.lcmp, 1) := by decide +kernel
theorem dX8_spellNode_25 : decode cX8_spellNode 25 = .ok (.ifCond .eq 19, 3) := by decide +kernel
theorem dX8_spellNode_28 : decode cX8_spellNode 28 = .ok (.aload_n 0, 1) := by decide +kernel
theorem dX8_spellNode_29 : decode cX8_spellNode 29 = .ok (.bipush 61, 2) := by decide +kernel
theorem dX8_spellNode_31 : decode cX8_spellNode 31 = .ok (.invokevirtual 51, 3) := by decide +kernel
theorem dX8_spellNode_34 : decode cX8_spellNode 34 = .ok (.aload_n 0, 1) := by decide +kernel
theorem dX8_spellNode_35 : decode cX8_spellNode 35 = .ok (.aload_n 1, 1) := by decide +kernel
theorem dX8_spellNode_36 : decode cX8_spellNode 36 = .ok (.getfield 48, 3) := by decide +kernel
theorem dX8_spellNode_39 : decode cX8_spellNode 39 = .ok (.iload_n 2, 1) := by decide +kernel
theorem dX8_spellNode_40 : decode cX8_spellNode 40 = .ok (.laload, 1) := by decide +kernel
theorem dX8_spellNode_41 : decode cX8_spellNode 41 = .ok (.invokevirtual 44, 3) := by decide +kernel
theorem dX8_spellNode_44 : decode cX8_spellNode 44 = .ok (.iload_n 3, 1) := by decide +kernel
theorem dX8_spellNode_45 : decode cX8_spellNode 45 = .ok (.iconst 3, 1) := by decide +kernel
theorem dX8_spellNode_46 : decode cX8_spellNode 46 = .ok (.if_icmp .ne 12, 3) := by decide +kernel
theorem dX8_spellNode_49 : decode cX8_spellNode 49 = .ok (.aload_n 0, 1) := by decide +kernel
theorem dX8_spellNode_50 : decode cX8_spellNode 50 = .ok (.bipush 33, 2) := by decide +kernel
theorem dX8_spellNode_52 : decode cX8_spellNode 52 = .ok (.invokevirtual 51, 3) := by decide +kernel
theorem dX8_spellNode_55 : decode cX8_spellNode 55 = .ok (.goto 56, 3) := by decide +kernel
theorem dX8_spellNode_58 : decode cX8_spellNode 58 = .ok (.aload_n 1, 1) := by decide +kernel
theorem dX8_spellNode_59 : decode cX8_spellNode 59 = .ok (.getfield 31, 3) := by decide +kernel
theorem dX8_spellNode_62 : decode cX8_spellNode 62 = .ok (.iload_n 2, 1) := by decide +kernel
theorem dX8_spellNode_63 : decode cX8_spellNode 63 = .ok (.iaload, 1) := by decide +kernel
theorem dX8_spellNode_64 : decode cX8_spellNode 64 = .ok (.iconst 1, 1) := by decide +kernel
theorem dX8_spellNode_65 : decode cX8_spellNode 65 = .ok (.if_icmp .le 26, 3) := by decide +kernel
theorem dX8_spellNode_68 : decode cX8_spellNode 68 = .ok (.aload_n 0, 1) := by decide +kernel
theorem dX8_spellNode_69 : decode cX8_spellNode 69 = .ok (.iload_n 3, 1) := by decide +kernel
theorem dX8_spellNode_70 : decode cX8_spellNode 70 = .ok (.invokestatic 55, 3) := by decide +kernel
theorem dX8_spellNode_73 : decode cX8_spellNode 73 = .ok (.invokevirtual 51, 3) := by decide +kernel
theorem dX8_spellNode_76 : decode cX8_spellNode 76 = .ok (.aload_n 0, 1) := by decide +kernel
theorem dX8_spellNode_77 : decode cX8_spellNode 77 = .ok (.getfield 15, 3) := by decide +kernel
theorem dX8_spellNode_80 : decode cX8_spellNode 80 = .ok (.aload_n 1, 1) := by decide +kernel
theorem dX8_spellNode_81 : decode cX8_spellNode 81 = .ok (.getfield 59, 3) := by decide +kernel
theorem dX8_spellNode_84 : decode cX8_spellNode 84 = .ok (.iload_n 2, 1) := by decide +kernel
theorem dX8_spellNode_85 : decode cX8_spellNode 85 = .ok (.iaload, 1) := by decide +kernel
theorem dX8_spellNode_86 : decode cX8_spellNode 86 = .ok (.iload_n 3, 1) := by decide +kernel
theorem dX8_spellNode_87 : decode cX8_spellNode 87 = .ok (.iastore, 1) := by decide +kernel
theorem dX8_spellNode_88 : decode cX8_spellNode 88 = .ok (.goto 23, 3) := by decide +kernel
theorem dX8_spellNode_91 : decode cX8_spellNode 91 = .ok (.iload_n 3, 1) := by decide +kernel
theorem dX8_spellNode_92 : decode cX8_spellNode 92 = .ok (.ifCond .eq 19, 3) := by decide +kernel
theorem dX8_spellNode_95 : decode cX8_spellNode 95 = .ok (.aload_n 0, 1) := by decide +kernel
theorem dX8_spellNode_96 : decode cX8_spellNode 96 = .ok (.iload_n 3, 1) := by decide +kernel
theorem dX8_spellNode_97 : decode cX8_spellNode 97 = .ok (.invokestatic 55, 3) := by decide +kernel
theorem dX8_spellNode_100 : decode cX8_spellNode 100 = .ok (.invokevirtual 51, 3) := by decide +kernel
theorem dX8_spellNode_103 : decode cX8_spellNode 103 = .ok (.aload_n 0, 1) := by decide +kernel
theorem dX8_spellNode_104 : decode cX8_spellNode 104 = .ok (.iload_n 3, 1) := by decide +kernel
theorem dX8_spellNode_105 : decode cX8_spellNode 105 = .ok (.invokestatic 62, 3) := by decide +kernel
theorem dX8_spellNode_108 : decode cX8_spellNode 108 = .ok (.invokevirtual 51, 3) := by decide +kernel
theorem dX8_spellNode_111 : decode cX8_spellNode 111 = .ok (.return_, 1) := by decide +kernel
theorem dX8_leaveBranches_0 : decode cX8_leaveBranches 0 = .ok (.iload_n 2, 1) := by decide +kernel
theorem dX8_leaveBranches_1 : decode cX8_leaveBranches 1 = .ok (.iconst 1, 1) := by decide +kernel
theorem dX8_leaveBranches_2 : decode cX8_leaveBranches 2 = .ok (.iadd, 1) := by decide +kernel
theorem dX8_leaveBranches_3 : decode cX8_leaveBranches 3 = .ok (.aload_n 1, 1) := by decide +kernel
theorem dX8_leaveBranches_4 : decode cX8_leaveBranches 4 = .ok (.getfield 22, 3) := by decide +kernel
theorem dX8_leaveBranches_7 : decode cX8_leaveBranches 7 = .ok (.if_icmp .ne 7, 3) := by decide +kernel
theorem dX8_leaveBranches_10 : decode cX8_leaveBranches 10 = .ok (.iconst 1, 1) := by decide +kernel
theorem dX8_leaveBranches_11 : decode cX8_leaveBranches 11 = .ok (.goto 4, 3) := by decide +kernel
theorem dX8_leaveBranches_14 : decode cX8_leaveBranches 14 = .ok (.iconst 0, 1) := by decide +kernel
theorem dX8_leaveBranches_15 : decode cX8_leaveBranches 15 = .ok (.istore_n 3, 1) := by decide +kernel
theorem dX8_leaveBranches_16 : decode cX8_leaveBranches 16 = .ok (.iload_n 3, 1) := by decide +kernel
theorem dX8_leaveBranches_17 : decode cX8_leaveBranches 17 = .ok (.ifCond .eq 7, 3) := by decide +kernel
theorem dX8_leaveBranches_20 : decode cX8_leaveBranches 20 = .ok (.iconst 0, 1) := by decide +kernel
theorem dX8_leaveBranches_21 : decode cX8_leaveBranches 21 = .ok (.goto 11, 3) := by decide +kernel
theorem dX8_leaveBranches_24 : decode cX8_leaveBranches 24 = .ok (.aload_n 1, 1) := by decide +kernel
theorem dX8_leaveBranches_25 : decode cX8_leaveBranches 25 = .ok (.getfield 59, 3) := by decide +kernel
theorem dX8_leaveBranches_28 : decode cX8_leaveBranches 28 = .ok (.iload_n 2, 1) := by decide +kernel
theorem dX8_leaveBranches_29 : decode cX8_leaveBranches 29 = .ok (.iconst 1, 1) := by decide +kernel
theorem dX8_leaveBranches_30 : decode cX8_leaveBranches 30 = .ok (.iadd, 1) := by decide +kernel
theorem dX8_leaveBranches_31 : decode cX8_leaveBranches 31 = .ok (.iaload, 1) := by decide +kernel
theorem dX8_leaveBranches_32 : decode cX8_leaveBranches 32 = .ok (.istore 4, 2) := by decide +kernel
theorem dX8_leaveBranches_34 : decode cX8_leaveBranches 34 = .ok (.aload_n 1, 1) := by decide +kernel
theorem dX8_leaveBranches_35 : decode cX8_leaveBranches 35 = .ok (.getfield 59, 3) := by decide +kernel
theorem dX8_leaveBranches_38 : decode cX8_leaveBranches 38 = .ok (.iload_n 2, 1) := by decide +kernel
theorem dX8_leaveBranches_39 : decode cX8_leaveBranches 39 = .ok (.iaload, 1) := by decide +kernel
theorem dX8_leaveBranches_40 : decode cX8_leaveBranches 40 = .ok (.istore 5, 2) := by decide +kernel
theorem dX8_leaveBranches_42 : decode cX8_leaveBranches 42 = .ok (.iload 5, 2) := by decide +kernel
theorem dX8_leaveBranches_44 : decode cX8_leaveBranches 44 = .ok (.iload 4, 2) := by decide +kernel
theorem dX8_leaveBranches_46 : decode cX8_leaveBranches 46 = .ok (.if_icmp .le 25, 3) := by decide +kernel
theorem dX8_leaveBranches_49 : decode cX8_leaveBranches 49 = .ok (.aload_n 0, 1) := by decide +kernel
theorem dX8_leaveBranches_50 : decode cX8_leaveBranches 50 = .ok (.aload_n 0, 1) := by decide +kernel
theorem dX8_leaveBranches_51 : decode cX8_leaveBranches 51 = .ok (.getfield 15, 3) := by decide +kernel
theorem dX8_leaveBranches_54 : decode cX8_leaveBranches 54 = .ok (.iload 5, 2) := by decide +kernel
theorem dX8_leaveBranches_56 : decode cX8_leaveBranches 56 = .ok (.iconst 1, 1) := by decide +kernel
theorem dX8_leaveBranches_57 : decode cX8_leaveBranches 57 = .ok (.isub, 1) := by decide +kernel
theorem dX8_leaveBranches_58 : decode cX8_leaveBranches 58 = .ok (.iaload, 1) := by decide +kernel
theorem dX8_leaveBranches_59 : decode cX8_leaveBranches 59 = .ok (.invokestatic 62, 3) := by decide +kernel
theorem dX8_leaveBranches_62 : decode cX8_leaveBranches 62 = .ok (.invokevirtual 51, 3) := by decide +kernel
theorem dX8_leaveBranches_65 : decode cX8_leaveBranches 65 = .ok (.iinc 5 (-1), 3) := by decide +kernel
theorem dX8_leaveBranches_68 : decode cX8_leaveBranches 68 = .ok (.goto (-26), 3) := by decide +kernel
theorem dX8_leaveBranches_71 : decode cX8_leaveBranches 71 = .ok (.iload_n 3, 1) := by decide +kernel
theorem dX8_leaveBranches_72 : decode cX8_leaveBranches 72 = .ok (.ifCond .ne 9, 3) := by decide +kernel
theorem dX8_leaveBranches_75 : decode cX8_leaveBranches 75 = .ok (.aload_n 0, 1) := by decide +kernel
theorem dX8_leaveBranches_76 : decode cX8_leaveBranches 76 = .ok (.bipush 44, 2) := by decide +kernel
theorem dX8_leaveBranches_78 : decode cX8_leaveBranches 78 = .ok (.invokevirtual 51, 3) := by decide +kernel
theorem dX8_leaveBranches_81 : decode cX8_leaveBranches 81 = .ok (.return_, 1) := by decide +kernel
theorem dX8_addWord_0 : decode cX8_addWord 0 = .ok (.iconst 0, 1) := by decide +kernel
theorem dX8_addWord_1 : decode cX8_addWord 1 = .ok (.istore_n 3, 1) := by decide +kernel
theorem dX8_addWord_2 : decode cX8_addWord 2 = .ok (.iload_n 3, 1) := by decide +kernel
theorem dX8_addWord_3 : decode cX8_addWord 3 = .ok (.lload_n 1, 1) := by decide +kernel
theorem dX8_addWord_4 : decode cX8_addWord 4 = .ok (.invokestatic 65, 3) := by decide +kernel
theorem dX8_addWord_7 : decode cX8_addWord 7 = .ok (.if_icmp .ge 18, 3) := by decide +kernel
theorem dX8_addWord_10 : decode cX8_addWord 10 = .ok (.aload_n 0, 1) := by decide +kernel
theorem dX8_addWord_11 : decode cX8_addWord 11 = .ok (.lload_n 1, 1) := by decide +kernel
theorem dX8_addWord_12 : decode cX8_addWord 12 = .ok (.iload_n 3, 1) := by decide +kernel
theorem dX8_addWord_13 : decode cX8_addWord 13 = .ok (.invokestatic 69, 3) := by decide +kernel
theorem dX8_addWord_16 : decode cX8_addWord 16 = .ok (.invokevirtual 51, 3) := by decide +kernel
theorem dX8_addWord_19 : decode cX8_addWord 19 = .ok (.iinc 3 1, 3) := by decide +kernel
theorem dX8_addWord_22 : decode cX8_addWord 22 = .ok (.goto (-20), 3) := by decide +kernel
theorem dX8_addWord_25 : decode cX8_addWord 25 = .ok (.return_, 1) := by decide +kernel
theorem dX8_add_0 : decode cX8_add 0 = .ok (.aload_n 0, 1) := by decide +kernel
theorem dX8_add_1 : decode cX8_add 1 = .ok (.getfield 18, 3) := by decide +kernel
theorem dX8_add_4 : decode cX8_add 4 = .ok (.sipush 540, 3) := by decide +kernel
theorem dX8_add_7 : decode cX8_add 7 = .ok (.if_icmp .ge 23, 3) := by decide +kernel
theorem dX8_add_10 : decode cX8_add 10 = .ok (.aload_n 0, 1) := by decide +kernel
theorem dX8_add_11 : decode cX8_add 11 = .ok (.getfield 11, 3) := by decide +kernel
theorem dX8_add_14 : decode cX8_add 14 = .ok (.aload_n 0, 1) := by decide +kernel
theorem dX8_add_15 : decode cX8_add 15 = .ok (.getfield 18, 3) := by decide +kernel
theorem dX8_add_18 : decode cX8_add 18 = .ok (.iload_n 1, 1) := by decide +kernel
theorem dX8_add_19 : decode cX8_add 19 = .ok (.iastore, 1) := by decide +kernel
theorem dX8_add_20 : decode cX8_add 20 = .ok (.aload_n 0, 1) := by decide +kernel
theorem dX8_add_21 : decode cX8_add 21 = .ok (.dup, 1) := by decide +kernel
theorem dX8_add_22 : decode cX8_add 22 = .ok (.getfield 18, 3) := by decide +kernel
theorem dX8_add_25 : decode cX8_add 25 = .ok (.iconst 1, 1) := by decide +kernel
theorem dX8_add_26 : decode cX8_add 26 = .ok (.iadd, 1) := by decide +kernel
theorem dX8_add_27 : decode cX8_add 27 = .ok (.putfield 18, 3) := by decide +kernel
theorem dX8_add_30 : decode cX8_add 30 = .ok (.return_, 1) := by decide +kernel
theorem dX9_init_0 : decode cX9_init 0 = .ok (.aload_n 0, 1) := by decide +kernel
theorem dX9_init_1 : decode cX9_init 1 = .ok (.invokespecial 1, 3) := by decide +kernel
theorem dX9_init_4 : decode cX9_init 4 = .ok (.aload_n 0, 1) := by decide +kernel
theorem dX9_init_5 : decode cX9_init 5 = .ok (.bipush 8, 2) := by decide +kernel
theorem dX9_init_7 : decode cX9_init 7 = .ok (.anewarray 9, 3) := by decide +kernel
theorem dX9_init_10 : decode cX9_init 10 = .ok (.putfield 11, 3) := by decide +kernel
theorem dX9_init_13 : decode cX9_init 13 = .ok (.aload_n 0, 1) := by decide +kernel
theorem dX9_init_14 : decode cX9_init 14 = .ok (.new 9, 3) := by decide +kernel
theorem dX9_init_17 : decode cX9_init 17 = .ok (.dup, 1) := by decide +kernel
theorem dX9_init_18 : decode cX9_init 18 = .ok (.invokespecial 15, 3) := by decide +kernel
theorem dX9_init_21 : decode cX9_init 21 = .ok (.putfield 16, 3) := by decide +kernel
theorem dX9_init_24 : decode cX9_init 24 = .ok (.aload_n 0, 1) := by decide +kernel
theorem dX9_init_25 : decode cX9_init 25 = .ok (.new 20, 3) := by decide +kernel
theorem dX9_init_28 : decode cX9_init 28 = .ok (.dup, 1) := by decide +kernel
theorem dX9_init_29 : decode cX9_init 29 = .ok (.invokespecial 22, 3) := by decide +kernel
theorem dX9_init_32 : decode cX9_init 32 = .ok (.putfield 23, 3) := by decide +kernel
theorem dX9_init_35 : decode cX9_init 35 = .ok (.aload_n 0, 1) := by decide +kernel
theorem dX9_init_36 : decode cX9_init 36 = .ok (.new 27, 3) := by decide +kernel
theorem dX9_init_39 : decode cX9_init 39 = .ok (.dup, 1) := by decide +kernel
theorem dX9_init_40 : decode cX9_init 40 = .ok (.aload_n 0, 1) := by decide +kernel
theorem dX9_init_41 : decode cX9_init 41 = .ok (.getfield 23, 3) := by decide +kernel
theorem dX9_init_44 : decode cX9_init 44 = .ok (.aload_n 0, 1) := by decide +kernel
theorem dX9_init_45 : decode cX9_init 45 = .ok (.getfield 16, 3) := by decide +kernel
theorem dX9_init_48 : decode cX9_init 48 = .ok (.invokespecial 29, 3) := by decide +kernel
theorem dX9_init_51 : decode cX9_init 51 = .ok (.putfield 32, 3) := by decide +kernel
theorem dX9_init_54 : decode cX9_init 54 = .ok (.aload_n 0, 1) := by decide +kernel
theorem dX9_init_55 : decode cX9_init 55 = .ok (.new 36, 3) := by decide +kernel
theorem dX9_init_58 : decode cX9_init 58 = .ok (.dup, 1) := by decide +kernel
theorem dX9_init_59 : decode cX9_init 59 = .ok (.invokespecial 38, 3) := by decide +kernel
theorem dX9_init_62 : decode cX9_init 62 = .ok (.putfield 39, 3) := by decide +kernel
theorem dX9_init_65 : decode cX9_init 65 = .ok (.aload_n 0, 1) := by decide +kernel
theorem dX9_init_66 : decode cX9_init 66 = .ok (.iconst 4, 1) := by decide +kernel
theorem dX9_init_67 : decode cX9_init 67 = .ok (.newarray .int, 2) := by decide +kernel
theorem dX9_init_69 : decode cX9_init 69 = .ok (.dup, 1) := by decide +kernel
theorem dX9_init_70 : decode cX9_init 70 = .ok (.iconst 0, 1) := by decide +kernel
theorem dX9_init_71 : decode cX9_init 71 = .ok (.iconst 2, 1) := by decide +kernel
theorem dX9_init_72 : decode cX9_init 72 = .ok (.iastore, 1) := by decide +kernel
theorem dX9_init_73 : decode cX9_init 73 = .ok (.dup, 1) := by decide +kernel
theorem dX9_init_74 : decode cX9_init 74 = .ok (.iconst 1, 1) := by decide +kernel
theorem dX9_init_75 : decode cX9_init 75 = .ok (.iconst 1, 1) := by decide +kernel
theorem dX9_init_76 : decode cX9_init 76 = .ok (.iastore, 1) := by decide +kernel
theorem dX9_init_77 : decode cX9_init 77 = .ok (.dup, 1) := by decide +kernel
theorem dX9_init_78 : decode cX9_init 78 = .ok (.iconst 2, 1) := by decide +kernel
theorem dX9_init_79 : decode cX9_init 79 = .ok (.iconst 3, 1) := by decide +kernel
theorem dX9_init_80 : decode cX9_init 80 = .ok (.iastore, 1) := by decide +kernel
theorem dX9_init_81 : decode cX9_init 81 = .ok (.dup, 1) := by decide +kernel
theorem dX9_init_82 : decode cX9_init 82 = .ok (.iconst 3, 1) := by decide +kernel
theorem dX9_init_83 : decode cX9_init 83 = .ok (.iconst 3, 1) := by decide +kernel
theorem dX9_init_84 : decode cX9_init 84 = .ok (.iastore, 1) := by decide +kernel
theorem dX9_init_85 : decode cX9_init 85 = .ok (.putfield 43, 3) := by decide +kernel
theorem dX9_init_88 : decode cX9_init 88 = .ok (.aload_n 0, 1) := by decide +kernel
theorem dX9_init_89 : decode cX9_init 89 = .ok (.new 47, 3) := by decide +kernel
theorem dX9_init_92 : decode cX9_init 92 = .ok (.dup, 1) := by decide +kernel
theorem dX9_init_93 : decode cX9_init 93 = .ok (.invokespecial 49, 3) := by decide +kernel
theorem dX9_init_96 : decode cX9_init 96 = .ok (.putfield 50, 3) := by decide +kernel
theorem dX9_init_99 : decode cX9_init 99 = .ok (.aload_n 0, 1) := by decide +kernel
theorem dX9_init_100 : decode cX9_init 100 = .ok (.new 54, 3) := by decide +kernel
theorem dX9_init_103 : decode cX9_init 103 = .ok (.dup, 1) := by decide +kernel
theorem dX9_init_104 : decode cX9_init 104 = .ok (.invokespecial 56, 3) := by decide +kernel
theorem dX9_init_107 : decode cX9_init 107 = .ok (.putfield 57, 3) := by decide +kernel
theorem dX9_init_110 : decode cX9_init 110 = .ok (.aload_n 0, 1) := by decide +kernel
theorem dX9_init_111 : decode cX9_init 111 = .ok (.new 61, 3) := by decide +kernel
theorem dX9_init_114 : decode cX9_init 114 = .ok (.dup, 1) := by decide +kernel
theorem dX9_init_115 : decode cX9_init 115 = .ok (.invokespecial 63, 3) := by decide +kernel
theorem dX9_init_118 : decode cX9_init 118 = .ok (.putfield 64, 3) := by decide +kernel
theorem dX9_init_121 : decode cX9_init 121 = .ok (.aload_n 0, 1) := by decide +kernel
theorem dX9_init_122 : decode cX9_init 122 = .ok (.new 68, 3) := by decide +kernel
theorem dX9_init_125 : decode cX9_init 125 = .ok (.dup, 1) := by decide +kernel
theorem dX9_init_126 : decode cX9_init 126 = .ok (.invokespecial 70, 3) := by decide +kernel
theorem dX9_init_129 : decode cX9_init 129 = .ok (.putfield 71, 3) := by decide +kernel
theorem dX9_init_132 : decode cX9_init 132 = .ok (.aload_n 0, 1) := by decide +kernel
theorem dX9_init_133 : decode cX9_init 133 = .ok (.bipush 10, 2) := by decide +kernel
theorem dX9_init_135 : decode cX9_init 135 = .ok (.newarray .int, 2) := by decide +kernel
theorem dX9_init_137 : decode cX9_init 137 = .ok (.putfield 75, 3) := by decide +kernel
end
section
theorem dX9_init_140 : decode cX9_init 140 = .ok (.iconst 0, 1) := by decide +kernel
theorem dX9_init_141 : decode cX9_init 141 = .ok (.istore_n 1, 1) := by decide +kernel
theorem dX9_init_142 : decode cX9_init 142 = .ok (.iload_n 1, 1) := by decide +kernel
theorem dX9_init_143 : decode cX9_init 143 = .ok (.bipush 8, 2) := by decide +kernel
theorem dX9_init_145 : decode cX9_init 145 = .ok (.if_icmp .ge 22, 3) := by decide +kernel
theorem dX9_init_148 : decode cX9_init 148 = .ok (.aload_n 0, 1) := by decide +kernel
theorem dX9_init_149 : decode cX9_init 149 = .ok (.getfield 11, 3) := by decide +kernel
theorem dX9_init_152 : decode cX9_init 152 = .ok (.iload_n 1, 1) := by decide +kernel
theorem dX9_init_153 : decode cX9_init 153 = .ok (.new 9, 3) := by decide +kernel
theorem dX9_init_156 : decode cX9_init 156 = .ok (.dup, 1) := by decide +kernel
theorem dX9_init_157 : decode cX9_init 157 = .ok (.invokespecial 15, 3) := by decide +kernel
theorem dX9_init_160 : decode cX9_init 160 = .ok (.aastore, 1) := by decide +kernel
theorem dX9_init_161 : decode cX9_init 161 = .ok (.iinc 1 1, 3) := by decide +kernel
theorem dX9_init_164 : decode cX9_init 164 = .ok (.goto (-22), 3) := by decide +kernel
theorem dX9_init_167 : decode cX9_init 167 = .ok (.return_, 1) := by decide +kernel
theorem dX9_feed_0 : decode cX9_feed 0 = .ok (.iload_n 3, 1) := by decide +kernel
theorem dX9_feed_1 : decode cX9_feed 1 = .ok (.iconst 1, 1) := by decide +kernel
theorem dX9_feed_2 : decode cX9_feed 2 = .ok (.if_icmp .lt 9, 3) := by decide +kernel
theorem dX9_feed_5 : decode cX9_feed 5 = .ok (.iload_n 3, 1) := by decide +kernel
theorem dX9_feed_6 : decode cX9_feed 6 = .ok (.bipush 8, 2) := by decide +kernel
theorem dX9_feed_8 : decode cX9_feed 8 = .ok (.if_icmp .le 9, 3) := by decide +kernel
theorem dX9_feed_11 : decode cX9_feed 11 = .ok (.aload_n 0, 1) := by decide +kernel
theorem dX9_feed_12 : decode cX9_feed 12 = .ok (.iconst (-1), 1) := by decide +kernel
theorem dX9_feed_13 : decode cX9_feed 13 = .ok (.invokevirtual 78, 3) := by decide +kernel
theorem dX9_feed_16 : decode cX9_feed 16 = .ok (.ireturn, 1) := by decide +kernel
theorem dX9_feed_17 : decode cX9_feed 17 = .ok (.aload_n 0, 1) := by decide +kernel
theorem dX9_feed_18 : decode cX9_feed 18 = .ok (.getfield 23, 3) := by decide +kernel
theorem dX9_feed_21 : decode cX9_feed 21 = .ok (.getfield 82, 3) := by decide +kernel
theorem dX9_feed_24 : decode cX9_feed 24 = .ok (.iload_n 3, 1) := by decide +kernel
theorem dX9_feed_25 : decode cX9_feed 25 = .ok (.iadd, 1) := by decide +kernel
theorem dX9_feed_26 : decode cX9_feed 26 = .ok (.sipush 400, 3) := by decide +kernel
theorem dX9_feed_29 : decode cX9_feed 29 = .ok (.if_icmp .le 10, 3) := by decide +kernel
theorem dX9_feed_32 : decode cX9_feed 32 = .ok (.aload_n 0, 1) := by decide +kernel
theorem dX9_feed_33 : decode cX9_feed 33 = .ok (.bipush (-5), 2) := by decide +kernel
theorem dX9_feed_35 : decode cX9_feed 35 = .ok (.invokevirtual 78, 3) := by decide +kernel
theorem dX9_feed_38 : decode cX9_feed 38 = .ok (.ireturn, 1) := by decide +kernel
theorem dX9_feed_39 : decode cX9_feed 39 = .ok (.iconst 0, 1) := by decide +kernel
theorem dX9_feed_40 : decode cX9_feed 40 = .ok (.istore 4, 2) := by decide +kernel
theorem dX9_feed_42 : decode cX9_feed 42 = .ok (.iload 4, 2) := by decide +kernel
theorem dX9_feed_44 : decode cX9_feed 44 = .ok (.iload_n 3, 1) := by decide +kernel
theorem dX9_feed_45 : decode cX9_feed 45 = .ok (.if_icmp .ge 22, 3) := by decide +kernel
theorem dX9_feed_48 : decode cX9_feed 48 = .ok (.aload_n 0, 1) := by decide +kernel
theorem dX9_feed_49 : decode cX9_feed 49 = .ok (.getfield 23, 3) := by decide +kernel
theorem dX9_feed_52 : decode cX9_feed 52 = .ok (.lload_n 1, 1) := by decide +kernel
theorem dX9_feed_53 : decode cX9_feed 53 = .ok (.iload 4, 2) := by decide +kernel
theorem dX9_feed_55 : decode cX9_feed 55 = .ok (.invokestatic 86, 3) := by decide +kernel
theorem dX9_feed_58 : decode cX9_feed 58 = .ok (.invokevirtual 90, 3) := by decide +kernel
theorem dX9_feed_61 : decode cX9_feed 61 = .ok (.iinc 4 1, 3) := by decide +kernel
theorem dX9_feed_64 : decode cX9_feed 64 = .ok (.goto (-22), 3) := by decide +kernel
theorem dX9_feed_67 : decode cX9_feed 67 = .ok (.aload_n 0, 1) := by decide +kernel
theorem dX9_feed_68 : decode cX9_feed 68 = .ok (.getfield 23, 3) := by decide +kernel
theorem dX9_feed_71 : decode cX9_feed 71 = .ok (.getfield 82, 3) := by decide +kernel
theorem dX9_feed_74 : decode cX9_feed 74 = .ok (.ireturn, 1) := by decide +kernel
theorem dX9_read_0 : decode cX9_read 0 = .ok (.iload_n 1, 1) := by decide +kernel
theorem dX9_read_1 : decode cX9_read 1 = .ok (.invokestatic 94, 3) := by decide +kernel
theorem dX9_read_4 : decode cX9_read 4 = .ok (.ifCond .ne 9, 3) := by decide +kernel
theorem dX9_read_7 : decode cX9_read 7 = .ok (.aload_n 0, 1) := by decide +kernel
theorem dX9_read_8 : decode cX9_read 8 = .ok (.iconst (-1), 1) := by decide +kernel
theorem dX9_read_9 : decode cX9_read 9 = .ok (.invokevirtual 78, 3) := by decide +kernel
theorem dX9_read_12 : decode cX9_read 12 = .ok (.ireturn, 1) := by decide +kernel
theorem dX9_read_13 : decode cX9_read 13 = .ok (.aload_n 0, 1) := by decide +kernel
theorem dX9_read_14 : decode cX9_read 14 = .ok (.getfield 32, 3) := by decide +kernel
theorem dX9_read_17 : decode cX9_read 17 = .ok (.invokevirtual 98, 3) := by decide +kernel
theorem dX9_read_20 : decode cX9_read 20 = .ok (.istore_n 2, 1) := by decide +kernel
theorem dX9_read_21 : decode cX9_read 21 = .ok (.aload_n 0, 1) := by decide +kernel
theorem dX9_read_22 : decode cX9_read 22 = .ok (.getfield 23, 3) := by decide +kernel
theorem dX9_read_25 : decode cX9_read 25 = .ok (.iconst 0, 1) := by decide +kernel
theorem dX9_read_26 : decode cX9_read 26 = .ok (.putfield 82, 3) := by decide +kernel
theorem dX9_read_29 : decode cX9_read 29 = .ok (.iload_n 2, 1) := by decide +kernel
theorem dX9_read_30 : decode cX9_read 30 = .ok (.ifCond .lt 19, 3) := by decide +kernel
theorem dX9_read_33 : decode cX9_read 33 = .ok (.aload_n 0, 1) := by decide +kernel
theorem dX9_read_34 : decode cX9_read 34 = .ok (.getfield 75, 3) := by decide +kernel
theorem dX9_read_37 : decode cX9_read 37 = .ok (.bipush 9, 2) := by decide +kernel
theorem dX9_read_39 : decode cX9_read 39 = .ok (.dup2, 1) := by decide +kernel
theorem dX9_read_40 : decode cX9_read 40 = .ok (.iaload, 1) := by decide +kernel
theorem dX9_read_41 : decode cX9_read 41 = .ok (.iconst 1, 1) := by decide +kernel
theorem dX9_read_42 : decode cX9_read 42 = .ok (.iadd, 1) := by decide +kernel
theorem dX9_read_43 : decode cX9_read 43 = .ok (.iastore, 1) := by decide +kernel
theorem dX9_read_44 : decode cX9_read 44 = .ok (.bipush (-10), 2) := by decide +kernel
theorem dX9_read_46 : decode cX9_read 46 = .ok (.iload_n 2, 1) := by decide +kernel
theorem dX9_read_47 : decode cX9_read 47 = .ok (.isub, 1) := by decide +kernel
theorem dX9_read_48 : decode cX9_read 48 = .ok (.ireturn, 1) := by decide +kernel
theorem dX9_read_49 : decode cX9_read 49 = .ok (.iconst 0, 1) := by decide +kernel
theorem dX9_read_50 : decode cX9_read 50 = .ok (.istore_n 3, 1) := by decide +kernel
theorem dX9_read_51 : decode cX9_read 51 = .ok (.iload_n 3, 1) := by decide +kernel
theorem dX9_read_52 : decode cX9_read 52 = .ok (.aload_n 0, 1) := by decide +kernel
theorem dX9_read_53 : decode cX9_read 53 = .ok (.getfield 16, 3) := by decide +kernel
theorem dX9_read_56 : decode cX9_read 56 = .ok (.getfield 102, 3) := by decide +kernel
theorem dX9_read_59 : decode cX9_read 59 = .ok (.if_icmp .ge 32, 3) := by decide +kernel
theorem dX9_read_62 : decode cX9_read 62 = .ok (.aload_n 0, 1) := by decide +kernel
theorem dX9_read_63 : decode cX9_read 63 = .ok (.getfield 16, 3) := by decide +kernel
theorem dX9_read_66 : decode cX9_read 66 = .ok (.getfield 105, 3) := by decide +kernel
theorem dX9_read_69 : decode cX9_read 69 = .ok (.iload_n 3, 1) := by decide +kernel
theorem dX9_read_70 : decode cX9_read 70 = .ok (.aload_n 0, 1) := by decide +kernel
theorem dX9_read_71 : decode cX9_read 71 = .ok (.getfield 108, 3) := by decide +kernel
theorem dX9_read_74 : decode cX9_read 74 = .ok (.iastore, 1) := by decide +kernel
theorem dX9_read_75 : decode cX9_read 75 = .ok (.aload_n 0, 1) := by decide +kernel
theorem dX9_read_76 : decode cX9_read 76 = .ok (.dup, 1) := by decide +kernel
theorem dX9_read_77 : decode cX9_read 77 = .ok (.getfield 108, 3) := by decide +kernel
theorem dX9_read_80 : decode cX9_read 80 = .ok (.iconst 1, 1) := by decide +kernel
theorem dX9_read_81 : decode cX9_read 81 = .ok (.iadd, 1) := by decide +kernel
theorem dX9_read_82 : decode cX9_read 82 = .ok (.putfield 108, 3) := by decide +kernel
theorem dX9_read_85 : decode cX9_read 85 = .ok (.iinc 3 1, 3) := by decide +kernel
theorem dX9_read_88 : decode cX9_read 88 = .ok (.goto (-37), 3) := by decide +kernel
theorem dX9_read_91 : decode cX9_read 91 = .ok (.aload_n 0, 1) := by decide +kernel
theorem dX9_read_92 : decode cX9_read 92 = .ok (.getfield 11, 3) := by decide +kernel
theorem dX9_read_95 : decode cX9_read 95 = .ok (.iload_n 1, 1) := by decide +kernel
theorem dX9_read_96 : decode cX9_read 96 = .ok (.aaload, 1) := by decide +kernel
theorem dX9_read_97 : decode cX9_read 97 = .ok (.aload_n 0, 1) := by decide +kernel
theorem dX9_read_98 : decode cX9_read 98 = .ok (.getfield 16, 3) := by decide +kernel
theorem dX9_read_101 : decode cX9_read 101 = .ok (.invokevirtual 111, 3) := by decide +kernel
theorem dX9_read_104 : decode cX9_read 104 = .ok (.aload_n 0, 1) := by decide +kernel
theorem dX9_read_105 : decode cX9_read 105 = .ok (.getfield 16, 3) := by decide +kernel
theorem dX9_read_108 : decode cX9_read 108 = .ok (.getfield 102, 3) := by decide +kernel
theorem dX9_read_111 : decode cX9_read 111 = .ok (.ireturn, 1) := by decide +kernel
theorem dX9_write_0 : decode cX9_write 0 = .ok (.aload_n 0, 1) := by decide +kernel
theorem dX9_write_1 : decode cX9_write 1 = .ok (.iload_n 1, 1) := by decide +kernel
theorem dX9_write_2 : decode cX9_write 2 = .ok (.invokevirtual 115, 3) := by decide +kernel
theorem dX9_write_5 : decode cX9_write 5 = .ok (.istore_n 2, 1) := by decide +kernel
theorem dX9_write_6 : decode cX9_write 6 = .ok (.iload_n 2, 1) := by decide +kernel
theorem dX9_write_7 : decode cX9_write 7 = .ok (.ifCond .ge 9, 3) := by decide +kernel
theorem dX9_write_10 : decode cX9_write 10 = .ok (.aload_n 0, 1) := by decide +kernel
theorem dX9_write_11 : decode cX9_write 11 = .ok (.iload_n 2, 1) := by decide +kernel
theorem dX9_write_12 : decode cX9_write 12 = .ok (.invokevirtual 78, 3) := by decide +kernel
theorem dX9_write_15 : decode cX9_write 15 = .ok (.ireturn, 1) := by decide +kernel
theorem dX9_write_16 : decode cX9_write 16 = .ok (.aload_n 0, 1) := by decide +kernel
theorem dX9_write_17 : decode cX9_write 17 = .ok (.getfield 39, 3) := by decide +kernel
theorem dX9_write_20 : decode cX9_write 20 = .ok (.aload_n 0, 1) := by decide +kernel
theorem dX9_write_21 : decode cX9_write 21 = .ok (.getfield 11, 3) := by decide +kernel
theorem dX9_write_24 : decode cX9_write 24 = .ok (.iload_n 1, 1) := by decide +kernel
theorem dX9_write_25 : decode cX9_write 25 = .ok (.aaload, 1) := by decide +kernel
theorem dX9_write_26 : decode cX9_write 26 = .ok (.invokevirtual 118, 3) := by decide +kernel
theorem dX9_write_29 : decode cX9_write 29 = .ok (.aload_n 0, 1) := by decide +kernel
theorem dX9_write_30 : decode cX9_write 30 = .ok (.getfield 39, 3) := by decide +kernel
theorem dX9_write_33 : decode cX9_write 33 = .ok (.getfield 121, 3) := by decide +kernel
theorem dX9_write_36 : decode cX9_write 36 = .ok (.ireturn, 1) := by decide +kernel
theorem dX9_letter_0 : decode cX9_letter 0 = .ok (.iload_n 1, 1) := by decide +kernel
theorem dX9_letter_1 : decode cX9_letter 1 = .ok (.ifCond .lt 26, 3) := by decide +kernel
theorem dX9_letter_4 : decode cX9_letter 4 = .ok (.iload_n 1, 1) := by decide +kernel
theorem dX9_letter_5 : decode cX9_letter 5 = .ok (.aload_n 0, 1) := by decide +kernel
theorem dX9_letter_6 : decode cX9_letter 6 = .ok (.getfield 39, 3) := by decide +kernel
theorem dX9_letter_9 : decode cX9_letter 9 = .ok (.getfield 121, 3) := by decide +kernel
theorem dX9_letter_12 : decode cX9_letter 12 = .ok (.if_icmp .ge 15, 3) := by decide +kernel
theorem dX9_letter_15 : decode cX9_letter 15 = .ok (.aload_n 0, 1) := by decide +kernel
theorem dX9_letter_16 : decode cX9_letter 16 = .ok (.getfield 39, 3) := by decide +kernel
theorem dX9_letter_19 : decode cX9_letter 19 = .ok (.getfield 122, 3) := by decide +kernel
theorem dX9_letter_22 : decode cX9_letter 22 = .ok (.iload_n 1, 1) := by decide +kernel
theorem dX9_letter_23 : decode cX9_letter 23 = .ok (.iaload, 1) := by decide +kernel
theorem dX9_letter_24 : decode cX9_letter 24 = .ok (.goto 4, 3) := by decide +kernel
theorem dX9_letter_27 : decode cX9_letter 27 = .ok (.iconst (-1), 1) := by decide +kernel
theorem dX9_letter_28 : decode cX9_letter 28 = .ok (.ireturn, 1) := by decide +kernel
theorem dX9_copy_0 : decode cX9_copy 0 = .ok (.aload_n 0, 1) := by decide +kernel
theorem dX9_copy_1 : decode cX9_copy 1 = .ok (.iload_n 1, 1) := by decide +kernel
theorem dX9_copy_2 : decode cX9_copy 2 = .ok (.invokevirtual 115, 3) := by decide +kernel
theorem dX9_copy_5 : decode cX9_copy 5 = .ok (.istore_n 3, 1) := by decide +kernel
theorem dX9_copy_6 : decode cX9_copy 6 = .ok (.iload_n 3, 1) := by decide +kernel
theorem dX9_copy_7 : decode cX9_copy 7 = .ok (.ifCond .ge 9, 3) := by decide +kernel
theorem dX9_copy_10 : decode cX9_copy 10 = .ok (.aload_n 0, 1) := by decide +kernel
theorem dX9_copy_11 : decode cX9_copy 11 = .ok (.iload_n 3, 1) := by decide +kernel
theorem dX9_copy_12 : decode cX9_copy 12 = .ok (.invokevirtual 78, 3) := by decide +kernel
theorem dX9_copy_15 : decode cX9_copy 15 = .ok (.ireturn, 1) := by decide +kernel
theorem dX9_copy_16 : decode cX9_copy 16 = .ok (.iload_n 2, 1) := by decide +kernel
theorem dX9_copy_17 : decode cX9_copy 17 = .ok (.invokestatic 94, 3) := by decide +kernel
theorem dX9_copy_20 : decode cX9_copy 20 = .ok (.ifCond .ne 9, 3) := by decide +kernel
theorem dX9_copy_23 : decode cX9_copy 23 = .ok (.aload_n 0, 1) := by decide +kernel
theorem dX9_copy_24 : decode cX9_copy 24 = .ok (.iconst (-1), 1) := by decide +kernel
theorem dX9_copy_25 : decode cX9_copy 25 = .ok (.invokevirtual 78, 3) := by decide +kernel
theorem dX9_copy_28 : decode cX9_copy 28 = .ok (.ireturn, 1) := by decide +kernel
theorem dX9_copy_29 : decode cX9_copy 29 = .ok (.aload_n 0, 1) := by decide +kernel
theorem dX9_copy_30 : decode cX9_copy 30 = .ok (.getfield 11, 3) := by decide +kernel
theorem dX9_copy_33 : decode cX9_copy 33 = .ok (.iload_n 2, 1) := by decide +kernel
theorem dX9_copy_34 : decode cX9_copy 34 = .ok (.aaload, 1) := by decide +kernel
theorem dX9_copy_35 : decode cX9_copy 35 = .ok (.aload_n 0, 1) := by decide +kernel
theorem dX9_copy_36 : decode cX9_copy 36 = .ok (.getfield 11, 3) := by decide +kernel
theorem dX9_copy_39 : decode cX9_copy 39 = .ok (.iload_n 1, 1) := by decide +kernel
theorem dX9_copy_40 : decode cX9_copy 40 = .ok (.aaload, 1) := by decide +kernel
theorem dX9_copy_41 : decode cX9_copy 41 = .ok (.invokevirtual 111, 3) := by decide +kernel
theorem dX9_copy_44 : decode cX9_copy 44 = .ok (.aload_n 0, 1) := by decide +kernel
theorem dX9_copy_45 : decode cX9_copy 45 = .ok (.getfield 11, 3) := by decide +kernel
theorem dX9_copy_48 : decode cX9_copy 48 = .ok (.iload_n 2, 1) := by decide +kernel
theorem dX9_copy_49 : decode cX9_copy 49 = .ok (.aaload, 1) := by decide +kernel
theorem dX9_copy_50 : decode cX9_copy 50 = .ok (.getfield 102, 3) := by decide +kernel
theorem dX9_copy_53 : decode cX9_copy 53 = .ok (.ireturn, 1) := by decide +kernel
theorem dX9_clear_0 : decode cX9_clear 0 = .ok (.iload_n 1, 1) := by decide +kernel
theorem dX9_clear_1 : decode cX9_clear 1 = .ok (.invokestatic 94, 3) := by decide +kernel
theorem dX9_clear_4 : decode cX9_clear 4 = .ok (.ifCond .ne 9, 3) := by decide +kernel
theorem dX9_clear_7 : decode cX9_clear 7 = .ok (.aload_n 0, 1) := by decide +kernel
theorem dX9_clear_8 : decode cX9_clear 8 = .ok (.iconst (-1), 1) := by decide +kernel
theorem dX9_clear_9 : decode cX9_clear 9 = .ok (.invokevirtual 78, 3) := by decide +kernel
theorem dX9_clear_12 : decode cX9_clear 12 = .ok (.ireturn, 1) := by decide +kernel
theorem dX9_clear_13 : decode cX9_clear 13 = .ok (.aload_n 0, 1) := by decide +kernel
theorem dX9_clear_14 : decode cX9_clear 14 = .ok (.getfield 11, 3) := by decide +kernel
theorem dX9_clear_17 : decode cX9_clear 17 = .ok (.iload_n 1, 1) := by decide +kernel
theorem dX9_clear_18 : decode cX9_clear 18 = .ok (.aaload, 1) := by decide +kernel
theorem dX9_clear_19 : decode cX9_clear 19 = .ok (.getfield 102, 3) := by decide +kernel
theorem dX9_clear_22 : decode cX9_clear 22 = .ok (.ifCond .le 7, 3) := by decide +kernel
theorem dX9_clear_25 : decode cX9_clear 25 = .ok (.iconst 1, 1) := by decide +kernel
theorem dX9_clear_26 : decode cX9_clear 26 = .ok (.goto 4, 3) := by decide +kernel
theorem dX9_clear_29 : decode cX9_clear 29 = .ok (.iconst 0, 1) := by decide +kernel
theorem dX9_clear_30 : decode cX9_clear 30 = .ok (.istore_n 2, 1) := by decide +kernel
theorem dX9_clear_31 : decode cX9_clear 31 = .ok (.aload_n 0, 1) := by decide +kernel
theorem dX9_clear_32 : decode cX9_clear 32 = .ok (.getfield 11, 3) := by decide +kernel
theorem dX9_clear_35 : decode cX9_clear 35 = .ok (.iload_n 1, 1) := by decide +kernel
theorem dX9_clear_36 : decode cX9_clear 36 = .ok (.aaload, 1) := by decide +kernel
theorem dX9_clear_37 : decode cX9_clear 37 = .ok (.iconst 0, 1) := by decide +kernel
theorem dX9_clear_38 : decode cX9_clear 38 = .ok (.putfield 102, 3) := by decide +kernel
theorem dX9_clear_41 : decode cX9_clear 41 = .ok (.iload_n 2, 1) := by decide +kernel
theorem dX9_clear_42 : decode cX9_clear 42 = .ok (.ireturn, 1) := by decide +kernel
theorem dX9_node_0 : decode cX9_node 0 = .ok (.aload_n 0, 1) := by decide +kernel
theorem dX9_node_1 : decode cX9_node 1 = .ok (.iload_n 1, 1) := by decide +kernel
theorem dX9_node_2 : decode cX9_node 2 = .ok (.invokevirtual 115, 3) := by decide +kernel
theorem dX9_node_5 : decode cX9_node 5 = .ok (.istore 4, 2) := by decide +kernel
theorem dX9_node_7 : decode cX9_node 7 = .ok (.iload 4, 2) := by decide +kernel
theorem dX9_node_9 : decode cX9_node 9 = .ok (.ifCond .ge 10, 3) := by decide +kernel
theorem dX9_node_12 : decode cX9_node 12 = .ok (.aload_n 0, 1) := by decide +kernel
theorem dX9_node_13 : decode cX9_node 13 = .ok (.iload 4, 2) := by decide +kernel
theorem dX9_node_15 : decode cX9_node 15 = .ok (.invokevirtual 78, 3) := by decide +kernel
theorem dX9_node_18 : decode cX9_node 18 = .ok (.ireturn, 1) := by decide +kernel
theorem dX9_node_19 : decode cX9_node 19 = .ok (.aload_n 0, 1) := by decide +kernel
theorem dX9_node_20 : decode cX9_node 20 = .ok (.getfield 11, 3) := by decide +kernel
theorem dX9_node_23 : decode cX9_node 23 = .ok (.iload_n 1, 1) := by decide +kernel
theorem dX9_node_24 : decode cX9_node 24 = .ok (.aaload, 1) := by decide +kernel
theorem dX9_node_25 : decode cX9_node 25 = .ok (.astore 5, 2) := by decide +kernel
theorem dX9_node_27 : decode cX9_node 27 = .ok (.iload_n 2, 1) := by decide +kernel
theorem dX9_node_28 : decode cX9_node 28 = .ok (.ifCond .lt 22, 3) := by decide +kernel
theorem dX9_node_31 : decode cX9_node 31 = .ok (.iload_n 2, 1) := by decide +kernel
theorem dX9_node_32 : decode cX9_node 32 = .ok (.aload 5, 2) := by decide +kernel
theorem dX9_node_34 : decode cX9_node 34 = .ok (.getfield 102, 3) := by decide +kernel
theorem dX9_node_37 : decode cX9_node 37 = .ok (.if_icmp .ge 13, 3) := by decide +kernel
theorem dX9_node_40 : decode cX9_node 40 = .ok (.iload_n 3, 1) := by decide +kernel
theorem dX9_node_41 : decode cX9_node 41 = .ok (.ifCond .lt 9, 3) := by decide +kernel
theorem dX9_node_44 : decode cX9_node 44 = .ok (.iload_n 3, 1) := by decide +kernel
theorem dX9_node_45 : decode cX9_node 45 = .ok (.bipush 8, 2) := by decide +kernel
theorem dX9_node_47 : decode cX9_node 47 = .ok (.if_icmp .le 9, 3) := by decide +kernel
theorem dX9_node_50 : decode cX9_node 50 = .ok (.aload_n 0, 1) := by decide +kernel
theorem dX9_node_51 : decode cX9_node 51 = .ok (.iconst (-1), 1) := by decide +kernel
theorem dX9_node_52 : decode cX9_node 52 = .ok (.invokevirtual 78, 3) := by decide +kernel
theorem dX9_node_55 : decode cX9_node 55 = .ok (.ireturn, 1) := by decide +kernel
theorem dX9_node_56 : decode cX9_node 56 = .ok (.aload 5, 2) := by decide +kernel
theorem dX9_node_58 : decode cX9_node 58 = .ok (.iload_n 2, 1) := by decide +kernel
theorem dX9_node_59 : decode cX9_node 59 = .ok (.iload_n 3, 1) := by decide +kernel
theorem dX9_node_60 : decode cX9_node 60 = .ok (.invokestatic 125, 3) := by decide +kernel
theorem dX9_node_63 : decode cX9_node 63 = .ok (.ireturn, 1) := by decide +kernel
theorem dX9_size_0 : decode cX9_size 0 = .ok (.aload_n 0, 1) := by decide +kernel
theorem dX9_size_1 : decode cX9_size 1 = .ok (.iload_n 1, 1) := by decide +kernel
theorem dX9_size_2 : decode cX9_size 2 = .ok (.invokevirtual 115, 3) := by decide +kernel
theorem dX9_size_5 : decode cX9_size 5 = .ok (.istore_n 2, 1) := by decide +kernel
theorem dX9_size_6 : decode cX9_size 6 = .ok (.iload_n 2, 1) := by decide +kernel
theorem dX9_size_7 : decode cX9_size 7 = .ok (.ifCond .ge 11, 3) := by decide +kernel
theorem dX9_size_10 : decode cX9_size 10 = .ok (.aload_n 0, 1) := by decide +kernel
theorem dX9_size_11 : decode cX9_size 11 = .ok (.iload_n 2, 1) := by decide +kernel
theorem dX9_size_12 : decode cX9_size 12 = .ok (.invokevirtual 78, 3) := by decide +kernel
theorem dX9_size_15 : decode cX9_size 15 = .ok (.goto 12, 3) := by decide +kernel
theorem dX9_size_18 : decode cX9_size 18 = .ok (.aload_n 0, 1) := by decide +kernel
theorem dX9_size_19 : decode cX9_size 19 = .ok (.getfield 11, 3) := by decide +kernel
theorem dX9_size_22 : decode cX9_size 22 = .ok (.iload_n 1, 1) := by decide +kernel
theorem dX9_size_23 : decode cX9_size 23 = .ok (.aaload, 1) := by decide +kernel
theorem dX9_size_24 : decode cX9_size 24 = .ok (.getfield 102, 3) := by decide +kernel
theorem dX9_size_27 : decode cX9_size 27 = .ok (.ireturn, 1) := by decide +kernel
theorem dX9_relabel_0 : decode cX9_relabel 0 = .ok (.aload_n 0, 1) := by decide +kernel
theorem dX9_relabel_1 : decode cX9_relabel 1 = .ok (.iload_n 1, 1) := by decide +kernel
theorem dX9_relabel_2 : decode cX9_relabel 2 = .ok (.iload_n 2, 1) := by decide +kernel
theorem dX9_relabel_3 : decode cX9_relabel 3 = .ok (.invokevirtual 129, 3) := by decide +kernel
theorem dX9_relabel_6 : decode cX9_relabel 6 = .ok (.istore_n 3, 1) := by decide +kernel
theorem dX9_relabel_7 : decode cX9_relabel 7 = .ok (.iload_n 3, 1) := by decide +kernel
theorem dX9_relabel_8 : decode cX9_relabel 8 = .ok (.ifCond .ge 9, 3) := by decide +kernel
theorem dX9_relabel_11 : decode cX9_relabel 11 = .ok (.aload_n 0, 1) := by decide +kernel
theorem dX9_relabel_12 : decode cX9_relabel 12 = .ok (.iload_n 3, 1) := by decide +kernel
theorem dX9_relabel_13 : decode cX9_relabel 13 = .ok (.invokevirtual 78, 3) := by decide +kernel
theorem dX9_relabel_16 : decode cX9_relabel 16 = .ok (.ireturn, 1) := by decide +kernel
theorem dX9_relabel_17 : decode cX9_relabel 17 = .ok (.aload_n 0, 1) := by decide +kernel
theorem dX9_relabel_18 : decode cX9_relabel 18 = .ok (.getfield 23, 3) := by decide +kernel
theorem dX9_relabel_21 : decode cX9_relabel 21 = .ok (.invokevirtual 133, 3) := by decide +kernel
theorem dX9_relabel_24 : decode cX9_relabel 24 = .ok (.lstore 4, 2) := by decide +kernel
theorem dX9_relabel_26 : decode cX9_relabel 26 = .ok (.aload_n 0, 1) := by decide +kernel
theorem dX9_relabel_27 : decode cX9_relabel 27 = .ok (.getfield 23, 3) := by decide +kernel
theorem dX9_relabel_30 : decode cX9_relabel 30 = .ok (.iconst 0, 1) := by decide +kernel
theorem dX9_relabel_31 : decode cX9_relabel 31 = .ok (.putfield 82, 3) := by decide +kernel
theorem dX9_relabel_34 : decode cX9_relabel 34 = .ok (.lload 4, 2) := by decide +kernel
theorem dX9_relabel_36 : decode cX9_relabel 36 = .ok (.ldc2_w 137, 3) := by decide +kernel
theorem dX9_relabel_39 : decode cX9_relabel 39 = .ok (.lcmp, 1) := by decide +kernel
theorem dX9_relabel_40 : decode cX9_relabel 40 = .ok (.ifCond .ne 10, 3) := by decide +kernel
theorem dX9_relabel_43 : decode cX9_relabel 43 = .ok (.aload_n 0, 1) := by decide +kernel
theorem dX9_relabel_44 : decode cX9_relabel 44 = .ok (.bipush (-3), 2) := by decide +kernel
theorem dX9_relabel_46 : decode cX9_relabel 46 = .ok (.invokevirtual 78, 3) := by decide +kernel
theorem dX9_relabel_49 : decode cX9_relabel 49 = .ok (.ireturn, 1) := by decide +kernel
theorem dX9_relabel_50 : decode cX9_relabel 50 = .ok (.aload_n 0, 1) := by decide +kernel
theorem dX9_relabel_51 : decode cX9_relabel 51 = .ok (.getfield 16, 3) := by decide +kernel
theorem dX9_relabel_54 : decode cX9_relabel 54 = .ok (.aload_n 0, 1) := by decide +kernel
theorem dX9_relabel_55 : decode cX9_relabel 55 = .ok (.getfield 11, 3) := by decide +kernel
theorem dX9_relabel_58 : decode cX9_relabel 58 = .ok (.iload_n 1, 1) := by decide +kernel
theorem dX9_relabel_59 : decode cX9_relabel 59 = .ok (.aaload, 1) := by decide +kernel
theorem dX9_relabel_60 : decode cX9_relabel 60 = .ok (.invokevirtual 111, 3) := by decide +kernel
theorem dX9_relabel_63 : decode cX9_relabel 63 = .ok (.aload_n 0, 1) := by decide +kernel
theorem dX9_relabel_64 : decode cX9_relabel 64 = .ok (.getfield 16, 3) := by decide +kernel
theorem dX9_relabel_67 : decode cX9_relabel 67 = .ok (.getfield 139, 3) := by decide +kernel
theorem dX9_relabel_70 : decode cX9_relabel 70 = .ok (.iload_n 3, 1) := by decide +kernel
theorem dX9_relabel_71 : decode cX9_relabel 71 = .ok (.lload 4, 2) := by decide +kernel
theorem dX9_relabel_73 : decode cX9_relabel 73 = .ok (.lastore, 1) := by decide +kernel
theorem dX9_relabel_74 : decode cX9_relabel 74 = .ok (.aload_n 0, 1) := by decide +kernel
theorem dX9_relabel_75 : decode cX9_relabel 75 = .ok (.iload_n 1, 1) := by decide +kernel
theorem dX9_relabel_76 : decode cX9_relabel 76 = .ok (.lload 4, 2) := by decide +kernel
theorem dX9_relabel_78 : decode cX9_relabel 78 = .ok (.invokestatic 143, 3) := by decide +kernel
theorem dX9_relabel_81 : decode cX9_relabel 81 = .ok (.invokevirtual 147, 3) := by decide +kernel
theorem dX9_relabel_84 : decode cX9_relabel 84 = .ok (.ireturn, 1) := by decide +kernel
theorem dX9_retext_0 : decode cX9_retext 0 = .ok (.aload_n 0, 1) := by decide +kernel
theorem dX9_retext_1 : decode cX9_retext 1 = .ok (.iload_n 1, 1) := by decide +kernel
theorem dX9_retext_2 : decode cX9_retext 2 = .ok (.iload_n 2, 1) := by decide +kernel
theorem dX9_retext_3 : decode cX9_retext 3 = .ok (.invokevirtual 129, 3) := by decide +kernel
theorem dX9_retext_6 : decode cX9_retext 6 = .ok (.istore_n 3, 1) := by decide +kernel
theorem dX9_retext_7 : decode cX9_retext 7 = .ok (.iload_n 3, 1) := by decide +kernel
theorem dX9_retext_8 : decode cX9_retext 8 = .ok (.ifCond .ge 9, 3) := by decide +kernel
theorem dX9_retext_11 : decode cX9_retext 11 = .ok (.aload_n 0, 1) := by decide +kernel
theorem dX9_retext_12 : decode cX9_retext 12 = .ok (.iload_n 3, 1) := by decide +kernel
theorem dX9_retext_13 : decode cX9_retext 13 = .ok (.invokevirtual 78, 3) := by decide +kernel
theorem dX9_retext_16 : decode cX9_retext 16 = .ok (.ireturn, 1) := by decide +kernel
theorem dX9_retext_17 : decode cX9_retext 17 = .ok (.aload_n 0, 1) := by decide +kernel
theorem dX9_retext_18 : decode cX9_retext 18 = .ok (.getfield 23, 3) := by decide +kernel
theorem dX9_retext_21 : decode cX9_retext 21 = .ok (.invokevirtual 150, 3) := by decide +kernel
theorem dX9_retext_24 : decode cX9_retext 24 = .ok (.lstore 4, 2) := by decide +kernel
theorem dX9_retext_26 : decode cX9_retext 26 = .ok (.aload_n 0, 1) := by decide +kernel
theorem dX9_retext_27 : decode cX9_retext 27 = .ok (.getfield 23, 3) := by decide +kernel
theorem dX9_retext_30 : decode cX9_retext 30 = .ok (.iconst 0, 1) := by decide +kernel
theorem dX9_retext_31 : decode cX9_retext 31 = .ok (.putfield 82, 3) := by decide +kernel
theorem dX9_retext_34 : decode cX9_retext 34 = .ok (.lload 4, 2) := by decide +kernel
theorem dX9_retext_36 : decode cX9_retext 36 = .ok (.ldc2_w 137, 3) := by decide +kernel
theorem dX9_retext_39 : decode cX9_retext 39 = .ok (.lcmp, 1) := by decide +kernel
theorem dX9_retext_40 : decode cX9_retext 40 = .ok (.ifCond .ne 10, 3) := by decide +kernel
theorem dX9_retext_43 : decode cX9_retext 43 = .ok (.aload_n 0, 1) := by decide +kernel
theorem dX9_retext_44 : decode cX9_retext 44 = .ok (.bipush (-3), 2) := by decide +kernel
theorem dX9_retext_46 : decode cX9_retext 46 = .ok (.invokevirtual 78, 3) := by decide +kernel
theorem dX9_retext_49 : decode cX9_retext 49 = .ok (.ireturn, 1) := by decide +kernel
theorem dX9_retext_50 : decode cX9_retext 50 = .ok (.aload_n 0, 1) := by decide +kernel
theorem dX9_retext_51 : decode cX9_retext 51 = .ok (.getfield 11, 3) := by decide +kernel
theorem dX9_retext_54 : decode cX9_retext 54 = .ok (.iload_n 1, 1) := by decide +kernel
theorem dX9_retext_55 : decode cX9_retext 55 = .ok (.aaload, 1) := by decide +kernel
theorem dX9_retext_56 : decode cX9_retext 56 = .ok (.getfield 153, 3) := by decide +kernel
theorem dX9_retext_59 : decode cX9_retext 59 = .ok (.iload_n 3, 1) := by decide +kernel
theorem dX9_retext_60 : decode cX9_retext 60 = .ok (.lload 4, 2) := by decide +kernel
theorem dX9_retext_62 : decode cX9_retext 62 = .ok (.lastore, 1) := by decide +kernel
theorem dX9_retext_63 : decode cX9_retext 63 = .ok (.lload 4, 2) := by decide +kernel
theorem dX9_retext_65 : decode cX9_retext 65 = .ok (.invokestatic 143, 3) := by decide +kernel
theorem dX9_retext_68 : decode cX9_retext 68 = .ok (.ireturn, 1) := by decide +kernel
theorem dX9_put_0 : decode cX9_put 0 = .ok (.aload_n 0, 1) := by decide +kernel
theorem dX9_put_1 : decode cX9_put 1 = .ok (.iload_n 1, 1) := by decide +kernel
theorem dX9_put_2 : decode cX9_put 2 = .ok (.iload_n 2, 1) := by decide +kernel
theorem dX9_put_3 : decode cX9_put 3 = .ok (.invokevirtual 129, 3) := by decide +kernel
theorem dX9_put_6 : decode cX9_put 6 = .ok (.istore 6, 2) := by decide +kernel
theorem dX9_put_8 : decode cX9_put 8 = .ok (.iload 6, 2) := by decide +kernel
theorem dX9_put_10 : decode cX9_put 10 = .ok (.ifCond .ge 10, 3) := by decide +kernel
theorem dX9_put_13 : decode cX9_put 13 = .ok (.aload_n 0, 1) := by decide +kernel
theorem dX9_put_14 : decode cX9_put 14 = .ok (.iload 6, 2) := by decide +kernel
theorem dX9_put_16 : decode cX9_put 16 = .ok (.invokevirtual 78, 3) := by decide +kernel
theorem dX9_put_19 : decode cX9_put 19 = .ok (.ireturn, 1) := by decide +kernel
theorem dX9_put_20 : decode cX9_put 20 = .ok (.aload_n 0, 1) := by decide +kernel
theorem dX9_put_21 : decode cX9_put 21 = .ok (.getfield 23, 3) := by decide +kernel
theorem dX9_put_24 : decode cX9_put 24 = .ok (.invokevirtual 133, 3) := by decide +kernel
theorem dX9_put_27 : decode cX9_put 27 = .ok (.lstore 7, 2) := by decide +kernel
theorem dX9_put_29 : decode cX9_put 29 = .ok (.aload_n 0, 1) := by decide +kernel
theorem dX9_put_30 : decode cX9_put 30 = .ok (.getfield 23, 3) := by decide +kernel
theorem dX9_put_33 : decode cX9_put 33 = .ok (.iconst 0, 1) := by decide +kernel
theorem dX9_put_34 : decode cX9_put 34 = .ok (.putfield 82, 3) := by decide +kernel
theorem dX9_put_37 : decode cX9_put 37 = .ok (.iload_n 3, 1) := by decide +kernel
theorem dX9_put_38 : decode cX9_put 38 = .ok (.ifCond .lt 33, 3) := by decide +kernel
theorem dX9_put_41 : decode cX9_put 41 = .ok (.iload_n 3, 1) := by decide +kernel
theorem dX9_put_42 : decode cX9_put 42 = .ok (.iconst 2, 1) := by decide +kernel
theorem dX9_put_43 : decode cX9_put 43 = .ok (.if_icmp .gt 28, 3) := by decide +kernel
theorem dX9_put_46 : decode cX9_put 46 = .ok (.aload_n 0, 1) := by decide +kernel
theorem dX9_put_47 : decode cX9_put 47 = .ok (.getfield 11, 3) := by decide +kernel
theorem dX9_put_50 : decode cX9_put 50 = .ok (.iload_n 1, 1) := by decide +kernel
theorem dX9_put_51 : decode cX9_put 51 = .ok (.aaload, 1) := by decide +kernel
theorem dX9_put_52 : decode cX9_put 52 = .ok (.getfield 156, 3) := by decide +kernel
theorem dX9_put_55 : decode cX9_put 55 = .ok (.iload 6, 2) := by decide +kernel
theorem dX9_put_57 : decode cX9_put 57 = .ok (.iaload, 1) := by decide +kernel
theorem dX9_put_58 : decode cX9_put 58 = .ok (.iconst 3, 1) := by decide +kernel
theorem dX9_put_59 : decode cX9_put 59 = .ok (.if_icmp .eq 12, 3) := by decide +kernel
theorem dX9_put_62 : decode cX9_put 62 = .ok (.lload 7, 2) := by decide +kernel
theorem dX9_put_64 : decode cX9_put 64 = .ok (.ldc2_w 137, 3) := by decide +kernel
theorem dX9_put_67 : decode cX9_put 67 = .ok (.lcmp, 1) := by decide +kernel
theorem dX9_put_68 : decode cX9_put 68 = .ok (.ifCond .ne 10, 3) := by decide +kernel
theorem dX9_put_71 : decode cX9_put 71 = .ok (.aload_n 0, 1) := by decide +kernel
theorem dX9_put_72 : decode cX9_put 72 = .ok (.bipush (-3), 2) := by decide +kernel
theorem dX9_put_74 : decode cX9_put 74 = .ok (.invokevirtual 78, 3) := by decide +kernel
theorem dX9_put_77 : decode cX9_put 77 = .ok (.ireturn, 1) := by decide +kernel
theorem dX9_put_78 : decode cX9_put 78 = .ok (.aload_n 0, 1) := by decide +kernel
theorem dX9_put_79 : decode cX9_put 79 = .ok (.getfield 11, 3) := by decide +kernel
theorem dX9_put_82 : decode cX9_put 82 = .ok (.iload_n 1, 1) := by decide +kernel
theorem dX9_put_83 : decode cX9_put 83 = .ok (.aaload, 1) := by decide +kernel
theorem dX9_put_84 : decode cX9_put 84 = .ok (.iload 6, 2) := by decide +kernel
theorem dX9_put_86 : decode cX9_put 86 = .ok (.invokevirtual 159, 3) := by decide +kernel
theorem dX9_put_89 : decode cX9_put 89 = .ok (.istore 9, 2) := by decide +kernel
theorem dX9_put_91 : decode cX9_put 91 = .ok (.iload 4, 2) := by decide +kernel
theorem dX9_put_93 : decode cX9_put 93 = .ok (.ifCond .lt 25, 3) := by decide +kernel
theorem dX9_put_96 : decode cX9_put 96 = .ok (.iload 5, 2) := by decide +kernel
theorem dX9_put_98 : decode cX9_put 98 = .ok (.ifCond .lt 20, 3) := by decide +kernel
theorem dX9_put_101 : decode cX9_put 101 = .ok (.iload 4, 2) := by decide +kernel
theorem dX9_put_103 : decode cX9_put 103 = .ok (.iload 9, 2) := by decide +kernel
theorem dX9_put_105 : decode cX9_put 105 = .ok (.if_icmp .gt 13, 3) := by decide +kernel
theorem dX9_put_108 : decode cX9_put 108 = .ok (.iload 5, 2) := by decide +kernel
theorem dX9_put_110 : decode cX9_put 110 = .ok (.iload 9, 2) := by decide +kernel
theorem dX9_put_112 : decode cX9_put 112 = .ok (.iload 4, 2) := by decide +kernel
theorem dX9_put_114 : decode cX9_put 114 = .ok (.isub, 1) := by decide +kernel
theorem dX9_put_115 : decode cX9_put 115 = .ok (.if_icmp .le 9, 3) := by decide +kernel
theorem dX9_put_118 : decode cX9_put 118 = .ok (.aload_n 0, 1) := by decide +kernel
theorem dX9_put_119 : decode cX9_put 119 = .ok (.iconst (-1), 1) := by decide +kernel
theorem dX9_put_120 : decode cX9_put 120 = .ok (.invokevirtual 78, 3) := by decide +kernel
theorem dX9_put_123 : decode cX9_put 123 = .ok (.ireturn, 1) := by decide +kernel
theorem dX9_put_124 : decode cX9_put 124 = .ok (.aload_n 0, 1) := by decide +kernel
theorem dX9_put_125 : decode cX9_put 125 = .ok (.getfield 11, 3) := by decide +kernel
theorem dX9_put_128 : decode cX9_put 128 = .ok (.iload_n 1, 1) := by decide +kernel
theorem dX9_put_129 : decode cX9_put 129 = .ok (.aaload, 1) := by decide +kernel
theorem dX9_put_130 : decode cX9_put 130 = .ok (.getfield 102, 3) := by decide +kernel
theorem dX9_put_133 : decode cX9_put 133 = .ok (.bipush 30, 2) := by decide +kernel
theorem dX9_put_135 : decode cX9_put 135 = .ok (.if_icmp .ne 10, 3) := by decide +kernel
theorem dX9_put_138 : decode cX9_put 138 = .ok (.aload_n 0, 1) := by decide +kernel
theorem dX9_put_139 : decode cX9_put 139 = .ok (.bipush (-5), 2) := by decide +kernel
theorem dX9_put_141 : decode cX9_put 141 = .ok (.invokevirtual 78, 3) := by decide +kernel
theorem dX9_put_144 : decode cX9_put 144 = .ok (.ireturn, 1) := by decide +kernel
theorem dX9_put_145 : decode cX9_put 145 = .ok (.aload_n 0, 1) := by decide +kernel
theorem dX9_put_146 : decode cX9_put 146 = .ok (.getfield 16, 3) := by decide +kernel
theorem dX9_put_149 : decode cX9_put 149 = .ok (.aload_n 0, 1) := by decide +kernel
theorem dX9_put_150 : decode cX9_put 150 = .ok (.getfield 11, 3) := by decide +kernel
theorem dX9_put_153 : decode cX9_put 153 = .ok (.iload_n 1, 1) := by decide +kernel
theorem dX9_put_154 : decode cX9_put 154 = .ok (.aaload, 1) := by decide +kernel
theorem dX9_put_155 : decode cX9_put 155 = .ok (.invokevirtual 111, 3) := by decide +kernel
theorem dX9_put_158 : decode cX9_put 158 = .ok (.aload_n 0, 1) := by decide +kernel
theorem dX9_put_159 : decode cX9_put 159 = .ok (.getfield 16, 3) := by decide +kernel
theorem dX9_put_162 : decode cX9_put 162 = .ok (.iload 6, 2) := by decide +kernel
theorem dX9_put_164 : decode cX9_put 164 = .ok (.iload 4, 2) := by decide +kernel
theorem dX9_put_166 : decode cX9_put 166 = .ok (.iload 5, 2) := by decide +kernel
theorem dX9_put_168 : decode cX9_put 168 = .ok (.invokevirtual 162, 3) := by decide +kernel
theorem dX9_put_171 : decode cX9_put 171 = .ok (.istore 10, 2) := by decide +kernel
theorem dX9_put_173 : decode cX9_put 173 = .ok (.aload_n 0, 1) := by decide +kernel
theorem dX9_put_174 : decode cX9_put 174 = .ok (.getfield 16, 3) := by decide +kernel
theorem dX9_put_177 : decode cX9_put 177 = .ok (.iload 10, 2) := by decide +kernel
theorem dX9_put_179 : decode cX9_put 179 = .ok (.aload_n 0, 1) := by decide +kernel
theorem dX9_put_180 : decode cX9_put 180 = .ok (.getfield 108, 3) := by decide +kernel
theorem dX9_put_183 : decode cX9_put 183 = .ok (.iload_n 3, 1) := by decide +kernel
theorem dX9_put_184 : decode cX9_put 184 = .ok (.lload 7, 2) := by decide +kernel
theorem dX9_put_186 : decode cX9_put 186 = .ok (.invokevirtual 166, 3) := by decide +kernel
theorem dX9_put_189 : decode cX9_put 189 = .ok (.aload_n 0, 1) := by decide +kernel
theorem dX9_put_190 : decode cX9_put 190 = .ok (.iload_n 1, 1) := by decide +kernel
theorem dX9_put_191 : decode cX9_put 191 = .ok (.aload_n 0, 1) := by decide +kernel
theorem dX9_put_192 : decode cX9_put 192 = .ok (.getfield 108, 3) := by decide +kernel
theorem dX9_put_195 : decode cX9_put 195 = .ok (.invokevirtual 147, 3) := by decide +kernel
theorem dX9_put_198 : decode cX9_put 198 = .ok (.istore 11, 2) := by decide +kernel
theorem dX9_put_200 : decode cX9_put 200 = .ok (.iload 11, 2) := by decide +kernel
theorem dX9_put_202 : decode cX9_put 202 = .ok (.ifCond .lt 13, 3) := by decide +kernel
theorem dX9_put_205 : decode cX9_put 205 = .ok (.aload_n 0, 1) := by decide +kernel
theorem dX9_put_206 : decode cX9_put 206 = .ok (.dup, 1) := by decide +kernel
theorem dX9_put_207 : decode cX9_put 207 = .ok (.getfield 108, 3) := by decide +kernel
theorem dX9_put_210 : decode cX9_put 210 = .ok (.iconst 1, 1) := by decide +kernel
theorem dX9_put_211 : decode cX9_put 211 = .ok (.iadd, 1) := by decide +kernel
theorem dX9_put_212 : decode cX9_put 212 = .ok (.putfield 108, 3) := by decide +kernel
theorem dX9_put_215 : decode cX9_put 215 = .ok (.iload 11, 2) := by decide +kernel
theorem dX9_put_217 : decode cX9_put 217 = .ok (.ireturn, 1) := by decide +kernel
theorem dX9_take_0 : decode cX9_take 0 = .ok (.aload_n 0, 1) := by decide +kernel
theorem dX9_take_1 : decode cX9_take 1 = .ok (.iload_n 1, 1) := by decide +kernel
theorem dX9_take_2 : decode cX9_take 2 = .ok (.iload_n 2, 1) := by decide +kernel
theorem dX9_take_3 : decode cX9_take 3 = .ok (.invokevirtual 129, 3) := by decide +kernel
theorem dX9_take_6 : decode cX9_take 6 = .ok (.istore_n 3, 1) := by decide +kernel
theorem dX9_take_7 : decode cX9_take 7 = .ok (.iload_n 3, 1) := by decide +kernel
theorem dX9_take_8 : decode cX9_take 8 = .ok (.ifCond .ge 9, 3) := by decide +kernel
theorem dX9_take_11 : decode cX9_take 11 = .ok (.aload_n 0, 1) := by decide +kernel
theorem dX9_take_12 : decode cX9_take 12 = .ok (.iload_n 3, 1) := by decide +kernel
theorem dX9_take_13 : decode cX9_take 13 = .ok (.invokevirtual 78, 3) := by decide +kernel
theorem dX9_take_16 : decode cX9_take 16 = .ok (.ireturn, 1) := by decide +kernel
theorem dX9_take_17 : decode cX9_take 17 = .ok (.iload_n 3, 1) := by decide +kernel
theorem dX9_take_18 : decode cX9_take 18 = .ok (.ifCond .ne 10, 3) := by decide +kernel
theorem dX9_take_21 : decode cX9_take 21 = .ok (.aload_n 0, 1) := by decide +kernel
theorem dX9_take_22 : decode cX9_take 22 = .ok (.bipush (-7), 2) := by decide +kernel
theorem dX9_take_24 : decode cX9_take 24 = .ok (.invokevirtual 78, 3) := by decide +kernel
theorem dX9_take_27 : decode cX9_take 27 = .ok (.ireturn, 1) := by decide +kernel
theorem dX9_take_28 : decode cX9_take 28 = .ok (.aload_n 0, 1) := by decide +kernel
theorem dX9_take_29 : decode cX9_take 29 = .ok (.getfield 16, 3) := by decide +kernel
theorem dX9_take_32 : decode cX9_take 32 = .ok (.aload_n 0, 1) := by decide +kernel
theorem dX9_take_33 : decode cX9_take 33 = .ok (.getfield 11, 3) := by decide +kernel
theorem dX9_take_36 : decode cX9_take 36 = .ok (.iload_n 1, 1) := by decide +kernel
theorem dX9_take_37 : decode cX9_take 37 = .ok (.aaload, 1) := by decide +kernel
theorem dX9_take_38 : decode cX9_take 38 = .ok (.invokevirtual 111, 3) := by decide +kernel
theorem dX9_take_41 : decode cX9_take 41 = .ok (.aload_n 0, 1) := by decide +kernel
theorem dX9_take_42 : decode cX9_take 42 = .ok (.getfield 16, 3) := by decide +kernel
theorem dX9_take_45 : decode cX9_take 45 = .ok (.iload_n 3, 1) := by decide +kernel
theorem dX9_take_46 : decode cX9_take 46 = .ok (.invokevirtual 170, 3) := by decide +kernel
theorem dX9_take_49 : decode cX9_take 49 = .ok (.aload_n 0, 1) := by decide +kernel
theorem dX9_take_50 : decode cX9_take 50 = .ok (.iload_n 1, 1) := by decide +kernel
theorem dX9_take_51 : decode cX9_take 51 = .ok (.aload_n 0, 1) := by decide +kernel
theorem dX9_take_52 : decode cX9_take 52 = .ok (.getfield 11, 3) := by decide +kernel
theorem dX9_take_55 : decode cX9_take 55 = .ok (.iload_n 1, 1) := by decide +kernel
theorem dX9_take_56 : decode cX9_take 56 = .ok (.aaload, 1) := by decide +kernel
theorem dX9_take_57 : decode cX9_take 57 = .ok (.iload_n 3, 1) := by decide +kernel
theorem dX9_take_58 : decode cX9_take 58 = .ok (.invokevirtual 159, 3) := by decide +kernel
theorem dX9_take_61 : decode cX9_take 61 = .ok (.invokevirtual 147, 3) := by decide +kernel
theorem dX9_take_64 : decode cX9_take 64 = .ok (.ireturn, 1) := by decide +kernel
theorem dX9_move_0 : decode cX9_move 0 = .ok (.aload_n 0, 1) := by decide +kernel
theorem dX9_move_1 : decode cX9_move 1 = .ok (.iload_n 1, 1) := by decide +kernel
theorem dX9_move_2 : decode cX9_move 2 = .ok (.iload_n 2, 1) := by decide +kernel
theorem dX9_move_3 : decode cX9_move 3 = .ok (.invokevirtual 129, 3) := by decide +kernel
theorem dX9_move_6 : decode cX9_move 6 = .ok (.istore 5, 2) := by decide +kernel
theorem dX9_move_8 : decode cX9_move 8 = .ok (.iload 5, 2) := by decide +kernel
theorem dX9_move_10 : decode cX9_move 10 = .ok (.ifCond .ge 10, 3) := by decide +kernel
theorem dX9_move_13 : decode cX9_move 13 = .ok (.aload_n 0, 1) := by decide +kernel
theorem dX9_move_14 : decode cX9_move 14 = .ok (.iload 5, 2) := by decide +kernel
theorem dX9_move_16 : decode cX9_move 16 = .ok (.invokevirtual 78, 3) := by decide +kernel
theorem dX9_move_19 : decode cX9_move 19 = .ok (.ireturn, 1) := by decide +kernel
theorem dX9_move_20 : decode cX9_move 20 = .ok (.aload_n 0, 1) := by decide +kernel
theorem dX9_move_21 : decode cX9_move 21 = .ok (.getfield 11, 3) := by decide +kernel
theorem dX9_move_24 : decode cX9_move 24 = .ok (.iload_n 1, 1) := by decide +kernel
theorem dX9_move_25 : decode cX9_move 25 = .ok (.aaload, 1) := by decide +kernel
theorem dX9_move_26 : decode cX9_move 26 = .ok (.iload 5, 2) := by decide +kernel
theorem dX9_move_28 : decode cX9_move 28 = .ok (.iload_n 3, 1) := by decide +kernel
theorem dX9_move_29 : decode cX9_move 29 = .ok (.invokestatic 173, 3) := by decide +kernel
theorem dX9_move_32 : decode cX9_move 32 = .ok (.istore 6, 2) := by decide +kernel
theorem dX9_move_34 : decode cX9_move 34 = .ok (.iload 6, 2) := by decide +kernel
theorem dX9_move_36 : decode cX9_move 36 = .ok (.ifCond .ge 10, 3) := by decide +kernel
theorem dX9_move_39 : decode cX9_move 39 = .ok (.aload_n 0, 1) := by decide +kernel
theorem dX9_move_40 : decode cX9_move 40 = .ok (.iload 6, 2) := by decide +kernel
theorem dX9_move_42 : decode cX9_move 42 = .ok (.invokevirtual 78, 3) := by decide +kernel
theorem dX9_move_45 : decode cX9_move 45 = .ok (.ireturn, 1) := by decide +kernel
theorem dX9_move_46 : decode cX9_move 46 = .ok (.aload_n 0, 1) := by decide +kernel
theorem dX9_move_47 : decode cX9_move 47 = .ok (.getfield 16, 3) := by decide +kernel
theorem dX9_move_50 : decode cX9_move 50 = .ok (.aload_n 0, 1) := by decide +kernel
theorem dX9_move_51 : decode cX9_move 51 = .ok (.getfield 11, 3) := by decide +kernel
theorem dX9_move_54 : decode cX9_move 54 = .ok (.iload_n 1, 1) := by decide +kernel
theorem dX9_move_55 : decode cX9_move 55 = .ok (.aaload, 1) := by decide +kernel
theorem dX9_move_56 : decode cX9_move 56 = .ok (.invokevirtual 111, 3) := by decide +kernel
theorem dX9_move_59 : decode cX9_move 59 = .ok (.aload_n 0, 1) := by decide +kernel
theorem dX9_move_60 : decode cX9_move 60 = .ok (.getfield 16, 3) := by decide +kernel
theorem dX9_move_63 : decode cX9_move 63 = .ok (.iload 5, 2) := by decide +kernel
theorem dX9_move_65 : decode cX9_move 65 = .ok (.invokevirtual 176, 3) := by decide +kernel
theorem dX9_move_68 : decode cX9_move 68 = .ok (.iload 6, 2) := by decide +kernel
theorem dX9_move_70 : decode cX9_move 70 = .ok (.iload 5, 2) := by decide +kernel
theorem dX9_move_72 : decode cX9_move 72 = .ok (.if_icmp .le 20, 3) := by decide +kernel
theorem dX9_move_75 : decode cX9_move 75 = .ok (.iload 6, 2) := by decide +kernel
theorem dX9_move_77 : decode cX9_move 77 = .ok (.aload_n 0, 1) := by decide +kernel
theorem dX9_move_78 : decode cX9_move 78 = .ok (.getfield 11, 3) := by decide +kernel
theorem dX9_move_81 : decode cX9_move 81 = .ok (.iload_n 1, 1) := by decide +kernel
theorem dX9_move_82 : decode cX9_move 82 = .ok (.aaload, 1) := by decide +kernel
theorem dX9_move_83 : decode cX9_move 83 = .ok (.getfield 179, 3) := by decide +kernel
theorem dX9_move_86 : decode cX9_move 86 = .ok (.iload 5, 2) := by decide +kernel
theorem dX9_move_88 : decode cX9_move 88 = .ok (.iaload, 1) := by decide +kernel
theorem dX9_move_89 : decode cX9_move 89 = .ok (.isub, 1) := by decide +kernel
theorem dX9_move_90 : decode cX9_move 90 = .ok (.istore 6, 2) := by decide +kernel
theorem dX9_move_92 : decode cX9_move 92 = .ok (.iload 4, 2) := by decide +kernel
theorem dX9_move_94 : decode cX9_move 94 = .ok (.ifCond .lt 17, 3) := by decide +kernel
theorem dX9_move_97 : decode cX9_move 97 = .ok (.iload 4, 2) := by decide +kernel
theorem dX9_move_99 : decode cX9_move 99 = .ok (.aload_n 0, 1) := by decide +kernel
theorem dX9_move_100 : decode cX9_move 100 = .ok (.getfield 16, 3) := by decide +kernel
theorem dX9_move_103 : decode cX9_move 103 = .ok (.iload 6, 2) := by decide +kernel
theorem dX9_move_105 : decode cX9_move 105 = .ok (.invokevirtual 159, 3) := by decide +kernel
theorem dX9_move_108 : decode cX9_move 108 = .ok (.if_icmp .le 9, 3) := by decide +kernel
theorem dX9_move_111 : decode cX9_move 111 = .ok (.aload_n 0, 1) := by decide +kernel
theorem dX9_move_112 : decode cX9_move 112 = .ok (.iconst (-1), 1) := by decide +kernel
theorem dX9_move_113 : decode cX9_move 113 = .ok (.invokevirtual 78, 3) := by decide +kernel
theorem dX9_move_116 : decode cX9_move 116 = .ok (.ireturn, 1) := by decide +kernel
theorem dX9_move_117 : decode cX9_move 117 = .ok (.aload_n 0, 1) := by decide +kernel
theorem dX9_move_118 : decode cX9_move 118 = .ok (.getfield 16, 3) := by decide +kernel
theorem dX9_move_121 : decode cX9_move 121 = .ok (.aload_n 0, 1) := by decide +kernel
theorem dX9_move_122 : decode cX9_move 122 = .ok (.getfield 11, 3) := by decide +kernel
theorem dX9_move_125 : decode cX9_move 125 = .ok (.iload_n 1, 1) := by decide +kernel
theorem dX9_move_126 : decode cX9_move 126 = .ok (.aaload, 1) := by decide +kernel
theorem dX9_move_127 : decode cX9_move 127 = .ok (.iload 5, 2) := by decide +kernel
theorem dX9_move_129 : decode cX9_move 129 = .ok (.iload 6, 2) := by decide +kernel
theorem dX9_move_131 : decode cX9_move 131 = .ok (.iload 4, 2) := by decide +kernel
theorem dX9_move_133 : decode cX9_move 133 = .ok (.invokevirtual 182, 3) := by decide +kernel
theorem dX9_move_136 : decode cX9_move 136 = .ok (.aload_n 0, 1) := by decide +kernel
theorem dX9_move_137 : decode cX9_move 137 = .ok (.iload_n 1, 1) := by decide +kernel
theorem dX9_move_138 : decode cX9_move 138 = .ok (.aload_n 0, 1) := by decide +kernel
theorem dX9_move_139 : decode cX9_move 139 = .ok (.getfield 11, 3) := by decide +kernel
theorem dX9_move_142 : decode cX9_move 142 = .ok (.iload_n 1, 1) := by decide +kernel
theorem dX9_move_143 : decode cX9_move 143 = .ok (.aaload, 1) := by decide +kernel
theorem dX9_move_144 : decode cX9_move 144 = .ok (.getfield 179, 3) := by decide +kernel
theorem dX9_move_147 : decode cX9_move 147 = .ok (.iload 5, 2) := by decide +kernel
theorem dX9_move_149 : decode cX9_move 149 = .ok (.iaload, 1) := by decide +kernel
theorem dX9_move_150 : decode cX9_move 150 = .ok (.invokevirtual 147, 3) := by decide +kernel
theorem dX9_move_153 : decode cX9_move 153 = .ok (.ireturn, 1) := by decide +kernel
theorem dX9_price_0 : decode cX9_price 0 = .ok (.iload_n 1, 1) := by decide +kernel
theorem dX9_price_1 : decode cX9_price 1 = .ok (.ifCond .lt 19, 3) := by decide +kernel
theorem dX9_price_4 : decode cX9_price 4 = .ok (.iload_n 1, 1) := by decide +kernel
theorem dX9_price_5 : decode cX9_price 5 = .ok (.iconst 3, 1) := by decide +kernel
theorem dX9_price_6 : decode cX9_price 6 = .ok (.if_icmp .gt 14, 3) := by decide +kernel
theorem dX9_price_9 : decode cX9_price 9 = .ok (.iload_n 2, 1) := by decide +kernel
theorem dX9_price_10 : decode cX9_price 10 = .ok (.ifCond .lt 10, 3) := by decide +kernel
theorem dX9_price_13 : decode cX9_price 13 = .ok (.iload_n 2, 1) := by decide +kernel
theorem dX9_price_14 : decode cX9_price 14 = .ok (.sipush 1000, 3) := by decide +kernel
theorem dX9_price_17 : decode cX9_price 17 = .ok (.if_icmp .le 9, 3) := by decide +kernel
theorem dX9_price_20 : decode cX9_price 20 = .ok (.aload_n 0, 1) := by decide +kernel
theorem dX9_price_21 : decode cX9_price 21 = .ok (.iconst (-1), 1) := by decide +kernel
theorem dX9_price_22 : decode cX9_price 22 = .ok (.invokevirtual 78, 3) := by decide +kernel
theorem dX9_price_25 : decode cX9_price 25 = .ok (.ireturn, 1) := by decide +kernel
theorem dX9_price_26 : decode cX9_price 26 = .ok (.aload_n 0, 1) := by decide +kernel
theorem dX9_price_27 : decode cX9_price 27 = .ok (.getfield 43, 3) := by decide +kernel
theorem dX9_price_30 : decode cX9_price 30 = .ok (.iload_n 1, 1) := by decide +kernel
theorem dX9_price_31 : decode cX9_price 31 = .ok (.iaload, 1) := by decide +kernel
theorem dX9_price_32 : decode cX9_price 32 = .ok (.istore_n 3, 1) := by decide +kernel
theorem dX9_price_33 : decode cX9_price 33 = .ok (.aload_n 0, 1) := by decide +kernel
theorem dX9_price_34 : decode cX9_price 34 = .ok (.getfield 43, 3) := by decide +kernel
theorem dX9_price_37 : decode cX9_price 37 = .ok (.iload_n 1, 1) := by decide +kernel
theorem dX9_price_38 : decode cX9_price 38 = .ok (.iload_n 2, 1) := by decide +kernel
theorem dX9_price_39 : decode cX9_price 39 = .ok (.iastore, 1) := by decide +kernel
theorem dX9_price_40 : decode cX9_price 40 = .ok (.iload_n 3, 1) := by decide +kernel
theorem dX9_price_41 : decode cX9_price 41 = .ok (.ireturn, 1) := by decide +kernel
theorem dX9_distance_0 : decode cX9_distance 0 = .ok (.aload_n 0, 1) := by decide +kernel
theorem dX9_distance_1 : decode cX9_distance 1 = .ok (.iload_n 1, 1) := by decide +kernel
theorem dX9_distance_2 : decode cX9_distance 2 = .ok (.iload_n 2, 1) := by decide +kernel
theorem dX9_distance_3 : decode cX9_distance 3 = .ok (.invokevirtual 186, 3) := by decide +kernel
theorem dX9_distance_6 : decode cX9_distance 6 = .ok (.istore_n 3, 1) := by decide +kernel
theorem dX9_distance_7 : decode cX9_distance 7 = .ok (.iload_n 3, 1) := by decide +kernel
theorem dX9_distance_8 : decode cX9_distance 8 = .ok (.ifCond .ge 11, 3) := by decide +kernel
theorem dX9_distance_11 : decode cX9_distance 11 = .ok (.aload_n 0, 1) := by decide +kernel
theorem dX9_distance_12 : decode cX9_distance 12 = .ok (.iload_n 3, 1) := by decide +kernel
theorem dX9_distance_13 : decode cX9_distance 13 = .ok (.invokevirtual 78, 3) := by decide +kernel
theorem dX9_distance_16 : decode cX9_distance 16 = .ok (.goto 26, 3) := by decide +kernel
theorem dX9_distance_19 : decode cX9_distance 19 = .ok (.aload_n 0, 1) := by decide +kernel
theorem dX9_distance_20 : decode cX9_distance 20 = .ok (.getfield 50, 3) := by decide +kernel
theorem dX9_distance_23 : decode cX9_distance 23 = .ok (.aload_n 0, 1) := by decide +kernel
theorem dX9_distance_24 : decode cX9_distance 24 = .ok (.getfield 11, 3) := by decide +kernel
theorem dX9_distance_27 : decode cX9_distance 27 = .ok (.iload_n 1, 1) := by decide +kernel
theorem dX9_distance_28 : decode cX9_distance 28 = .ok (.aaload, 1) := by decide +kernel
theorem dX9_distance_29 : decode cX9_distance 29 = .ok (.aload_n 0, 1) := by decide +kernel
theorem dX9_distance_30 : decode cX9_distance 30 = .ok (.getfield 11, 3) := by decide +kernel
theorem dX9_distance_33 : decode cX9_distance 33 = .ok (.iload_n 2, 1) := by decide +kernel
theorem dX9_distance_34 : decode cX9_distance 34 = .ok (.aaload, 1) := by decide +kernel
theorem dX9_distance_35 : decode cX9_distance 35 = .ok (.aload_n 0, 1) := by decide +kernel
theorem dX9_distance_36 : decode cX9_distance 36 = .ok (.getfield 43, 3) := by decide +kernel
theorem dX9_distance_39 : decode cX9_distance 39 = .ok (.invokevirtual 189, 3) := by decide +kernel
theorem dX9_distance_42 : decode cX9_distance 42 = .ok (.ireturn, 1) := by decide +kernel
theorem dX9_map_0 : decode cX9_map 0 = .ok (.aload_n 0, 1) := by decide +kernel
theorem dX9_map_1 : decode cX9_map 1 = .ok (.iload_n 1, 1) := by decide +kernel
theorem dX9_map_2 : decode cX9_map 2 = .ok (.iload_n 2, 1) := by decide +kernel
theorem dX9_map_3 : decode cX9_map 3 = .ok (.invokevirtual 186, 3) := by decide +kernel
theorem dX9_map_6 : decode cX9_map 6 = .ok (.istore_n 3, 1) := by decide +kernel
theorem dX9_map_7 : decode cX9_map 7 = .ok (.iload_n 3, 1) := by decide +kernel
theorem dX9_map_8 : decode cX9_map 8 = .ok (.ifCond .ge 9, 3) := by decide +kernel
theorem dX9_map_11 : decode cX9_map 11 = .ok (.aload_n 0, 1) := by decide +kernel
theorem dX9_map_12 : decode cX9_map 12 = .ok (.iload_n 3, 1) := by decide +kernel
theorem dX9_map_13 : decode cX9_map 13 = .ok (.invokevirtual 78, 3) := by decide +kernel
theorem dX9_map_16 : decode cX9_map 16 = .ok (.ireturn, 1) := by decide +kernel
theorem dX9_map_17 : decode cX9_map 17 = .ok (.aload_n 0, 1) := by decide +kernel
theorem dX9_map_18 : decode cX9_map 18 = .ok (.getfield 50, 3) := by decide +kernel
theorem dX9_map_21 : decode cX9_map 21 = .ok (.aload_n 0, 1) := by decide +kernel
theorem dX9_map_22 : decode cX9_map 22 = .ok (.getfield 11, 3) := by decide +kernel
theorem dX9_map_25 : decode cX9_map 25 = .ok (.iload_n 1, 1) := by decide +kernel
theorem dX9_map_26 : decode cX9_map 26 = .ok (.aaload, 1) := by decide +kernel
theorem dX9_map_27 : decode cX9_map 27 = .ok (.aload_n 0, 1) := by decide +kernel
theorem dX9_map_28 : decode cX9_map 28 = .ok (.getfield 11, 3) := by decide +kernel
theorem dX9_map_31 : decode cX9_map 31 = .ok (.iload_n 2, 1) := by decide +kernel
theorem dX9_map_32 : decode cX9_map 32 = .ok (.aaload, 1) := by decide +kernel
theorem dX9_map_33 : decode cX9_map 33 = .ok (.aload_n 0, 1) := by decide +kernel
theorem dX9_map_34 : decode cX9_map 34 = .ok (.getfield 43, 3) := by decide +kernel
theorem dX9_map_37 : decode cX9_map 37 = .ok (.invokevirtual 189, 3) := by decide +kernel
theorem dX9_map_40 : decode cX9_map 40 = .ok (.pop, 1) := by decide +kernel
theorem dX9_map_41 : decode cX9_map 41 = .ok (.aload_n 0, 1) := by decide +kernel
theorem dX9_map_42 : decode cX9_map 42 = .ok (.getfield 50, 3) := by decide +kernel
theorem dX9_map_45 : decode cX9_map 45 = .ok (.invokevirtual 193, 3) := by decide +kernel
theorem dX9_map_48 : decode cX9_map 48 = .ok (.aload_n 0, 1) := by decide +kernel
theorem dX9_map_49 : decode cX9_map 49 = .ok (.getfield 57, 3) := by decide +kernel
theorem dX9_map_52 : decode cX9_map 52 = .ok (.aload_n 0, 1) := by decide +kernel
theorem dX9_map_53 : decode cX9_map 53 = .ok (.getfield 11, 3) := by decide +kernel
theorem dX9_map_56 : decode cX9_map 56 = .ok (.iload_n 1, 1) := by decide +kernel
theorem dX9_map_57 : decode cX9_map 57 = .ok (.aaload, 1) := by decide +kernel
theorem dX9_map_58 : decode cX9_map 58 = .ok (.aload_n 0, 1) := by decide +kernel
theorem dX9_map_59 : decode cX9_map 59 = .ok (.getfield 11, 3) := by decide +kernel
theorem dX9_map_62 : decode cX9_map 62 = .ok (.iload_n 2, 1) := by decide +kernel
theorem dX9_map_63 : decode cX9_map 63 = .ok (.aaload, 1) := by decide +kernel
theorem dX9_map_64 : decode cX9_map 64 = .ok (.aload_n 0, 1) := by decide +kernel
theorem dX9_map_65 : decode cX9_map 65 = .ok (.getfield 50, 3) := by decide +kernel
theorem dX9_map_68 : decode cX9_map 68 = .ok (.aload_n 0, 1) := by decide +kernel
theorem dX9_map_69 : decode cX9_map 69 = .ok (.getfield 43, 3) := by decide +kernel
theorem dX9_map_72 : decode cX9_map 72 = .ok (.invokevirtual 196, 3) := by decide +kernel
theorem dX9_map_75 : decode cX9_map 75 = .ok (.aload_n 0, 1) := by decide +kernel
theorem dX9_map_76 : decode cX9_map 76 = .ok (.getfield 57, 3) := by decide +kernel
theorem dX9_map_79 : decode cX9_map 79 = .ok (.getfield 200, 3) := by decide +kernel
theorem dX9_map_82 : decode cX9_map 82 = .ok (.ireturn, 1) := by decide +kernel
theorem dX9_pair_0 : decode cX9_pair 0 = .ok (.iload_n 1, 1) := by decide +kernel
theorem dX9_pair_1 : decode cX9_pair 1 = .ok (.ifCond .lt 14, 3) := by decide +kernel
theorem dX9_pair_4 : decode cX9_pair 4 = .ok (.iload_n 1, 1) := by decide +kernel
theorem dX9_pair_5 : decode cX9_pair 5 = .ok (.aload_n 0, 1) := by decide +kernel
theorem dX9_pair_6 : decode cX9_pair 6 = .ok (.getfield 57, 3) := by decide +kernel
theorem dX9_pair_9 : decode cX9_pair 9 = .ok (.getfield 200, 3) := by decide +kernel
theorem dX9_pair_12 : decode cX9_pair 12 = .ok (.if_icmp .lt 10, 3) := by decide +kernel
theorem dX9_pair_15 : decode cX9_pair 15 = .ok (.aload_n 0, 1) := by decide +kernel
theorem dX9_pair_16 : decode cX9_pair 16 = .ok (.bipush (-6), 2) := by decide +kernel
theorem dX9_pair_18 : decode cX9_pair 18 = .ok (.invokevirtual 78, 3) := by decide +kernel
theorem dX9_pair_21 : decode cX9_pair 21 = .ok (.ireturn, 1) := by decide +kernel
theorem dX9_pair_22 : decode cX9_pair 22 = .ok (.iload_n 2, 1) := by decide +kernel
theorem dX9_pair_23 : decode cX9_pair 23 = .ok (.ifCond .lt 8, 3) := by decide +kernel
theorem dX9_pair_26 : decode cX9_pair 26 = .ok (.iload_n 2, 1) := by decide +kernel
theorem dX9_pair_27 : decode cX9_pair 27 = .ok (.iconst 1, 1) := by decide +kernel
theorem dX9_pair_28 : decode cX9_pair 28 = .ok (.if_icmp .le 9, 3) := by decide +kernel
theorem dX9_pair_31 : decode cX9_pair 31 = .ok (.aload_n 0, 1) := by decide +kernel
theorem dX9_pair_32 : decode cX9_pair 32 = .ok (.iconst (-1), 1) := by decide +kernel
theorem dX9_pair_33 : decode cX9_pair 33 = .ok (.invokevirtual 78, 3) := by decide +kernel
theorem dX9_pair_36 : decode cX9_pair 36 = .ok (.ireturn, 1) := by decide +kernel
theorem dX9_pair_37 : decode cX9_pair 37 = .ok (.iload_n 2, 1) := by decide +kernel
theorem dX9_pair_38 : decode cX9_pair 38 = .ok (.ifCond .ne 15, 3) := by decide +kernel
theorem dX9_pair_41 : decode cX9_pair 41 = .ok (.aload_n 0, 1) := by decide +kernel
theorem dX9_pair_42 : decode cX9_pair 42 = .ok (.getfield 57, 3) := by decide +kernel
theorem dX9_pair_45 : decode cX9_pair 45 = .ok (.getfield 203, 3) := by decide +kernel
theorem dX9_pair_48 : decode cX9_pair 48 = .ok (.iload_n 1, 1) := by decide +kernel
theorem dX9_pair_49 : decode cX9_pair 49 = .ok (.iaload, 1) := by decide +kernel
theorem dX9_pair_50 : decode cX9_pair 50 = .ok (.goto 12, 3) := by decide +kernel
theorem dX9_pair_53 : decode cX9_pair 53 = .ok (.aload_n 0, 1) := by decide +kernel
theorem dX9_pair_54 : decode cX9_pair 54 = .ok (.getfield 57, 3) := by decide +kernel
theorem dX9_pair_57 : decode cX9_pair 57 = .ok (.getfield 206, 3) := by decide +kernel
theorem dX9_pair_60 : decode cX9_pair 60 = .ok (.iload_n 1, 1) := by decide +kernel
theorem dX9_pair_61 : decode cX9_pair 61 = .ok (.iaload, 1) := by decide +kernel
theorem dX9_pair_62 : decode cX9_pair 62 = .ok (.ireturn, 1) := by decide +kernel
theorem dX9_acts_0 : decode cX9_acts 0 = .ok (.aload_n 0, 1) := by decide +kernel
theorem dX9_acts_1 : decode cX9_acts 1 = .ok (.getfield 57, 3) := by decide +kernel
theorem dX9_acts_4 : decode cX9_acts 4 = .ok (.getfield 209, 3) := by decide +kernel
theorem dX9_acts_7 : decode cX9_acts 7 = .ok (.ireturn, 1) := by decide +kernel
theorem dX9_act_0 : decode cX9_act 0 = .ok (.iload_n 1, 1) := by decide +kernel
theorem dX9_act_1 : decode cX9_act 1 = .ok (.ifCond .lt 14, 3) := by decide +kernel
theorem dX9_act_4 : decode cX9_act 4 = .ok (.iload_n 1, 1) := by decide +kernel
theorem dX9_act_5 : decode cX9_act 5 = .ok (.aload_n 0, 1) := by decide +kernel
theorem dX9_act_6 : decode cX9_act 6 = .ok (.getfield 57, 3) := by decide +kernel
theorem dX9_act_9 : decode cX9_act 9 = .ok (.getfield 209, 3) := by decide +kernel
theorem dX9_act_12 : decode cX9_act 12 = .ok (.if_icmp .lt 10, 3) := by decide +kernel
theorem dX9_act_15 : decode cX9_act 15 = .ok (.aload_n 0, 1) := by decide +kernel
theorem dX9_act_16 : decode cX9_act 16 = .ok (.bipush (-6), 2) := by decide +kernel
theorem dX9_act_18 : decode cX9_act 18 = .ok (.invokevirtual 78, 3) := by decide +kernel
theorem dX9_act_21 : decode cX9_act 21 = .ok (.ireturn, 1) := by decide +kernel
theorem dX9_act_22 : decode cX9_act 22 = .ok (.iload_n 2, 1) := by decide +kernel
theorem dX9_act_23 : decode cX9_act 23 = .ok (.ifCond .lt 8, 3) := by decide +kernel
theorem dX9_act_26 : decode cX9_act 26 = .ok (.iload_n 2, 1) := by decide +kernel
theorem dX9_act_27 : decode cX9_act 27 = .ok (.iconst 2, 1) := by decide +kernel
theorem dX9_act_28 : decode cX9_act 28 = .ok (.if_icmp .le 9, 3) := by decide +kernel
theorem dX9_act_31 : decode cX9_act 31 = .ok (.aload_n 0, 1) := by decide +kernel
theorem dX9_act_32 : decode cX9_act 32 = .ok (.iconst (-1), 1) := by decide +kernel
theorem dX9_act_33 : decode cX9_act 33 = .ok (.invokevirtual 78, 3) := by decide +kernel
theorem dX9_act_36 : decode cX9_act 36 = .ok (.ireturn, 1) := by decide +kernel
theorem dX9_act_37 : decode cX9_act 37 = .ok (.iload_n 2, 1) := by decide +kernel
theorem dX9_act_38 : decode cX9_act 38 = .ok (.ifCond .ne 13, 3) := by decide +kernel
theorem dX9_act_41 : decode cX9_act 41 = .ok (.aload_n 0, 1) := by decide +kernel
theorem dX9_act_42 : decode cX9_act 42 = .ok (.getfield 57, 3) := by decide +kernel
theorem dX9_act_45 : decode cX9_act 45 = .ok (.getfield 212, 3) := by decide +kernel
theorem dX9_act_48 : decode cX9_act 48 = .ok (.iload_n 1, 1) := by decide +kernel
theorem dX9_act_49 : decode cX9_act 49 = .ok (.iaload, 1) := by decide +kernel
theorem dX9_act_50 : decode cX9_act 50 = .ok (.ireturn, 1) := by decide +kernel
theorem dX9_act_51 : decode cX9_act 51 = .ok (.iload_n 2, 1) := by decide +kernel
theorem dX9_act_52 : decode cX9_act 52 = .ok (.iconst 1, 1) := by decide +kernel
theorem dX9_act_53 : decode cX9_act 53 = .ok (.if_icmp .ne 15, 3) := by decide +kernel
theorem dX9_act_56 : decode cX9_act 56 = .ok (.aload_n 0, 1) := by decide +kernel
theorem dX9_act_57 : decode cX9_act 57 = .ok (.getfield 57, 3) := by decide +kernel
theorem dX9_act_60 : decode cX9_act 60 = .ok (.getfield 215, 3) := by decide +kernel
theorem dX9_act_63 : decode cX9_act 63 = .ok (.iload_n 1, 1) := by decide +kernel
theorem dX9_act_64 : decode cX9_act 64 = .ok (.iaload, 1) := by decide +kernel
theorem dX9_act_65 : decode cX9_act 65 = .ok (.goto 12, 3) := by decide +kernel
theorem dX9_act_68 : decode cX9_act 68 = .ok (.aload_n 0, 1) := by decide +kernel
theorem dX9_act_69 : decode cX9_act 69 = .ok (.getfield 57, 3) := by decide +kernel
theorem dX9_act_72 : decode cX9_act 72 = .ok (.getfield 218, 3) := by decide +kernel
theorem dX9_act_75 : decode cX9_act 75 = .ok (.iload_n 1, 1) := by decide +kernel
theorem dX9_act_76 : decode cX9_act 76 = .ok (.iaload, 1) := by decide +kernel
theorem dX9_act_77 : decode cX9_act 77 = .ok (.ireturn, 1) := by decide +kernel
theorem dX9_like_0 : decode cX9_like 0 = .ok (.aload_n 0, 1) := by decide +kernel
theorem dX9_like_1 : decode cX9_like 1 = .ok (.getfield 57, 3) := by decide +kernel
theorem dX9_like_4 : decode cX9_like 4 = .ok (.getfield 221, 3) := by decide +kernel
theorem dX9_like_7 : decode cX9_like 7 = .ok (.ifCond .ne 10, 3) := by decide +kernel
theorem dX9_like_10 : decode cX9_like 10 = .ok (.aload_n 0, 1) := by decide +kernel
theorem dX9_like_11 : decode cX9_like 11 = .ok (.bipush (-6), 2) := by decide +kernel
theorem dX9_like_13 : decode cX9_like 13 = .ok (.invokevirtual 78, 3) := by decide +kernel
theorem dX9_like_16 : decode cX9_like 16 = .ok (.ireturn, 1) := by decide +kernel
theorem dX9_like_17 : decode cX9_like 17 = .ok (.sipush 200, 3) := by decide +kernel
theorem dX9_like_20 : decode cX9_like 20 = .ok (.aload_n 0, 1) := by decide +kernel
theorem dX9_like_21 : decode cX9_like 21 = .ok (.getfield 57, 3) := by decide +kernel
theorem dX9_like_24 : decode cX9_like 24 = .ok (.getfield 200, 3) := by decide +kernel
theorem dX9_like_27 : decode cX9_like 27 = .ok (.imul, 1) := by decide +kernel
theorem dX9_like_28 : decode cX9_like 28 = .ok (.aload_n 0, 1) := by decide +kernel
theorem dX9_like_29 : decode cX9_like 29 = .ok (.getfield 57, 3) := by decide +kernel
theorem dX9_like_32 : decode cX9_like 32 = .ok (.getfield 221, 3) := by decide +kernel
theorem dX9_like_35 : decode cX9_like 35 = .ok (.idiv, 1) := by decide +kernel
theorem dX9_like_36 : decode cX9_like 36 = .ok (.ireturn, 1) := by decide +kernel
theorem dX9_same_0 : decode cX9_same 0 = .ok (.aload_n 0, 1) := by decide +kernel
theorem dX9_same_1 : decode cX9_same 1 = .ok (.iload_n 1, 1) := by decide +kernel
theorem dX9_same_2 : decode cX9_same 2 = .ok (.iload_n 2, 1) := by decide +kernel
theorem dX9_same_3 : decode cX9_same 3 = .ok (.invokevirtual 186, 3) := by decide +kernel
theorem dX9_same_6 : decode cX9_same 6 = .ok (.istore_n 3, 1) := by decide +kernel
theorem dX9_same_7 : decode cX9_same 7 = .ok (.iload_n 3, 1) := by decide +kernel
theorem dX9_same_8 : decode cX9_same 8 = .ok (.ifCond .ge 9, 3) := by decide +kernel
theorem dX9_same_11 : decode cX9_same 11 = .ok (.aload_n 0, 1) := by decide +kernel
theorem dX9_same_12 : decode cX9_same 12 = .ok (.iload_n 3, 1) := by decide +kernel
theorem dX9_same_13 : decode cX9_same 13 = .ok (.invokevirtual 78, 3) := by decide +kernel
theorem dX9_same_16 : decode cX9_same 16 = .ok (.ireturn, 1) := by decide +kernel
theorem dX9_same_17 : decode cX9_same 17 = .ok (.aload_n 0, 1) := by decide +kernel
theorem dX9_same_18 : decode cX9_same 18 = .ok (.getfield 64, 3) := by decide +kernel
theorem dX9_same_21 : decode cX9_same 21 = .ok (.invokevirtual 224, 3) := by decide +kernel
theorem dX9_same_24 : decode cX9_same 24 = .ok (.aload_n 0, 1) := by decide +kernel
theorem dX9_same_25 : decode cX9_same 25 = .ok (.getfield 64, 3) := by decide +kernel
theorem dX9_same_28 : decode cX9_same 28 = .ok (.aload_n 0, 1) := by decide +kernel
theorem dX9_same_29 : decode cX9_same 29 = .ok (.getfield 11, 3) := by decide +kernel
theorem dX9_same_32 : decode cX9_same 32 = .ok (.iload_n 1, 1) := by decide +kernel
theorem dX9_same_33 : decode cX9_same 33 = .ok (.aaload, 1) := by decide +kernel
theorem dX9_same_34 : decode cX9_same 34 = .ok (.invokevirtual 227, 3) := by decide +kernel
theorem dX9_same_37 : decode cX9_same 37 = .ok (.aload_n 0, 1) := by decide +kernel
theorem dX9_same_38 : decode cX9_same 38 = .ok (.getfield 64, 3) := by decide +kernel
theorem dX9_same_41 : decode cX9_same 41 = .ok (.getfield 230, 3) := by decide +kernel
theorem dX9_same_44 : decode cX9_same 44 = .ok (.iconst 0, 1) := by decide +kernel
theorem dX9_same_45 : decode cX9_same 45 = .ok (.iaload, 1) := by decide +kernel
theorem dX9_same_46 : decode cX9_same 46 = .ok (.istore 4, 2) := by decide +kernel
theorem dX9_same_48 : decode cX9_same 48 = .ok (.aload_n 0, 1) := by decide +kernel
theorem dX9_same_49 : decode cX9_same 49 = .ok (.getfield 64, 3) := by decide +kernel
theorem dX9_same_52 : decode cX9_same 52 = .ok (.aload_n 0, 1) := by decide +kernel
theorem dX9_same_53 : decode cX9_same 53 = .ok (.getfield 11, 3) := by decide +kernel
theorem dX9_same_56 : decode cX9_same 56 = .ok (.iload_n 2, 1) := by decide +kernel
theorem dX9_same_57 : decode cX9_same 57 = .ok (.aaload, 1) := by decide +kernel
theorem dX9_same_58 : decode cX9_same 58 = .ok (.invokevirtual 227, 3) := by decide +kernel
theorem dX9_same_61 : decode cX9_same 61 = .ok (.aload_n 0, 1) := by decide +kernel
theorem dX9_same_62 : decode cX9_same 62 = .ok (.getfield 64, 3) := by decide +kernel
theorem dX9_same_65 : decode cX9_same 65 = .ok (.getfield 230, 3) := by decide +kernel
theorem dX9_same_68 : decode cX9_same 68 = .ok (.iconst 0, 1) := by decide +kernel
theorem dX9_same_69 : decode cX9_same 69 = .ok (.iaload, 1) := by decide +kernel
theorem dX9_same_70 : decode cX9_same 70 = .ok (.iload 4, 2) := by decide +kernel
theorem dX9_same_72 : decode cX9_same 72 = .ok (.if_icmp .ne 7, 3) := by decide +kernel
theorem dX9_same_75 : decode cX9_same 75 = .ok (.iconst 1, 1) := by decide +kernel
theorem dX9_same_76 : decode cX9_same 76 = .ok (.goto 4, 3) := by decide +kernel
theorem dX9_same_79 : decode cX9_same 79 = .ok (.iconst 0, 1) := by decide +kernel
theorem dX9_same_80 : decode cX9_same 80 = .ok (.ireturn, 1) := by decide +kernel
theorem dX9_unlike_0 : decode cX9_unlike 0 = .ok (.aload_n 0, 1) := by decide +kernel
theorem dX9_unlike_1 : decode cX9_unlike 1 = .ok (.iload_n 1, 1) := by decide +kernel
theorem dX9_unlike_2 : decode cX9_unlike 2 = .ok (.invokevirtual 115, 3) := by decide +kernel
theorem dX9_unlike_5 : decode cX9_unlike 5 = .ok (.istore_n 2, 1) := by decide +kernel
theorem dX9_unlike_6 : decode cX9_unlike 6 = .ok (.iload_n 2, 1) := by decide +kernel
theorem dX9_unlike_7 : decode cX9_unlike 7 = .ok (.ifCond .ge 9, 3) := by decide +kernel
theorem dX9_unlike_10 : decode cX9_unlike 10 = .ok (.aload_n 0, 1) := by decide +kernel
theorem dX9_unlike_11 : decode cX9_unlike 11 = .ok (.iload_n 2, 1) := by decide +kernel
theorem dX9_unlike_12 : decode cX9_unlike 12 = .ok (.invokevirtual 78, 3) := by decide +kernel
theorem dX9_unlike_15 : decode cX9_unlike 15 = .ok (.ireturn, 1) := by decide +kernel
theorem dX9_unlike_16 : decode cX9_unlike 16 = .ok (.aload_n 0, 1) := by decide +kernel
theorem dX9_unlike_17 : decode cX9_unlike 17 = .ok (.getfield 64, 3) := by decide +kernel
theorem dX9_unlike_20 : decode cX9_unlike 20 = .ok (.invokevirtual 224, 3) := by decide +kernel
theorem dX9_unlike_23 : decode cX9_unlike 23 = .ok (.aload_n 0, 1) := by decide +kernel
theorem dX9_unlike_24 : decode cX9_unlike 24 = .ok (.getfield 64, 3) := by decide +kernel
theorem dX9_unlike_27 : decode cX9_unlike 27 = .ok (.aload_n 0, 1) := by decide +kernel
theorem dX9_unlike_28 : decode cX9_unlike 28 = .ok (.getfield 11, 3) := by decide +kernel
theorem dX9_unlike_31 : decode cX9_unlike 31 = .ok (.iload_n 1, 1) := by decide +kernel
theorem dX9_unlike_32 : decode cX9_unlike 32 = .ok (.aaload, 1) := by decide +kernel
theorem dX9_unlike_33 : decode cX9_unlike 33 = .ok (.invokevirtual 227, 3) := by decide +kernel
theorem dX9_unlike_36 : decode cX9_unlike 36 = .ok (.aload_n 0, 1) := by decide +kernel
theorem dX9_unlike_37 : decode cX9_unlike 37 = .ok (.getfield 64, 3) := by decide +kernel
theorem dX9_unlike_40 : decode cX9_unlike 40 = .ok (.getfield 233, 3) := by decide +kernel
theorem dX9_unlike_43 : decode cX9_unlike 43 = .ok (.ireturn, 1) := by decide +kernel
theorem dX9_shared_0 : decode cX9_shared 0 = .ok (.aload_n 0, 1) := by decide +kernel
theorem dX9_shared_1 : decode cX9_shared 1 = .ok (.iload_n 1, 1) := by decide +kernel
theorem dX9_shared_2 : decode cX9_shared 2 = .ok (.iload_n 2, 1) := by decide +kernel
theorem dX9_shared_3 : decode cX9_shared 3 = .ok (.invokevirtual 186, 3) := by decide +kernel
theorem dX9_shared_6 : decode cX9_shared 6 = .ok (.istore_n 3, 1) := by decide +kernel
theorem dX9_shared_7 : decode cX9_shared 7 = .ok (.iload_n 3, 1) := by decide +kernel
theorem dX9_shared_8 : decode cX9_shared 8 = .ok (.ifCond .ge 9, 3) := by decide +kernel
theorem dX9_shared_11 : decode cX9_shared 11 = .ok (.aload_n 0, 1) := by decide +kernel
theorem dX9_shared_12 : decode cX9_shared 12 = .ok (.iload_n 3, 1) := by decide +kernel
theorem dX9_shared_13 : decode cX9_shared 13 = .ok (.invokevirtual 78, 3) := by decide +kernel
theorem dX9_shared_16 : decode cX9_shared 16 = .ok (.ireturn, 1) := by decide +kernel
theorem dX9_shared_17 : decode cX9_shared 17 = .ok (.aload_n 0, 1) := by decide +kernel
theorem dX9_shared_18 : decode cX9_shared 18 = .ok (.getfield 64, 3) := by decide +kernel
theorem dX9_shared_21 : decode cX9_shared 21 = .ok (.invokevirtual 224, 3) := by decide +kernel
theorem dX9_shared_24 : decode cX9_shared 24 = .ok (.aload_n 0, 1) := by decide +kernel
theorem dX9_shared_25 : decode cX9_shared 25 = .ok (.getfield 64, 3) := by decide +kernel
theorem dX9_shared_28 : decode cX9_shared 28 = .ok (.aload_n 0, 1) := by decide +kernel
theorem dX9_shared_29 : decode cX9_shared 29 = .ok (.getfield 11, 3) := by decide +kernel
theorem dX9_shared_32 : decode cX9_shared 32 = .ok (.iload_n 2, 1) := by decide +kernel
theorem dX9_shared_33 : decode cX9_shared 33 = .ok (.aaload, 1) := by decide +kernel
theorem dX9_shared_34 : decode cX9_shared 34 = .ok (.invokevirtual 227, 3) := by decide +kernel
theorem dX9_shared_37 : decode cX9_shared 37 = .ok (.aload_n 0, 1) := by decide +kernel
theorem dX9_shared_38 : decode cX9_shared 38 = .ok (.getfield 64, 3) := by decide +kernel
theorem dX9_shared_41 : decode cX9_shared 41 = .ok (.getfield 233, 3) := by decide +kernel
theorem dX9_shared_44 : decode cX9_shared 44 = .ok (.istore 4, 2) := by decide +kernel
theorem dX9_shared_46 : decode cX9_shared 46 = .ok (.aload_n 0, 1) := by decide +kernel
theorem dX9_shared_47 : decode cX9_shared 47 = .ok (.getfield 64, 3) := by decide +kernel
theorem dX9_shared_50 : decode cX9_shared 50 = .ok (.aload_n 0, 1) := by decide +kernel
theorem dX9_shared_51 : decode cX9_shared 51 = .ok (.getfield 11, 3) := by decide +kernel
theorem dX9_shared_54 : decode cX9_shared 54 = .ok (.iload_n 1, 1) := by decide +kernel
theorem dX9_shared_55 : decode cX9_shared 55 = .ok (.aaload, 1) := by decide +kernel
theorem dX9_shared_56 : decode cX9_shared 56 = .ok (.invokevirtual 227, 3) := by decide +kernel
theorem dX9_shared_59 : decode cX9_shared 59 = .ok (.iconst 0, 1) := by decide +kernel
theorem dX9_shared_60 : decode cX9_shared 60 = .ok (.istore 5, 2) := by decide +kernel
theorem dX9_shared_62 : decode cX9_shared 62 = .ok (.iconst 0, 1) := by decide +kernel
theorem dX9_shared_63 : decode cX9_shared 63 = .ok (.istore 6, 2) := by decide +kernel
theorem dX9_shared_65 : decode cX9_shared 65 = .ok (.iload 6, 2) := by decide +kernel
theorem dX9_shared_67 : decode cX9_shared 67 = .ok (.aload_n 0, 1) := by decide +kernel
theorem dX9_shared_68 : decode cX9_shared 68 = .ok (.getfield 11, 3) := by decide +kernel
theorem dX9_shared_71 : decode cX9_shared 71 = .ok (.iload_n 1, 1) := by decide +kernel
theorem dX9_shared_72 : decode cX9_shared 72 = .ok (.aaload, 1) := by decide +kernel
theorem dX9_shared_73 : decode cX9_shared 73 = .ok (.getfield 102, 3) := by decide +kernel
theorem dX9_shared_76 : decode cX9_shared 76 = .ok (.if_icmp .ge 27, 3) := by decide +kernel
theorem dX9_shared_79 : decode cX9_shared 79 = .ok (.aload_n 0, 1) := by decide +kernel
theorem dX9_shared_80 : decode cX9_shared 80 = .ok (.getfield 64, 3) := by decide +kernel
theorem dX9_shared_83 : decode cX9_shared 83 = .ok (.getfield 230, 3) := by decide +kernel
theorem dX9_shared_86 : decode cX9_shared 86 = .ok (.iload 6, 2) := by decide +kernel
theorem dX9_shared_88 : decode cX9_shared 88 = .ok (.iaload, 1) := by decide +kernel
theorem dX9_shared_89 : decode cX9_shared 89 = .ok (.iload 4, 2) := by decide +kernel
theorem dX9_shared_91 : decode cX9_shared 91 = .ok (.if_icmp .ge 6, 3) := by decide +kernel
theorem dX9_shared_94 : decode cX9_shared 94 = .ok (.iinc 5 1, 3) := by decide +kernel
theorem dX9_shared_97 : decode cX9_shared 97 = .ok (.iinc 6 1, 3) := by decide +kernel
theorem dX9_shared_100 : decode cX9_shared 100 = .ok (.goto (-35), 3) := by decide +kernel
theorem dX9_shared_103 : decode cX9_shared 103 = .ok (.iload 5, 2) := by decide +kernel
theorem dX9_shared_105 : decode cX9_shared 105 = .ok (.ireturn, 1) := by decide +kernel
theorem dX9_merge_0 : decode cX9_merge 0 = .ok (.aload_n 0, 1) := by decide +kernel
theorem dX9_merge_1 : decode cX9_merge 1 = .ok (.iload_n 1, 1) := by decide +kernel
theorem dX9_merge_2 : decode cX9_merge 2 = .ok (.iload_n 2, 1) := by decide +kernel
theorem dX9_merge_3 : decode cX9_merge 3 = .ok (.invokevirtual 186, 3) := by decide +kernel
theorem dX9_merge_6 : decode cX9_merge 6 = .ok (.istore 5, 2) := by decide +kernel
theorem dX9_merge_8 : decode cX9_merge 8 = .ok (.iload 5, 2) := by decide +kernel
theorem dX9_merge_10 : decode cX9_merge 10 = .ok (.ifCond .ne 10, 3) := by decide +kernel
theorem dX9_merge_13 : decode cX9_merge 13 = .ok (.aload_n 0, 1) := by decide +kernel
theorem dX9_merge_14 : decode cX9_merge 14 = .ok (.iload_n 3, 1) := by decide +kernel
theorem dX9_merge_15 : decode cX9_merge 15 = .ok (.invokevirtual 115, 3) := by decide +kernel
theorem dX9_merge_18 : decode cX9_merge 18 = .ok (.istore 5, 2) := by decide +kernel
theorem dX9_merge_20 : decode cX9_merge 20 = .ok (.iload 5, 2) := by decide +kernel
theorem dX9_merge_22 : decode cX9_merge 22 = .ok (.ifCond .ge 10, 3) := by decide +kernel
theorem dX9_merge_25 : decode cX9_merge 25 = .ok (.aload_n 0, 1) := by decide +kernel
theorem dX9_merge_26 : decode cX9_merge 26 = .ok (.iload 5, 2) := by decide +kernel
theorem dX9_merge_28 : decode cX9_merge 28 = .ok (.invokevirtual 78, 3) := by decide +kernel
theorem dX9_merge_31 : decode cX9_merge 31 = .ok (.ireturn, 1) := by decide +kernel
theorem dX9_merge_32 : decode cX9_merge 32 = .ok (.iload 4, 2) := by decide +kernel
theorem dX9_merge_34 : decode cX9_merge 34 = .ok (.invokestatic 94, 3) := by decide +kernel
theorem dX9_merge_37 : decode cX9_merge 37 = .ok (.ifCond .ne 9, 3) := by decide +kernel
theorem dX9_merge_40 : decode cX9_merge 40 = .ok (.aload_n 0, 1) := by decide +kernel
theorem dX9_merge_41 : decode cX9_merge 41 = .ok (.iconst (-1), 1) := by decide +kernel
theorem dX9_merge_42 : decode cX9_merge 42 = .ok (.invokevirtual 78, 3) := by decide +kernel
theorem dX9_merge_45 : decode cX9_merge 45 = .ok (.ireturn, 1) := by decide +kernel
theorem dX9_merge_46 : decode cX9_merge 46 = .ok (.aload_n 0, 1) := by decide +kernel
theorem dX9_merge_47 : decode cX9_merge 47 = .ok (.getfield 71, 3) := by decide +kernel
theorem dX9_merge_50 : decode cX9_merge 50 = .ok (.aload_n 0, 1) := by decide +kernel
theorem dX9_merge_51 : decode cX9_merge 51 = .ok (.getfield 11, 3) := by decide +kernel
theorem dX9_merge_54 : decode cX9_merge 54 = .ok (.iload_n 1, 1) := by decide +kernel
theorem dX9_merge_55 : decode cX9_merge 55 = .ok (.aaload, 1) := by decide +kernel
theorem dX9_merge_56 : decode cX9_merge 56 = .ok (.aload_n 0, 1) := by decide +kernel
theorem dX9_merge_57 : decode cX9_merge 57 = .ok (.getfield 11, 3) := by decide +kernel
theorem dX9_merge_60 : decode cX9_merge 60 = .ok (.iload_n 2, 1) := by decide +kernel
theorem dX9_merge_61 : decode cX9_merge 61 = .ok (.aaload, 1) := by decide +kernel
theorem dX9_merge_62 : decode cX9_merge 62 = .ok (.aload_n 0, 1) := by decide +kernel
theorem dX9_merge_63 : decode cX9_merge 63 = .ok (.getfield 11, 3) := by decide +kernel
theorem dX9_merge_66 : decode cX9_merge 66 = .ok (.iload_n 3, 1) := by decide +kernel
theorem dX9_merge_67 : decode cX9_merge 67 = .ok (.aaload, 1) := by decide +kernel
theorem dX9_merge_68 : decode cX9_merge 68 = .ok (.invokevirtual 236, 3) := by decide +kernel
theorem dX9_merge_71 : decode cX9_merge 71 = .ok (.aload_n 0, 1) := by decide +kernel
theorem dX9_merge_72 : decode cX9_merge 72 = .ok (.getfield 71, 3) := by decide +kernel
theorem dX9_merge_75 : decode cX9_merge 75 = .ok (.getfield 240, 3) := by decide +kernel
theorem dX9_merge_78 : decode cX9_merge 78 = .ok (.getfield 102, 3) := by decide +kernel
theorem dX9_merge_81 : decode cX9_merge 81 = .ok (.ifCond .le 20, 3) := by decide +kernel
theorem dX9_merge_84 : decode cX9_merge 84 = .ok (.aload_n 0, 1) := by decide +kernel
theorem dX9_merge_85 : decode cX9_merge 85 = .ok (.getfield 11, 3) := by decide +kernel
theorem dX9_merge_88 : decode cX9_merge 88 = .ok (.iload 4, 2) := by decide +kernel
theorem dX9_merge_90 : decode cX9_merge 90 = .ok (.aaload, 1) := by decide +kernel
theorem dX9_merge_91 : decode cX9_merge 91 = .ok (.aload_n 0, 1) := by decide +kernel
theorem dX9_merge_92 : decode cX9_merge 92 = .ok (.getfield 71, 3) := by decide +kernel
theorem dX9_merge_95 : decode cX9_merge 95 = .ok (.getfield 240, 3) := by decide +kernel
theorem dX9_merge_98 : decode cX9_merge 98 = .ok (.invokevirtual 111, 3) := by decide +kernel
theorem dX9_merge_101 : decode cX9_merge 101 = .ok (.aload_n 0, 1) := by decide +kernel
theorem dX9_merge_102 : decode cX9_merge 102 = .ok (.getfield 71, 3) := by decide +kernel
theorem dX9_merge_105 : decode cX9_merge 105 = .ok (.getfield 243, 3) := by decide +kernel
theorem dX9_merge_108 : decode cX9_merge 108 = .ok (.ireturn, 1) := by decide +kernel
theorem dX9_merged_0 : decode cX9_merged 0 = .ok (.aload_n 0, 1) := by decide +kernel
theorem dX9_merged_1 : decode cX9_merged 1 = .ok (.getfield 71, 3) := by decide +kernel
theorem dX9_merged_4 : decode cX9_merged 4 = .ok (.getfield 240, 3) := by decide +kernel
theorem dX9_merged_7 : decode cX9_merged 7 = .ok (.getfield 102, 3) := by decide +kernel
theorem dX9_merged_10 : decode cX9_merged 10 = .ok (.ireturn, 1) := by decide +kernel
theorem dX9_clash_0 : decode cX9_clash 0 = .ok (.iload_n 1, 1) := by decide +kernel
theorem dX9_clash_1 : decode cX9_clash 1 = .ok (.ifCond .lt 14, 3) := by decide +kernel
theorem dX9_clash_4 : decode cX9_clash 4 = .ok (.iload_n 1, 1) := by decide +kernel
theorem dX9_clash_5 : decode cX9_clash 5 = .ok (.aload_n 0, 1) := by decide +kernel
theorem dX9_clash_6 : decode cX9_clash 6 = .ok (.getfield 71, 3) := by decide +kernel
theorem dX9_clash_9 : decode cX9_clash 9 = .ok (.getfield 243, 3) := by decide +kernel
theorem dX9_clash_12 : decode cX9_clash 12 = .ok (.if_icmp .lt 10, 3) := by decide +kernel
theorem dX9_clash_15 : decode cX9_clash 15 = .ok (.aload_n 0, 1) := by decide +kernel
theorem dX9_clash_16 : decode cX9_clash 16 = .ok (.bipush (-6), 2) := by decide +kernel
theorem dX9_clash_18 : decode cX9_clash 18 = .ok (.invokevirtual 78, 3) := by decide +kernel
theorem dX9_clash_21 : decode cX9_clash 21 = .ok (.ireturn, 1) := by decide +kernel
theorem dX9_clash_22 : decode cX9_clash 22 = .ok (.iload_n 2, 1) := by decide +kernel
theorem dX9_clash_23 : decode cX9_clash 23 = .ok (.ifCond .lt 8, 3) := by decide +kernel
theorem dX9_clash_26 : decode cX9_clash 26 = .ok (.iload_n 2, 1) := by decide +kernel
theorem dX9_clash_27 : decode cX9_clash 27 = .ok (.iconst 1, 1) := by decide +kernel
theorem dX9_clash_28 : decode cX9_clash 28 = .ok (.if_icmp .le 9, 3) := by decide +kernel
theorem dX9_clash_31 : decode cX9_clash 31 = .ok (.aload_n 0, 1) := by decide +kernel
theorem dX9_clash_32 : decode cX9_clash 32 = .ok (.iconst (-1), 1) := by decide +kernel
theorem dX9_clash_33 : decode cX9_clash 33 = .ok (.invokevirtual 78, 3) := by decide +kernel
theorem dX9_clash_36 : decode cX9_clash 36 = .ok (.ireturn, 1) := by decide +kernel
theorem dX9_clash_37 : decode cX9_clash 37 = .ok (.iload_n 2, 1) := by decide +kernel
theorem dX9_clash_38 : decode cX9_clash 38 = .ok (.ifCond .ne 15, 3) := by decide +kernel
theorem dX9_clash_41 : decode cX9_clash 41 = .ok (.aload_n 0, 1) := by decide +kernel
theorem dX9_clash_42 : decode cX9_clash 42 = .ok (.getfield 71, 3) := by decide +kernel
theorem dX9_clash_45 : decode cX9_clash 45 = .ok (.getfield 246, 3) := by decide +kernel
theorem dX9_clash_48 : decode cX9_clash 48 = .ok (.iload_n 1, 1) := by decide +kernel
theorem dX9_clash_49 : decode cX9_clash 49 = .ok (.iaload, 1) := by decide +kernel
theorem dX9_clash_50 : decode cX9_clash 50 = .ok (.goto 12, 3) := by decide +kernel
theorem dX9_clash_53 : decode cX9_clash 53 = .ok (.aload_n 0, 1) := by decide +kernel
theorem dX9_clash_54 : decode cX9_clash 54 = .ok (.getfield 71, 3) := by decide +kernel
theorem dX9_clash_57 : decode cX9_clash 57 = .ok (.getfield 249, 3) := by decide +kernel
theorem dX9_clash_60 : decode cX9_clash 60 = .ok (.iload_n 1, 1) := by decide +kernel
theorem dX9_clash_61 : decode cX9_clash 61 = .ok (.iaload, 1) := by decide +kernel
theorem dX9_clash_62 : decode cX9_clash 62 = .ok (.ireturn, 1) := by decide +kernel
theorem dX9_found_0 : decode cX9_found 0 = .ok (.iload_n 1, 1) := by decide +kernel
theorem dX9_found_1 : decode cX9_found 1 = .ok (.iconst (-1), 1) := by decide +kernel
theorem dX9_found_2 : decode cX9_found 2 = .ok (.if_icmp .gt 9, 3) := by decide +kernel
theorem dX9_found_5 : decode cX9_found 5 = .ok (.iload_n 1, 1) := by decide +kernel
theorem dX9_found_6 : decode cX9_found 6 = .ok (.bipush (-7), 2) := by decide +kernel
theorem dX9_found_8 : decode cX9_found 8 = .ok (.if_icmp .ge 9, 3) := by decide +kernel
theorem dX9_found_11 : decode cX9_found 11 = .ok (.iload_n 1, 1) := by decide +kernel
theorem dX9_found_12 : decode cX9_found 12 = .ok (.bipush (-9), 2) := by decide +kernel
theorem dX9_found_14 : decode cX9_found 14 = .ok (.if_icmp .ne 7, 3) := by decide +kernel
theorem dX9_found_17 : decode cX9_found 17 = .ok (.iconst 1, 1) := by decide +kernel
theorem dX9_found_18 : decode cX9_found 18 = .ok (.goto 4, 3) := by decide +kernel
theorem dX9_found_21 : decode cX9_found 21 = .ok (.iconst 0, 1) := by decide +kernel
theorem dX9_found_22 : decode cX9_found 22 = .ok (.istore_n 2, 1) := by decide +kernel
theorem dX9_found_23 : decode cX9_found 23 = .ok (.iload_n 2, 1) := by decide +kernel
theorem dX9_found_24 : decode cX9_found 24 = .ok (.ifCond .eq 13, 3) := by decide +kernel
theorem dX9_found_27 : decode cX9_found 27 = .ok (.aload_n 0, 1) := by decide +kernel
theorem dX9_found_28 : decode cX9_found 28 = .ok (.getfield 75, 3) := by decide +kernel
theorem dX9_found_31 : decode cX9_found 31 = .ok (.iload_n 1, 1) := by decide +kernel
theorem dX9_found_32 : decode cX9_found 32 = .ok (.ineg, 1) := by decide +kernel
theorem dX9_found_33 : decode cX9_found 33 = .ok (.iaload, 1) := by decide +kernel
theorem dX9_found_34 : decode cX9_found 34 = .ok (.goto 8, 3) := by decide +kernel
theorem dX9_found_37 : decode cX9_found 37 = .ok (.aload_n 0, 1) := by decide +kernel
theorem dX9_found_38 : decode cX9_found 38 = .ok (.iconst (-1), 1) := by decide +kernel
theorem dX9_found_39 : decode cX9_found 39 = .ok (.invokevirtual 78, 3) := by decide +kernel
theorem dX9_found_42 : decode cX9_found 42 = .ok (.ireturn, 1) := by decide +kernel
theorem dX9_tell_0 : decode cX9_tell 0 = .ok (.aload_n 0, 1) := by decide +kernel
theorem dX9_tell_1 : decode cX9_tell 1 = .ok (.getfield 75, 3) := by decide +kernel
theorem dX9_tell_4 : decode cX9_tell 4 = .ok (.iload_n 1, 1) := by decide +kernel
theorem dX9_tell_5 : decode cX9_tell 5 = .ok (.ineg, 1) := by decide +kernel
theorem dX9_tell_6 : decode cX9_tell 6 = .ok (.dup2, 1) := by decide +kernel
theorem dX9_tell_7 : decode cX9_tell 7 = .ok (.iaload, 1) := by decide +kernel
theorem dX9_tell_8 : decode cX9_tell 8 = .ok (.iconst 1, 1) := by decide +kernel
theorem dX9_tell_9 : decode cX9_tell 9 = .ok (.iadd, 1) := by decide +kernel
theorem dX9_tell_10 : decode cX9_tell 10 = .ok (.iastore, 1) := by decide +kernel
theorem dX9_tell_11 : decode cX9_tell 11 = .ok (.iload_n 1, 1) := by decide +kernel
theorem dX9_tell_12 : decode cX9_tell 12 = .ok (.ireturn, 1) := by decide +kernel
theorem dX9_isPlace_0 : decode cX9_isPlace 0 = .ok (.iload_n 0, 1) := by decide +kernel
theorem dX9_isPlace_1 : decode cX9_isPlace 1 = .ok (.ifCond .lt 13, 3) := by decide +kernel
theorem dX9_isPlace_4 : decode cX9_isPlace 4 = .ok (.iload_n 0, 1) := by decide +kernel
theorem dX9_isPlace_5 : decode cX9_isPlace 5 = .ok (.bipush 8, 2) := by decide +kernel
theorem dX9_isPlace_7 : decode cX9_isPlace 7 = .ok (.if_icmp .ge 7, 3) := by decide +kernel
theorem dX9_isPlace_10 : decode cX9_isPlace 10 = .ok (.iconst 1, 1) := by decide +kernel
theorem dX9_isPlace_11 : decode cX9_isPlace 11 = .ok (.goto 4, 3) := by decide +kernel
theorem dX9_isPlace_14 : decode cX9_isPlace 14 = .ok (.iconst 0, 1) := by decide +kernel
theorem dX9_isPlace_15 : decode cX9_isPlace 15 = .ok (.ireturn, 1) := by decide +kernel
theorem dX9_lackOfTree_0 : decode cX9_lackOfTree 0 = .ok (.iload_n 1, 1) := by decide +kernel
theorem dX9_lackOfTree_1 : decode cX9_lackOfTree 1 = .ok (.invokestatic 94, 3) := by decide +kernel
theorem dX9_lackOfTree_4 : decode cX9_lackOfTree 4 = .ok (.ifCond .ne 5, 3) := by decide +kernel
theorem dX9_lackOfTree_7 : decode cX9_lackOfTree 7 = .ok (.iconst (-1), 1) := by decide +kernel
theorem dX9_lackOfTree_8 : decode cX9_lackOfTree 8 = .ok (.ireturn, 1) := by decide +kernel
theorem dX9_lackOfTree_9 : decode cX9_lackOfTree 9 = .ok (.aload_n 0, 1) := by decide +kernel
theorem dX9_lackOfTree_10 : decode cX9_lackOfTree 10 = .ok (.getfield 11, 3) := by decide +kernel
theorem dX9_lackOfTree_13 : decode cX9_lackOfTree 13 = .ok (.iload_n 1, 1) := by decide +kernel
theorem dX9_lackOfTree_14 : decode cX9_lackOfTree 14 = .ok (.aaload, 1) := by decide +kernel
theorem dX9_lackOfTree_15 : decode cX9_lackOfTree 15 = .ok (.getfield 102, 3) := by decide +kernel
theorem dX9_lackOfTree_18 : decode cX9_lackOfTree 18 = .ok (.ifCond .ne 8, 3) := by decide +kernel
theorem dX9_lackOfTree_21 : decode cX9_lackOfTree 21 = .ok (.bipush (-2), 2) := by decide +kernel
theorem dX9_lackOfTree_23 : decode cX9_lackOfTree 23 = .ok (.goto 4, 3) := by decide +kernel
theorem dX9_lackOfTree_26 : decode cX9_lackOfTree 26 = .ok (.iconst 0, 1) := by decide +kernel
theorem dX9_lackOfTree_27 : decode cX9_lackOfTree 27 = .ok (.ireturn, 1) := by decide +kernel
theorem dX9_lackOfTrees_0 : decode cX9_lackOfTrees 0 = .ok (.aload_n 0, 1) := by decide +kernel
theorem dX9_lackOfTrees_1 : decode cX9_lackOfTrees 1 = .ok (.iload_n 1, 1) := by decide +kernel
theorem dX9_lackOfTrees_2 : decode cX9_lackOfTrees 2 = .ok (.invokevirtual 115, 3) := by decide +kernel
theorem dX9_lackOfTrees_5 : decode cX9_lackOfTrees 5 = .ok (.istore_n 3, 1) := by decide +kernel
theorem dX9_lackOfTrees_6 : decode cX9_lackOfTrees 6 = .ok (.iload_n 3, 1) := by decide +kernel
theorem dX9_lackOfTrees_7 : decode cX9_lackOfTrees 7 = .ok (.ifCond .ge 7, 3) := by decide +kernel
theorem dX9_lackOfTrees_10 : decode cX9_lackOfTrees 10 = .ok (.iload_n 3, 1) := by decide +kernel
theorem dX9_lackOfTrees_11 : decode cX9_lackOfTrees 11 = .ok (.goto 8, 3) := by decide +kernel
theorem dX9_lackOfTrees_14 : decode cX9_lackOfTrees 14 = .ok (.aload_n 0, 1) := by decide +kernel
theorem dX9_lackOfTrees_15 : decode cX9_lackOfTrees 15 = .ok (.iload_n 2, 1) := by decide +kernel
theorem dX9_lackOfTrees_16 : decode cX9_lackOfTrees 16 = .ok (.invokevirtual 115, 3) := by decide +kernel
theorem dX9_lackOfTrees_19 : decode cX9_lackOfTrees 19 = .ok (.ireturn, 1) := by decide +kernel
theorem dX9_seekNode_0 : decode cX9_seekNode 0 = .ok (.aload_n 0, 1) := by decide +kernel
theorem dX9_seekNode_1 : decode cX9_seekNode 1 = .ok (.iload_n 1, 1) := by decide +kernel
theorem dX9_seekNode_2 : decode cX9_seekNode 2 = .ok (.invokevirtual 115, 3) := by decide +kernel
theorem dX9_seekNode_5 : decode cX9_seekNode 5 = .ok (.istore_n 3, 1) := by decide +kernel
theorem dX9_seekNode_6 : decode cX9_seekNode 6 = .ok (.iload_n 3, 1) := by decide +kernel
theorem dX9_seekNode_7 : decode cX9_seekNode 7 = .ok (.ifCond .ge 5, 3) := by decide +kernel
theorem dX9_seekNode_10 : decode cX9_seekNode 10 = .ok (.iload_n 3, 1) := by decide +kernel
theorem dX9_seekNode_11 : decode cX9_seekNode 11 = .ok (.ireturn, 1) := by decide +kernel
theorem dX9_seekNode_12 : decode cX9_seekNode 12 = .ok (.aload_n 0, 1) := by decide +kernel
theorem dX9_seekNode_13 : decode cX9_seekNode 13 = .ok (.getfield 11, 3) := by decide +kernel
theorem dX9_seekNode_16 : decode cX9_seekNode 16 = .ok (.iload_n 1, 1) := by decide +kernel
theorem dX9_seekNode_17 : decode cX9_seekNode 17 = .ok (.aaload, 1) := by decide +kernel
theorem dX9_seekNode_18 : decode cX9_seekNode 18 = .ok (.iload_n 2, 1) := by decide +kernel
theorem dX9_seekNode_19 : decode cX9_seekNode 19 = .ok (.invokevirtual 252, 3) := by decide +kernel
theorem dX9_seekNode_22 : decode cX9_seekNode 22 = .ok (.istore 4, 2) := by decide +kernel
theorem dX9_seekNode_24 : decode cX9_seekNode 24 = .ok (.iload 4, 2) := by decide +kernel
theorem dX9_seekNode_26 : decode cX9_seekNode 26 = .ok (.iconst (-1), 1) := by decide +kernel
theorem dX9_seekNode_27 : decode cX9_seekNode 27 = .ok (.if_icmp .ne 8, 3) := by decide +kernel
theorem dX9_seekNode_30 : decode cX9_seekNode 30 = .ok (.bipush (-6), 2) := by decide +kernel
theorem dX9_seekNode_32 : decode cX9_seekNode 32 = .ok (.goto 5, 3) := by decide +kernel
theorem dX9_seekNode_35 : decode cX9_seekNode 35 = .ok (.iload 4, 2) := by decide +kernel
theorem dX9_seekNode_37 : decode cX9_seekNode 37 = .ok (.ireturn, 1) := by decide +kernel
theorem dX9_seekParent_0 : decode cX9_seekParent 0 = .ok (.iload_n 1, 1) := by decide +kernel
theorem dX9_seekParent_1 : decode cX9_seekParent 1 = .ok (.ifCond .ne 6, 3) := by decide +kernel
theorem dX9_seekParent_4 : decode cX9_seekParent 4 = .ok (.bipush (-7), 2) := by decide +kernel
theorem dX9_seekParent_6 : decode cX9_seekParent 6 = .ok (.ireturn, 1) := by decide +kernel
theorem dX9_seekParent_7 : decode cX9_seekParent 7 = .ok (.aload_n 0, 1) := by decide +kernel
theorem dX9_seekParent_8 : decode cX9_seekParent 8 = .ok (.iload_n 2, 1) := by decide +kernel
theorem dX9_seekParent_9 : decode cX9_seekParent 9 = .ok (.invokevirtual 252, 3) := by decide +kernel
theorem dX9_seekParent_12 : decode cX9_seekParent 12 = .ok (.istore_n 3, 1) := by decide +kernel
theorem dX9_seekParent_13 : decode cX9_seekParent 13 = .ok (.iload_n 3, 1) := by decide +kernel
theorem dX9_seekParent_14 : decode cX9_seekParent 14 = .ok (.iconst (-1), 1) := by decide +kernel
theorem dX9_seekParent_15 : decode cX9_seekParent 15 = .ok (.if_icmp .ne 6, 3) := by decide +kernel
theorem dX9_seekParent_18 : decode cX9_seekParent 18 = .ok (.bipush (-6), 2) := by decide +kernel
theorem dX9_seekParent_20 : decode cX9_seekParent 20 = .ok (.ireturn, 1) := by decide +kernel
theorem dX9_seekParent_21 : decode cX9_seekParent 21 = .ok (.aload_n 0, 1) := by decide +kernel
theorem dX9_seekParent_22 : decode cX9_seekParent 22 = .ok (.getfield 156, 3) := by decide +kernel
theorem dX9_seekParent_25 : decode cX9_seekParent 25 = .ok (.iload_n 3, 1) := by decide +kernel
theorem dX9_seekParent_26 : decode cX9_seekParent 26 = .ok (.iaload, 1) := by decide +kernel
theorem dX9_seekParent_27 : decode cX9_seekParent 27 = .ok (.iconst 3, 1) := by decide +kernel
theorem dX9_seekParent_28 : decode cX9_seekParent 28 = .ok (.if_icmp .ne 6, 3) := by decide +kernel
theorem dX9_seekParent_31 : decode cX9_seekParent 31 = .ok (.bipush (-3), 2) := by decide +kernel
theorem dX9_seekParent_33 : decode cX9_seekParent 33 = .ok (.ireturn, 1) := by decide +kernel
theorem dX9_seekParent_34 : decode cX9_seekParent 34 = .ok (.iload_n 3, 1) := by decide +kernel
theorem dX9_seekParent_35 : decode cX9_seekParent 35 = .ok (.iload_n 1, 1) := by decide +kernel
theorem dX9_seekParent_36 : decode cX9_seekParent 36 = .ok (.if_icmp .lt 17, 3) := by decide +kernel
theorem dX9_seekParent_39 : decode cX9_seekParent 39 = .ok (.iload_n 3, 1) := by decide +kernel
theorem dX9_seekParent_40 : decode cX9_seekParent 40 = .ok (.aload_n 0, 1) := by decide +kernel
theorem dX9_seekParent_41 : decode cX9_seekParent 41 = .ok (.iload_n 1, 1) := by decide +kernel
theorem dX9_seekParent_42 : decode cX9_seekParent 42 = .ok (.invokevirtual 255, 3) := by decide +kernel
theorem dX9_seekParent_45 : decode cX9_seekParent 45 = .ok (.if_icmp .ge 8, 3) := by decide +kernel
theorem dX9_seekParent_48 : decode cX9_seekParent 48 = .ok (.bipush (-7), 2) := by decide +kernel
theorem dX9_seekParent_50 : decode cX9_seekParent 50 = .ok (.goto 4, 3) := by decide +kernel
theorem dX9_seekParent_53 : decode cX9_seekParent 53 = .ok (.iload_n 3, 1) := by decide +kernel
theorem dX9_seekParent_54 : decode cX9_seekParent 54 = .ok (.ireturn, 1) := by decide +kernel
theorem dX9_tryOut_0 : decode cX9_tryOut 0 = .ok (.aload_n 0, 1) := by decide +kernel
theorem dX9_tryOut_1 : decode cX9_tryOut 1 = .ok (.getfield 16, 3) := by decide +kernel
theorem dX9_tryOut_4 : decode cX9_tryOut 4 = .ok (.invokevirtual 258, 3) := by decide +kernel
theorem dX9_tryOut_7 : decode cX9_tryOut 7 = .ok (.ifCond .eq 10, 3) := by decide +kernel
theorem dX9_tryOut_10 : decode cX9_tryOut 10 = .ok (.aload_n 0, 1) := by decide +kernel
theorem dX9_tryOut_11 : decode cX9_tryOut 11 = .ok (.bipush (-5), 2) := by decide +kernel
theorem dX9_tryOut_13 : decode cX9_tryOut 13 = .ok (.invokevirtual 78, 3) := by decide +kernel
theorem dX9_tryOut_16 : decode cX9_tryOut 16 = .ok (.ireturn, 1) := by decide +kernel
theorem dX9_tryOut_17 : decode cX9_tryOut 17 = .ok (.aload_n 0, 1) := by decide +kernel
theorem dX9_tryOut_18 : decode cX9_tryOut 18 = .ok (.getfield 16, 3) := by decide +kernel
theorem dX9_tryOut_21 : decode cX9_tryOut 21 = .ok (.invokevirtual 262, 3) := by decide +kernel
theorem dX9_tryOut_24 : decode cX9_tryOut 24 = .ok (.ifCond .eq 10, 3) := by decide +kernel
theorem dX9_tryOut_27 : decode cX9_tryOut 27 = .ok (.aload_n 0, 1) := by decide +kernel
theorem dX9_tryOut_28 : decode cX9_tryOut 28 = .ok (.bipush (-4), 2) := by decide +kernel
theorem dX9_tryOut_30 : decode cX9_tryOut 30 = .ok (.invokevirtual 78, 3) := by decide +kernel
theorem dX9_tryOut_33 : decode cX9_tryOut 33 = .ok (.ireturn, 1) := by decide +kernel
theorem dX9_tryOut_34 : decode cX9_tryOut 34 = .ok (.aload_n 0, 1) := by decide +kernel
theorem dX9_tryOut_35 : decode cX9_tryOut 35 = .ok (.getfield 11, 3) := by decide +kernel
theorem dX9_tryOut_38 : decode cX9_tryOut 38 = .ok (.iload_n 1, 1) := by decide +kernel
theorem dX9_tryOut_39 : decode cX9_tryOut 39 = .ok (.aaload, 1) := by decide +kernel
theorem dX9_tryOut_40 : decode cX9_tryOut 40 = .ok (.aload_n 0, 1) := by decide +kernel
theorem dX9_tryOut_41 : decode cX9_tryOut 41 = .ok (.getfield 16, 3) := by decide +kernel
theorem dX9_tryOut_44 : decode cX9_tryOut 44 = .ok (.invokevirtual 111, 3) := by decide +kernel
theorem dX9_tryOut_47 : decode cX9_tryOut 47 = .ok (.iload_n 2, 1) := by decide +kernel
theorem dX9_tryOut_48 : decode cX9_tryOut 48 = .ok (.ireturn, 1) := by decide +kernel
theorem dX9_detail_0 : decode cX9_detail 0 = .ok (.iload_n 2, 1) := by decide +kernel
theorem dX9_detail_1 : decode cX9_detail 1 = .ok (.tableswitch 120 0 7 #[47, 54, 61, 67, 74, 97, 104, 110], 47) := by decide +kernel
theorem dX9_detail_48 : decode cX9_detail 48 = .ok (.aload_n 0, 1) := by decide +kernel
theorem dX9_detail_49 : decode cX9_detail 49 = .ok (.getfield 105, 3) := by decide +kernel
theorem dX9_detail_52 : decode cX9_detail 52 = .ok (.iload_n 1, 1) := by decide +kernel
theorem dX9_detail_53 : decode cX9_detail 53 = .ok (.iaload, 1) := by decide +kernel
theorem dX9_detail_54 : decode cX9_detail 54 = .ok (.ireturn, 1) := by decide +kernel
theorem dX9_detail_55 : decode cX9_detail 55 = .ok (.aload_n 0, 1) := by decide +kernel
theorem dX9_detail_56 : decode cX9_detail 56 = .ok (.getfield 156, 3) := by decide +kernel
theorem dX9_detail_59 : decode cX9_detail 59 = .ok (.iload_n 1, 1) := by decide +kernel
theorem dX9_detail_60 : decode cX9_detail 60 = .ok (.iaload, 1) := by decide +kernel
theorem dX9_detail_61 : decode cX9_detail 61 = .ok (.ireturn, 1) := by decide +kernel
theorem dX9_detail_62 : decode cX9_detail 62 = .ok (.aload_n 0, 1) := by decide +kernel
theorem dX9_detail_63 : decode cX9_detail 63 = .ok (.iload_n 1, 1) := by decide +kernel
theorem dX9_detail_64 : decode cX9_detail 64 = .ok (.invokevirtual 159, 3) := by decide +kernel
theorem dX9_detail_67 : decode cX9_detail 67 = .ok (.ireturn, 1) := by decide +kernel
theorem dX9_detail_68 : decode cX9_detail 68 = .ok (.aload_n 0, 1) := by decide +kernel
theorem dX9_detail_69 : decode cX9_detail 69 = .ok (.getfield 265, 3) := by decide +kernel
theorem dX9_detail_72 : decode cX9_detail 72 = .ok (.iload_n 1, 1) := by decide +kernel
theorem dX9_detail_73 : decode cX9_detail 73 = .ok (.iaload, 1) := by decide +kernel
theorem dX9_detail_74 : decode cX9_detail 74 = .ok (.ireturn, 1) := by decide +kernel
theorem dX9_detail_75 : decode cX9_detail 75 = .ok (.aload_n 0, 1) := by decide +kernel
theorem dX9_detail_76 : decode cX9_detail 76 = .ok (.iload_n 1, 1) := by decide +kernel
theorem dX9_detail_77 : decode cX9_detail 77 = .ok (.invokevirtual 268, 3) := by decide +kernel
theorem dX9_detail_80 : decode cX9_detail 80 = .ok (.istore_n 3, 1) := by decide +kernel
theorem dX9_detail_81 : decode cX9_detail 81 = .ok (.iload_n 3, 1) := by decide +kernel
theorem dX9_detail_82 : decode cX9_detail 82 = .ok (.iconst (-1), 1) := by decide +kernel
theorem dX9_detail_83 : decode cX9_detail 83 = .ok (.if_icmp .ne 8, 3) := by decide +kernel
theorem dX9_detail_86 : decode cX9_detail 86 = .ok (.bipush (-8), 2) := by decide +kernel
theorem dX9_detail_88 : decode cX9_detail 88 = .ok (.goto 9, 3) := by decide +kernel
theorem dX9_detail_91 : decode cX9_detail 91 = .ok (.aload_n 0, 1) := by decide +kernel
theorem dX9_detail_92 : decode cX9_detail 92 = .ok (.getfield 105, 3) := by decide +kernel
theorem dX9_detail_95 : decode cX9_detail 95 = .ok (.iload_n 3, 1) := by decide +kernel
theorem dX9_detail_96 : decode cX9_detail 96 = .ok (.iaload, 1) := by decide +kernel
theorem dX9_detail_97 : decode cX9_detail 97 = .ok (.ireturn, 1) := by decide +kernel
theorem dX9_detail_98 : decode cX9_detail 98 = .ok (.aload_n 0, 1) := by decide +kernel
theorem dX9_detail_99 : decode cX9_detail 99 = .ok (.getfield 179, 3) := by decide +kernel
theorem dX9_detail_102 : decode cX9_detail 102 = .ok (.iload_n 1, 1) := by decide +kernel
theorem dX9_detail_103 : decode cX9_detail 103 = .ok (.iaload, 1) := by decide +kernel
theorem dX9_detail_104 : decode cX9_detail 104 = .ok (.ireturn, 1) := by decide +kernel
theorem dX9_detail_105 : decode cX9_detail 105 = .ok (.aload_n 0, 1) := by decide +kernel
theorem dX9_detail_106 : decode cX9_detail 106 = .ok (.iload_n 1, 1) := by decide +kernel
theorem dX9_detail_107 : decode cX9_detail 107 = .ok (.invokevirtual 271, 3) := by decide +kernel
theorem dX9_detail_110 : decode cX9_detail 110 = .ok (.ireturn, 1) := by decide +kernel
theorem dX9_detail_111 : decode cX9_detail 111 = .ok (.aload_n 0, 1) := by decide +kernel
theorem dX9_detail_112 : decode cX9_detail 112 = .ok (.getfield 139, 3) := by decide +kernel
theorem dX9_detail_115 : decode cX9_detail 115 = .ok (.iload_n 1, 1) := by decide +kernel
theorem dX9_detail_116 : decode cX9_detail 116 = .ok (.laload, 1) := by decide +kernel
theorem dX9_detail_117 : decode cX9_detail 117 = .ok (.invokestatic 143, 3) := by decide +kernel
theorem dX9_detail_120 : decode cX9_detail 120 = .ok (.ireturn, 1) := by decide +kernel
theorem dX9_detail_121 : decode cX9_detail 121 = .ok (.aload_n 0, 1) := by decide +kernel
theorem dX9_detail_122 : decode cX9_detail 122 = .ok (.getfield 153, 3) := by decide +kernel
theorem dX9_detail_125 : decode cX9_detail 125 = .ok (.iload_n 1, 1) := by decide +kernel
theorem dX9_detail_126 : decode cX9_detail 126 = .ok (.laload, 1) := by decide +kernel
theorem dX9_detail_127 : decode cX9_detail 127 = .ok (.invokestatic 143, 3) := by decide +kernel
theorem dX9_detail_130 : decode cX9_detail 130 = .ok (.ireturn, 1) := by decide +kernel
theorem dX9_signAt_0 : decode cX9_signAt 0 = .ok (.lload_n 0, 1) := by decide +kernel
theorem dX9_signAt_1 : decode cX9_signAt 1 = .ok (.bipush 8, 2) := by decide +kernel
theorem dX9_signAt_3 : decode cX9_signAt 3 = .ok (.iload_n 2, 1) := by decide +kernel
theorem dX9_signAt_4 : decode cX9_signAt 4 = .ok (.imul, 1) := by decide +kernel
theorem dX9_signAt_5 : decode cX9_signAt 5 = .ok (.lushr, 1) := by decide +kernel
theorem dX9_signAt_6 : decode cX9_signAt 6 = .ok (.l2i, 1) := by decide +kernel
theorem dX9_signAt_7 : decode cX9_signAt 7 = .ok (.sipush 255, 3) := by decide +kernel
theorem dX9_signAt_10 : decode cX9_signAt 10 = .ok (.iand, 1) := by decide +kernel
theorem dX9_signAt_11 : decode cX9_signAt 11 = .ok (.ireturn, 1) := by decide +kernel
theorem dX9_lengthOf_0 : decode cX9_lengthOf 0 = .ok (.iconst 0, 1) := by decide +kernel
theorem dX9_lengthOf_1 : decode cX9_lengthOf 1 = .ok (.istore_n 2, 1) := by decide +kernel
theorem dX9_lengthOf_2 : decode cX9_lengthOf 2 = .ok (.iload_n 2, 1) := by decide +kernel
theorem dX9_lengthOf_3 : decode cX9_lengthOf 3 = .ok (.bipush 8, 2) := by decide +kernel
theorem dX9_lengthOf_5 : decode cX9_lengthOf 5 = .ok (.if_icmp .ge 17, 3) := by decide +kernel
theorem dX9_lengthOf_8 : decode cX9_lengthOf 8 = .ok (.lload_n 0, 1) := by decide +kernel
theorem dX9_lengthOf_9 : decode cX9_lengthOf 9 = .ok (.iload_n 2, 1) := by decide +kernel
theorem dX9_lengthOf_10 : decode cX9_lengthOf 10 = .ok (.invokestatic 86, 3) := by decide +kernel
theorem dX9_lengthOf_13 : decode cX9_lengthOf 13 = .ok (.ifCond .eq 9, 3) := by decide +kernel
theorem dX9_lengthOf_16 : decode cX9_lengthOf 16 = .ok (.iinc 2 1, 3) := by decide +kernel
theorem dX9_lengthOf_19 : decode cX9_lengthOf 19 = .ok (.goto (-17), 3) := by decide +kernel
theorem dX9_lengthOf_22 : decode cX9_lengthOf 22 = .ok (.iload_n 2, 1) := by decide +kernel
theorem dX9_lengthOf_23 : decode cX9_lengthOf 23 = .ok (.ireturn, 1) := by decide +kernel
theorem dX9_isLetter_0 : decode cX9_isLetter 0 = .ok (.iload_n 0, 1) := by decide +kernel
theorem dX9_isLetter_1 : decode cX9_isLetter 1 = .ok (.bipush 97, 2) := by decide +kernel
theorem dX9_isLetter_3 : decode cX9_isLetter 3 = .ok (.if_icmp .lt 13, 3) := by decide +kernel
theorem dX9_isLetter_6 : decode cX9_isLetter 6 = .ok (.iload_n 0, 1) := by decide +kernel
theorem dX9_isLetter_7 : decode cX9_isLetter 7 = .ok (.bipush 122, 2) := by decide +kernel
theorem dX9_isLetter_9 : decode cX9_isLetter 9 = .ok (.if_icmp .gt 7, 3) := by decide +kernel
theorem dX9_isLetter_12 : decode cX9_isLetter 12 = .ok (.iconst 1, 1) := by decide +kernel
theorem dX9_isLetter_13 : decode cX9_isLetter 13 = .ok (.goto 4, 3) := by decide +kernel
theorem dX9_isLetter_16 : decode cX9_isLetter 16 = .ok (.iconst 0, 1) := by decide +kernel
theorem dX9_isLetter_17 : decode cX9_isLetter 17 = .ok (.ireturn, 1) := by decide +kernel
theorem dX9_isTextSign_0 : decode cX9_isTextSign 0 = .ok (.iload_n 0, 1) := by decide +kernel
theorem dX9_isTextSign_1 : decode cX9_isTextSign 1 = .ok (.invokestatic 274, 3) := by decide +kernel
theorem dX9_isTextSign_4 : decode cX9_isTextSign 4 = .ok (.ifCond .ne 15, 3) := by decide +kernel
theorem dX9_isTextSign_7 : decode cX9_isTextSign 7 = .ok (.iload_n 0, 1) := by decide +kernel
theorem dX9_isTextSign_8 : decode cX9_isTextSign 8 = .ok (.bipush 48, 2) := by decide +kernel
theorem dX9_isTextSign_10 : decode cX9_isTextSign 10 = .ok (.if_icmp .lt 13, 3) := by decide +kernel
theorem dX9_isTextSign_13 : decode cX9_isTextSign 13 = .ok (.iload_n 0, 1) := by decide +kernel
theorem dX9_isTextSign_14 : decode cX9_isTextSign 14 = .ok (.bipush 57, 2) := by decide +kernel
theorem dX9_isTextSign_16 : decode cX9_isTextSign 16 = .ok (.if_icmp .gt 7, 3) := by decide +kernel
theorem dX9_isTextSign_19 : decode cX9_isTextSign 19 = .ok (.iconst 1, 1) := by decide +kernel
theorem dX9_isTextSign_20 : decode cX9_isTextSign 20 = .ok (.goto 4, 3) := by decide +kernel
theorem dX9_isTextSign_23 : decode cX9_isTextSign 23 = .ok (.iconst 0, 1) := by decide +kernel
theorem dX9_isTextSign_24 : decode cX9_isTextSign 24 = .ok (.ireturn, 1) := by decide +kernel
theorem dX9_openerOf_0 : decode cX9_openerOf 0 = .ok (.iload_n 0, 1) := by decide +kernel
theorem dX9_openerOf_1 : decode cX9_openerOf 1 = .ok (.iconst 1, 1) := by decide +kernel
theorem dX9_openerOf_2 : decode cX9_openerOf 2 = .ok (.if_icmp .ne 6, 3) := by decide +kernel
theorem dX9_openerOf_5 : decode cX9_openerOf 5 = .ok (.bipush 123, 2) := by decide +kernel
theorem dX9_openerOf_7 : decode cX9_openerOf 7 = .ok (.ireturn, 1) := by decide +kernel
theorem dX9_openerOf_8 : decode cX9_openerOf 8 = .ok (.iload_n 0, 1) := by decide +kernel
theorem dX9_openerOf_9 : decode cX9_openerOf 9 = .ok (.iconst 2, 1) := by decide +kernel
theorem dX9_openerOf_10 : decode cX9_openerOf 10 = .ok (.if_icmp .ne 8, 3) := by decide +kernel
theorem dX9_openerOf_13 : decode cX9_openerOf 13 = .ok (.bipush 60, 2) := by decide +kernel
theorem dX9_openerOf_15 : decode cX9_openerOf 15 = .ok (.goto 5, 3) := by decide +kernel
theorem dX9_openerOf_18 : decode cX9_openerOf 18 = .ok (.bipush 40, 2) := by decide +kernel
theorem dX9_openerOf_20 : decode cX9_openerOf 20 = .ok (.ireturn, 1) := by decide +kernel
theorem dX9_closerOf_0 : decode cX9_closerOf 0 = .ok (.iload_n 0, 1) := by decide +kernel
theorem dX9_closerOf_1 : decode cX9_closerOf 1 = .ok (.iconst 1, 1) := by decide +kernel
theorem dX9_closerOf_2 : decode cX9_closerOf 2 = .ok (.if_icmp .ne 6, 3) := by decide +kernel
theorem dX9_closerOf_5 : decode cX9_closerOf 5 = .ok (.bipush 125, 2) := by decide +kernel
theorem dX9_closerOf_7 : decode cX9_closerOf 7 = .ok (.ireturn, 1) := by decide +kernel
theorem dX9_closerOf_8 : decode cX9_closerOf 8 = .ok (.iload_n 0, 1) := by decide +kernel
theorem dX9_closerOf_9 : decode cX9_closerOf 9 = .ok (.iconst 2, 1) := by decide +kernel
theorem dX9_closerOf_10 : decode cX9_closerOf 10 = .ok (.if_icmp .ne 8, 3) := by decide +kernel
theorem dX9_closerOf_13 : decode cX9_closerOf 13 = .ok (.bipush 62, 2) := by decide +kernel
theorem dX9_closerOf_15 : decode cX9_closerOf 15 = .ok (.goto 5, 3) := by decide +kernel
theorem dX9_closerOf_18 : decode cX9_closerOf 18 = .ok (.bipush 41, 2) := by decide +kernel
theorem dX9_closerOf_20 : decode cX9_closerOf 20 = .ok (.ireturn, 1) := by decide +kernel
theorem dX10_init_0 : decode cX10_init 0 = .ok (.aload_n 0, 1) := by decide +kernel
theorem dX10_init_1 : decode cX10_init 1 = .ok (.invokespecial 1, 3) := by decide +kernel
theorem dX10_init_4 : decode cX10_init 4 = .ok (.aload_n 0, 1) := by decide +kernel
theorem dX10_init_5 : decode cX10_init 5 = .ok (.sipush 6270, 3) := by decide +kernel
theorem dX10_init_8 : decode cX10_init 8 = .ok (.newarray .int, 2) := by decide +kernel
theorem dX10_init_10 : decode cX10_init 10 = .ok (.putfield 7, 3) := by decide +kernel
theorem dX10_init_13 : decode cX10_init 13 = .ok (.aload_n 0, 1) := by decide +kernel
theorem dX10_init_14 : decode cX10_init 14 = .ok (.bipush 11, 2) := by decide +kernel
theorem dX10_init_16 : decode cX10_init 16 = .ok (.newarray .int, 2) := by decide +kernel
theorem dX10_init_18 : decode cX10_init 18 = .ok (.putfield 13, 3) := by decide +kernel
theorem dX10_init_21 : decode cX10_init 21 = .ok (.aload_n 0, 1) := by decide +kernel
theorem dX10_init_22 : decode cX10_init 22 = .ok (.sipush 400, 3) := by decide +kernel
theorem dX10_init_25 : decode cX10_init 25 = .ok (.newarray .int, 2) := by decide +kernel
theorem dX10_init_27 : decode cX10_init 27 = .ok (.putfield 16, 3) := by decide +kernel
theorem dX10_init_30 : decode cX10_init 30 = .ok (.aload_n 0, 1) := by decide +kernel
theorem dX10_init_31 : decode cX10_init 31 = .ok (.sipush 2000, 3) := by decide +kernel
theorem dX10_init_34 : decode cX10_init 34 = .ok (.newarray .int, 2) := by decide +kernel
theorem dX10_init_36 : decode cX10_init 36 = .ok (.putfield 19, 3) := by decide +kernel
theorem dX10_init_39 : decode cX10_init 39 = .ok (.aload_n 0, 1) := by decide +kernel
theorem dX10_init_40 : decode cX10_init 40 = .ok (.iconst 4, 1) := by decide +kernel
theorem dX10_init_41 : decode cX10_init 41 = .ok (.newarray .int, 2) := by decide +kernel
theorem dX10_init_43 : decode cX10_init 43 = .ok (.putfield 22, 3) := by decide +kernel
theorem dX10_init_46 : decode cX10_init 46 = .ok (.aload_n 0, 1) := by decide +kernel
theorem dX10_init_47 : decode cX10_init 47 = .ok (.bipush 10, 2) := by decide +kernel
theorem dX10_init_49 : decode cX10_init 49 = .ok (.newarray .int, 2) := by decide +kernel
theorem dX10_init_51 : decode cX10_init 51 = .ok (.putfield 25, 3) := by decide +kernel
theorem dX10_init_54 : decode cX10_init 54 = .ok (.aload_n 0, 1) := by decide +kernel
theorem dX10_init_55 : decode cX10_init 55 = .ok (.bipush 13, 2) := by decide +kernel
theorem dX10_init_57 : decode cX10_init 57 = .ok (.newarray .int, 2) := by decide +kernel
theorem dX10_init_59 : decode cX10_init 59 = .ok (.putfield 28, 3) := by decide +kernel
theorem dX10_init_62 : decode cX10_init 62 = .ok (.aload_n 0, 1) := by decide +kernel
theorem dX10_init_63 : decode cX10_init 63 = .ok (.bipush 13, 2) := by decide +kernel
theorem dX10_init_65 : decode cX10_init 65 = .ok (.newarray .int, 2) := by decide +kernel
theorem dX10_init_67 : decode cX10_init 67 = .ok (.putfield 31, 3) := by decide +kernel
theorem dX10_init_70 : decode cX10_init 70 = .ok (.aload_n 0, 1) := by decide +kernel
theorem dX10_init_71 : decode cX10_init 71 = .ok (.bipush 60, 2) := by decide +kernel
theorem dX10_init_73 : decode cX10_init 73 = .ok (.newarray .int, 2) := by decide +kernel
theorem dX10_init_75 : decode cX10_init 75 = .ok (.putfield 34, 3) := by decide +kernel
theorem dX10_init_78 : decode cX10_init 78 = .ok (.aload_n 0, 1) := by decide +kernel
theorem dX10_init_79 : decode cX10_init 79 = .ok (.bipush 60, 2) := by decide +kernel
theorem dX10_init_81 : decode cX10_init 81 = .ok (.newarray .int, 2) := by decide +kernel
theorem dX10_init_83 : decode cX10_init 83 = .ok (.putfield 37, 3) := by decide +kernel
theorem dX10_init_86 : decode cX10_init 86 = .ok (.aload_n 0, 1) := by decide +kernel
theorem dX10_init_87 : decode cX10_init 87 = .ok (.ldc 40, 2) := by decide +kernel
theorem dX10_init_89 : decode cX10_init 89 = .ok (.newarray .int, 2) := by decide +kernel
theorem dX10_init_91 : decode cX10_init 91 = .ok (.putfield 41, 3) := by decide +kernel
theorem dX10_init_94 : decode cX10_init 94 = .ok (.aload_n 0, 1) := by decide +kernel
theorem dX10_init_95 : decode cX10_init 95 = .ok (.bipush 30, 2) := by decide +kernel
theorem dX10_init_97 : decode cX10_init 97 = .ok (.newarray .int, 2) := by decide +kernel
theorem dX10_init_99 : decode cX10_init 99 = .ok (.putfield 44, 3) := by decide +kernel
theorem dX10_init_102 : decode cX10_init 102 = .ok (.aload_n 0, 1) := by decide +kernel
theorem dX10_init_103 : decode cX10_init 103 = .ok (.bipush 30, 2) := by decide +kernel
theorem dX10_init_105 : decode cX10_init 105 = .ok (.newarray .int, 2) := by decide +kernel
theorem dX10_init_107 : decode cX10_init 107 = .ok (.putfield 47, 3) := by decide +kernel
theorem dX10_init_110 : decode cX10_init 110 = .ok (.aload_n 0, 1) := by decide +kernel
theorem dX10_init_111 : decode cX10_init 111 = .ok (.bipush 64, 2) := by decide +kernel
theorem dX10_init_113 : decode cX10_init 113 = .ok (.newarray .int, 2) := by decide +kernel
theorem dX10_init_115 : decode cX10_init 115 = .ok (.putfield 50, 3) := by decide +kernel
theorem dX10_init_118 : decode cX10_init 118 = .ok (.aload_n 0, 1) := by decide +kernel
theorem dX10_init_119 : decode cX10_init 119 = .ok (.bipush 64, 2) := by decide +kernel
theorem dX10_init_121 : decode cX10_init 121 = .ok (.newarray .int, 2) := by decide +kernel
theorem dX10_init_123 : decode cX10_init 123 = .ok (.putfield 53, 3) := by decide +kernel
theorem dX10_init_126 : decode cX10_init 126 = .ok (.aload_n 0, 1) := by decide +kernel
theorem dX10_init_127 : decode cX10_init 127 = .ok (.bipush 64, 2) := by decide +kernel
theorem dX10_init_129 : decode cX10_init 129 = .ok (.newarray .int, 2) := by decide +kernel
theorem dX10_init_131 : decode cX10_init 131 = .ok (.putfield 56, 3) := by decide +kernel
theorem dX10_init_134 : decode cX10_init 134 = .ok (.aload_n 0, 1) := by decide +kernel
theorem dX10_init_135 : decode cX10_init 135 = .ok (.bipush 64, 2) := by decide +kernel
theorem dX10_init_137 : decode cX10_init 137 = .ok (.newarray .int, 2) := by decide +kernel
theorem dX10_init_139 : decode cX10_init 139 = .ok (.putfield 59, 3) := by decide +kernel
theorem dX10_init_142 : decode cX10_init 142 = .ok (.aload_n 0, 1) := by decide +kernel
theorem dX10_init_143 : decode cX10_init 143 = .ok (.iconst (-1), 1) := by decide +kernel
theorem dX10_init_144 : decode cX10_init 144 = .ok (.putfield 62, 3) := by decide +kernel
theorem dX10_init_147 : decode cX10_init 147 = .ok (.aload_n 0, 1) := by decide +kernel
theorem dX10_init_148 : decode cX10_init 148 = .ok (.bipush 30, 2) := by decide +kernel
theorem dX10_init_150 : decode cX10_init 150 = .ok (.newarray .int, 2) := by decide +kernel
theorem dX10_init_152 : decode cX10_init 152 = .ok (.putfield 66, 3) := by decide +kernel
theorem dX10_init_155 : decode cX10_init 155 = .ok (.aload_n 0, 1) := by decide +kernel
theorem dX10_init_156 : decode cX10_init 156 = .ok (.bipush 30, 2) := by decide +kernel
theorem dX10_init_158 : decode cX10_init 158 = .ok (.newarray .int, 2) := by decide +kernel
theorem dX10_init_160 : decode cX10_init 160 = .ok (.putfield 69, 3) := by decide +kernel
theorem dX10_init_163 : decode cX10_init 163 = .ok (.aload_n 0, 1) := by decide +kernel
theorem dX10_init_164 : decode cX10_init 164 = .ok (.sipush 130, 3) := by decide +kernel
theorem dX10_init_167 : decode cX10_init 167 = .ok (.newarray .int, 2) := by decide +kernel
theorem dX10_init_169 : decode cX10_init 169 = .ok (.putfield 72, 3) := by decide +kernel
theorem dX10_init_172 : decode cX10_init 172 = .ok (.aload_n 0, 1) := by decide +kernel
theorem dX10_init_173 : decode cX10_init 173 = .ok (.sipush 130, 3) := by decide +kernel
theorem dX10_init_176 : decode cX10_init 176 = .ok (.newarray .int, 2) := by decide +kernel
theorem dX10_init_178 : decode cX10_init 178 = .ok (.putfield 75, 3) := by decide +kernel
theorem dX10_init_181 : decode cX10_init 181 = .ok (.aload_n 0, 1) := by decide +kernel
theorem dX10_init_182 : decode cX10_init 182 = .ok (.sipush 130, 3) := by decide +kernel
theorem dX10_init_185 : decode cX10_init 185 = .ok (.newarray .int, 2) := by decide +kernel
theorem dX10_init_187 : decode cX10_init 187 = .ok (.putfield 78, 3) := by decide +kernel
theorem dX10_init_190 : decode cX10_init 190 = .ok (.aload_n 0, 1) := by decide +kernel
theorem dX10_init_191 : decode cX10_init 191 = .ok (.bipush 60, 2) := by decide +kernel
theorem dX10_init_193 : decode cX10_init 193 = .ok (.newarray .int, 2) := by decide +kernel
theorem dX10_init_195 : decode cX10_init 195 = .ok (.putfield 81, 3) := by decide +kernel
theorem dX10_init_198 : decode cX10_init 198 = .ok (.aload_n 0, 1) := by decide +kernel
theorem dX10_init_199 : decode cX10_init 199 = .ok (.sipush 130, 3) := by decide +kernel
theorem dX10_init_202 : decode cX10_init 202 = .ok (.newarray .int, 2) := by decide +kernel
theorem dX10_init_204 : decode cX10_init 204 = .ok (.putfield 84, 3) := by decide +kernel
theorem dX10_init_207 : decode cX10_init 207 = .ok (.aload_n 0, 1) := by decide +kernel
theorem dX10_init_208 : decode cX10_init 208 = .ok (.sipush 130, 3) := by decide +kernel
theorem dX10_init_211 : decode cX10_init 211 = .ok (.newarray .int, 2) := by decide +kernel
theorem dX10_init_213 : decode cX10_init 213 = .ok (.putfield 87, 3) := by decide +kernel
theorem dX10_init_216 : decode cX10_init 216 = .ok (.aload_n 0, 1) := by decide +kernel
theorem dX10_init_217 : decode cX10_init 217 = .ok (.sipush 1000, 3) := by decide +kernel
theorem dX10_init_220 : decode cX10_init 220 = .ok (.newarray .int, 2) := by decide +kernel
theorem dX10_init_222 : decode cX10_init 222 = .ok (.putfield 90, 3) := by decide +kernel
theorem dX10_init_225 : decode cX10_init 225 = .ok (.aload_n 0, 1) := by decide +kernel
theorem dX10_init_226 : decode cX10_init 226 = .ok (.sipush 1000, 3) := by decide +kernel
theorem dX10_init_229 : decode cX10_init 229 = .ok (.newarray .int, 2) := by decide +kernel
theorem dX10_init_231 : decode cX10_init 231 = .ok (.putfield 93, 3) := by decide +kernel
theorem dX10_init_234 : decode cX10_init 234 = .ok (.aload_n 0, 1) := by decide +kernel
theorem dX10_init_235 : decode cX10_init 235 = .ok (.getfield 22, 3) := by decide +kernel
theorem dX10_init_238 : decode cX10_init 238 = .ok (.iconst 0, 1) := by decide +kernel
theorem dX10_init_239 : decode cX10_init 239 = .ok (.iconst 2, 1) := by decide +kernel
theorem dX10_init_240 : decode cX10_init 240 = .ok (.iastore, 1) := by decide +kernel
theorem dX10_init_241 : decode cX10_init 241 = .ok (.aload_n 0, 1) := by decide +kernel
theorem dX10_init_242 : decode cX10_init 242 = .ok (.getfield 22, 3) := by decide +kernel
theorem dX10_init_245 : decode cX10_init 245 = .ok (.iconst 1, 1) := by decide +kernel
theorem dX10_init_246 : decode cX10_init 246 = .ok (.iconst 1, 1) := by decide +kernel
theorem dX10_init_247 : decode cX10_init 247 = .ok (.iastore, 1) := by decide +kernel
theorem dX10_init_248 : decode cX10_init 248 = .ok (.aload_n 0, 1) := by decide +kernel
theorem dX10_init_249 : decode cX10_init 249 = .ok (.getfield 22, 3) := by decide +kernel
theorem dX10_init_252 : decode cX10_init 252 = .ok (.iconst 2, 1) := by decide +kernel
theorem dX10_init_253 : decode cX10_init 253 = .ok (.iconst 3, 1) := by decide +kernel
theorem dX10_init_254 : decode cX10_init 254 = .ok (.iastore, 1) := by decide +kernel
theorem dX10_init_255 : decode cX10_init 255 = .ok (.aload_n 0, 1) := by decide +kernel
theorem dX10_init_256 : decode cX10_init 256 = .ok (.getfield 22, 3) := by decide +kernel
theorem dX10_init_259 : decode cX10_init 259 = .ok (.iconst 3, 1) := by decide +kernel
theorem dX10_init_260 : decode cX10_init 260 = .ok (.iconst 3, 1) := by decide +kernel
theorem dX10_init_261 : decode cX10_init 261 = .ok (.iastore, 1) := by decide +kernel
theorem dX10_init_262 : decode cX10_init 262 = .ok (.return_, 1) := by decide +kernel
theorem dX10_found0_0 : decode cX10_found0 0 = .ok (.aload_n 0, 1) := by decide +kernel
theorem dX10_found0_1 : decode cX10_found0 1 = .ok (.getfield 25, 3) := by decide +kernel
theorem dX10_found0_4 : decode cX10_found0 4 = .ok (.iload_n 1, 1) := by decide +kernel
theorem dX10_found0_5 : decode cX10_found0 5 = .ok (.ineg, 1) := by decide +kernel
theorem dX10_found0_6 : decode cX10_found0 6 = .ok (.dup2, 1) := by decide +kernel
theorem dX10_found0_7 : decode cX10_found0 7 = .ok (.iaload, 1) := by decide +kernel
theorem dX10_found0_8 : decode cX10_found0 8 = .ok (.iconst 1, 1) := by decide +kernel
theorem dX10_found0_9 : decode cX10_found0 9 = .ok (.iadd, 1) := by decide +kernel
theorem dX10_found0_10 : decode cX10_found0 10 = .ok (.iastore, 1) := by decide +kernel
theorem dX10_found0_11 : decode cX10_found0 11 = .ok (.iload_n 1, 1) := by decide +kernel
theorem dX10_found0_12 : decode cX10_found0 12 = .ok (.ireturn, 1) := by decide +kernel
theorem dX10_in_0 : decode cX10_in 0 = .ok (.iload_n 0, 1) := by decide +kernel
theorem dX10_in_1 : decode cX10_in 1 = .ok (.iload_n 1, 1) := by decide +kernel
theorem dX10_in_2 : decode cX10_in 2 = .ok (.if_icmp .lt 12, 3) := by decide +kernel
theorem dX10_in_5 : decode cX10_in 5 = .ok (.iload_n 0, 1) := by decide +kernel
theorem dX10_in_6 : decode cX10_in 6 = .ok (.iload_n 2, 1) := by decide +kernel
theorem dX10_in_7 : decode cX10_in 7 = .ok (.if_icmp .gt 7, 3) := by decide +kernel
theorem dX10_in_10 : decode cX10_in 10 = .ok (.iconst 1, 1) := by decide +kernel
theorem dX10_in_11 : decode cX10_in 11 = .ok (.goto 4, 3) := by decide +kernel
theorem dX10_in_14 : decode cX10_in 14 = .ok (.iconst 0, 1) := by decide +kernel
theorem dX10_in_15 : decode cX10_in 15 = .ok (.ireturn, 1) := by decide +kernel
theorem dX10_isPlace_0 : decode cX10_isPlace 0 = .ok (.iload_n 0, 1) := by decide +kernel
theorem dX10_isPlace_1 : decode cX10_isPlace 1 = .ok (.iconst 0, 1) := by decide +kernel
theorem dX10_isPlace_2 : decode cX10_isPlace 2 = .ok (.bipush 7, 2) := by decide +kernel
theorem dX10_isPlace_4 : decode cX10_isPlace 4 = .ok (.invokestatic 96, 3) := by decide +kernel
theorem dX10_isPlace_7 : decode cX10_isPlace 7 = .ok (.ireturn, 1) := by decide +kernel
theorem dX10_lacks_0 : decode cX10_lacks 0 = .ok (.iload_n 1, 1) := by decide +kernel
theorem dX10_lacks_1 : decode cX10_lacks 1 = .ok (.invokestatic 100, 3) := by decide +kernel
theorem dX10_lacks_4 : decode cX10_lacks 4 = .ok (.ifCond .ne 7, 3) := by decide +kernel
theorem dX10_lacks_7 : decode cX10_lacks 7 = .ok (.iconst (-1), 1) := by decide +kernel
theorem dX10_lacks_8 : decode cX10_lacks 8 = .ok (.goto 18, 3) := by decide +kernel
theorem dX10_lacks_11 : decode cX10_lacks 11 = .ok (.aload_n 0, 1) := by decide +kernel
theorem dX10_lacks_12 : decode cX10_lacks 12 = .ok (.getfield 13, 3) := by decide +kernel
theorem dX10_lacks_15 : decode cX10_lacks 15 = .ok (.iload_n 1, 1) := by decide +kernel
theorem dX10_lacks_16 : decode cX10_lacks 16 = .ok (.iaload, 1) := by decide +kernel
theorem dX10_lacks_17 : decode cX10_lacks 17 = .ok (.ifCond .ne 8, 3) := by decide +kernel
theorem dX10_lacks_20 : decode cX10_lacks 20 = .ok (.bipush (-2), 2) := by decide +kernel
theorem dX10_lacks_22 : decode cX10_lacks 22 = .ok (.goto 4, 3) := by decide +kernel
theorem dX10_lacks_25 : decode cX10_lacks 25 = .ok (.iconst 0, 1) := by decide +kernel
theorem dX10_lacks_26 : decode cX10_lacks 26 = .ok (.ireturn, 1) := by decide +kernel
theorem dX10_of_0 : decode cX10_of 0 = .ok (.aload_n 0, 1) := by decide +kernel
theorem dX10_of_1 : decode cX10_of 1 = .ok (.getfield 7, 3) := by decide +kernel
theorem dX10_of_4 : decode cX10_of 4 = .ok (.bipush 19, 2) := by decide +kernel
theorem dX10_of_6 : decode cX10_of 6 = .ok (.bipush 30, 2) := by decide +kernel
theorem dX10_of_8 : decode cX10_of 8 = .ok (.iload_n 1, 1) := by decide +kernel
theorem dX10_of_9 : decode cX10_of 9 = .ok (.imul, 1) := by decide +kernel
theorem dX10_of_10 : decode cX10_of 10 = .ok (.iload_n 2, 1) := by decide +kernel
theorem dX10_of_11 : decode cX10_of 11 = .ok (.iadd, 1) := by decide +kernel
theorem dX10_of_12 : decode cX10_of 12 = .ok (.imul, 1) := by decide +kernel
theorem dX10_of_13 : decode cX10_of 13 = .ok (.iload_n 3, 1) := by decide +kernel
theorem dX10_of_14 : decode cX10_of 14 = .ok (.iadd, 1) := by decide +kernel
theorem dX10_of_15 : decode cX10_of 15 = .ok (.iaload, 1) := by decide +kernel
theorem dX10_of_16 : decode cX10_of 16 = .ok (.ireturn, 1) := by decide +kernel
theorem dX10_set_0 : decode cX10_set 0 = .ok (.aload_n 0, 1) := by decide +kernel
theorem dX10_set_1 : decode cX10_set 1 = .ok (.getfield 7, 3) := by decide +kernel
theorem dX10_set_4 : decode cX10_set 4 = .ok (.bipush 19, 2) := by decide +kernel
theorem dX10_set_6 : decode cX10_set 6 = .ok (.bipush 30, 2) := by decide +kernel
theorem dX10_set_8 : decode cX10_set 8 = .ok (.iload_n 1, 1) := by decide +kernel
theorem dX10_set_9 : decode cX10_set 9 = .ok (.imul, 1) := by decide +kernel
theorem dX10_set_10 : decode cX10_set 10 = .ok (.iload_n 2, 1) := by decide +kernel
theorem dX10_set_11 : decode cX10_set 11 = .ok (.iadd, 1) := by decide +kernel
theorem dX10_set_12 : decode cX10_set 12 = .ok (.imul, 1) := by decide +kernel
theorem dX10_set_13 : decode cX10_set 13 = .ok (.iload_n 3, 1) := by decide +kernel
theorem dX10_set_14 : decode cX10_set 14 = .ok (.iadd, 1) := by decide +kernel
theorem dX10_set_15 : decode cX10_set 15 = .ok (.iload 4, 2) := by decide +kernel
theorem dX10_set_17 : decode cX10_set 17 = .ok (.iastore, 1) := by decide +kernel
theorem dX10_set_18 : decode cX10_set 18 = .ok (.return_, 1) := by decide +kernel
theorem dX10_deep_0 : decode cX10_deep 0 = .ok (.aload_n 0, 1) := by decide +kernel
theorem dX10_deep_1 : decode cX10_deep 1 = .ok (.iload_n 1, 1) := by decide +kernel
theorem dX10_deep_2 : decode cX10_deep 2 = .ok (.iload_n 2, 1) := by decide +kernel
theorem dX10_deep_3 : decode cX10_deep 3 = .ok (.iconst 2, 1) := by decide +kernel
theorem dX10_deep_4 : decode cX10_deep 4 = .ok (.invokevirtual 104, 3) := by decide +kernel
theorem dX10_deep_7 : decode cX10_deep 7 = .ok (.ireturn, 1) := by decide +kernel
theorem dX10_carry_0 : decode cX10_carry 0 = .ok (.iconst 0, 1) := by decide +kernel
theorem dX10_carry_1 : decode cX10_carry 1 = .ok (.istore 5, 2) := by decide +kernel
theorem dX10_carry_3 : decode cX10_carry 3 = .ok (.iload 5, 2) := by decide +kernel
theorem dX10_carry_5 : decode cX10_carry 5 = .ok (.bipush 19, 2) := by decide +kernel
theorem dX10_carry_7 : decode cX10_carry 7 = .ok (.if_icmp .ge 26, 3) := by decide +kernel
theorem dX10_carry_10 : decode cX10_carry 10 = .ok (.aload_n 0, 1) := by decide +kernel
theorem dX10_carry_11 : decode cX10_carry 11 = .ok (.iload_n 3, 1) := by decide +kernel
theorem dX10_carry_12 : decode cX10_carry 12 = .ok (.iload 4, 2) := by decide +kernel
theorem dX10_carry_14 : decode cX10_carry 14 = .ok (.iload 5, 2) := by decide +kernel
theorem dX10_carry_16 : decode cX10_carry 16 = .ok (.aload_n 0, 1) := by decide +kernel
theorem dX10_carry_17 : decode cX10_carry 17 = .ok (.iload_n 1, 1) := by decide +kernel
theorem dX10_carry_18 : decode cX10_carry 18 = .ok (.iload_n 2, 1) := by decide +kernel
theorem dX10_carry_19 : decode cX10_carry 19 = .ok (.iload 5, 2) := by decide +kernel
theorem dX10_carry_21 : decode cX10_carry 21 = .ok (.invokevirtual 104, 3) := by decide +kernel
theorem dX10_carry_24 : decode cX10_carry 24 = .ok (.invokevirtual 108, 3) := by decide +kernel
theorem dX10_carry_27 : decode cX10_carry 27 = .ok (.iinc 5 1, 3) := by decide +kernel
theorem dX10_carry_30 : decode cX10_carry 30 = .ok (.goto (-27), 3) := by decide +kernel
theorem dX10_carry_33 : decode cX10_carry 33 = .ok (.return_, 1) := by decide +kernel
theorem dX10_copyAll_0 : decode cX10_copyAll 0 = .ok (.iconst 0, 1) := by decide +kernel
theorem dX10_copyAll_1 : decode cX10_copyAll 1 = .ok (.istore_n 3, 1) := by decide +kernel
theorem dX10_copyAll_2 : decode cX10_copyAll 2 = .ok (.iload_n 3, 1) := by decide +kernel
theorem dX10_copyAll_3 : decode cX10_copyAll 3 = .ok (.aload_n 0, 1) := by decide +kernel
theorem dX10_copyAll_4 : decode cX10_copyAll 4 = .ok (.getfield 13, 3) := by decide +kernel
theorem dX10_copyAll_7 : decode cX10_copyAll 7 = .ok (.iload_n 1, 1) := by decide +kernel
theorem dX10_copyAll_8 : decode cX10_copyAll 8 = .ok (.iaload, 1) := by decide +kernel
theorem dX10_copyAll_9 : decode cX10_copyAll 9 = .ok (.if_icmp .ge 17, 3) := by decide +kernel
theorem dX10_copyAll_12 : decode cX10_copyAll 12 = .ok (.aload_n 0, 1) := by decide +kernel
theorem dX10_copyAll_13 : decode cX10_copyAll 13 = .ok (.iload_n 1, 1) := by decide +kernel
theorem dX10_copyAll_14 : decode cX10_copyAll 14 = .ok (.iload_n 3, 1) := by decide +kernel
theorem dX10_copyAll_15 : decode cX10_copyAll 15 = .ok (.iload_n 2, 1) := by decide +kernel
theorem dX10_copyAll_16 : decode cX10_copyAll 16 = .ok (.iload_n 3, 1) := by decide +kernel
theorem dX10_copyAll_17 : decode cX10_copyAll 17 = .ok (.invokevirtual 112, 3) := by decide +kernel
theorem dX10_copyAll_20 : decode cX10_copyAll 20 = .ok (.iinc 3 1, 3) := by decide +kernel
theorem dX10_copyAll_23 : decode cX10_copyAll 23 = .ok (.goto (-21), 3) := by decide +kernel
theorem dX10_copyAll_26 : decode cX10_copyAll 26 = .ok (.aload_n 0, 1) := by decide +kernel
theorem dX10_copyAll_27 : decode cX10_copyAll 27 = .ok (.getfield 13, 3) := by decide +kernel
theorem dX10_copyAll_30 : decode cX10_copyAll 30 = .ok (.iload_n 2, 1) := by decide +kernel
theorem dX10_copyAll_31 : decode cX10_copyAll 31 = .ok (.aload_n 0, 1) := by decide +kernel
theorem dX10_copyAll_32 : decode cX10_copyAll 32 = .ok (.getfield 13, 3) := by decide +kernel
theorem dX10_copyAll_35 : decode cX10_copyAll 35 = .ok (.iload_n 1, 1) := by decide +kernel
theorem dX10_copyAll_36 : decode cX10_copyAll 36 = .ok (.iaload, 1) := by decide +kernel
theorem dX10_copyAll_37 : decode cX10_copyAll 37 = .ok (.iastore, 1) := by decide +kernel
theorem dX10_copyAll_38 : decode cX10_copyAll 38 = .ok (.return_, 1) := by decide +kernel
theorem dX10_end_0 : decode cX10_end 0 = .ok (.iload_n 2, 1) := by decide +kernel
theorem dX10_end_1 : decode cX10_end 1 = .ok (.iconst 1, 1) := by decide +kernel
theorem dX10_end_2 : decode cX10_end 2 = .ok (.iadd, 1) := by decide +kernel
theorem dX10_end_3 : decode cX10_end 3 = .ok (.istore_n 3, 1) := by decide +kernel
theorem dX10_end_4 : decode cX10_end 4 = .ok (.iload_n 3, 1) := by decide +kernel
theorem dX10_end_5 : decode cX10_end 5 = .ok (.aload_n 0, 1) := by decide +kernel
theorem dX10_end_6 : decode cX10_end 6 = .ok (.getfield 13, 3) := by decide +kernel
theorem dX10_end_9 : decode cX10_end 9 = .ok (.iload_n 1, 1) := by decide +kernel
theorem dX10_end_10 : decode cX10_end 10 = .ok (.iaload, 1) := by decide +kernel
theorem dX10_end_11 : decode cX10_end 11 = .ok (.if_icmp .ge 24, 3) := by decide +kernel
theorem dX10_end_14 : decode cX10_end 14 = .ok (.aload_n 0, 1) := by decide +kernel
theorem dX10_end_15 : decode cX10_end 15 = .ok (.iload_n 1, 1) := by decide +kernel
theorem dX10_end_16 : decode cX10_end 16 = .ok (.iload_n 3, 1) := by decide +kernel
theorem dX10_end_17 : decode cX10_end 17 = .ok (.invokevirtual 115, 3) := by decide +kernel
theorem dX10_end_20 : decode cX10_end 20 = .ok (.aload_n 0, 1) := by decide +kernel
theorem dX10_end_21 : decode cX10_end 21 = .ok (.iload_n 1, 1) := by decide +kernel
theorem dX10_end_22 : decode cX10_end 22 = .ok (.iload_n 2, 1) := by decide +kernel
theorem dX10_end_23 : decode cX10_end 23 = .ok (.invokevirtual 115, 3) := by decide +kernel
theorem dX10_end_26 : decode cX10_end 26 = .ok (.if_icmp .le 9, 3) := by decide +kernel
theorem dX10_end_29 : decode cX10_end 29 = .ok (.iinc 3 1, 3) := by decide +kernel
theorem dX10_end_32 : decode cX10_end 32 = .ok (.goto (-28), 3) := by decide +kernel
theorem dX10_end_35 : decode cX10_end 35 = .ok (.iload_n 3, 1) := by decide +kernel
theorem dX10_end_36 : decode cX10_end 36 = .ok (.ireturn, 1) := by decide +kernel
theorem dX10_parent_0 : decode cX10_parent 0 = .ok (.iload_n 2, 1) := by decide +kernel
theorem dX10_parent_1 : decode cX10_parent 1 = .ok (.iconst 1, 1) := by decide +kernel
theorem dX10_parent_2 : decode cX10_parent 2 = .ok (.isub, 1) := by decide +kernel
theorem dX10_parent_3 : decode cX10_parent 3 = .ok (.istore_n 3, 1) := by decide +kernel
theorem dX10_parent_4 : decode cX10_parent 4 = .ok (.iload_n 3, 1) := by decide +kernel
theorem dX10_parent_5 : decode cX10_parent 5 = .ok (.ifCond .lt 24, 3) := by decide +kernel
theorem dX10_parent_8 : decode cX10_parent 8 = .ok (.aload_n 0, 1) := by decide +kernel
theorem dX10_parent_9 : decode cX10_parent 9 = .ok (.iload_n 1, 1) := by decide +kernel
theorem dX10_parent_10 : decode cX10_parent 10 = .ok (.iload_n 3, 1) := by decide +kernel
theorem dX10_parent_11 : decode cX10_parent 11 = .ok (.invokevirtual 115, 3) := by decide +kernel
theorem dX10_parent_14 : decode cX10_parent 14 = .ok (.aload_n 0, 1) := by decide +kernel
theorem dX10_parent_15 : decode cX10_parent 15 = .ok (.iload_n 1, 1) := by decide +kernel
theorem dX10_parent_16 : decode cX10_parent 16 = .ok (.iload_n 2, 1) := by decide +kernel
theorem dX10_parent_17 : decode cX10_parent 17 = .ok (.invokevirtual 115, 3) := by decide +kernel
theorem dX10_parent_20 : decode cX10_parent 20 = .ok (.if_icmp .lt 9, 3) := by decide +kernel
theorem dX10_parent_23 : decode cX10_parent 23 = .ok (.iinc 3 (-1), 3) := by decide +kernel
theorem dX10_parent_26 : decode cX10_parent 26 = .ok (.goto (-22), 3) := by decide +kernel
theorem dX10_parent_29 : decode cX10_parent 29 = .ok (.iload_n 3, 1) := by decide +kernel
theorem dX10_parent_30 : decode cX10_parent 30 = .ok (.ireturn, 1) := by decide +kernel
theorem dX10_child_0 : decode cX10_child 0 = .ok (.iload_n 2, 1) := by decide +kernel
theorem dX10_child_1 : decode cX10_child 1 = .ok (.iconst 1, 1) := by decide +kernel
theorem dX10_child_2 : decode cX10_child 2 = .ok (.iadd, 1) := by decide +kernel
theorem dX10_child_3 : decode cX10_child 3 = .ok (.istore 4, 2) := by decide +kernel
theorem dX10_child_5 : decode cX10_child 5 = .ok (.iconst 0, 1) := by decide +kernel
theorem dX10_child_6 : decode cX10_child 6 = .ok (.istore 5, 2) := by decide +kernel
theorem dX10_child_8 : decode cX10_child 8 = .ok (.iload 5, 2) := by decide +kernel
theorem dX10_child_10 : decode cX10_child 10 = .ok (.iload_n 3, 1) := by decide +kernel
theorem dX10_child_11 : decode cX10_child 11 = .ok (.if_icmp .ge 29, 3) := by decide +kernel
theorem dX10_child_14 : decode cX10_child 14 = .ok (.iload 4, 2) := by decide +kernel
theorem dX10_child_16 : decode cX10_child 16 = .ok (.aload_n 0, 1) := by decide +kernel
theorem dX10_child_17 : decode cX10_child 17 = .ok (.iload_n 1, 1) := by decide +kernel
theorem dX10_child_18 : decode cX10_child 18 = .ok (.iload_n 2, 1) := by decide +kernel
theorem dX10_child_19 : decode cX10_child 19 = .ok (.invokevirtual 119, 3) := by decide +kernel
theorem dX10_child_22 : decode cX10_child 22 = .ok (.if_icmp .ge 18, 3) := by decide +kernel
theorem dX10_child_25 : decode cX10_child 25 = .ok (.aload_n 0, 1) := by decide +kernel
theorem dX10_child_26 : decode cX10_child 26 = .ok (.iload_n 1, 1) := by decide +kernel
theorem dX10_child_27 : decode cX10_child 27 = .ok (.iload 4, 2) := by decide +kernel
theorem dX10_child_29 : decode cX10_child 29 = .ok (.invokevirtual 119, 3) := by decide +kernel
theorem dX10_child_32 : decode cX10_child 32 = .ok (.istore 4, 2) := by decide +kernel
theorem dX10_child_34 : decode cX10_child 34 = .ok (.iinc 5 1, 3) := by decide +kernel
theorem dX10_child_37 : decode cX10_child 37 = .ok (.goto (-29), 3) := by decide +kernel
theorem dX10_child_40 : decode cX10_child 40 = .ok (.iload 4, 2) := by decide +kernel
theorem dX10_child_42 : decode cX10_child 42 = .ok (.ireturn, 1) := by decide +kernel
theorem dX10_children_0 : decode cX10_children 0 = .ok (.iconst 0, 1) := by decide +kernel
theorem dX10_children_1 : decode cX10_children 1 = .ok (.istore_n 3, 1) := by decide +kernel
theorem dX10_children_2 : decode cX10_children 2 = .ok (.iload_n 2, 1) := by decide +kernel
theorem dX10_children_3 : decode cX10_children 3 = .ok (.iconst 1, 1) := by decide +kernel
theorem dX10_children_4 : decode cX10_children 4 = .ok (.iadd, 1) := by decide +kernel
theorem dX10_children_5 : decode cX10_children 5 = .ok (.istore 4, 2) := by decide +kernel
theorem dX10_children_7 : decode cX10_children 7 = .ok (.iload 4, 2) := by decide +kernel
theorem dX10_children_9 : decode cX10_children 9 = .ok (.aload_n 0, 1) := by decide +kernel
theorem dX10_children_10 : decode cX10_children 10 = .ok (.iload_n 1, 1) := by decide +kernel
theorem dX10_children_11 : decode cX10_children 11 = .ok (.iload_n 2, 1) := by decide +kernel
theorem dX10_children_12 : decode cX10_children 12 = .ok (.invokevirtual 119, 3) := by decide +kernel
theorem dX10_children_15 : decode cX10_children 15 = .ok (.if_icmp .ge 18, 3) := by decide +kernel
theorem dX10_children_18 : decode cX10_children 18 = .ok (.iinc 3 1, 3) := by decide +kernel
theorem dX10_children_21 : decode cX10_children 21 = .ok (.aload_n 0, 1) := by decide +kernel
theorem dX10_children_22 : decode cX10_children 22 = .ok (.iload_n 1, 1) := by decide +kernel
end
section
theorem dX10_children_23 : decode cX10_children 23 = .ok (.iload 4, 2) := by decide +kernel
theorem dX10_children_25 : decode cX10_children 25 = .ok (.invokevirtual 119, 3) := by decide +kernel
theorem dX10_children_28 : decode cX10_children 28 = .ok (.istore 4, 2) := by decide +kernel
theorem dX10_children_30 : decode cX10_children 30 = .ok (.goto (-23), 3) := by decide +kernel
theorem dX10_children_33 : decode cX10_children 33 = .ok (.iload_n 3, 1) := by decide +kernel
theorem dX10_children_34 : decode cX10_children 34 = .ok (.ireturn, 1) := by decide +kernel
theorem dX10_named_0 : decode cX10_named 0 = .ok (.iconst 0, 1) := by decide +kernel
theorem dX10_named_1 : decode cX10_named 1 = .ok (.istore_n 3, 1) := by decide +kernel
theorem dX10_named_2 : decode cX10_named 2 = .ok (.iload_n 3, 1) := by decide +kernel
theorem dX10_named_3 : decode cX10_named 3 = .ok (.aload_n 0, 1) := by decide +kernel
theorem dX10_named_4 : decode cX10_named 4 = .ok (.getfield 13, 3) := by decide +kernel
theorem dX10_named_7 : decode cX10_named 7 = .ok (.iload_n 1, 1) := by decide +kernel
theorem dX10_named_8 : decode cX10_named 8 = .ok (.iaload, 1) := by decide +kernel
theorem dX10_named_9 : decode cX10_named 9 = .ok (.if_icmp .ge 22, 3) := by decide +kernel
theorem dX10_named_12 : decode cX10_named 12 = .ok (.aload_n 0, 1) := by decide +kernel
theorem dX10_named_13 : decode cX10_named 13 = .ok (.iload_n 1, 1) := by decide +kernel
theorem dX10_named_14 : decode cX10_named 14 = .ok (.iload_n 3, 1) := by decide +kernel
theorem dX10_named_15 : decode cX10_named 15 = .ok (.iconst 0, 1) := by decide +kernel
theorem dX10_named_16 : decode cX10_named 16 = .ok (.invokevirtual 104, 3) := by decide +kernel
theorem dX10_named_19 : decode cX10_named 19 = .ok (.iload_n 2, 1) := by decide +kernel
theorem dX10_named_20 : decode cX10_named 20 = .ok (.if_icmp .ne 5, 3) := by decide +kernel
theorem dX10_named_23 : decode cX10_named 23 = .ok (.iload_n 3, 1) := by decide +kernel
theorem dX10_named_24 : decode cX10_named 24 = .ok (.ireturn, 1) := by decide +kernel
theorem dX10_named_25 : decode cX10_named 25 = .ok (.iinc 3 1, 3) := by decide +kernel
theorem dX10_named_28 : decode cX10_named 28 = .ok (.goto (-26), 3) := by decide +kernel
theorem dX10_named_31 : decode cX10_named 31 = .ok (.iconst (-1), 1) := by decide +kernel
theorem dX10_named_32 : decode cX10_named 32 = .ok (.ireturn, 1) := by decide +kernel
theorem dX10_isLike_0 : decode cX10_isLike 0 = .ok (.aload_n 0, 1) := by decide +kernel
theorem dX10_isLike_1 : decode cX10_isLike 1 = .ok (.iload_n 1, 1) := by decide +kernel
theorem dX10_isLike_2 : decode cX10_isLike 2 = .ok (.iload_n 2, 1) := by decide +kernel
theorem dX10_isLike_3 : decode cX10_isLike 3 = .ok (.iload 5, 2) := by decide +kernel
theorem dX10_isLike_5 : decode cX10_isLike 5 = .ok (.invokevirtual 104, 3) := by decide +kernel
theorem dX10_isLike_8 : decode cX10_isLike 8 = .ok (.istore 6, 2) := by decide +kernel
theorem dX10_isLike_10 : decode cX10_isLike 10 = .ok (.aload_n 0, 1) := by decide +kernel
theorem dX10_isLike_11 : decode cX10_isLike 11 = .ok (.iload_n 3, 1) := by decide +kernel
theorem dX10_isLike_12 : decode cX10_isLike 12 = .ok (.iload 4, 2) := by decide +kernel
theorem dX10_isLike_14 : decode cX10_isLike 14 = .ok (.iload 5, 2) := by decide +kernel
theorem dX10_isLike_16 : decode cX10_isLike 16 = .ok (.invokevirtual 104, 3) := by decide +kernel
theorem dX10_isLike_19 : decode cX10_isLike 19 = .ok (.iload 6, 2) := by decide +kernel
theorem dX10_isLike_21 : decode cX10_isLike 21 = .ok (.if_icmp .eq 5, 3) := by decide +kernel
theorem dX10_isLike_24 : decode cX10_isLike 24 = .ok (.iconst 0, 1) := by decide +kernel
theorem dX10_isLike_25 : decode cX10_isLike 25 = .ok (.ireturn, 1) := by decide +kernel
theorem dX10_isLike_26 : decode cX10_isLike 26 = .ok (.iconst 1, 1) := by decide +kernel
theorem dX10_isLike_27 : decode cX10_isLike 27 = .ok (.istore 7, 2) := by decide +kernel
theorem dX10_isLike_29 : decode cX10_isLike 29 = .ok (.iload 7, 2) := by decide +kernel
theorem dX10_isLike_31 : decode cX10_isLike 31 = .ok (.iload 6, 2) := by decide +kernel
theorem dX10_isLike_33 : decode cX10_isLike 33 = .ok (.if_icmp .gt 37, 3) := by decide +kernel
theorem dX10_isLike_36 : decode cX10_isLike 36 = .ok (.aload_n 0, 1) := by decide +kernel
theorem dX10_isLike_37 : decode cX10_isLike 37 = .ok (.iload_n 1, 1) := by decide +kernel
theorem dX10_isLike_38 : decode cX10_isLike 38 = .ok (.iload_n 2, 1) := by decide +kernel
theorem dX10_isLike_39 : decode cX10_isLike 39 = .ok (.iload 5, 2) := by decide +kernel
theorem dX10_isLike_41 : decode cX10_isLike 41 = .ok (.iload 7, 2) := by decide +kernel
theorem dX10_isLike_43 : decode cX10_isLike 43 = .ok (.iadd, 1) := by decide +kernel
theorem dX10_isLike_44 : decode cX10_isLike 44 = .ok (.invokevirtual 104, 3) := by decide +kernel
theorem dX10_isLike_47 : decode cX10_isLike 47 = .ok (.aload_n 0, 1) := by decide +kernel
theorem dX10_isLike_48 : decode cX10_isLike 48 = .ok (.iload_n 3, 1) := by decide +kernel
theorem dX10_isLike_49 : decode cX10_isLike 49 = .ok (.iload 4, 2) := by decide +kernel
theorem dX10_isLike_51 : decode cX10_isLike 51 = .ok (.iload 5, 2) := by decide +kernel
theorem dX10_isLike_53 : decode cX10_isLike 53 = .ok (.iload 7, 2) := by decide +kernel
theorem dX10_isLike_55 : decode cX10_isLike 55 = .ok (.iadd, 1) := by decide +kernel
theorem dX10_isLike_56 : decode cX10_isLike 56 = .ok (.invokevirtual 104, 3) := by decide +kernel
theorem dX10_isLike_59 : decode cX10_isLike 59 = .ok (.if_icmp .eq 5, 3) := by decide +kernel
theorem dX10_isLike_62 : decode cX10_isLike 62 = .ok (.iconst 0, 1) := by decide +kernel
theorem dX10_isLike_63 : decode cX10_isLike 63 = .ok (.ireturn, 1) := by decide +kernel
theorem dX10_isLike_64 : decode cX10_isLike 64 = .ok (.iinc 7 1, 3) := by decide +kernel
theorem dX10_isLike_67 : decode cX10_isLike 67 = .ok (.goto (-38), 3) := by decide +kernel
theorem dX10_isLike_70 : decode cX10_isLike 70 = .ok (.iconst 1, 1) := by decide +kernel
theorem dX10_isLike_71 : decode cX10_isLike 71 = .ok (.ireturn, 1) := by decide +kernel
theorem dX10_hasTwice_0 : decode cX10_hasTwice 0 = .ok (.iconst 0, 1) := by decide +kernel
theorem dX10_hasTwice_1 : decode cX10_hasTwice 1 = .ok (.istore_n 2, 1) := by decide +kernel
theorem dX10_hasTwice_2 : decode cX10_hasTwice 2 = .ok (.iload_n 2, 1) := by decide +kernel
theorem dX10_hasTwice_3 : decode cX10_hasTwice 3 = .ok (.aload_n 0, 1) := by decide +kernel
theorem dX10_hasTwice_4 : decode cX10_hasTwice 4 = .ok (.getfield 13, 3) := by decide +kernel
theorem dX10_hasTwice_7 : decode cX10_hasTwice 7 = .ok (.iload_n 1, 1) := by decide +kernel
theorem dX10_hasTwice_8 : decode cX10_hasTwice 8 = .ok (.iaload, 1) := by decide +kernel
theorem dX10_hasTwice_9 : decode cX10_hasTwice 9 = .ok (.if_icmp .ge 85, 3) := by decide +kernel
theorem dX10_hasTwice_12 : decode cX10_hasTwice 12 = .ok (.aload_n 0, 1) := by decide +kernel
theorem dX10_hasTwice_13 : decode cX10_hasTwice 13 = .ok (.iload_n 1, 1) := by decide +kernel
theorem dX10_hasTwice_14 : decode cX10_hasTwice 14 = .ok (.iload_n 2, 1) := by decide +kernel
theorem dX10_hasTwice_15 : decode cX10_hasTwice 15 = .ok (.iconst 1, 1) := by decide +kernel
theorem dX10_hasTwice_16 : decode cX10_hasTwice 16 = .ok (.invokevirtual 104, 3) := by decide +kernel
theorem dX10_hasTwice_19 : decode cX10_hasTwice 19 = .ok (.iconst 2, 1) := by decide +kernel
theorem dX10_hasTwice_20 : decode cX10_hasTwice 20 = .ok (.if_icmp .eq 6, 3) := by decide +kernel
theorem dX10_hasTwice_23 : decode cX10_hasTwice 23 = .ok (.goto 65, 3) := by decide +kernel
theorem dX10_hasTwice_26 : decode cX10_hasTwice 26 = .ok (.iload_n 2, 1) := by decide +kernel
theorem dX10_hasTwice_27 : decode cX10_hasTwice 27 = .ok (.iconst 1, 1) := by decide +kernel
theorem dX10_hasTwice_28 : decode cX10_hasTwice 28 = .ok (.iadd, 1) := by decide +kernel
theorem dX10_hasTwice_29 : decode cX10_hasTwice 29 = .ok (.istore_n 3, 1) := by decide +kernel
theorem dX10_hasTwice_30 : decode cX10_hasTwice 30 = .ok (.iload_n 3, 1) := by decide +kernel
theorem dX10_hasTwice_31 : decode cX10_hasTwice 31 = .ok (.aload_n 0, 1) := by decide +kernel
theorem dX10_hasTwice_32 : decode cX10_hasTwice 32 = .ok (.iload_n 1, 1) := by decide +kernel
theorem dX10_hasTwice_33 : decode cX10_hasTwice 33 = .ok (.iload_n 2, 1) := by decide +kernel
theorem dX10_hasTwice_34 : decode cX10_hasTwice 34 = .ok (.invokevirtual 119, 3) := by decide +kernel
theorem dX10_hasTwice_37 : decode cX10_hasTwice 37 = .ok (.if_icmp .ge 51, 3) := by decide +kernel
theorem dX10_hasTwice_40 : decode cX10_hasTwice 40 = .ok (.iload_n 2, 1) := by decide +kernel
theorem dX10_hasTwice_41 : decode cX10_hasTwice 41 = .ok (.iconst 1, 1) := by decide +kernel
theorem dX10_hasTwice_42 : decode cX10_hasTwice 42 = .ok (.iadd, 1) := by decide +kernel
theorem dX10_hasTwice_43 : decode cX10_hasTwice 43 = .ok (.istore 4, 2) := by decide +kernel
theorem dX10_hasTwice_45 : decode cX10_hasTwice 45 = .ok (.iload 4, 2) := by decide +kernel
theorem dX10_hasTwice_47 : decode cX10_hasTwice 47 = .ok (.iload_n 3, 1) := by decide +kernel
theorem dX10_hasTwice_48 : decode cX10_hasTwice 48 = .ok (.if_icmp .ge 30, 3) := by decide +kernel
theorem dX10_hasTwice_51 : decode cX10_hasTwice 51 = .ok (.aload_n 0, 1) := by decide +kernel
theorem dX10_hasTwice_52 : decode cX10_hasTwice 52 = .ok (.iload_n 1, 1) := by decide +kernel
theorem dX10_hasTwice_53 : decode cX10_hasTwice 53 = .ok (.iload_n 3, 1) := by decide +kernel
theorem dX10_hasTwice_54 : decode cX10_hasTwice 54 = .ok (.iload_n 1, 1) := by decide +kernel
theorem dX10_hasTwice_55 : decode cX10_hasTwice 55 = .ok (.iload 4, 2) := by decide +kernel
theorem dX10_hasTwice_57 : decode cX10_hasTwice 57 = .ok (.iconst 3, 1) := by decide +kernel
theorem dX10_hasTwice_58 : decode cX10_hasTwice 58 = .ok (.invokevirtual 122, 3) := by decide +kernel
theorem dX10_hasTwice_61 : decode cX10_hasTwice 61 = .ok (.ifCond .eq 5, 3) := by decide +kernel
theorem dX10_hasTwice_64 : decode cX10_hasTwice 64 = .ok (.iconst 1, 1) := by decide +kernel
theorem dX10_hasTwice_65 : decode cX10_hasTwice 65 = .ok (.ireturn, 1) := by decide +kernel
theorem dX10_hasTwice_66 : decode cX10_hasTwice 66 = .ok (.aload_n 0, 1) := by decide +kernel
theorem dX10_hasTwice_67 : decode cX10_hasTwice 67 = .ok (.iload_n 1, 1) := by decide +kernel
theorem dX10_hasTwice_68 : decode cX10_hasTwice 68 = .ok (.iload 4, 2) := by decide +kernel
theorem dX10_hasTwice_70 : decode cX10_hasTwice 70 = .ok (.invokevirtual 119, 3) := by decide +kernel
theorem dX10_hasTwice_73 : decode cX10_hasTwice 73 = .ok (.istore 4, 2) := by decide +kernel
theorem dX10_hasTwice_75 : decode cX10_hasTwice 75 = .ok (.goto (-30), 3) := by decide +kernel
theorem dX10_hasTwice_78 : decode cX10_hasTwice 78 = .ok (.aload_n 0, 1) := by decide +kernel
theorem dX10_hasTwice_79 : decode cX10_hasTwice 79 = .ok (.iload_n 1, 1) := by decide +kernel
theorem dX10_hasTwice_80 : decode cX10_hasTwice 80 = .ok (.iload_n 3, 1) := by decide +kernel
theorem dX10_hasTwice_81 : decode cX10_hasTwice 81 = .ok (.invokevirtual 119, 3) := by decide +kernel
theorem dX10_hasTwice_84 : decode cX10_hasTwice 84 = .ok (.istore_n 3, 1) := by decide +kernel
theorem dX10_hasTwice_85 : decode cX10_hasTwice 85 = .ok (.goto (-55), 3) := by decide +kernel
theorem dX10_hasTwice_88 : decode cX10_hasTwice 88 = .ok (.iinc 2 1, 3) := by decide +kernel
theorem dX10_hasTwice_91 : decode cX10_hasTwice 91 = .ok (.goto (-89), 3) := by decide +kernel
theorem dX10_hasTwice_94 : decode cX10_hasTwice 94 = .ok (.iconst 0, 1) := by decide +kernel
theorem dX10_hasTwice_95 : decode cX10_hasTwice 95 = .ok (.ireturn, 1) := by decide +kernel
theorem dX10_isTooDeep_0 : decode cX10_isTooDeep 0 = .ok (.iconst 0, 1) := by decide +kernel
theorem dX10_isTooDeep_1 : decode cX10_isTooDeep 1 = .ok (.istore_n 2, 1) := by decide +kernel
theorem dX10_isTooDeep_2 : decode cX10_isTooDeep 2 = .ok (.iload_n 2, 1) := by decide +kernel
theorem dX10_isTooDeep_3 : decode cX10_isTooDeep 3 = .ok (.aload_n 0, 1) := by decide +kernel
theorem dX10_isTooDeep_4 : decode cX10_isTooDeep 4 = .ok (.getfield 13, 3) := by decide +kernel
theorem dX10_isTooDeep_7 : decode cX10_isTooDeep 7 = .ok (.iload_n 1, 1) := by decide +kernel
theorem dX10_isTooDeep_8 : decode cX10_isTooDeep 8 = .ok (.iaload, 1) := by decide +kernel
theorem dX10_isTooDeep_9 : decode cX10_isTooDeep 9 = .ok (.if_icmp .ge 22, 3) := by decide +kernel
theorem dX10_isTooDeep_12 : decode cX10_isTooDeep 12 = .ok (.aload_n 0, 1) := by decide +kernel
theorem dX10_isTooDeep_13 : decode cX10_isTooDeep 13 = .ok (.iload_n 1, 1) := by decide +kernel
theorem dX10_isTooDeep_14 : decode cX10_isTooDeep 14 = .ok (.iload_n 2, 1) := by decide +kernel
theorem dX10_isTooDeep_15 : decode cX10_isTooDeep 15 = .ok (.invokevirtual 115, 3) := by decide +kernel
theorem dX10_isTooDeep_18 : decode cX10_isTooDeep 18 = .ok (.bipush 12, 2) := by decide +kernel
theorem dX10_isTooDeep_20 : decode cX10_isTooDeep 20 = .ok (.if_icmp .lt 5, 3) := by decide +kernel
theorem dX10_isTooDeep_23 : decode cX10_isTooDeep 23 = .ok (.iconst 1, 1) := by decide +kernel
theorem dX10_isTooDeep_24 : decode cX10_isTooDeep 24 = .ok (.ireturn, 1) := by decide +kernel
theorem dX10_isTooDeep_25 : decode cX10_isTooDeep 25 = .ok (.iinc 2 1, 3) := by decide +kernel
theorem dX10_isTooDeep_28 : decode cX10_isTooDeep 28 = .ok (.goto (-26), 3) := by decide +kernel
theorem dX10_isTooDeep_31 : decode cX10_isTooDeep 31 = .ok (.iconst 0, 1) := by decide +kernel
theorem dX10_isTooDeep_32 : decode cX10_isTooDeep 32 = .ok (.ireturn, 1) := by decide +kernel
theorem dX10_feed_0 : decode cX10_feed 0 = .ok (.iload_n 3, 1) := by decide +kernel
theorem dX10_feed_1 : decode cX10_feed 1 = .ok (.iconst 1, 1) := by decide +kernel
theorem dX10_feed_2 : decode cX10_feed 2 = .ok (.bipush 8, 2) := by decide +kernel
theorem dX10_feed_4 : decode cX10_feed 4 = .ok (.invokestatic 96, 3) := by decide +kernel
theorem dX10_feed_7 : decode cX10_feed 7 = .ok (.ifCond .ne 9, 3) := by decide +kernel
theorem dX10_feed_10 : decode cX10_feed 10 = .ok (.aload_n 0, 1) := by decide +kernel
theorem dX10_feed_11 : decode cX10_feed 11 = .ok (.iconst (-1), 1) := by decide +kernel
theorem dX10_feed_12 : decode cX10_feed 12 = .ok (.invokevirtual 126, 3) := by decide +kernel
theorem dX10_feed_15 : decode cX10_feed 15 = .ok (.ireturn, 1) := by decide +kernel
theorem dX10_feed_16 : decode cX10_feed 16 = .ok (.aload_n 0, 1) := by decide +kernel
theorem dX10_feed_17 : decode cX10_feed 17 = .ok (.getfield 130, 3) := by decide +kernel
theorem dX10_feed_20 : decode cX10_feed 20 = .ok (.iload_n 3, 1) := by decide +kernel
theorem dX10_feed_21 : decode cX10_feed 21 = .ok (.iadd, 1) := by decide +kernel
theorem dX10_feed_22 : decode cX10_feed 22 = .ok (.sipush 400, 3) := by decide +kernel
theorem dX10_feed_25 : decode cX10_feed 25 = .ok (.if_icmp .le 10, 3) := by decide +kernel
theorem dX10_feed_28 : decode cX10_feed 28 = .ok (.aload_n 0, 1) := by decide +kernel
theorem dX10_feed_29 : decode cX10_feed 29 = .ok (.bipush (-5), 2) := by decide +kernel
theorem dX10_feed_31 : decode cX10_feed 31 = .ok (.invokevirtual 126, 3) := by decide +kernel
theorem dX10_feed_34 : decode cX10_feed 34 = .ok (.ireturn, 1) := by decide +kernel
theorem dX10_feed_35 : decode cX10_feed 35 = .ok (.iconst 0, 1) := by decide +kernel
theorem dX10_feed_36 : decode cX10_feed 36 = .ok (.istore 4, 2) := by decide +kernel
theorem dX10_feed_38 : decode cX10_feed 38 = .ok (.iload 4, 2) := by decide +kernel
theorem dX10_feed_40 : decode cX10_feed 40 = .ok (.iload_n 3, 1) := by decide +kernel
theorem dX10_feed_41 : decode cX10_feed 41 = .ok (.if_icmp .ge 33, 3) := by decide +kernel
theorem dX10_feed_44 : decode cX10_feed 44 = .ok (.aload_n 0, 1) := by decide +kernel
theorem dX10_feed_45 : decode cX10_feed 45 = .ok (.getfield 16, 3) := by decide +kernel
theorem dX10_feed_48 : decode cX10_feed 48 = .ok (.aload_n 0, 1) := by decide +kernel
theorem dX10_feed_49 : decode cX10_feed 49 = .ok (.getfield 130, 3) := by decide +kernel
theorem dX10_feed_52 : decode cX10_feed 52 = .ok (.iload 4, 2) := by decide +kernel
theorem dX10_feed_54 : decode cX10_feed 54 = .ok (.iadd, 1) := by decide +kernel
theorem dX10_feed_55 : decode cX10_feed 55 = .ok (.lload_n 1, 1) := by decide +kernel
theorem dX10_feed_56 : decode cX10_feed 56 = .ok (.bipush 8, 2) := by decide +kernel
theorem dX10_feed_58 : decode cX10_feed 58 = .ok (.iload 4, 2) := by decide +kernel
theorem dX10_feed_60 : decode cX10_feed 60 = .ok (.imul, 1) := by decide +kernel
theorem dX10_feed_61 : decode cX10_feed 61 = .ok (.lshr, 1) := by decide +kernel
theorem dX10_feed_62 : decode cX10_feed 62 = .ok (.ldc2_w 133, 3) := by decide +kernel
theorem dX10_feed_65 : decode cX10_feed 65 = .ok (.land, 1) := by decide +kernel
theorem dX10_feed_66 : decode cX10_feed 66 = .ok (.l2i, 1) := by decide +kernel
theorem dX10_feed_67 : decode cX10_feed 67 = .ok (.iastore, 1) := by decide +kernel
theorem dX10_feed_68 : decode cX10_feed 68 = .ok (.iinc 4 1, 3) := by decide +kernel
theorem dX10_feed_71 : decode cX10_feed 71 = .ok (.goto (-33), 3) := by decide +kernel
theorem dX10_feed_74 : decode cX10_feed 74 = .ok (.aload_n 0, 1) := by decide +kernel
theorem dX10_feed_75 : decode cX10_feed 75 = .ok (.dup, 1) := by decide +kernel
theorem dX10_feed_76 : decode cX10_feed 76 = .ok (.getfield 130, 3) := by decide +kernel
theorem dX10_feed_79 : decode cX10_feed 79 = .ok (.iload_n 3, 1) := by decide +kernel
theorem dX10_feed_80 : decode cX10_feed 80 = .ok (.iadd, 1) := by decide +kernel
theorem dX10_feed_81 : decode cX10_feed 81 = .ok (.putfield 130, 3) := by decide +kernel
theorem dX10_feed_84 : decode cX10_feed 84 = .ok (.aload_n 0, 1) := by decide +kernel
theorem dX10_feed_85 : decode cX10_feed 85 = .ok (.getfield 130, 3) := by decide +kernel
theorem dX10_feed_88 : decode cX10_feed 88 = .ok (.ireturn, 1) := by decide +kernel
theorem dX10_isLetter_0 : decode cX10_isLetter 0 = .ok (.iload_n 0, 1) := by decide +kernel
theorem dX10_isLetter_1 : decode cX10_isLetter 1 = .ok (.bipush 97, 2) := by decide +kernel
theorem dX10_isLetter_3 : decode cX10_isLetter 3 = .ok (.if_icmp .lt 13, 3) := by decide +kernel
theorem dX10_isLetter_6 : decode cX10_isLetter 6 = .ok (.iload_n 0, 1) := by decide +kernel
theorem dX10_isLetter_7 : decode cX10_isLetter 7 = .ok (.bipush 122, 2) := by decide +kernel
theorem dX10_isLetter_9 : decode cX10_isLetter 9 = .ok (.if_icmp .gt 7, 3) := by decide +kernel
theorem dX10_isLetter_12 : decode cX10_isLetter 12 = .ok (.iconst 1, 1) := by decide +kernel
theorem dX10_isLetter_13 : decode cX10_isLetter 13 = .ok (.goto 4, 3) := by decide +kernel
theorem dX10_isLetter_16 : decode cX10_isLetter 16 = .ok (.iconst 0, 1) := by decide +kernel
theorem dX10_isLetter_17 : decode cX10_isLetter 17 = .ok (.ireturn, 1) := by decide +kernel
theorem dX10_isSign_0 : decode cX10_isSign 0 = .ok (.iload_n 0, 1) := by decide +kernel
theorem dX10_isSign_1 : decode cX10_isSign 1 = .ok (.invokestatic 135, 3) := by decide +kernel
theorem dX10_isSign_4 : decode cX10_isSign 4 = .ok (.ifCond .ne 15, 3) := by decide +kernel
theorem dX10_isSign_7 : decode cX10_isSign 7 = .ok (.iload_n 0, 1) := by decide +kernel
theorem dX10_isSign_8 : decode cX10_isSign 8 = .ok (.bipush 48, 2) := by decide +kernel
theorem dX10_isSign_10 : decode cX10_isSign 10 = .ok (.if_icmp .lt 13, 3) := by decide +kernel
theorem dX10_isSign_13 : decode cX10_isSign 13 = .ok (.iload_n 0, 1) := by decide +kernel
theorem dX10_isSign_14 : decode cX10_isSign 14 = .ok (.bipush 57, 2) := by decide +kernel
theorem dX10_isSign_16 : decode cX10_isSign 16 = .ok (.if_icmp .gt 7, 3) := by decide +kernel
theorem dX10_isSign_19 : decode cX10_isSign 19 = .ok (.iconst 1, 1) := by decide +kernel
theorem dX10_isSign_20 : decode cX10_isSign 20 = .ok (.goto 4, 3) := by decide +kernel
theorem dX10_isSign_23 : decode cX10_isSign 23 = .ok (.iconst 0, 1) := by decide +kernel
theorem dX10_isSign_24 : decode cX10_isSign 24 = .ok (.ireturn, 1) := by decide +kernel
theorem dX10_at_0 : decode cX10_at 0 = .ok (.iload_n 1, 1) := by decide +kernel
theorem dX10_at_1 : decode cX10_at 1 = .ok (.iload_n 2, 1) := by decide +kernel
theorem dX10_at_2 : decode cX10_at 2 = .ok (.if_icmp .ge 12, 3) := by decide +kernel
theorem dX10_at_5 : decode cX10_at 5 = .ok (.aload_n 0, 1) := by decide +kernel
theorem dX10_at_6 : decode cX10_at 6 = .ok (.getfield 16, 3) := by decide +kernel
theorem dX10_at_9 : decode cX10_at 9 = .ok (.iload_n 1, 1) := by decide +kernel
theorem dX10_at_10 : decode cX10_at 10 = .ok (.iaload, 1) := by decide +kernel
theorem dX10_at_11 : decode cX10_at 11 = .ok (.goto 4, 3) := by decide +kernel
theorem dX10_at_14 : decode cX10_at 14 = .ok (.iconst (-1), 1) := by decide +kernel
theorem dX10_at_15 : decode cX10_at 15 = .ok (.ireturn, 1) := by decide +kernel
theorem dX10_signs_0 : decode cX10_signs 0 = .ok (.iload_n 2, 1) := by decide +kernel
theorem dX10_signs_1 : decode cX10_signs 1 = .ok (.istore 6, 2) := by decide +kernel
theorem dX10_signs_3 : decode cX10_signs 3 = .ok (.iload 4, 2) := by decide +kernel
theorem dX10_signs_5 : decode cX10_signs 5 = .ok (.iconst 3, 1) := by decide +kernel
theorem dX10_signs_6 : decode cX10_signs 6 = .ok (.if_icmp .ne 19, 3) := by decide +kernel
theorem dX10_signs_9 : decode cX10_signs 9 = .ok (.aload_n 0, 1) := by decide +kernel
theorem dX10_signs_10 : decode cX10_signs 10 = .ok (.iload 6, 2) := by decide +kernel
theorem dX10_signs_12 : decode cX10_signs 12 = .ok (.iload_n 3, 1) := by decide +kernel
theorem dX10_signs_13 : decode cX10_signs 13 = .ok (.invokevirtual 138, 3) := by decide +kernel
theorem dX10_signs_16 : decode cX10_signs 16 = .ok (.invokestatic 135, 3) := by decide +kernel
theorem dX10_signs_19 : decode cX10_signs 19 = .ok (.ifCond .eq 62, 3) := by decide +kernel
theorem dX10_signs_22 : decode cX10_signs 22 = .ok (.goto 16, 3) := by decide +kernel
theorem dX10_signs_25 : decode cX10_signs 25 = .ok (.aload_n 0, 1) := by decide +kernel
theorem dX10_signs_26 : decode cX10_signs 26 = .ok (.iload 6, 2) := by decide +kernel
theorem dX10_signs_28 : decode cX10_signs 28 = .ok (.iload_n 3, 1) := by decide +kernel
theorem dX10_signs_29 : decode cX10_signs 29 = .ok (.invokevirtual 138, 3) := by decide +kernel
theorem dX10_signs_32 : decode cX10_signs 32 = .ok (.invokestatic 141, 3) := by decide +kernel
theorem dX10_signs_35 : decode cX10_signs 35 = .ok (.ifCond .eq 46, 3) := by decide +kernel
theorem dX10_signs_38 : decode cX10_signs 38 = .ok (.iload 6, 2) := by decide +kernel
theorem dX10_signs_40 : decode cX10_signs 40 = .ok (.iload_n 2, 1) := by decide +kernel
theorem dX10_signs_41 : decode cX10_signs 41 = .ok (.isub, 1) := by decide +kernel
theorem dX10_signs_42 : decode cX10_signs 42 = .ok (.iload 5, 2) := by decide +kernel
theorem dX10_signs_44 : decode cX10_signs 44 = .ok (.if_icmp .ne 8, 3) := by decide +kernel
theorem dX10_signs_47 : decode cX10_signs 47 = .ok (.iconst (-1), 1) := by decide +kernel
theorem dX10_signs_48 : decode cX10_signs 48 = .ok (.iload 6, 2) := by decide +kernel
theorem dX10_signs_50 : decode cX10_signs 50 = .ok (.isub, 1) := by decide +kernel
theorem dX10_signs_51 : decode cX10_signs 51 = .ok (.ireturn, 1) := by decide +kernel
theorem dX10_signs_52 : decode cX10_signs 52 = .ok (.aload_n 0, 1) := by decide +kernel
theorem dX10_signs_53 : decode cX10_signs 53 = .ok (.bipush 8, 2) := by decide +kernel
theorem dX10_signs_55 : decode cX10_signs 55 = .ok (.iload_n 1, 1) := by decide +kernel
theorem dX10_signs_56 : decode cX10_signs 56 = .ok (.iload 4, 2) := by decide +kernel
theorem dX10_signs_58 : decode cX10_signs 58 = .ok (.iconst 1, 1) := by decide +kernel
theorem dX10_signs_59 : decode cX10_signs 59 = .ok (.iadd, 1) := by decide +kernel
theorem dX10_signs_60 : decode cX10_signs 60 = .ok (.iload 6, 2) := by decide +kernel
theorem dX10_signs_62 : decode cX10_signs 62 = .ok (.iadd, 1) := by decide +kernel
theorem dX10_signs_63 : decode cX10_signs 63 = .ok (.iload_n 2, 1) := by decide +kernel
theorem dX10_signs_64 : decode cX10_signs 64 = .ok (.isub, 1) := by decide +kernel
theorem dX10_signs_65 : decode cX10_signs 65 = .ok (.aload_n 0, 1) := by decide +kernel
theorem dX10_signs_66 : decode cX10_signs 66 = .ok (.getfield 16, 3) := by decide +kernel
theorem dX10_signs_69 : decode cX10_signs 69 = .ok (.iload 6, 2) := by decide +kernel
theorem dX10_signs_71 : decode cX10_signs 71 = .ok (.iaload, 1) := by decide +kernel
theorem dX10_signs_72 : decode cX10_signs 72 = .ok (.invokevirtual 108, 3) := by decide +kernel
theorem dX10_signs_75 : decode cX10_signs 75 = .ok (.iinc 6 1, 3) := by decide +kernel
theorem dX10_signs_78 : decode cX10_signs 78 = .ok (.goto (-75), 3) := by decide +kernel
theorem dX10_signs_81 : decode cX10_signs 81 = .ok (.aload_n 0, 1) := by decide +kernel
theorem dX10_signs_82 : decode cX10_signs 82 = .ok (.bipush 8, 2) := by decide +kernel
theorem dX10_signs_84 : decode cX10_signs 84 = .ok (.iload_n 1, 1) := by decide +kernel
theorem dX10_signs_85 : decode cX10_signs 85 = .ok (.iload 4, 2) := by decide +kernel
theorem dX10_signs_87 : decode cX10_signs 87 = .ok (.iload 6, 2) := by decide +kernel
theorem dX10_signs_89 : decode cX10_signs 89 = .ok (.iload_n 2, 1) := by decide +kernel
theorem dX10_signs_90 : decode cX10_signs 90 = .ok (.isub, 1) := by decide +kernel
theorem dX10_signs_91 : decode cX10_signs 91 = .ok (.invokevirtual 108, 3) := by decide +kernel
theorem dX10_signs_94 : decode cX10_signs 94 = .ok (.iload 6, 2) := by decide +kernel
theorem dX10_signs_96 : decode cX10_signs 96 = .ok (.iload_n 2, 1) := by decide +kernel
theorem dX10_signs_97 : decode cX10_signs 97 = .ok (.if_icmp .ne 10, 3) := by decide +kernel
theorem dX10_signs_100 : decode cX10_signs 100 = .ok (.iconst (-1), 1) := by decide +kernel
theorem dX10_signs_101 : decode cX10_signs 101 = .ok (.iload 6, 2) := by decide +kernel
theorem dX10_signs_103 : decode cX10_signs 103 = .ok (.isub, 1) := by decide +kernel
theorem dX10_signs_104 : decode cX10_signs 104 = .ok (.goto 5, 3) := by decide +kernel
theorem dX10_signs_107 : decode cX10_signs 107 = .ok (.iload 6, 2) := by decide +kernel
theorem dX10_signs_109 : decode cX10_signs 109 = .ok (.ireturn, 1) := by decide +kernel
theorem dX10_reads_0 : decode cX10_reads 0 = .ok (.aload_n 0, 1) := by decide +kernel
theorem dX10_reads_1 : decode cX10_reads 1 = .ok (.getfield 13, 3) := by decide +kernel
theorem dX10_reads_4 : decode cX10_reads 4 = .ok (.bipush 8, 2) := by decide +kernel
theorem dX10_reads_6 : decode cX10_reads 6 = .ok (.iconst 0, 1) := by decide +kernel
theorem dX10_reads_7 : decode cX10_reads 7 = .ok (.iastore, 1) := by decide +kernel
theorem dX10_reads_8 : decode cX10_reads 8 = .ok (.iconst 0, 1) := by decide +kernel
theorem dX10_reads_9 : decode cX10_reads 9 = .ok (.istore_n 2, 1) := by decide +kernel
theorem dX10_reads_10 : decode cX10_reads 10 = .ok (.iconst 0, 1) := by decide +kernel
theorem dX10_reads_11 : decode cX10_reads 11 = .ok (.istore_n 3, 1) := by decide +kernel
theorem dX10_reads_12 : decode cX10_reads 12 = .ok (.iconst 1, 1) := by decide +kernel
theorem dX10_reads_13 : decode cX10_reads 13 = .ok (.istore 4, 2) := by decide +kernel
theorem dX10_reads_15 : decode cX10_reads 15 = .ok (.iload 4, 2) := by decide +kernel
theorem dX10_reads_17 : decode cX10_reads 17 = .ok (.ifCond .eq 438, 3) := by decide +kernel
theorem dX10_reads_20 : decode cX10_reads 20 = .ok (.aload_n 0, 1) := by decide +kernel
theorem dX10_reads_21 : decode cX10_reads 21 = .ok (.getfield 13, 3) := by decide +kernel
theorem dX10_reads_24 : decode cX10_reads 24 = .ok (.bipush 8, 2) := by decide +kernel
theorem dX10_reads_26 : decode cX10_reads 26 = .ok (.iaload, 1) := by decide +kernel
theorem dX10_reads_27 : decode cX10_reads 27 = .ok (.istore 5, 2) := by decide +kernel
theorem dX10_reads_29 : decode cX10_reads 29 = .ok (.aload_n 0, 1) := by decide +kernel
theorem dX10_reads_30 : decode cX10_reads 30 = .ok (.iload_n 3, 1) := by decide +kernel
theorem dX10_reads_31 : decode cX10_reads 31 = .ok (.iload_n 1, 1) := by decide +kernel
theorem dX10_reads_32 : decode cX10_reads 32 = .ok (.invokevirtual 138, 3) := by decide +kernel
theorem dX10_reads_35 : decode cX10_reads 35 = .ok (.invokestatic 135, 3) := by decide +kernel
theorem dX10_reads_38 : decode cX10_reads 38 = .ok (.ifCond .eq 16, 3) := by decide +kernel
theorem dX10_reads_41 : decode cX10_reads 41 = .ok (.iload 5, 2) := by decide +kernel
theorem dX10_reads_43 : decode cX10_reads 43 = .ok (.bipush 30, 2) := by decide +kernel
theorem dX10_reads_45 : decode cX10_reads 45 = .ok (.if_icmp .eq 9, 3) := by decide +kernel
theorem dX10_reads_48 : decode cX10_reads 48 = .ok (.iload_n 2, 1) := by decide +kernel
theorem dX10_reads_49 : decode cX10_reads 49 = .ok (.bipush 12, 2) := by decide +kernel
theorem dX10_reads_51 : decode cX10_reads 51 = .ok (.if_icmp .lt 5, 3) := by decide +kernel
theorem dX10_reads_54 : decode cX10_reads 54 = .ok (.iload_n 3, 1) := by decide +kernel
theorem dX10_reads_55 : decode cX10_reads 55 = .ok (.ireturn, 1) := by decide +kernel
theorem dX10_reads_56 : decode cX10_reads 56 = .ok (.iload_n 3, 1) := by decide +kernel
theorem dX10_reads_57 : decode cX10_reads 57 = .ok (.istore 6, 2) := by decide +kernel
theorem dX10_reads_59 : decode cX10_reads 59 = .ok (.aload_n 0, 1) := by decide +kernel
theorem dX10_reads_60 : decode cX10_reads 60 = .ok (.bipush 8, 2) := by decide +kernel
theorem dX10_reads_62 : decode cX10_reads 62 = .ok (.iload 5, 2) := by decide +kernel
theorem dX10_reads_64 : decode cX10_reads 64 = .ok (.iconst 1, 1) := by decide +kernel
theorem dX10_reads_65 : decode cX10_reads 65 = .ok (.iconst 0, 1) := by decide +kernel
theorem dX10_reads_66 : decode cX10_reads 66 = .ok (.invokevirtual 108, 3) := by decide +kernel
theorem dX10_reads_69 : decode cX10_reads 69 = .ok (.aload_n 0, 1) := by decide +kernel
theorem dX10_reads_70 : decode cX10_reads 70 = .ok (.bipush 8, 2) := by decide +kernel
theorem dX10_reads_72 : decode cX10_reads 72 = .ok (.iload 5, 2) := by decide +kernel
theorem dX10_reads_74 : decode cX10_reads 74 = .ok (.iconst 2, 1) := by decide +kernel
theorem dX10_reads_75 : decode cX10_reads 75 = .ok (.iload_n 2, 1) := by decide +kernel
theorem dX10_reads_76 : decode cX10_reads 76 = .ok (.invokevirtual 108, 3) := by decide +kernel
theorem dX10_reads_79 : decode cX10_reads 79 = .ok (.aload_n 0, 1) := by decide +kernel
theorem dX10_reads_80 : decode cX10_reads 80 = .ok (.bipush 8, 2) := by decide +kernel
theorem dX10_reads_82 : decode cX10_reads 82 = .ok (.iload 5, 2) := by decide +kernel
theorem dX10_reads_84 : decode cX10_reads 84 = .ok (.bipush 10, 2) := by decide +kernel
theorem dX10_reads_86 : decode cX10_reads 86 = .ok (.iconst 0, 1) := by decide +kernel
theorem dX10_reads_87 : decode cX10_reads 87 = .ok (.invokevirtual 108, 3) := by decide +kernel
theorem dX10_reads_90 : decode cX10_reads 90 = .ok (.aload_n 0, 1) := by decide +kernel
theorem dX10_reads_91 : decode cX10_reads 91 = .ok (.iload 5, 2) := by decide +kernel
theorem dX10_reads_93 : decode cX10_reads 93 = .ok (.iload_n 3, 1) := by decide +kernel
theorem dX10_reads_94 : decode cX10_reads 94 = .ok (.iload_n 1, 1) := by decide +kernel
theorem dX10_reads_95 : decode cX10_reads 95 = .ok (.iconst 3, 1) := by decide +kernel
theorem dX10_reads_96 : decode cX10_reads 96 = .ok (.bipush 6, 2) := by decide +kernel
theorem dX10_reads_98 : decode cX10_reads 98 = .ok (.invokevirtual 144, 3) := by decide +kernel
theorem dX10_reads_101 : decode cX10_reads 101 = .ok (.istore_n 3, 1) := by decide +kernel
theorem dX10_reads_102 : decode cX10_reads 102 = .ok (.iload_n 3, 1) := by decide +kernel
theorem dX10_reads_103 : decode cX10_reads 103 = .ok (.ifCond .ge 7, 3) := by decide +kernel
theorem dX10_reads_106 : decode cX10_reads 106 = .ok (.iconst (-1), 1) := by decide +kernel
theorem dX10_reads_107 : decode cX10_reads 107 = .ok (.iload_n 3, 1) := by decide +kernel
theorem dX10_reads_108 : decode cX10_reads 108 = .ok (.isub, 1) := by decide +kernel
theorem dX10_reads_109 : decode cX10_reads 109 = .ok (.ireturn, 1) := by decide +kernel
theorem dX10_reads_110 : decode cX10_reads 110 = .ok (.aload_n 0, 1) := by decide +kernel
theorem dX10_reads_111 : decode cX10_reads 111 = .ok (.getfield 13, 3) := by decide +kernel
theorem dX10_reads_114 : decode cX10_reads 114 = .ok (.bipush 8, 2) := by decide +kernel
theorem dX10_reads_116 : decode cX10_reads 116 = .ok (.dup2, 1) := by decide +kernel
theorem dX10_reads_117 : decode cX10_reads 117 = .ok (.iaload, 1) := by decide +kernel
theorem dX10_reads_118 : decode cX10_reads 118 = .ok (.iconst 1, 1) := by decide +kernel
theorem dX10_reads_119 : decode cX10_reads 119 = .ok (.iadd, 1) := by decide +kernel
theorem dX10_reads_120 : decode cX10_reads 120 = .ok (.iastore, 1) := by decide +kernel
theorem dX10_reads_121 : decode cX10_reads 121 = .ok (.iload_n 2, 1) := by decide +kernel
theorem dX10_reads_122 : decode cX10_reads 122 = .ok (.ifCond .le 73, 3) := by decide +kernel
theorem dX10_reads_125 : decode cX10_reads 125 = .ok (.aload_n 0, 1) := by decide +kernel
theorem dX10_reads_126 : decode cX10_reads 126 = .ok (.bipush 8, 2) := by decide +kernel
theorem dX10_reads_128 : decode cX10_reads 128 = .ok (.aload_n 0, 1) := by decide +kernel
theorem dX10_reads_129 : decode cX10_reads 129 = .ok (.getfield 28, 3) := by decide +kernel
theorem dX10_reads_132 : decode cX10_reads 132 = .ok (.iload_n 2, 1) := by decide +kernel
theorem dX10_reads_133 : decode cX10_reads 133 = .ok (.iconst 1, 1) := by decide +kernel
theorem dX10_reads_134 : decode cX10_reads 134 = .ok (.isub, 1) := by decide +kernel
theorem dX10_reads_135 : decode cX10_reads 135 = .ok (.iaload, 1) := by decide +kernel
theorem dX10_reads_136 : decode cX10_reads 136 = .ok (.iconst 1, 1) := by decide +kernel
theorem dX10_reads_137 : decode cX10_reads 137 = .ok (.invokevirtual 104, 3) := by decide +kernel
theorem dX10_reads_140 : decode cX10_reads 140 = .ok (.iconst 2, 1) := by decide +kernel
theorem dX10_reads_141 : decode cX10_reads 141 = .ok (.if_icmp .ne 54, 3) := by decide +kernel
theorem dX10_reads_144 : decode cX10_reads 144 = .ok (.aload_n 0, 1) := by decide +kernel
theorem dX10_reads_145 : decode cX10_reads 145 = .ok (.getfield 28, 3) := by decide +kernel
theorem dX10_reads_148 : decode cX10_reads 148 = .ok (.iload_n 2, 1) := by decide +kernel
theorem dX10_reads_149 : decode cX10_reads 149 = .ok (.iconst 1, 1) := by decide +kernel
theorem dX10_reads_150 : decode cX10_reads 150 = .ok (.isub, 1) := by decide +kernel
theorem dX10_reads_151 : decode cX10_reads 151 = .ok (.iaload, 1) := by decide +kernel
theorem dX10_reads_152 : decode cX10_reads 152 = .ok (.iconst 1, 1) := by decide +kernel
theorem dX10_reads_153 : decode cX10_reads 153 = .ok (.iadd, 1) := by decide +kernel
theorem dX10_reads_154 : decode cX10_reads 154 = .ok (.istore 7, 2) := by decide +kernel
theorem dX10_reads_156 : decode cX10_reads 156 = .ok (.iload 7, 2) := by decide +kernel
theorem dX10_reads_158 : decode cX10_reads 158 = .ok (.iload 5, 2) := by decide +kernel
theorem dX10_reads_160 : decode cX10_reads 160 = .ok (.if_icmp .ge 35, 3) := by decide +kernel
theorem dX10_reads_163 : decode cX10_reads 163 = .ok (.aload_n 0, 1) := by decide +kernel
theorem dX10_reads_164 : decode cX10_reads 164 = .ok (.bipush 8, 2) := by decide +kernel
theorem dX10_reads_166 : decode cX10_reads 166 = .ok (.iload 7, 2) := by decide +kernel
theorem dX10_reads_168 : decode cX10_reads 168 = .ok (.bipush 8, 2) := by decide +kernel
theorem dX10_reads_170 : decode cX10_reads 170 = .ok (.iload 5, 2) := by decide +kernel
theorem dX10_reads_172 : decode cX10_reads 172 = .ok (.iconst 3, 1) := by decide +kernel
theorem dX10_reads_173 : decode cX10_reads 173 = .ok (.invokevirtual 122, 3) := by decide +kernel
theorem dX10_reads_176 : decode cX10_reads 176 = .ok (.ifCond .eq 6, 3) := by decide +kernel
theorem dX10_reads_179 : decode cX10_reads 179 = .ok (.iload 6, 2) := by decide +kernel
theorem dX10_reads_181 : decode cX10_reads 181 = .ok (.ireturn, 1) := by decide +kernel
theorem dX10_reads_182 : decode cX10_reads 182 = .ok (.aload_n 0, 1) := by decide +kernel
theorem dX10_reads_183 : decode cX10_reads 183 = .ok (.bipush 8, 2) := by decide +kernel
theorem dX10_reads_185 : decode cX10_reads 185 = .ok (.iload 7, 2) := by decide +kernel
theorem dX10_reads_187 : decode cX10_reads 187 = .ok (.invokevirtual 119, 3) := by decide +kernel
theorem dX10_reads_190 : decode cX10_reads 190 = .ok (.istore 7, 2) := by decide +kernel
theorem dX10_reads_192 : decode cX10_reads 192 = .ok (.goto (-36), 3) := by decide +kernel
theorem dX10_reads_195 : decode cX10_reads 195 = .ok (.aload_n 0, 1) := by decide +kernel
theorem dX10_reads_196 : decode cX10_reads 196 = .ok (.iload_n 3, 1) := by decide +kernel
theorem dX10_reads_197 : decode cX10_reads 197 = .ok (.iload_n 1, 1) := by decide +kernel
theorem dX10_reads_198 : decode cX10_reads 198 = .ok (.invokevirtual 138, 3) := by decide +kernel
theorem dX10_reads_201 : decode cX10_reads 201 = .ok (.bipush 61, 2) := by decide +kernel
theorem dX10_reads_203 : decode cX10_reads 203 = .ok (.if_icmp .ne 26, 3) := by decide +kernel
theorem dX10_reads_206 : decode cX10_reads 206 = .ok (.aload_n 0, 1) := by decide +kernel
theorem dX10_reads_207 : decode cX10_reads 207 = .ok (.iload 5, 2) := by decide +kernel
theorem dX10_reads_209 : decode cX10_reads 209 = .ok (.iload_n 3, 1) := by decide +kernel
theorem dX10_reads_210 : decode cX10_reads 210 = .ok (.iconst 1, 1) := by decide +kernel
theorem dX10_reads_211 : decode cX10_reads 211 = .ok (.iadd, 1) := by decide +kernel
theorem dX10_reads_212 : decode cX10_reads 212 = .ok (.iload_n 1, 1) := by decide +kernel
theorem dX10_reads_213 : decode cX10_reads 213 = .ok (.bipush 10, 2) := by decide +kernel
theorem dX10_reads_215 : decode cX10_reads 215 = .ok (.bipush 8, 2) := by decide +kernel
theorem dX10_reads_217 : decode cX10_reads 217 = .ok (.invokevirtual 144, 3) := by decide +kernel
theorem dX10_reads_220 : decode cX10_reads 220 = .ok (.istore_n 3, 1) := by decide +kernel
theorem dX10_reads_221 : decode cX10_reads 221 = .ok (.iload_n 3, 1) := by decide +kernel
theorem dX10_reads_222 : decode cX10_reads 222 = .ok (.ifCond .ge 7, 3) := by decide +kernel
theorem dX10_reads_225 : decode cX10_reads 225 = .ok (.iconst (-1), 1) := by decide +kernel
theorem dX10_reads_226 : decode cX10_reads 226 = .ok (.iload_n 3, 1) := by decide +kernel
theorem dX10_reads_227 : decode cX10_reads 227 = .ok (.isub, 1) := by decide +kernel
theorem dX10_reads_228 : decode cX10_reads 228 = .ok (.ireturn, 1) := by decide +kernel
theorem dX10_reads_229 : decode cX10_reads 229 = .ok (.aload_n 0, 1) := by decide +kernel
theorem dX10_reads_230 : decode cX10_reads 230 = .ok (.iload_n 3, 1) := by decide +kernel
theorem dX10_reads_231 : decode cX10_reads 231 = .ok (.iload_n 1, 1) := by decide +kernel
theorem dX10_reads_232 : decode cX10_reads 232 = .ok (.invokevirtual 138, 3) := by decide +kernel
theorem dX10_reads_235 : decode cX10_reads 235 = .ok (.istore 7, 2) := by decide +kernel
theorem dX10_reads_237 : decode cX10_reads 237 = .ok (.iload 7, 2) := by decide +kernel
theorem dX10_reads_239 : decode cX10_reads 239 = .ok (.bipush 40, 2) := by decide +kernel
theorem dX10_reads_241 : decode cX10_reads 241 = .ok (.if_icmp .eq 17, 3) := by decide +kernel
theorem dX10_reads_244 : decode cX10_reads 244 = .ok (.iload 7, 2) := by decide +kernel
theorem dX10_reads_246 : decode cX10_reads 246 = .ok (.bipush 123, 2) := by decide +kernel
theorem dX10_reads_248 : decode cX10_reads 248 = .ok (.if_icmp .eq 10, 3) := by decide +kernel
theorem dX10_reads_251 : decode cX10_reads 251 = .ok (.iload 7, 2) := by decide +kernel
theorem dX10_reads_253 : decode cX10_reads 253 = .ok (.bipush 60, 2) := by decide +kernel
theorem dX10_reads_255 : decode cX10_reads 255 = .ok (.if_icmp .ne 117, 3) := by decide +kernel
theorem dX10_reads_258 : decode cX10_reads 258 = .ok (.aload_n 0, 1) := by decide +kernel
theorem dX10_reads_259 : decode cX10_reads 259 = .ok (.bipush 8, 2) := by decide +kernel
theorem dX10_reads_261 : decode cX10_reads 261 = .ok (.iload 5, 2) := by decide +kernel
theorem dX10_reads_263 : decode cX10_reads 263 = .ok (.iconst 1, 1) := by decide +kernel
theorem dX10_reads_264 : decode cX10_reads 264 = .ok (.iload 7, 2) := by decide +kernel
theorem dX10_reads_266 : decode cX10_reads 266 = .ok (.bipush 40, 2) := by decide +kernel
theorem dX10_reads_268 : decode cX10_reads 268 = .ok (.if_icmp .ne 7, 3) := by decide +kernel
theorem dX10_reads_271 : decode cX10_reads 271 = .ok (.iconst 0, 1) := by decide +kernel
theorem dX10_reads_272 : decode cX10_reads 272 = .ok (.goto 15, 3) := by decide +kernel
theorem dX10_reads_275 : decode cX10_reads 275 = .ok (.iload 7, 2) := by decide +kernel
theorem dX10_reads_277 : decode cX10_reads 277 = .ok (.bipush 123, 2) := by decide +kernel
theorem dX10_reads_279 : decode cX10_reads 279 = .ok (.if_icmp .ne 7, 3) := by decide +kernel
theorem dX10_reads_282 : decode cX10_reads 282 = .ok (.iconst 1, 1) := by decide +kernel
theorem dX10_reads_283 : decode cX10_reads 283 = .ok (.goto 4, 3) := by decide +kernel
theorem dX10_reads_286 : decode cX10_reads 286 = .ok (.iconst 2, 1) := by decide +kernel
theorem dX10_reads_287 : decode cX10_reads 287 = .ok (.invokevirtual 108, 3) := by decide +kernel
theorem dX10_reads_290 : decode cX10_reads 290 = .ok (.aload_n 0, 1) := by decide +kernel
theorem dX10_reads_291 : decode cX10_reads 291 = .ok (.getfield 28, 3) := by decide +kernel
theorem dX10_reads_294 : decode cX10_reads 294 = .ok (.iload_n 2, 1) := by decide +kernel
theorem dX10_reads_295 : decode cX10_reads 295 = .ok (.iload 5, 2) := by decide +kernel
theorem dX10_reads_297 : decode cX10_reads 297 = .ok (.iastore, 1) := by decide +kernel
theorem dX10_reads_298 : decode cX10_reads 298 = .ok (.aload_n 0, 1) := by decide +kernel
theorem dX10_reads_299 : decode cX10_reads 299 = .ok (.getfield 31, 3) := by decide +kernel
theorem dX10_reads_302 : decode cX10_reads 302 = .ok (.iload_n 2, 1) := by decide +kernel
theorem dX10_reads_303 : decode cX10_reads 303 = .ok (.iload 7, 2) := by decide +kernel
theorem dX10_reads_305 : decode cX10_reads 305 = .ok (.bipush 40, 2) := by decide +kernel
theorem dX10_reads_307 : decode cX10_reads 307 = .ok (.if_icmp .ne 8, 3) := by decide +kernel
theorem dX10_reads_310 : decode cX10_reads 310 = .ok (.bipush 41, 2) := by decide +kernel
theorem dX10_reads_312 : decode cX10_reads 312 = .ok (.goto 17, 3) := by decide +kernel
theorem dX10_reads_315 : decode cX10_reads 315 = .ok (.iload 7, 2) := by decide +kernel
theorem dX10_reads_317 : decode cX10_reads 317 = .ok (.bipush 123, 2) := by decide +kernel
theorem dX10_reads_319 : decode cX10_reads 319 = .ok (.if_icmp .ne 8, 3) := by decide +kernel
theorem dX10_reads_322 : decode cX10_reads 322 = .ok (.bipush 125, 2) := by decide +kernel
theorem dX10_reads_324 : decode cX10_reads 324 = .ok (.goto 5, 3) := by decide +kernel
theorem dX10_reads_327 : decode cX10_reads 327 = .ok (.bipush 62, 2) := by decide +kernel
theorem dX10_reads_329 : decode cX10_reads 329 = .ok (.iastore, 1) := by decide +kernel
theorem dX10_reads_330 : decode cX10_reads 330 = .ok (.iinc 2 1, 3) := by decide +kernel
theorem dX10_reads_333 : decode cX10_reads 333 = .ok (.iinc 3 1, 3) := by decide +kernel
theorem dX10_reads_336 : decode cX10_reads 336 = .ok (.iload 7, 2) := by decide +kernel
theorem dX10_reads_338 : decode cX10_reads 338 = .ok (.bipush 40, 2) := by decide +kernel
theorem dX10_reads_340 : decode cX10_reads 340 = .ok (.if_icmp .eq (-325), 3) := by decide +kernel
theorem dX10_reads_343 : decode cX10_reads 343 = .ok (.aload_n 0, 1) := by decide +kernel
theorem dX10_reads_344 : decode cX10_reads 344 = .ok (.iload_n 3, 1) := by decide +kernel
theorem dX10_reads_345 : decode cX10_reads 345 = .ok (.iload_n 1, 1) := by decide +kernel
theorem dX10_reads_346 : decode cX10_reads 346 = .ok (.invokevirtual 138, 3) := by decide +kernel
theorem dX10_reads_349 : decode cX10_reads 349 = .ok (.aload_n 0, 1) := by decide +kernel
theorem dX10_reads_350 : decode cX10_reads 350 = .ok (.getfield 31, 3) := by decide +kernel
theorem dX10_reads_353 : decode cX10_reads 353 = .ok (.iload_n 2, 1) := by decide +kernel
theorem dX10_reads_354 : decode cX10_reads 354 = .ok (.iconst 1, 1) := by decide +kernel
theorem dX10_reads_355 : decode cX10_reads 355 = .ok (.isub, 1) := by decide +kernel
theorem dX10_reads_356 : decode cX10_reads 356 = .ok (.iaload, 1) := by decide +kernel
theorem dX10_reads_357 : decode cX10_reads 357 = .ok (.if_icmp .eq 6, 3) := by decide +kernel
theorem dX10_reads_360 : decode cX10_reads 360 = .ok (.goto (-345), 3) := by decide +kernel
theorem dX10_reads_363 : decode cX10_reads 363 = .ok (.iinc 2 (-1), 3) := by decide +kernel
theorem dX10_reads_366 : decode cX10_reads 366 = .ok (.iinc 3 1, 3) := by decide +kernel
theorem dX10_reads_369 : decode cX10_reads 369 = .ok (.goto 23, 3) := by decide +kernel
theorem dX10_reads_372 : decode cX10_reads 372 = .ok (.iload 7, 2) := by decide +kernel
theorem dX10_reads_374 : decode cX10_reads 374 = .ok (.bipush 33, 2) := by decide +kernel
theorem dX10_reads_376 : decode cX10_reads 376 = .ok (.if_icmp .ne 16, 3) := by decide +kernel
theorem dX10_reads_379 : decode cX10_reads 379 = .ok (.aload_n 0, 1) := by decide +kernel
theorem dX10_reads_380 : decode cX10_reads 380 = .ok (.bipush 8, 2) := by decide +kernel
theorem dX10_reads_382 : decode cX10_reads 382 = .ok (.iload 5, 2) := by decide +kernel
theorem dX10_reads_384 : decode cX10_reads 384 = .ok (.iconst 1, 1) := by decide +kernel
theorem dX10_reads_385 : decode cX10_reads 385 = .ok (.iconst 3, 1) := by decide +kernel
theorem dX10_reads_386 : decode cX10_reads 386 = .ok (.invokevirtual 108, 3) := by decide +kernel
theorem dX10_reads_389 : decode cX10_reads 389 = .ok (.iinc 3 1, 3) := by decide +kernel
theorem dX10_reads_392 : decode cX10_reads 392 = .ok (.iload_n 2, 1) := by decide +kernel
theorem dX10_reads_393 : decode cX10_reads 393 = .ok (.ifCond .le 29, 3) := by decide +kernel
theorem dX10_reads_396 : decode cX10_reads 396 = .ok (.aload_n 0, 1) := by decide +kernel
theorem dX10_reads_397 : decode cX10_reads 397 = .ok (.iload_n 3, 1) := by decide +kernel
theorem dX10_reads_398 : decode cX10_reads 398 = .ok (.iload_n 1, 1) := by decide +kernel
theorem dX10_reads_399 : decode cX10_reads 399 = .ok (.invokevirtual 138, 3) := by decide +kernel
theorem dX10_reads_402 : decode cX10_reads 402 = .ok (.aload_n 0, 1) := by decide +kernel
theorem dX10_reads_403 : decode cX10_reads 403 = .ok (.getfield 31, 3) := by decide +kernel
theorem dX10_reads_406 : decode cX10_reads 406 = .ok (.iload_n 2, 1) := by decide +kernel
theorem dX10_reads_407 : decode cX10_reads 407 = .ok (.iconst 1, 1) := by decide +kernel
theorem dX10_reads_408 : decode cX10_reads 408 = .ok (.isub, 1) := by decide +kernel
theorem dX10_reads_409 : decode cX10_reads 409 = .ok (.iaload, 1) := by decide +kernel
theorem dX10_reads_410 : decode cX10_reads 410 = .ok (.if_icmp .ne 12, 3) := by decide +kernel
theorem dX10_reads_413 : decode cX10_reads 413 = .ok (.iinc 2 (-1), 3) := by decide +kernel
theorem dX10_reads_416 : decode cX10_reads 416 = .ok (.iinc 3 1, 3) := by decide +kernel
theorem dX10_reads_419 : decode cX10_reads 419 = .ok (.goto (-27), 3) := by decide +kernel
theorem dX10_reads_422 : decode cX10_reads 422 = .ok (.iload_n 2, 1) := by decide +kernel
theorem dX10_reads_423 : decode cX10_reads 423 = .ok (.ifCond .le 18, 3) := by decide +kernel
theorem dX10_reads_426 : decode cX10_reads 426 = .ok (.aload_n 0, 1) := by decide +kernel
theorem dX10_reads_427 : decode cX10_reads 427 = .ok (.iload_n 3, 1) := by decide +kernel
theorem dX10_reads_428 : decode cX10_reads 428 = .ok (.iload_n 1, 1) := by decide +kernel
theorem dX10_reads_429 : decode cX10_reads 429 = .ok (.invokevirtual 138, 3) := by decide +kernel
theorem dX10_reads_432 : decode cX10_reads 432 = .ok (.bipush 44, 2) := by decide +kernel
theorem dX10_reads_434 : decode cX10_reads 434 = .ok (.if_icmp .ne 7, 3) := by decide +kernel
theorem dX10_reads_437 : decode cX10_reads 437 = .ok (.iconst 1, 1) := by decide +kernel
theorem dX10_reads_438 : decode cX10_reads 438 = .ok (.goto 4, 3) := by decide +kernel
theorem dX10_reads_441 : decode cX10_reads 441 = .ok (.iconst 0, 1) := by decide +kernel
theorem dX10_reads_442 : decode cX10_reads 442 = .ok (.istore 4, 2) := by decide +kernel
theorem dX10_reads_444 : decode cX10_reads 444 = .ok (.iload 4, 2) := by decide +kernel
theorem dX10_reads_446 : decode cX10_reads 446 = .ok (.ifCond .eq 6, 3) := by decide +kernel
theorem dX10_reads_449 : decode cX10_reads 449 = .ok (.iinc 3 1, 3) := by decide +kernel
theorem dX10_reads_452 : decode cX10_reads 452 = .ok (.goto (-437), 3) := by decide +kernel
theorem dX10_reads_455 : decode cX10_reads 455 = .ok (.iload_n 2, 1) := by decide +kernel
theorem dX10_reads_456 : decode cX10_reads 456 = .ok (.ifCond .ne 12, 3) := by decide +kernel
theorem dX10_reads_459 : decode cX10_reads 459 = .ok (.iload_n 3, 1) := by decide +kernel
theorem dX10_reads_460 : decode cX10_reads 460 = .ok (.iload_n 1, 1) := by decide +kernel
theorem dX10_reads_461 : decode cX10_reads 461 = .ok (.if_icmp .ne 7, 3) := by decide +kernel
theorem dX10_reads_464 : decode cX10_reads 464 = .ok (.iconst (-1), 1) := by decide +kernel
theorem dX10_reads_465 : decode cX10_reads 465 = .ok (.goto 4, 3) := by decide +kernel
theorem dX10_reads_468 : decode cX10_reads 468 = .ok (.iload_n 3, 1) := by decide +kernel
theorem dX10_reads_469 : decode cX10_reads 469 = .ok (.ireturn, 1) := by decide +kernel
theorem dX10_read_0 : decode cX10_read 0 = .ok (.iload_n 1, 1) := by decide +kernel
theorem dX10_read_1 : decode cX10_read 1 = .ok (.invokestatic 100, 3) := by decide +kernel
theorem dX10_read_4 : decode cX10_read 4 = .ok (.ifCond .ne 9, 3) := by decide +kernel
theorem dX10_read_7 : decode cX10_read 7 = .ok (.aload_n 0, 1) := by decide +kernel
theorem dX10_read_8 : decode cX10_read 8 = .ok (.iconst (-1), 1) := by decide +kernel
theorem dX10_read_9 : decode cX10_read 9 = .ok (.invokevirtual 126, 3) := by decide +kernel
theorem dX10_read_12 : decode cX10_read 12 = .ok (.ireturn, 1) := by decide +kernel
theorem dX10_read_13 : decode cX10_read 13 = .ok (.aload_n 0, 1) := by decide +kernel
theorem dX10_read_14 : decode cX10_read 14 = .ok (.getfield 130, 3) := by decide +kernel
theorem dX10_read_17 : decode cX10_read 17 = .ok (.istore_n 2, 1) := by decide +kernel
theorem dX10_read_18 : decode cX10_read 18 = .ok (.aload_n 0, 1) := by decide +kernel
theorem dX10_read_19 : decode cX10_read 19 = .ok (.iconst 0, 1) := by decide +kernel
theorem dX10_read_20 : decode cX10_read 20 = .ok (.putfield 130, 3) := by decide +kernel
theorem dX10_read_23 : decode cX10_read 23 = .ok (.aload_n 0, 1) := by decide +kernel
theorem dX10_read_24 : decode cX10_read 24 = .ok (.iload_n 2, 1) := by decide +kernel
theorem dX10_read_25 : decode cX10_read 25 = .ok (.invokevirtual 148, 3) := by decide +kernel
theorem dX10_read_28 : decode cX10_read 28 = .ok (.istore_n 3, 1) := by decide +kernel
theorem dX10_read_29 : decode cX10_read 29 = .ok (.iload_n 3, 1) := by decide +kernel
theorem dX10_read_30 : decode cX10_read 30 = .ok (.ifCond .lt 19, 3) := by decide +kernel
theorem dX10_read_33 : decode cX10_read 33 = .ok (.aload_n 0, 1) := by decide +kernel
theorem dX10_read_34 : decode cX10_read 34 = .ok (.getfield 25, 3) := by decide +kernel
theorem dX10_read_37 : decode cX10_read 37 = .ok (.bipush 9, 2) := by decide +kernel
theorem dX10_read_39 : decode cX10_read 39 = .ok (.dup2, 1) := by decide +kernel
theorem dX10_read_40 : decode cX10_read 40 = .ok (.iaload, 1) := by decide +kernel
theorem dX10_read_41 : decode cX10_read 41 = .ok (.iconst 1, 1) := by decide +kernel
theorem dX10_read_42 : decode cX10_read 42 = .ok (.iadd, 1) := by decide +kernel
theorem dX10_read_43 : decode cX10_read 43 = .ok (.iastore, 1) := by decide +kernel
theorem dX10_read_44 : decode cX10_read 44 = .ok (.bipush (-10), 2) := by decide +kernel
theorem dX10_read_46 : decode cX10_read 46 = .ok (.iload_n 3, 1) := by decide +kernel
theorem dX10_read_47 : decode cX10_read 47 = .ok (.isub, 1) := by decide +kernel
theorem dX10_read_48 : decode cX10_read 48 = .ok (.ireturn, 1) := by decide +kernel
theorem dX10_read_49 : decode cX10_read 49 = .ok (.aload_n 0, 1) := by decide +kernel
theorem dX10_read_50 : decode cX10_read 50 = .ok (.bipush 8, 2) := by decide +kernel
theorem dX10_read_52 : decode cX10_read 52 = .ok (.iload_n 1, 1) := by decide +kernel
theorem dX10_read_53 : decode cX10_read 53 = .ok (.invokevirtual 151, 3) := by decide +kernel
theorem dX10_read_56 : decode cX10_read 56 = .ok (.iconst 0, 1) := by decide +kernel
theorem dX10_read_57 : decode cX10_read 57 = .ok (.istore 4, 2) := by decide +kernel
theorem dX10_read_59 : decode cX10_read 59 = .ok (.iload 4, 2) := by decide +kernel
theorem dX10_read_61 : decode cX10_read 61 = .ok (.aload_n 0, 1) := by decide +kernel
theorem dX10_read_62 : decode cX10_read 62 = .ok (.getfield 13, 3) := by decide +kernel
theorem dX10_read_65 : decode cX10_read 65 = .ok (.iload_n 1, 1) := by decide +kernel
theorem dX10_read_66 : decode cX10_read 66 = .ok (.iaload, 1) := by decide +kernel
theorem dX10_read_67 : decode cX10_read 67 = .ok (.if_icmp .ge 31, 3) := by decide +kernel
theorem dX10_read_70 : decode cX10_read 70 = .ok (.aload_n 0, 1) := by decide +kernel
theorem dX10_read_71 : decode cX10_read 71 = .ok (.iload_n 1, 1) := by decide +kernel
theorem dX10_read_72 : decode cX10_read 72 = .ok (.iload 4, 2) := by decide +kernel
theorem dX10_read_74 : decode cX10_read 74 = .ok (.iconst 0, 1) := by decide +kernel
theorem dX10_read_75 : decode cX10_read 75 = .ok (.aload_n 0, 1) := by decide +kernel
theorem dX10_read_76 : decode cX10_read 76 = .ok (.getfield 155, 3) := by decide +kernel
theorem dX10_read_79 : decode cX10_read 79 = .ok (.invokevirtual 108, 3) := by decide +kernel
theorem dX10_read_82 : decode cX10_read 82 = .ok (.aload_n 0, 1) := by decide +kernel
theorem dX10_read_83 : decode cX10_read 83 = .ok (.dup, 1) := by decide +kernel
theorem dX10_read_84 : decode cX10_read 84 = .ok (.getfield 155, 3) := by decide +kernel
theorem dX10_read_87 : decode cX10_read 87 = .ok (.iconst 1, 1) := by decide +kernel
theorem dX10_read_88 : decode cX10_read 88 = .ok (.iadd, 1) := by decide +kernel
theorem dX10_read_89 : decode cX10_read 89 = .ok (.putfield 155, 3) := by decide +kernel
theorem dX10_read_92 : decode cX10_read 92 = .ok (.iinc 4 1, 3) := by decide +kernel
theorem dX10_read_95 : decode cX10_read 95 = .ok (.goto (-36), 3) := by decide +kernel
theorem dX10_read_98 : decode cX10_read 98 = .ok (.aload_n 0, 1) := by decide +kernel
theorem dX10_read_99 : decode cX10_read 99 = .ok (.getfield 13, 3) := by decide +kernel
theorem dX10_read_102 : decode cX10_read 102 = .ok (.iload_n 1, 1) := by decide +kernel
theorem dX10_read_103 : decode cX10_read 103 = .ok (.iaload, 1) := by decide +kernel
theorem dX10_read_104 : decode cX10_read 104 = .ok (.ireturn, 1) := by decide +kernel
theorem dX10_writes_0 : decode cX10_writes 0 = .ok (.aload_n 0, 1) := by decide +kernel
theorem dX10_writes_1 : decode cX10_writes 1 = .ok (.getfield 19, 3) := by decide +kernel
theorem dX10_writes_4 : decode cX10_writes 4 = .ok (.aload_n 0, 1) := by decide +kernel
theorem dX10_writes_5 : decode cX10_writes 5 = .ok (.getfield 158, 3) := by decide +kernel
theorem dX10_writes_8 : decode cX10_writes 8 = .ok (.iload_n 1, 1) := by decide +kernel
theorem dX10_writes_9 : decode cX10_writes 9 = .ok (.iastore, 1) := by decide +kernel
theorem dX10_writes_10 : decode cX10_writes 10 = .ok (.aload_n 0, 1) := by decide +kernel
theorem dX10_writes_11 : decode cX10_writes 11 = .ok (.dup, 1) := by decide +kernel
theorem dX10_writes_12 : decode cX10_writes 12 = .ok (.getfield 158, 3) := by decide +kernel
theorem dX10_writes_15 : decode cX10_writes 15 = .ok (.iconst 1, 1) := by decide +kernel
theorem dX10_writes_16 : decode cX10_writes 16 = .ok (.iadd, 1) := by decide +kernel
theorem dX10_writes_17 : decode cX10_writes 17 = .ok (.putfield 158, 3) := by decide +kernel
theorem dX10_writes_20 : decode cX10_writes 20 = .ok (.return_, 1) := by decide +kernel
theorem dX10_write_0 : decode cX10_write 0 = .ok (.aload_n 0, 1) := by decide +kernel
theorem dX10_write_1 : decode cX10_write 1 = .ok (.iload_n 1, 1) := by decide +kernel
theorem dX10_write_2 : decode cX10_write 2 = .ok (.invokevirtual 161, 3) := by decide +kernel
theorem dX10_write_5 : decode cX10_write 5 = .ok (.istore_n 2, 1) := by decide +kernel
theorem dX10_write_6 : decode cX10_write 6 = .ok (.iload_n 2, 1) := by decide +kernel
theorem dX10_write_7 : decode cX10_write 7 = .ok (.ifCond .ge 9, 3) := by decide +kernel
theorem dX10_write_10 : decode cX10_write 10 = .ok (.aload_n 0, 1) := by decide +kernel
theorem dX10_write_11 : decode cX10_write 11 = .ok (.iload_n 2, 1) := by decide +kernel
theorem dX10_write_12 : decode cX10_write 12 = .ok (.invokevirtual 126, 3) := by decide +kernel
theorem dX10_write_15 : decode cX10_write 15 = .ok (.ireturn, 1) := by decide +kernel
theorem dX10_write_16 : decode cX10_write 16 = .ok (.aload_n 0, 1) := by decide +kernel
theorem dX10_write_17 : decode cX10_write 17 = .ok (.iconst 0, 1) := by decide +kernel
theorem dX10_write_18 : decode cX10_write 18 = .ok (.putfield 158, 3) := by decide +kernel
theorem dX10_write_21 : decode cX10_write 21 = .ok (.iconst 0, 1) := by decide +kernel
theorem dX10_write_22 : decode cX10_write 22 = .ok (.istore_n 3, 1) := by decide +kernel
theorem dX10_write_23 : decode cX10_write 23 = .ok (.iconst 0, 1) := by decide +kernel
theorem dX10_write_24 : decode cX10_write 24 = .ok (.istore 4, 2) := by decide +kernel
theorem dX10_write_26 : decode cX10_write 26 = .ok (.iload 4, 2) := by decide +kernel
theorem dX10_write_28 : decode cX10_write 28 = .ok (.aload_n 0, 1) := by decide +kernel
theorem dX10_write_29 : decode cX10_write 29 = .ok (.getfield 13, 3) := by decide +kernel
theorem dX10_write_32 : decode cX10_write 32 = .ok (.iload_n 1, 1) := by decide +kernel
theorem dX10_write_33 : decode cX10_write 33 = .ok (.iaload, 1) := by decide +kernel
theorem dX10_write_34 : decode cX10_write 34 = .ok (.if_icmp .ge 283, 3) := by decide +kernel
theorem dX10_write_37 : decode cX10_write 37 = .ok (.iload 4, 2) := by decide +kernel
theorem dX10_write_39 : decode cX10_write 39 = .ok (.ifCond .le 30, 3) := by decide +kernel
theorem dX10_write_42 : decode cX10_write 42 = .ok (.aload_n 0, 1) := by decide +kernel
theorem dX10_write_43 : decode cX10_write 43 = .ok (.iload_n 1, 1) := by decide +kernel
theorem dX10_write_44 : decode cX10_write 44 = .ok (.iload 4, 2) := by decide +kernel
theorem dX10_write_46 : decode cX10_write 46 = .ok (.invokevirtual 115, 3) := by decide +kernel
theorem dX10_write_49 : decode cX10_write 49 = .ok (.aload_n 0, 1) := by decide +kernel
theorem dX10_write_50 : decode cX10_write 50 = .ok (.iload_n 1, 1) := by decide +kernel
theorem dX10_write_51 : decode cX10_write 51 = .ok (.iload 4, 2) := by decide +kernel
theorem dX10_write_53 : decode cX10_write 53 = .ok (.iconst 1, 1) := by decide +kernel
theorem dX10_write_54 : decode cX10_write 54 = .ok (.isub, 1) := by decide +kernel
theorem dX10_write_55 : decode cX10_write 55 = .ok (.invokevirtual 115, 3) := by decide +kernel
theorem dX10_write_58 : decode cX10_write 58 = .ok (.iconst 1, 1) := by decide +kernel
theorem dX10_write_59 : decode cX10_write 59 = .ok (.iadd, 1) := by decide +kernel
theorem dX10_write_60 : decode cX10_write 60 = .ok (.if_icmp .ne 9, 3) := by decide +kernel
theorem dX10_write_63 : decode cX10_write 63 = .ok (.iinc 3 1, 3) := by decide +kernel
theorem dX10_write_66 : decode cX10_write 66 = .ok (.goto 30, 3) := by decide +kernel
theorem dX10_write_69 : decode cX10_write 69 = .ok (.iload 4, 2) := by decide +kernel
theorem dX10_write_71 : decode cX10_write 71 = .ok (.ifCond .le 25, 3) := by decide +kernel
theorem dX10_write_74 : decode cX10_write 74 = .ok (.aload_n 0, 1) := by decide +kernel
theorem dX10_write_75 : decode cX10_write 75 = .ok (.iload_n 1, 1) := by decide +kernel
theorem dX10_write_76 : decode cX10_write 76 = .ok (.iload 4, 2) := by decide +kernel
theorem dX10_write_78 : decode cX10_write 78 = .ok (.iconst 1, 1) := by decide +kernel
theorem dX10_write_79 : decode cX10_write 79 = .ok (.isub, 1) := by decide +kernel
theorem dX10_write_80 : decode cX10_write 80 = .ok (.aload_n 0, 1) := by decide +kernel
theorem dX10_write_81 : decode cX10_write 81 = .ok (.iload_n 1, 1) := by decide +kernel
theorem dX10_write_82 : decode cX10_write 82 = .ok (.iload 4, 2) := by decide +kernel
theorem dX10_write_84 : decode cX10_write 84 = .ok (.invokevirtual 115, 3) := by decide +kernel
theorem dX10_write_87 : decode cX10_write 87 = .ok (.invokevirtual 164, 3) := by decide +kernel
theorem dX10_write_90 : decode cX10_write 90 = .ok (.aload_n 0, 1) := by decide +kernel
theorem dX10_write_91 : decode cX10_write 91 = .ok (.bipush 44, 2) := by decide +kernel
theorem dX10_write_93 : decode cX10_write 93 = .ok (.invokevirtual 168, 3) := by decide +kernel
theorem dX10_write_96 : decode cX10_write 96 = .ok (.iconst 0, 1) := by decide +kernel
theorem dX10_write_97 : decode cX10_write 97 = .ok (.istore 5, 2) := by decide +kernel
theorem dX10_write_99 : decode cX10_write 99 = .ok (.iload 5, 2) := by decide +kernel
theorem dX10_write_101 : decode cX10_write 101 = .ok (.aload_n 0, 1) := by decide +kernel
theorem dX10_write_102 : decode cX10_write 102 = .ok (.iload_n 1, 1) := by decide +kernel
theorem dX10_write_103 : decode cX10_write 103 = .ok (.iload 4, 2) := by decide +kernel
theorem dX10_write_105 : decode cX10_write 105 = .ok (.iconst 3, 1) := by decide +kernel
theorem dX10_write_106 : decode cX10_write 106 = .ok (.invokevirtual 104, 3) := by decide +kernel
theorem dX10_write_109 : decode cX10_write 109 = .ok (.if_icmp .ge 24, 3) := by decide +kernel
theorem dX10_write_112 : decode cX10_write 112 = .ok (.aload_n 0, 1) := by decide +kernel
theorem dX10_write_113 : decode cX10_write 113 = .ok (.aload_n 0, 1) := by decide +kernel
theorem dX10_write_114 : decode cX10_write 114 = .ok (.iload_n 1, 1) := by decide +kernel
theorem dX10_write_115 : decode cX10_write 115 = .ok (.iload 4, 2) := by decide +kernel
theorem dX10_write_117 : decode cX10_write 117 = .ok (.iconst 4, 1) := by decide +kernel
theorem dX10_write_118 : decode cX10_write 118 = .ok (.iload 5, 2) := by decide +kernel
theorem dX10_write_120 : decode cX10_write 120 = .ok (.iadd, 1) := by decide +kernel
theorem dX10_write_121 : decode cX10_write 121 = .ok (.invokevirtual 104, 3) := by decide +kernel
theorem dX10_write_124 : decode cX10_write 124 = .ok (.invokevirtual 168, 3) := by decide +kernel
theorem dX10_write_127 : decode cX10_write 127 = .ok (.iinc 5 1, 3) := by decide +kernel
theorem dX10_write_130 : decode cX10_write 130 = .ok (.goto (-31), 3) := by decide +kernel
theorem dX10_write_133 : decode cX10_write 133 = .ok (.aload_n 0, 1) := by decide +kernel
theorem dX10_write_134 : decode cX10_write 134 = .ok (.iload_n 1, 1) := by decide +kernel
theorem dX10_write_135 : decode cX10_write 135 = .ok (.iload 4, 2) := by decide +kernel
theorem dX10_write_137 : decode cX10_write 137 = .ok (.bipush 10, 2) := by decide +kernel
theorem dX10_write_139 : decode cX10_write 139 = .ok (.invokevirtual 104, 3) := by decide +kernel
theorem dX10_write_142 : decode cX10_write 142 = .ok (.ifCond .le 9, 3) := by decide +kernel
theorem dX10_write_145 : decode cX10_write 145 = .ok (.aload_n 0, 1) := by decide +kernel
theorem dX10_write_146 : decode cX10_write 146 = .ok (.bipush 61, 2) := by decide +kernel
theorem dX10_write_148 : decode cX10_write 148 = .ok (.invokevirtual 168, 3) := by decide +kernel
theorem dX10_write_151 : decode cX10_write 151 = .ok (.iconst 0, 1) := by decide +kernel
theorem dX10_write_152 : decode cX10_write 152 = .ok (.istore 5, 2) := by decide +kernel
theorem dX10_write_154 : decode cX10_write 154 = .ok (.iload 5, 2) := by decide +kernel
theorem dX10_write_156 : decode cX10_write 156 = .ok (.aload_n 0, 1) := by decide +kernel
theorem dX10_write_157 : decode cX10_write 157 = .ok (.iload_n 1, 1) := by decide +kernel
theorem dX10_write_158 : decode cX10_write 158 = .ok (.iload 4, 2) := by decide +kernel
theorem dX10_write_160 : decode cX10_write 160 = .ok (.bipush 10, 2) := by decide +kernel
theorem dX10_write_162 : decode cX10_write 162 = .ok (.invokevirtual 104, 3) := by decide +kernel
theorem dX10_write_165 : decode cX10_write 165 = .ok (.if_icmp .ge 25, 3) := by decide +kernel
theorem dX10_write_168 : decode cX10_write 168 = .ok (.aload_n 0, 1) := by decide +kernel
theorem dX10_write_169 : decode cX10_write 169 = .ok (.aload_n 0, 1) := by decide +kernel
theorem dX10_write_170 : decode cX10_write 170 = .ok (.iload_n 1, 1) := by decide +kernel
theorem dX10_write_171 : decode cX10_write 171 = .ok (.iload 4, 2) := by decide +kernel
theorem dX10_write_173 : decode cX10_write 173 = .ok (.bipush 11, 2) := by decide +kernel
theorem dX10_write_175 : decode cX10_write 175 = .ok (.iload 5, 2) := by decide +kernel
theorem dX10_write_177 : decode cX10_write 177 = .ok (.iadd, 1) := by decide +kernel
theorem dX10_write_178 : decode cX10_write 178 = .ok (.invokevirtual 104, 3) := by decide +kernel
theorem dX10_write_181 : decode cX10_write 181 = .ok (.invokevirtual 168, 3) := by decide +kernel
theorem dX10_write_184 : decode cX10_write 184 = .ok (.iinc 5 1, 3) := by decide +kernel
theorem dX10_write_187 : decode cX10_write 187 = .ok (.goto (-33), 3) := by decide +kernel
theorem dX10_write_190 : decode cX10_write 190 = .ok (.aload_n 0, 1) := by decide +kernel
theorem dX10_write_191 : decode cX10_write 191 = .ok (.iload_n 1, 1) := by decide +kernel
theorem dX10_write_192 : decode cX10_write 192 = .ok (.iload 4, 2) := by decide +kernel
theorem dX10_write_194 : decode cX10_write 194 = .ok (.iconst 1, 1) := by decide +kernel
theorem dX10_write_195 : decode cX10_write 195 = .ok (.invokevirtual 104, 3) := by decide +kernel
theorem dX10_write_198 : decode cX10_write 198 = .ok (.istore 5, 2) := by decide +kernel
theorem dX10_write_200 : decode cX10_write 200 = .ok (.aload_n 0, 1) := by decide +kernel
theorem dX10_write_201 : decode cX10_write 201 = .ok (.iload_n 1, 1) := by decide +kernel
theorem dX10_write_202 : decode cX10_write 202 = .ok (.iload 4, 2) := by decide +kernel
theorem dX10_write_204 : decode cX10_write 204 = .ok (.invokevirtual 119, 3) := by decide +kernel
theorem dX10_write_207 : decode cX10_write 207 = .ok (.iload 4, 2) := by decide +kernel
theorem dX10_write_209 : decode cX10_write 209 = .ok (.iconst 1, 1) := by decide +kernel
theorem dX10_write_210 : decode cX10_write 210 = .ok (.iadd, 1) := by decide +kernel
theorem dX10_write_211 : decode cX10_write 211 = .ok (.if_icmp .le 7, 3) := by decide +kernel
theorem dX10_write_214 : decode cX10_write 214 = .ok (.iconst 1, 1) := by decide +kernel
theorem dX10_write_215 : decode cX10_write 215 = .ok (.goto 4, 3) := by decide +kernel
theorem dX10_write_218 : decode cX10_write 218 = .ok (.iconst 0, 1) := by decide +kernel
theorem dX10_write_219 : decode cX10_write 219 = .ok (.istore 6, 2) := by decide +kernel
theorem dX10_write_221 : decode cX10_write 221 = .ok (.iload 5, 2) := by decide +kernel
theorem dX10_write_223 : decode cX10_write 223 = .ok (.iconst 1, 1) := by decide +kernel
theorem dX10_write_224 : decode cX10_write 224 = .ok (.if_icmp .ne 12, 3) := by decide +kernel
theorem dX10_write_227 : decode cX10_write 227 = .ok (.aload_n 0, 1) := by decide +kernel
theorem dX10_write_228 : decode cX10_write 228 = .ok (.bipush 123, 2) := by decide +kernel
theorem dX10_write_230 : decode cX10_write 230 = .ok (.invokevirtual 168, 3) := by decide +kernel
theorem dX10_write_233 : decode cX10_write 233 = .ok (.goto 44, 3) := by decide +kernel
theorem dX10_write_236 : decode cX10_write 236 = .ok (.iload 5, 2) := by decide +kernel
theorem dX10_write_238 : decode cX10_write 238 = .ok (.iconst 2, 1) := by decide +kernel
theorem dX10_write_239 : decode cX10_write 239 = .ok (.if_icmp .ne 12, 3) := by decide +kernel
theorem dX10_write_242 : decode cX10_write 242 = .ok (.aload_n 0, 1) := by decide +kernel
theorem dX10_write_243 : decode cX10_write 243 = .ok (.bipush 60, 2) := by decide +kernel
theorem dX10_write_245 : decode cX10_write 245 = .ok (.invokevirtual 168, 3) := by decide +kernel
theorem dX10_write_248 : decode cX10_write 248 = .ok (.goto 29, 3) := by decide +kernel
theorem dX10_write_251 : decode cX10_write 251 = .ok (.iload 5, 2) := by decide +kernel
theorem dX10_write_253 : decode cX10_write 253 = .ok (.iconst 3, 1) := by decide +kernel
theorem dX10_write_254 : decode cX10_write 254 = .ok (.if_icmp .ne 12, 3) := by decide +kernel
theorem dX10_write_257 : decode cX10_write 257 = .ok (.aload_n 0, 1) := by decide +kernel
theorem dX10_write_258 : decode cX10_write 258 = .ok (.bipush 33, 2) := by decide +kernel
theorem dX10_write_260 : decode cX10_write 260 = .ok (.invokevirtual 168, 3) := by decide +kernel
theorem dX10_write_263 : decode cX10_write 263 = .ok (.goto 14, 3) := by decide +kernel
theorem dX10_write_266 : decode cX10_write 266 = .ok (.iload 6, 2) := by decide +kernel
theorem dX10_write_268 : decode cX10_write 268 = .ok (.ifCond .eq 9, 3) := by decide +kernel
theorem dX10_write_271 : decode cX10_write 271 = .ok (.aload_n 0, 1) := by decide +kernel
theorem dX10_write_272 : decode cX10_write 272 = .ok (.bipush 40, 2) := by decide +kernel
theorem dX10_write_274 : decode cX10_write 274 = .ok (.invokevirtual 168, 3) := by decide +kernel
theorem dX10_write_277 : decode cX10_write 277 = .ok (.iload 6, 2) := by decide +kernel
theorem dX10_write_279 : decode cX10_write 279 = .ok (.ifCond .ne 15, 3) := by decide +kernel
theorem dX10_write_282 : decode cX10_write 282 = .ok (.iload 5, 2) := by decide +kernel
theorem dX10_write_284 : decode cX10_write 284 = .ok (.iconst 1, 1) := by decide +kernel
theorem dX10_write_285 : decode cX10_write 285 = .ok (.if_icmp .ne 9, 3) := by decide +kernel
theorem dX10_write_288 : decode cX10_write 288 = .ok (.aload_n 0, 1) := by decide +kernel
theorem dX10_write_289 : decode cX10_write 289 = .ok (.bipush 125, 2) := by decide +kernel
theorem dX10_write_291 : decode cX10_write 291 = .ok (.invokevirtual 168, 3) := by decide +kernel
theorem dX10_write_294 : decode cX10_write 294 = .ok (.iload 6, 2) := by decide +kernel
theorem dX10_write_296 : decode cX10_write 296 = .ok (.ifCond .ne 15, 3) := by decide +kernel
theorem dX10_write_299 : decode cX10_write 299 = .ok (.iload 5, 2) := by decide +kernel
theorem dX10_write_301 : decode cX10_write 301 = .ok (.iconst 2, 1) := by decide +kernel
theorem dX10_write_302 : decode cX10_write 302 = .ok (.if_icmp .ne 9, 3) := by decide +kernel
theorem dX10_write_305 : decode cX10_write 305 = .ok (.aload_n 0, 1) := by decide +kernel
theorem dX10_write_306 : decode cX10_write 306 = .ok (.bipush 62, 2) := by decide +kernel
theorem dX10_write_308 : decode cX10_write 308 = .ok (.invokevirtual 168, 3) := by decide +kernel
theorem dX10_write_311 : decode cX10_write 311 = .ok (.iinc 4 1, 3) := by decide +kernel
theorem dX10_write_314 : decode cX10_write 314 = .ok (.goto (-288), 3) := by decide +kernel
theorem dX10_write_317 : decode cX10_write 317 = .ok (.aload_n 0, 1) := by decide +kernel
theorem dX10_write_318 : decode cX10_write 318 = .ok (.iload_n 1, 1) := by decide +kernel
theorem dX10_write_319 : decode cX10_write 319 = .ok (.aload_n 0, 1) := by decide +kernel
theorem dX10_write_320 : decode cX10_write 320 = .ok (.getfield 13, 3) := by decide +kernel
theorem dX10_write_323 : decode cX10_write 323 = .ok (.iload_n 1, 1) := by decide +kernel
theorem dX10_write_324 : decode cX10_write 324 = .ok (.iaload, 1) := by decide +kernel
theorem dX10_write_325 : decode cX10_write 325 = .ok (.iconst 1, 1) := by decide +kernel
theorem dX10_write_326 : decode cX10_write 326 = .ok (.isub, 1) := by decide +kernel
theorem dX10_write_327 : decode cX10_write 327 = .ok (.iconst 0, 1) := by decide +kernel
theorem dX10_write_328 : decode cX10_write 328 = .ok (.invokevirtual 164, 3) := by decide +kernel
theorem dX10_write_331 : decode cX10_write 331 = .ok (.aload_n 0, 1) := by decide +kernel
theorem dX10_write_332 : decode cX10_write 332 = .ok (.getfield 158, 3) := by decide +kernel
theorem dX10_write_335 : decode cX10_write 335 = .ok (.ireturn, 1) := by decide +kernel
theorem dX10_closes_0 : decode cX10_closes 0 = .ok (.aload_n 0, 1) := by decide +kernel
theorem dX10_closes_1 : decode cX10_closes 1 = .ok (.iload_n 1, 1) := by decide +kernel
theorem dX10_closes_2 : decode cX10_closes 2 = .ok (.iload_n 2, 1) := by decide +kernel
theorem dX10_closes_3 : decode cX10_closes 3 = .ok (.invokevirtual 172, 3) := by decide +kernel
theorem dX10_closes_6 : decode cX10_closes 6 = .ok (.istore 4, 2) := by decide +kernel
theorem dX10_closes_8 : decode cX10_closes 8 = .ok (.iload 4, 2) := by decide +kernel
theorem dX10_closes_10 : decode cX10_closes 10 = .ok (.ifCond .lt 64, 3) := by decide +kernel
theorem dX10_closes_13 : decode cX10_closes 13 = .ok (.aload_n 0, 1) := by decide +kernel
theorem dX10_closes_14 : decode cX10_closes 14 = .ok (.iload_n 1, 1) := by decide +kernel
theorem dX10_closes_15 : decode cX10_closes 15 = .ok (.iload 4, 2) := by decide +kernel
theorem dX10_closes_17 : decode cX10_closes 17 = .ok (.invokevirtual 115, 3) := by decide +kernel
theorem dX10_closes_20 : decode cX10_closes 20 = .ok (.iload_n 3, 1) := by decide +kernel
theorem dX10_closes_21 : decode cX10_closes 21 = .ok (.if_icmp .lt 53, 3) := by decide +kernel
theorem dX10_closes_24 : decode cX10_closes 24 = .ok (.aload_n 0, 1) := by decide +kernel
theorem dX10_closes_25 : decode cX10_closes 25 = .ok (.iload_n 1, 1) := by decide +kernel
theorem dX10_closes_26 : decode cX10_closes 26 = .ok (.iload 4, 2) := by decide +kernel
theorem dX10_closes_28 : decode cX10_closes 28 = .ok (.iconst 1, 1) := by decide +kernel
theorem dX10_closes_29 : decode cX10_closes 29 = .ok (.invokevirtual 104, 3) := by decide +kernel
theorem dX10_closes_32 : decode cX10_closes 32 = .ok (.istore 5, 2) := by decide +kernel
theorem dX10_closes_34 : decode cX10_closes 34 = .ok (.aload_n 0, 1) := by decide +kernel
theorem dX10_closes_35 : decode cX10_closes 35 = .ok (.iload 5, 2) := by decide +kernel
theorem dX10_closes_37 : decode cX10_closes 37 = .ok (.iconst 1, 1) := by decide +kernel
theorem dX10_closes_38 : decode cX10_closes 38 = .ok (.if_icmp .ne 8, 3) := by decide +kernel
theorem dX10_closes_41 : decode cX10_closes 41 = .ok (.bipush 125, 2) := by decide +kernel
theorem dX10_closes_43 : decode cX10_closes 43 = .ok (.goto 16, 3) := by decide +kernel
theorem dX10_closes_46 : decode cX10_closes 46 = .ok (.iload 5, 2) := by decide +kernel
theorem dX10_closes_48 : decode cX10_closes 48 = .ok (.iconst 2, 1) := by decide +kernel
theorem dX10_closes_49 : decode cX10_closes 49 = .ok (.if_icmp .ne 8, 3) := by decide +kernel
theorem dX10_closes_52 : decode cX10_closes 52 = .ok (.bipush 62, 2) := by decide +kernel
theorem dX10_closes_54 : decode cX10_closes 54 = .ok (.goto 5, 3) := by decide +kernel
theorem dX10_closes_57 : decode cX10_closes 57 = .ok (.bipush 41, 2) := by decide +kernel
theorem dX10_closes_59 : decode cX10_closes 59 = .ok (.invokevirtual 168, 3) := by decide +kernel
theorem dX10_closes_62 : decode cX10_closes 62 = .ok (.aload_n 0, 1) := by decide +kernel
theorem dX10_closes_63 : decode cX10_closes 63 = .ok (.iload_n 1, 1) := by decide +kernel
theorem dX10_closes_64 : decode cX10_closes 64 = .ok (.iload 4, 2) := by decide +kernel
theorem dX10_closes_66 : decode cX10_closes 66 = .ok (.invokevirtual 172, 3) := by decide +kernel
theorem dX10_closes_69 : decode cX10_closes 69 = .ok (.istore 4, 2) := by decide +kernel
theorem dX10_closes_71 : decode cX10_closes 71 = .ok (.goto (-63), 3) := by decide +kernel
theorem dX10_closes_74 : decode cX10_closes 74 = .ok (.return_, 1) := by decide +kernel
theorem dX10_letter_0 : decode cX10_letter 0 = .ok (.iload_n 1, 1) := by decide +kernel
theorem dX10_letter_1 : decode cX10_letter 1 = .ok (.iconst 0, 1) := by decide +kernel
theorem dX10_letter_2 : decode cX10_letter 2 = .ok (.aload_n 0, 1) := by decide +kernel
theorem dX10_letter_3 : decode cX10_letter 3 = .ok (.getfield 158, 3) := by decide +kernel
theorem dX10_letter_6 : decode cX10_letter 6 = .ok (.iconst 1, 1) := by decide +kernel
theorem dX10_letter_7 : decode cX10_letter 7 = .ok (.isub, 1) := by decide +kernel
theorem dX10_letter_8 : decode cX10_letter 8 = .ok (.invokestatic 96, 3) := by decide +kernel
theorem dX10_letter_11 : decode cX10_letter 11 = .ok (.ifCond .eq 12, 3) := by decide +kernel
theorem dX10_letter_14 : decode cX10_letter 14 = .ok (.aload_n 0, 1) := by decide +kernel
theorem dX10_letter_15 : decode cX10_letter 15 = .ok (.getfield 19, 3) := by decide +kernel
theorem dX10_letter_18 : decode cX10_letter 18 = .ok (.iload_n 1, 1) := by decide +kernel
theorem dX10_letter_19 : decode cX10_letter 19 = .ok (.iaload, 1) := by decide +kernel
theorem dX10_letter_20 : decode cX10_letter 20 = .ok (.goto 4, 3) := by decide +kernel
theorem dX10_letter_23 : decode cX10_letter 23 = .ok (.iconst (-1), 1) := by decide +kernel
theorem dX10_letter_24 : decode cX10_letter 24 = .ok (.ireturn, 1) := by decide +kernel
theorem dX10_copy_0 : decode cX10_copy 0 = .ok (.aload_n 0, 1) := by decide +kernel
theorem dX10_copy_1 : decode cX10_copy 1 = .ok (.iload_n 1, 1) := by decide +kernel
theorem dX10_copy_2 : decode cX10_copy 2 = .ok (.invokevirtual 161, 3) := by decide +kernel
theorem dX10_copy_5 : decode cX10_copy 5 = .ok (.istore_n 3, 1) := by decide +kernel
theorem dX10_copy_6 : decode cX10_copy 6 = .ok (.iload_n 3, 1) := by decide +kernel
theorem dX10_copy_7 : decode cX10_copy 7 = .ok (.ifCond .ge 9, 3) := by decide +kernel
theorem dX10_copy_10 : decode cX10_copy 10 = .ok (.aload_n 0, 1) := by decide +kernel
theorem dX10_copy_11 : decode cX10_copy 11 = .ok (.iload_n 3, 1) := by decide +kernel
theorem dX10_copy_12 : decode cX10_copy 12 = .ok (.invokevirtual 126, 3) := by decide +kernel
theorem dX10_copy_15 : decode cX10_copy 15 = .ok (.ireturn, 1) := by decide +kernel
theorem dX10_copy_16 : decode cX10_copy 16 = .ok (.iload_n 2, 1) := by decide +kernel
theorem dX10_copy_17 : decode cX10_copy 17 = .ok (.invokestatic 100, 3) := by decide +kernel
theorem dX10_copy_20 : decode cX10_copy 20 = .ok (.ifCond .ne 9, 3) := by decide +kernel
theorem dX10_copy_23 : decode cX10_copy 23 = .ok (.aload_n 0, 1) := by decide +kernel
theorem dX10_copy_24 : decode cX10_copy 24 = .ok (.iconst (-1), 1) := by decide +kernel
theorem dX10_copy_25 : decode cX10_copy 25 = .ok (.invokevirtual 126, 3) := by decide +kernel
theorem dX10_copy_28 : decode cX10_copy 28 = .ok (.ireturn, 1) := by decide +kernel
theorem dX10_copy_29 : decode cX10_copy 29 = .ok (.aload_n 0, 1) := by decide +kernel
theorem dX10_copy_30 : decode cX10_copy 30 = .ok (.iload_n 1, 1) := by decide +kernel
theorem dX10_copy_31 : decode cX10_copy 31 = .ok (.iload_n 2, 1) := by decide +kernel
theorem dX10_copy_32 : decode cX10_copy 32 = .ok (.invokevirtual 151, 3) := by decide +kernel
theorem dX10_copy_35 : decode cX10_copy 35 = .ok (.aload_n 0, 1) := by decide +kernel
theorem dX10_copy_36 : decode cX10_copy 36 = .ok (.getfield 13, 3) := by decide +kernel
theorem dX10_copy_39 : decode cX10_copy 39 = .ok (.iload_n 2, 1) := by decide +kernel
theorem dX10_copy_40 : decode cX10_copy 40 = .ok (.iaload, 1) := by decide +kernel
theorem dX10_copy_41 : decode cX10_copy 41 = .ok (.ireturn, 1) := by decide +kernel
theorem dX10_clear_0 : decode cX10_clear 0 = .ok (.iload_n 1, 1) := by decide +kernel
theorem dX10_clear_1 : decode cX10_clear 1 = .ok (.invokestatic 100, 3) := by decide +kernel
theorem dX10_clear_4 : decode cX10_clear 4 = .ok (.ifCond .ne 9, 3) := by decide +kernel
theorem dX10_clear_7 : decode cX10_clear 7 = .ok (.aload_n 0, 1) := by decide +kernel
theorem dX10_clear_8 : decode cX10_clear 8 = .ok (.iconst (-1), 1) := by decide +kernel
theorem dX10_clear_9 : decode cX10_clear 9 = .ok (.invokevirtual 126, 3) := by decide +kernel
theorem dX10_clear_12 : decode cX10_clear 12 = .ok (.ireturn, 1) := by decide +kernel
theorem dX10_clear_13 : decode cX10_clear 13 = .ok (.aload_n 0, 1) := by decide +kernel
theorem dX10_clear_14 : decode cX10_clear 14 = .ok (.getfield 13, 3) := by decide +kernel
theorem dX10_clear_17 : decode cX10_clear 17 = .ok (.iload_n 1, 1) := by decide +kernel
theorem dX10_clear_18 : decode cX10_clear 18 = .ok (.iaload, 1) := by decide +kernel
theorem dX10_clear_19 : decode cX10_clear 19 = .ok (.ifCond .le 7, 3) := by decide +kernel
theorem dX10_clear_22 : decode cX10_clear 22 = .ok (.iconst 1, 1) := by decide +kernel
theorem dX10_clear_23 : decode cX10_clear 23 = .ok (.goto 4, 3) := by decide +kernel
theorem dX10_clear_26 : decode cX10_clear 26 = .ok (.iconst 0, 1) := by decide +kernel
theorem dX10_clear_27 : decode cX10_clear 27 = .ok (.istore_n 2, 1) := by decide +kernel
theorem dX10_clear_28 : decode cX10_clear 28 = .ok (.aload_n 0, 1) := by decide +kernel
theorem dX10_clear_29 : decode cX10_clear 29 = .ok (.getfield 13, 3) := by decide +kernel
theorem dX10_clear_32 : decode cX10_clear 32 = .ok (.iload_n 1, 1) := by decide +kernel
theorem dX10_clear_33 : decode cX10_clear 33 = .ok (.iconst 0, 1) := by decide +kernel
theorem dX10_clear_34 : decode cX10_clear 34 = .ok (.iastore, 1) := by decide +kernel
theorem dX10_clear_35 : decode cX10_clear 35 = .ok (.iload_n 2, 1) := by decide +kernel
theorem dX10_clear_36 : decode cX10_clear 36 = .ok (.ireturn, 1) := by decide +kernel
theorem dX10_behind_0 : decode cX10_behind 0 = .ok (.aload_n 0, 1) := by decide +kernel
theorem dX10_behind_1 : decode cX10_behind 1 = .ok (.iload_n 1, 1) := by decide +kernel
theorem dX10_behind_2 : decode cX10_behind 2 = .ok (.iload_n 2, 1) := by decide +kernel
theorem dX10_behind_3 : decode cX10_behind 3 = .ok (.invokevirtual 119, 3) := by decide +kernel
theorem dX10_behind_6 : decode cX10_behind 6 = .ok (.iload_n 2, 1) := by decide +kernel
theorem dX10_behind_7 : decode cX10_behind 7 = .ok (.isub, 1) := by decide +kernel
theorem dX10_behind_8 : decode cX10_behind 8 = .ok (.iconst 1, 1) := by decide +kernel
theorem dX10_behind_9 : decode cX10_behind 9 = .ok (.isub, 1) := by decide +kernel
theorem dX10_behind_10 : decode cX10_behind 10 = .ok (.istore_n 3, 1) := by decide +kernel
theorem dX10_behind_11 : decode cX10_behind 11 = .ok (.iconst 0, 1) := by decide +kernel
theorem dX10_behind_12 : decode cX10_behind 12 = .ok (.istore 4, 2) := by decide +kernel
theorem dX10_behind_14 : decode cX10_behind 14 = .ok (.iload 4, 2) := by decide +kernel
theorem dX10_behind_16 : decode cX10_behind 16 = .ok (.iload_n 2, 1) := by decide +kernel
theorem dX10_behind_17 : decode cX10_behind 17 = .ok (.if_icmp .ge 28, 3) := by decide +kernel
theorem dX10_behind_20 : decode cX10_behind 20 = .ok (.iload_n 3, 1) := by decide +kernel
theorem dX10_behind_21 : decode cX10_behind 21 = .ok (.aload_n 0, 1) := by decide +kernel
theorem dX10_behind_22 : decode cX10_behind 22 = .ok (.iload_n 1, 1) := by decide +kernel
theorem dX10_behind_23 : decode cX10_behind 23 = .ok (.iload 4, 2) := by decide +kernel
theorem dX10_behind_25 : decode cX10_behind 25 = .ok (.invokevirtual 119, 3) := by decide +kernel
theorem dX10_behind_28 : decode cX10_behind 28 = .ok (.iload_n 2, 1) := by decide +kernel
theorem dX10_behind_29 : decode cX10_behind 29 = .ok (.if_icmp .le 7, 3) := by decide +kernel
theorem dX10_behind_32 : decode cX10_behind 32 = .ok (.iconst 0, 1) := by decide +kernel
theorem dX10_behind_33 : decode cX10_behind 33 = .ok (.goto 4, 3) := by decide +kernel
theorem dX10_behind_36 : decode cX10_behind 36 = .ok (.iconst 1, 1) := by decide +kernel
theorem dX10_behind_37 : decode cX10_behind 37 = .ok (.iadd, 1) := by decide +kernel
theorem dX10_behind_38 : decode cX10_behind 38 = .ok (.istore_n 3, 1) := by decide +kernel
theorem dX10_behind_39 : decode cX10_behind 39 = .ok (.iinc 4 1, 3) := by decide +kernel
theorem dX10_behind_42 : decode cX10_behind 42 = .ok (.goto (-28), 3) := by decide +kernel
theorem dX10_behind_45 : decode cX10_behind 45 = .ok (.iload_n 3, 1) := by decide +kernel
theorem dX10_behind_46 : decode cX10_behind 46 = .ok (.ireturn, 1) := by decide +kernel
theorem dX10_node_0 : decode cX10_node 0 = .ok (.aload_n 0, 1) := by decide +kernel
theorem dX10_node_1 : decode cX10_node 1 = .ok (.iload_n 1, 1) := by decide +kernel
theorem dX10_node_2 : decode cX10_node 2 = .ok (.invokevirtual 161, 3) := by decide +kernel
theorem dX10_node_5 : decode cX10_node 5 = .ok (.istore 4, 2) := by decide +kernel
theorem dX10_node_7 : decode cX10_node 7 = .ok (.iload 4, 2) := by decide +kernel
theorem dX10_node_9 : decode cX10_node 9 = .ok (.ifCond .ge 10, 3) := by decide +kernel
theorem dX10_node_12 : decode cX10_node 12 = .ok (.aload_n 0, 1) := by decide +kernel
theorem dX10_node_13 : decode cX10_node 13 = .ok (.iload 4, 2) := by decide +kernel
theorem dX10_node_15 : decode cX10_node 15 = .ok (.invokevirtual 126, 3) := by decide +kernel
theorem dX10_node_18 : decode cX10_node 18 = .ok (.ireturn, 1) := by decide +kernel
theorem dX10_node_19 : decode cX10_node 19 = .ok (.iload_n 2, 1) := by decide +kernel
theorem dX10_node_20 : decode cX10_node 20 = .ok (.iconst 0, 1) := by decide +kernel
theorem dX10_node_21 : decode cX10_node 21 = .ok (.aload_n 0, 1) := by decide +kernel
theorem dX10_node_22 : decode cX10_node 22 = .ok (.getfield 13, 3) := by decide +kernel
theorem dX10_node_25 : decode cX10_node 25 = .ok (.iload_n 1, 1) := by decide +kernel
theorem dX10_node_26 : decode cX10_node 26 = .ok (.iaload, 1) := by decide +kernel
theorem dX10_node_27 : decode cX10_node 27 = .ok (.iconst 1, 1) := by decide +kernel
theorem dX10_node_28 : decode cX10_node 28 = .ok (.isub, 1) := by decide +kernel
theorem dX10_node_29 : decode cX10_node 29 = .ok (.invokestatic 96, 3) := by decide +kernel
theorem dX10_node_32 : decode cX10_node 32 = .ok (.ifCond .eq 13, 3) := by decide +kernel
theorem dX10_node_35 : decode cX10_node 35 = .ok (.iload_n 3, 1) := by decide +kernel
theorem dX10_node_36 : decode cX10_node 36 = .ok (.iconst 0, 1) := by decide +kernel
theorem dX10_node_37 : decode cX10_node 37 = .ok (.bipush 8, 2) := by decide +kernel
theorem dX10_node_39 : decode cX10_node 39 = .ok (.invokestatic 96, 3) := by decide +kernel
theorem dX10_node_42 : decode cX10_node 42 = .ok (.ifCond .ne 9, 3) := by decide +kernel
theorem dX10_node_45 : decode cX10_node 45 = .ok (.aload_n 0, 1) := by decide +kernel
theorem dX10_node_46 : decode cX10_node 46 = .ok (.iconst (-1), 1) := by decide +kernel
theorem dX10_node_47 : decode cX10_node 47 = .ok (.invokevirtual 126, 3) := by decide +kernel
theorem dX10_node_50 : decode cX10_node 50 = .ok (.ireturn, 1) := by decide +kernel
theorem dX10_node_51 : decode cX10_node 51 = .ok (.iload_n 3, 1) := by decide +kernel
theorem dX10_node_52 : decode cX10_node 52 = .ok (.tableswitch 124 0 7 #[48, 56, 64, 71, 78, 100, 109, 116], 48) := by decide +kernel
theorem dX10_node_100 : decode cX10_node 100 = .ok (.aload_n 0, 1) := by decide +kernel
theorem dX10_node_101 : decode cX10_node 101 = .ok (.iload_n 1, 1) := by decide +kernel
theorem dX10_node_102 : decode cX10_node 102 = .ok (.iload_n 2, 1) := by decide +kernel
theorem dX10_node_103 : decode cX10_node 103 = .ok (.iconst 0, 1) := by decide +kernel
theorem dX10_node_104 : decode cX10_node 104 = .ok (.invokevirtual 104, 3) := by decide +kernel
theorem dX10_node_107 : decode cX10_node 107 = .ok (.ireturn, 1) := by decide +kernel
theorem dX10_node_108 : decode cX10_node 108 = .ok (.aload_n 0, 1) := by decide +kernel
theorem dX10_node_109 : decode cX10_node 109 = .ok (.iload_n 1, 1) := by decide +kernel
theorem dX10_node_110 : decode cX10_node 110 = .ok (.iload_n 2, 1) := by decide +kernel
theorem dX10_node_111 : decode cX10_node 111 = .ok (.iconst 1, 1) := by decide +kernel
theorem dX10_node_112 : decode cX10_node 112 = .ok (.invokevirtual 104, 3) := by decide +kernel
theorem dX10_node_115 : decode cX10_node 115 = .ok (.ireturn, 1) := by decide +kernel
theorem dX10_node_116 : decode cX10_node 116 = .ok (.aload_n 0, 1) := by decide +kernel
theorem dX10_node_117 : decode cX10_node 117 = .ok (.iload_n 1, 1) := by decide +kernel
theorem dX10_node_118 : decode cX10_node 118 = .ok (.iload_n 2, 1) := by decide +kernel
theorem dX10_node_119 : decode cX10_node 119 = .ok (.invokevirtual 175, 3) := by decide +kernel
theorem dX10_node_122 : decode cX10_node 122 = .ok (.ireturn, 1) := by decide +kernel
theorem dX10_node_123 : decode cX10_node 123 = .ok (.aload_n 0, 1) := by decide +kernel
theorem dX10_node_124 : decode cX10_node 124 = .ok (.iload_n 1, 1) := by decide +kernel
theorem dX10_node_125 : decode cX10_node 125 = .ok (.iload_n 2, 1) := by decide +kernel
theorem dX10_node_126 : decode cX10_node 126 = .ok (.invokevirtual 115, 3) := by decide +kernel
theorem dX10_node_129 : decode cX10_node 129 = .ok (.ireturn, 1) := by decide +kernel
theorem dX10_node_130 : decode cX10_node 130 = .ok (.iload_n 2, 1) := by decide +kernel
theorem dX10_node_131 : decode cX10_node 131 = .ok (.ifCond .ne 8, 3) := by decide +kernel
theorem dX10_node_134 : decode cX10_node 134 = .ok (.bipush (-8), 2) := by decide +kernel
theorem dX10_node_136 : decode cX10_node 136 = .ok (.goto 15, 3) := by decide +kernel
theorem dX10_node_139 : decode cX10_node 139 = .ok (.aload_n 0, 1) := by decide +kernel
theorem dX10_node_140 : decode cX10_node 140 = .ok (.iload_n 1, 1) := by decide +kernel
theorem dX10_node_141 : decode cX10_node 141 = .ok (.aload_n 0, 1) := by decide +kernel
theorem dX10_node_142 : decode cX10_node 142 = .ok (.iload_n 1, 1) := by decide +kernel
theorem dX10_node_143 : decode cX10_node 143 = .ok (.iload_n 2, 1) := by decide +kernel
theorem dX10_node_144 : decode cX10_node 144 = .ok (.invokevirtual 172, 3) := by decide +kernel
theorem dX10_node_147 : decode cX10_node 147 = .ok (.iconst 0, 1) := by decide +kernel
theorem dX10_node_148 : decode cX10_node 148 = .ok (.invokevirtual 104, 3) := by decide +kernel
theorem dX10_node_151 : decode cX10_node 151 = .ok (.ireturn, 1) := by decide +kernel
theorem dX10_node_152 : decode cX10_node 152 = .ok (.aload_n 0, 1) := by decide +kernel
theorem dX10_node_153 : decode cX10_node 153 = .ok (.iload_n 1, 1) := by decide +kernel
theorem dX10_node_154 : decode cX10_node 154 = .ok (.iload_n 2, 1) := by decide +kernel
theorem dX10_node_155 : decode cX10_node 155 = .ok (.invokevirtual 119, 3) := by decide +kernel
theorem dX10_node_158 : decode cX10_node 158 = .ok (.iload_n 2, 1) := by decide +kernel
theorem dX10_node_159 : decode cX10_node 159 = .ok (.isub, 1) := by decide +kernel
theorem dX10_node_160 : decode cX10_node 160 = .ok (.ireturn, 1) := by decide +kernel
theorem dX10_node_161 : decode cX10_node 161 = .ok (.aload_n 0, 1) := by decide +kernel
theorem dX10_node_162 : decode cX10_node 162 = .ok (.iload_n 1, 1) := by decide +kernel
theorem dX10_node_163 : decode cX10_node 163 = .ok (.iload_n 2, 1) := by decide +kernel
theorem dX10_node_164 : decode cX10_node 164 = .ok (.invokevirtual 178, 3) := by decide +kernel
theorem dX10_node_167 : decode cX10_node 167 = .ok (.ireturn, 1) := by decide +kernel
theorem dX10_node_168 : decode cX10_node 168 = .ok (.aload_n 0, 1) := by decide +kernel
theorem dX10_node_169 : decode cX10_node 169 = .ok (.iload_n 1, 1) := by decide +kernel
theorem dX10_node_170 : decode cX10_node 170 = .ok (.iload_n 2, 1) := by decide +kernel
theorem dX10_node_171 : decode cX10_node 171 = .ok (.iconst 3, 1) := by decide +kernel
theorem dX10_node_172 : decode cX10_node 172 = .ok (.invokevirtual 104, 3) := by decide +kernel
theorem dX10_node_175 : decode cX10_node 175 = .ok (.ireturn, 1) := by decide +kernel
theorem dX10_node_176 : decode cX10_node 176 = .ok (.aload_n 0, 1) := by decide +kernel
theorem dX10_node_177 : decode cX10_node 177 = .ok (.iload_n 1, 1) := by decide +kernel
theorem dX10_node_178 : decode cX10_node 178 = .ok (.iload_n 2, 1) := by decide +kernel
theorem dX10_node_179 : decode cX10_node 179 = .ok (.bipush 10, 2) := by decide +kernel
theorem dX10_node_181 : decode cX10_node 181 = .ok (.invokevirtual 104, 3) := by decide +kernel
theorem dX10_node_184 : decode cX10_node 184 = .ok (.ireturn, 1) := by decide +kernel
theorem dX10_size_0 : decode cX10_size 0 = .ok (.aload_n 0, 1) := by decide +kernel
theorem dX10_size_1 : decode cX10_size 1 = .ok (.iload_n 1, 1) := by decide +kernel
theorem dX10_size_2 : decode cX10_size 2 = .ok (.invokevirtual 161, 3) := by decide +kernel
theorem dX10_size_5 : decode cX10_size 5 = .ok (.istore_n 2, 1) := by decide +kernel
theorem dX10_size_6 : decode cX10_size 6 = .ok (.iload_n 2, 1) := by decide +kernel
theorem dX10_size_7 : decode cX10_size 7 = .ok (.ifCond .ge 11, 3) := by decide +kernel
theorem dX10_size_10 : decode cX10_size 10 = .ok (.aload_n 0, 1) := by decide +kernel
theorem dX10_size_11 : decode cX10_size 11 = .ok (.iload_n 2, 1) := by decide +kernel
theorem dX10_size_12 : decode cX10_size 12 = .ok (.invokevirtual 126, 3) := by decide +kernel
theorem dX10_size_15 : decode cX10_size 15 = .ok (.goto 9, 3) := by decide +kernel
theorem dX10_size_18 : decode cX10_size 18 = .ok (.aload_n 0, 1) := by decide +kernel
theorem dX10_size_19 : decode cX10_size 19 = .ok (.getfield 13, 3) := by decide +kernel
theorem dX10_size_22 : decode cX10_size 22 = .ok (.iload_n 1, 1) := by decide +kernel
theorem dX10_size_23 : decode cX10_size 23 = .ok (.iaload, 1) := by decide +kernel
theorem dX10_size_24 : decode cX10_size 24 = .ok (.ireturn, 1) := by decide +kernel
theorem dX10_takes_0 : decode cX10_takes 0 = .ok (.aload_n 0, 1) := by decide +kernel
theorem dX10_takes_1 : decode cX10_takes 1 = .ok (.getfield 130, 3) := by decide +kernel
theorem dX10_takes_4 : decode cX10_takes 4 = .ok (.istore_n 3, 1) := by decide +kernel
theorem dX10_takes_5 : decode cX10_takes 5 = .ok (.aload_n 0, 1) := by decide +kernel
theorem dX10_takes_6 : decode cX10_takes 6 = .ok (.iconst 0, 1) := by decide +kernel
theorem dX10_takes_7 : decode cX10_takes 7 = .ok (.putfield 130, 3) := by decide +kernel
theorem dX10_takes_10 : decode cX10_takes 10 = .ok (.iload_n 3, 1) := by decide +kernel
theorem dX10_takes_11 : decode cX10_takes 11 = .ok (.iload_n 2, 1) := by decide +kernel
theorem dX10_takes_12 : decode cX10_takes 12 = .ok (.iconst 3, 1) := by decide +kernel
theorem dX10_takes_13 : decode cX10_takes 13 = .ok (.if_icmp .ne 8, 3) := by decide +kernel
theorem dX10_takes_16 : decode cX10_takes 16 = .ok (.bipush 6, 2) := by decide +kernel
theorem dX10_takes_18 : decode cX10_takes 18 = .ok (.goto 5, 3) := by decide +kernel
theorem dX10_takes_21 : decode cX10_takes 21 = .ok (.bipush 8, 2) := by decide +kernel
theorem dX10_takes_23 : decode cX10_takes 23 = .ok (.if_icmp .gt 12, 3) := by decide +kernel
theorem dX10_takes_26 : decode cX10_takes 26 = .ok (.iload_n 2, 1) := by decide +kernel
theorem dX10_takes_27 : decode cX10_takes 27 = .ok (.iconst 3, 1) := by decide +kernel
theorem dX10_takes_28 : decode cX10_takes 28 = .ok (.if_icmp .ne 9, 3) := by decide +kernel
theorem dX10_takes_31 : decode cX10_takes 31 = .ok (.iload_n 3, 1) := by decide +kernel
theorem dX10_takes_32 : decode cX10_takes 32 = .ok (.ifCond .ne 5, 3) := by decide +kernel
theorem dX10_takes_35 : decode cX10_takes 35 = .ok (.iconst 0, 1) := by decide +kernel
theorem dX10_takes_36 : decode cX10_takes 36 = .ok (.ireturn, 1) := by decide +kernel
theorem dX10_takes_37 : decode cX10_takes 37 = .ok (.iconst 0, 1) := by decide +kernel
theorem dX10_takes_38 : decode cX10_takes 38 = .ok (.istore 4, 2) := by decide +kernel
theorem dX10_takes_40 : decode cX10_takes 40 = .ok (.iload 4, 2) := by decide +kernel
theorem dX10_takes_42 : decode cX10_takes 42 = .ok (.iload_n 3, 1) := by decide +kernel
theorem dX10_takes_43 : decode cX10_takes 43 = .ok (.if_icmp .ge 65, 3) := by decide +kernel
theorem dX10_takes_46 : decode cX10_takes 46 = .ok (.iload_n 2, 1) := by decide +kernel
theorem dX10_takes_47 : decode cX10_takes 47 = .ok (.iconst 3, 1) := by decide +kernel
theorem dX10_takes_48 : decode cX10_takes 48 = .ok (.if_icmp .ne 19, 3) := by decide +kernel
theorem dX10_takes_51 : decode cX10_takes 51 = .ok (.aload_n 0, 1) := by decide +kernel
theorem dX10_takes_52 : decode cX10_takes 52 = .ok (.getfield 16, 3) := by decide +kernel
theorem dX10_takes_55 : decode cX10_takes 55 = .ok (.iload 4, 2) := by decide +kernel
theorem dX10_takes_57 : decode cX10_takes 57 = .ok (.iaload, 1) := by decide +kernel
theorem dX10_takes_58 : decode cX10_takes 58 = .ok (.invokestatic 135, 3) := by decide +kernel
theorem dX10_takes_61 : decode cX10_takes 61 = .ok (.ifCond .ne 21, 3) := by decide +kernel
theorem dX10_takes_64 : decode cX10_takes 64 = .ok (.goto 16, 3) := by decide +kernel
theorem dX10_takes_67 : decode cX10_takes 67 = .ok (.aload_n 0, 1) := by decide +kernel
theorem dX10_takes_68 : decode cX10_takes 68 = .ok (.getfield 16, 3) := by decide +kernel
theorem dX10_takes_71 : decode cX10_takes 71 = .ok (.iload 4, 2) := by decide +kernel
theorem dX10_takes_73 : decode cX10_takes 73 = .ok (.iaload, 1) := by decide +kernel
theorem dX10_takes_74 : decode cX10_takes 74 = .ok (.invokestatic 141, 3) := by decide +kernel
theorem dX10_takes_77 : decode cX10_takes 77 = .ok (.ifCond .ne 5, 3) := by decide +kernel
theorem dX10_takes_80 : decode cX10_takes 80 = .ok (.iconst 0, 1) := by decide +kernel
theorem dX10_takes_81 : decode cX10_takes 81 = .ok (.ireturn, 1) := by decide +kernel
theorem dX10_takes_82 : decode cX10_takes 82 = .ok (.aload_n 0, 1) := by decide +kernel
theorem dX10_takes_83 : decode cX10_takes 83 = .ok (.bipush 8, 2) := by decide +kernel
theorem dX10_takes_85 : decode cX10_takes 85 = .ok (.iload_n 1, 1) := by decide +kernel
theorem dX10_takes_86 : decode cX10_takes 86 = .ok (.iload_n 2, 1) := by decide +kernel
theorem dX10_takes_87 : decode cX10_takes 87 = .ok (.iconst 1, 1) := by decide +kernel
theorem dX10_takes_88 : decode cX10_takes 88 = .ok (.iadd, 1) := by decide +kernel
theorem dX10_takes_89 : decode cX10_takes 89 = .ok (.iload 4, 2) := by decide +kernel
theorem dX10_takes_91 : decode cX10_takes 91 = .ok (.iadd, 1) := by decide +kernel
theorem dX10_takes_92 : decode cX10_takes 92 = .ok (.aload_n 0, 1) := by decide +kernel
theorem dX10_takes_93 : decode cX10_takes 93 = .ok (.getfield 16, 3) := by decide +kernel
theorem dX10_takes_96 : decode cX10_takes 96 = .ok (.iload 4, 2) := by decide +kernel
theorem dX10_takes_98 : decode cX10_takes 98 = .ok (.iaload, 1) := by decide +kernel
theorem dX10_takes_99 : decode cX10_takes 99 = .ok (.invokevirtual 108, 3) := by decide +kernel
theorem dX10_takes_102 : decode cX10_takes 102 = .ok (.iinc 4 1, 3) := by decide +kernel
theorem dX10_takes_105 : decode cX10_takes 105 = .ok (.goto (-65), 3) := by decide +kernel
theorem dX10_takes_108 : decode cX10_takes 108 = .ok (.aload_n 0, 1) := by decide +kernel
theorem dX10_takes_109 : decode cX10_takes 109 = .ok (.bipush 8, 2) := by decide +kernel
theorem dX10_takes_111 : decode cX10_takes 111 = .ok (.iload_n 1, 1) := by decide +kernel
theorem dX10_takes_112 : decode cX10_takes 112 = .ok (.iload_n 2, 1) := by decide +kernel
theorem dX10_takes_113 : decode cX10_takes 113 = .ok (.iload_n 3, 1) := by decide +kernel
theorem dX10_takes_114 : decode cX10_takes 114 = .ok (.invokevirtual 108, 3) := by decide +kernel
theorem dX10_takes_117 : decode cX10_takes 117 = .ok (.iconst 1, 1) := by decide +kernel
theorem dX10_takes_118 : decode cX10_takes 118 = .ok (.ireturn, 1) := by decide +kernel
theorem dX10_relabel_0 : decode cX10_relabel 0 = .ok (.aload_n 0, 1) := by decide +kernel
theorem dX10_relabel_1 : decode cX10_relabel 1 = .ok (.iload_n 1, 1) := by decide +kernel
theorem dX10_relabel_2 : decode cX10_relabel 2 = .ok (.invokevirtual 161, 3) := by decide +kernel
theorem dX10_relabel_5 : decode cX10_relabel 5 = .ok (.istore_n 3, 1) := by decide +kernel
theorem dX10_relabel_6 : decode cX10_relabel 6 = .ok (.iload_n 3, 1) := by decide +kernel
theorem dX10_relabel_7 : decode cX10_relabel 7 = .ok (.ifCond .ge 9, 3) := by decide +kernel
theorem dX10_relabel_10 : decode cX10_relabel 10 = .ok (.aload_n 0, 1) := by decide +kernel
theorem dX10_relabel_11 : decode cX10_relabel 11 = .ok (.iload_n 3, 1) := by decide +kernel
theorem dX10_relabel_12 : decode cX10_relabel 12 = .ok (.invokevirtual 126, 3) := by decide +kernel
theorem dX10_relabel_15 : decode cX10_relabel 15 = .ok (.ireturn, 1) := by decide +kernel
theorem dX10_relabel_16 : decode cX10_relabel 16 = .ok (.aload_n 0, 1) := by decide +kernel
theorem dX10_relabel_17 : decode cX10_relabel 17 = .ok (.iload_n 1, 1) := by decide +kernel
theorem dX10_relabel_18 : decode cX10_relabel 18 = .ok (.iload_n 2, 1) := by decide +kernel
theorem dX10_relabel_19 : decode cX10_relabel 19 = .ok (.invokevirtual 181, 3) := by decide +kernel
theorem dX10_relabel_22 : decode cX10_relabel 22 = .ok (.istore 4, 2) := by decide +kernel
theorem dX10_relabel_24 : decode cX10_relabel 24 = .ok (.iload 4, 2) := by decide +kernel
theorem dX10_relabel_26 : decode cX10_relabel 26 = .ok (.ifCond .ge 10, 3) := by decide +kernel
theorem dX10_relabel_29 : decode cX10_relabel 29 = .ok (.aload_n 0, 1) := by decide +kernel
theorem dX10_relabel_30 : decode cX10_relabel 30 = .ok (.bipush (-6), 2) := by decide +kernel
theorem dX10_relabel_32 : decode cX10_relabel 32 = .ok (.invokevirtual 126, 3) := by decide +kernel
theorem dX10_relabel_35 : decode cX10_relabel 35 = .ok (.ireturn, 1) := by decide +kernel
theorem dX10_relabel_36 : decode cX10_relabel 36 = .ok (.aload_n 0, 1) := by decide +kernel
theorem dX10_relabel_37 : decode cX10_relabel 37 = .ok (.iload_n 1, 1) := by decide +kernel
theorem dX10_relabel_38 : decode cX10_relabel 38 = .ok (.bipush 8, 2) := by decide +kernel
theorem dX10_relabel_40 : decode cX10_relabel 40 = .ok (.invokevirtual 151, 3) := by decide +kernel
theorem dX10_relabel_43 : decode cX10_relabel 43 = .ok (.aload_n 0, 1) := by decide +kernel
theorem dX10_relabel_44 : decode cX10_relabel 44 = .ok (.iload 4, 2) := by decide +kernel
theorem dX10_relabel_46 : decode cX10_relabel 46 = .ok (.iconst 3, 1) := by decide +kernel
theorem dX10_relabel_47 : decode cX10_relabel 47 = .ok (.invokevirtual 184, 3) := by decide +kernel
theorem dX10_relabel_50 : decode cX10_relabel 50 = .ok (.ifCond .ne 10, 3) := by decide +kernel
theorem dX10_relabel_53 : decode cX10_relabel 53 = .ok (.aload_n 0, 1) := by decide +kernel
theorem dX10_relabel_54 : decode cX10_relabel 54 = .ok (.bipush (-3), 2) := by decide +kernel
theorem dX10_relabel_56 : decode cX10_relabel 56 = .ok (.invokevirtual 126, 3) := by decide +kernel
theorem dX10_relabel_59 : decode cX10_relabel 59 = .ok (.ireturn, 1) := by decide +kernel
theorem dX10_relabel_60 : decode cX10_relabel 60 = .ok (.aload_n 0, 1) := by decide +kernel
theorem dX10_relabel_61 : decode cX10_relabel 61 = .ok (.iload_n 1, 1) := by decide +kernel
theorem dX10_relabel_62 : decode cX10_relabel 62 = .ok (.iload 4, 2) := by decide +kernel
theorem dX10_relabel_64 : decode cX10_relabel 64 = .ok (.invokevirtual 172, 3) := by decide +kernel
theorem dX10_relabel_67 : decode cX10_relabel 67 = .ok (.istore 5, 2) := by decide +kernel
theorem dX10_relabel_69 : decode cX10_relabel 69 = .ok (.iload 5, 2) := by decide +kernel
theorem dX10_relabel_71 : decode cX10_relabel 71 = .ok (.ifCond .lt 74, 3) := by decide +kernel
theorem dX10_relabel_74 : decode cX10_relabel 74 = .ok (.aload_n 0, 1) := by decide +kernel
theorem dX10_relabel_75 : decode cX10_relabel 75 = .ok (.iload_n 1, 1) := by decide +kernel
theorem dX10_relabel_76 : decode cX10_relabel 76 = .ok (.iload 5, 2) := by decide +kernel
theorem dX10_relabel_78 : decode cX10_relabel 78 = .ok (.iconst 1, 1) := by decide +kernel
theorem dX10_relabel_79 : decode cX10_relabel 79 = .ok (.invokevirtual 104, 3) := by decide +kernel
theorem dX10_relabel_82 : decode cX10_relabel 82 = .ok (.iconst 2, 1) := by decide +kernel
theorem dX10_relabel_83 : decode cX10_relabel 83 = .ok (.if_icmp .ne 62, 3) := by decide +kernel
theorem dX10_relabel_86 : decode cX10_relabel 86 = .ok (.iload 5, 2) := by decide +kernel
theorem dX10_relabel_88 : decode cX10_relabel 88 = .ok (.iconst 1, 1) := by decide +kernel
theorem dX10_relabel_89 : decode cX10_relabel 89 = .ok (.iadd, 1) := by decide +kernel
theorem dX10_relabel_90 : decode cX10_relabel 90 = .ok (.istore 6, 2) := by decide +kernel
theorem dX10_relabel_92 : decode cX10_relabel 92 = .ok (.iload 6, 2) := by decide +kernel
theorem dX10_relabel_94 : decode cX10_relabel 94 = .ok (.aload_n 0, 1) := by decide +kernel
theorem dX10_relabel_95 : decode cX10_relabel 95 = .ok (.iload_n 1, 1) := by decide +kernel
theorem dX10_relabel_96 : decode cX10_relabel 96 = .ok (.iload 5, 2) := by decide +kernel
theorem dX10_relabel_98 : decode cX10_relabel 98 = .ok (.invokevirtual 119, 3) := by decide +kernel
theorem dX10_relabel_101 : decode cX10_relabel 101 = .ok (.if_icmp .ge 44, 3) := by decide +kernel
theorem dX10_relabel_104 : decode cX10_relabel 104 = .ok (.iload 6, 2) := by decide +kernel
theorem dX10_relabel_106 : decode cX10_relabel 106 = .ok (.iload 4, 2) := by decide +kernel
theorem dX10_relabel_108 : decode cX10_relabel 108 = .ok (.if_icmp .eq 25, 3) := by decide +kernel
theorem dX10_relabel_111 : decode cX10_relabel 111 = .ok (.aload_n 0, 1) := by decide +kernel
theorem dX10_relabel_112 : decode cX10_relabel 112 = .ok (.bipush 8, 2) := by decide +kernel
theorem dX10_relabel_114 : decode cX10_relabel 114 = .ok (.iload 4, 2) := by decide +kernel
theorem dX10_relabel_116 : decode cX10_relabel 116 = .ok (.iload_n 1, 1) := by decide +kernel
theorem dX10_relabel_117 : decode cX10_relabel 117 = .ok (.iload 6, 2) := by decide +kernel
theorem dX10_relabel_119 : decode cX10_relabel 119 = .ok (.iconst 3, 1) := by decide +kernel
theorem dX10_relabel_120 : decode cX10_relabel 120 = .ok (.invokevirtual 122, 3) := by decide +kernel
theorem dX10_relabel_123 : decode cX10_relabel 123 = .ok (.ifCond .eq 10, 3) := by decide +kernel
theorem dX10_relabel_126 : decode cX10_relabel 126 = .ok (.aload_n 0, 1) := by decide +kernel
theorem dX10_relabel_127 : decode cX10_relabel 127 = .ok (.bipush (-4), 2) := by decide +kernel
theorem dX10_relabel_129 : decode cX10_relabel 129 = .ok (.invokevirtual 126, 3) := by decide +kernel
theorem dX10_relabel_132 : decode cX10_relabel 132 = .ok (.ireturn, 1) := by decide +kernel
theorem dX10_relabel_133 : decode cX10_relabel 133 = .ok (.aload_n 0, 1) := by decide +kernel
theorem dX10_relabel_134 : decode cX10_relabel 134 = .ok (.iload_n 1, 1) := by decide +kernel
theorem dX10_relabel_135 : decode cX10_relabel 135 = .ok (.iload 6, 2) := by decide +kernel
theorem dX10_relabel_137 : decode cX10_relabel 137 = .ok (.invokevirtual 119, 3) := by decide +kernel
theorem dX10_relabel_140 : decode cX10_relabel 140 = .ok (.istore 6, 2) := by decide +kernel
theorem dX10_relabel_142 : decode cX10_relabel 142 = .ok (.goto (-50), 3) := by decide +kernel
theorem dX10_relabel_145 : decode cX10_relabel 145 = .ok (.aload_n 0, 1) := by decide +kernel
theorem dX10_relabel_146 : decode cX10_relabel 146 = .ok (.bipush 8, 2) := by decide +kernel
theorem dX10_relabel_148 : decode cX10_relabel 148 = .ok (.iload_n 1, 1) := by decide +kernel
theorem dX10_relabel_149 : decode cX10_relabel 149 = .ok (.invokevirtual 151, 3) := by decide +kernel
theorem dX10_relabel_152 : decode cX10_relabel 152 = .ok (.aload_n 0, 1) := by decide +kernel
theorem dX10_relabel_153 : decode cX10_relabel 153 = .ok (.iload_n 1, 1) := by decide +kernel
theorem dX10_relabel_154 : decode cX10_relabel 154 = .ok (.iload 4, 2) := by decide +kernel
theorem dX10_relabel_156 : decode cX10_relabel 156 = .ok (.iconst 3, 1) := by decide +kernel
theorem dX10_relabel_157 : decode cX10_relabel 157 = .ok (.invokevirtual 104, 3) := by decide +kernel
theorem dX10_relabel_160 : decode cX10_relabel 160 = .ok (.ireturn, 1) := by decide +kernel
theorem dX10_retext_0 : decode cX10_retext 0 = .ok (.aload_n 0, 1) := by decide +kernel
theorem dX10_retext_1 : decode cX10_retext 1 = .ok (.iload_n 1, 1) := by decide +kernel
theorem dX10_retext_2 : decode cX10_retext 2 = .ok (.invokevirtual 161, 3) := by decide +kernel
theorem dX10_retext_5 : decode cX10_retext 5 = .ok (.istore_n 3, 1) := by decide +kernel
theorem dX10_retext_6 : decode cX10_retext 6 = .ok (.iload_n 3, 1) := by decide +kernel
theorem dX10_retext_7 : decode cX10_retext 7 = .ok (.ifCond .ge 9, 3) := by decide +kernel
theorem dX10_retext_10 : decode cX10_retext 10 = .ok (.aload_n 0, 1) := by decide +kernel
theorem dX10_retext_11 : decode cX10_retext 11 = .ok (.iload_n 3, 1) := by decide +kernel
theorem dX10_retext_12 : decode cX10_retext 12 = .ok (.invokevirtual 126, 3) := by decide +kernel
theorem dX10_retext_15 : decode cX10_retext 15 = .ok (.ireturn, 1) := by decide +kernel
theorem dX10_retext_16 : decode cX10_retext 16 = .ok (.aload_n 0, 1) := by decide +kernel
theorem dX10_retext_17 : decode cX10_retext 17 = .ok (.iload_n 1, 1) := by decide +kernel
theorem dX10_retext_18 : decode cX10_retext 18 = .ok (.iload_n 2, 1) := by decide +kernel
theorem dX10_retext_19 : decode cX10_retext 19 = .ok (.invokevirtual 181, 3) := by decide +kernel
theorem dX10_retext_22 : decode cX10_retext 22 = .ok (.istore 4, 2) := by decide +kernel
theorem dX10_retext_24 : decode cX10_retext 24 = .ok (.iload 4, 2) := by decide +kernel
theorem dX10_retext_26 : decode cX10_retext 26 = .ok (.ifCond .ge 10, 3) := by decide +kernel
theorem dX10_retext_29 : decode cX10_retext 29 = .ok (.aload_n 0, 1) := by decide +kernel
theorem dX10_retext_30 : decode cX10_retext 30 = .ok (.bipush (-6), 2) := by decide +kernel
theorem dX10_retext_32 : decode cX10_retext 32 = .ok (.invokevirtual 126, 3) := by decide +kernel
theorem dX10_retext_35 : decode cX10_retext 35 = .ok (.ireturn, 1) := by decide +kernel
theorem dX10_retext_36 : decode cX10_retext 36 = .ok (.aload_n 0, 1) := by decide +kernel
theorem dX10_retext_37 : decode cX10_retext 37 = .ok (.iload_n 1, 1) := by decide +kernel
theorem dX10_retext_38 : decode cX10_retext 38 = .ok (.bipush 8, 2) := by decide +kernel
theorem dX10_retext_40 : decode cX10_retext 40 = .ok (.invokevirtual 151, 3) := by decide +kernel
theorem dX10_retext_43 : decode cX10_retext 43 = .ok (.aload_n 0, 1) := by decide +kernel
theorem dX10_retext_44 : decode cX10_retext 44 = .ok (.iload 4, 2) := by decide +kernel
theorem dX10_retext_46 : decode cX10_retext 46 = .ok (.bipush 10, 2) := by decide +kernel
theorem dX10_retext_48 : decode cX10_retext 48 = .ok (.invokevirtual 184, 3) := by decide +kernel
theorem dX10_retext_51 : decode cX10_retext 51 = .ok (.ifCond .ne 10, 3) := by decide +kernel
theorem dX10_retext_54 : decode cX10_retext 54 = .ok (.aload_n 0, 1) := by decide +kernel
theorem dX10_retext_55 : decode cX10_retext 55 = .ok (.bipush (-3), 2) := by decide +kernel
theorem dX10_retext_57 : decode cX10_retext 57 = .ok (.invokevirtual 126, 3) := by decide +kernel
theorem dX10_retext_60 : decode cX10_retext 60 = .ok (.ireturn, 1) := by decide +kernel
theorem dX10_retext_61 : decode cX10_retext 61 = .ok (.aload_n 0, 1) := by decide +kernel
theorem dX10_retext_62 : decode cX10_retext 62 = .ok (.bipush 8, 2) := by decide +kernel
theorem dX10_retext_64 : decode cX10_retext 64 = .ok (.iload_n 1, 1) := by decide +kernel
theorem dX10_retext_65 : decode cX10_retext 65 = .ok (.invokevirtual 151, 3) := by decide +kernel
theorem dX10_retext_68 : decode cX10_retext 68 = .ok (.aload_n 0, 1) := by decide +kernel
theorem dX10_retext_69 : decode cX10_retext 69 = .ok (.iload_n 1, 1) := by decide +kernel
theorem dX10_retext_70 : decode cX10_retext 70 = .ok (.iload 4, 2) := by decide +kernel
theorem dX10_retext_72 : decode cX10_retext 72 = .ok (.bipush 10, 2) := by decide +kernel
theorem dX10_retext_74 : decode cX10_retext 74 = .ok (.invokevirtual 104, 3) := by decide +kernel
theorem dX10_retext_77 : decode cX10_retext 77 = .ok (.ireturn, 1) := by decide +kernel
theorem dX10_put_0 : decode cX10_put 0 = .ok (.aload_n 0, 1) := by decide +kernel
theorem dX10_put_1 : decode cX10_put 1 = .ok (.iload_n 1, 1) := by decide +kernel
theorem dX10_put_2 : decode cX10_put 2 = .ok (.invokevirtual 161, 3) := by decide +kernel
theorem dX10_put_5 : decode cX10_put 5 = .ok (.istore 6, 2) := by decide +kernel
theorem dX10_put_7 : decode cX10_put 7 = .ok (.iload 6, 2) := by decide +kernel
theorem dX10_put_9 : decode cX10_put 9 = .ok (.ifCond .ge 10, 3) := by decide +kernel
theorem dX10_put_12 : decode cX10_put 12 = .ok (.aload_n 0, 1) := by decide +kernel
theorem dX10_put_13 : decode cX10_put 13 = .ok (.iload 6, 2) := by decide +kernel
theorem dX10_put_15 : decode cX10_put 15 = .ok (.invokevirtual 126, 3) := by decide +kernel
theorem dX10_put_18 : decode cX10_put 18 = .ok (.ireturn, 1) := by decide +kernel
theorem dX10_put_19 : decode cX10_put 19 = .ok (.aload_n 0, 1) := by decide +kernel
theorem dX10_put_20 : decode cX10_put 20 = .ok (.iload_n 1, 1) := by decide +kernel
theorem dX10_put_21 : decode cX10_put 21 = .ok (.iload_n 2, 1) := by decide +kernel
theorem dX10_put_22 : decode cX10_put 22 = .ok (.invokevirtual 181, 3) := by decide +kernel
theorem dX10_put_25 : decode cX10_put 25 = .ok (.istore 7, 2) := by decide +kernel
theorem dX10_put_27 : decode cX10_put 27 = .ok (.iload 7, 2) := by decide +kernel
theorem dX10_put_29 : decode cX10_put 29 = .ok (.ifCond .ge 10, 3) := by decide +kernel
theorem dX10_put_32 : decode cX10_put 32 = .ok (.aload_n 0, 1) := by decide +kernel
theorem dX10_put_33 : decode cX10_put 33 = .ok (.bipush (-6), 2) := by decide +kernel
theorem dX10_put_35 : decode cX10_put 35 = .ok (.invokevirtual 126, 3) := by decide +kernel
theorem dX10_put_38 : decode cX10_put 38 = .ok (.ireturn, 1) := by decide +kernel
theorem dX10_put_39 : decode cX10_put 39 = .ok (.aload_n 0, 1) := by decide +kernel
theorem dX10_put_40 : decode cX10_put 40 = .ok (.getfield 13, 3) := by decide +kernel
theorem dX10_put_43 : decode cX10_put 43 = .ok (.bipush 8, 2) := by decide +kernel
theorem dX10_put_45 : decode cX10_put 45 = .ok (.iconst 0, 1) := by decide +kernel
theorem dX10_put_46 : decode cX10_put 46 = .ok (.iastore, 1) := by decide +kernel
theorem dX10_put_47 : decode cX10_put 47 = .ok (.aload_n 0, 1) := by decide +kernel
theorem dX10_put_48 : decode cX10_put 48 = .ok (.iconst 0, 1) := by decide +kernel
theorem dX10_put_49 : decode cX10_put 49 = .ok (.iconst 3, 1) := by decide +kernel
theorem dX10_put_50 : decode cX10_put 50 = .ok (.invokevirtual 184, 3) := by decide +kernel
theorem dX10_put_53 : decode cX10_put 53 = .ok (.istore 8, 2) := by decide +kernel
theorem dX10_put_55 : decode cX10_put 55 = .ok (.iload_n 3, 1) := by decide +kernel
theorem dX10_put_56 : decode cX10_put 56 = .ok (.iconst 0, 1) := by decide +kernel
theorem dX10_put_57 : decode cX10_put 57 = .ok (.iconst 2, 1) := by decide +kernel
theorem dX10_put_58 : decode cX10_put 58 = .ok (.invokestatic 96, 3) := by decide +kernel
theorem dX10_put_61 : decode cX10_put 61 = .ok (.ifCond .eq 20, 3) := by decide +kernel
theorem dX10_put_64 : decode cX10_put 64 = .ok (.aload_n 0, 1) := by decide +kernel
theorem dX10_put_65 : decode cX10_put 65 = .ok (.iload_n 1, 1) := by decide +kernel
theorem dX10_put_66 : decode cX10_put 66 = .ok (.iload 7, 2) := by decide +kernel
theorem dX10_put_68 : decode cX10_put 68 = .ok (.iconst 1, 1) := by decide +kernel
theorem dX10_put_69 : decode cX10_put 69 = .ok (.invokevirtual 104, 3) := by decide +kernel
theorem dX10_put_72 : decode cX10_put 72 = .ok (.iconst 3, 1) := by decide +kernel
theorem dX10_put_73 : decode cX10_put 73 = .ok (.if_icmp .eq 8, 3) := by decide +kernel
theorem dX10_put_76 : decode cX10_put 76 = .ok (.iload 8, 2) := by decide +kernel
theorem dX10_put_78 : decode cX10_put 78 = .ok (.ifCond .ne 10, 3) := by decide +kernel
theorem dX10_put_81 : decode cX10_put 81 = .ok (.aload_n 0, 1) := by decide +kernel
theorem dX10_put_82 : decode cX10_put 82 = .ok (.bipush (-3), 2) := by decide +kernel
theorem dX10_put_84 : decode cX10_put 84 = .ok (.invokevirtual 126, 3) := by decide +kernel
theorem dX10_put_87 : decode cX10_put 87 = .ok (.ireturn, 1) := by decide +kernel
theorem dX10_put_88 : decode cX10_put 88 = .ok (.iload 4, 2) := by decide +kernel
theorem dX10_put_90 : decode cX10_put 90 = .ok (.ifCond .lt 27, 3) := by decide +kernel
theorem dX10_put_93 : decode cX10_put 93 = .ok (.iload 5, 2) := by decide +kernel
theorem dX10_put_95 : decode cX10_put 95 = .ok (.ifCond .lt 22, 3) := by decide +kernel
theorem dX10_put_98 : decode cX10_put 98 = .ok (.iload 4, 2) := by decide +kernel
theorem dX10_put_100 : decode cX10_put 100 = .ok (.i2l, 1) := by decide +kernel
theorem dX10_put_101 : decode cX10_put 101 = .ok (.iload 5, 2) := by decide +kernel
theorem dX10_put_103 : decode cX10_put 103 = .ok (.i2l, 1) := by decide +kernel
theorem dX10_put_104 : decode cX10_put 104 = .ok (.ladd, 1) := by decide +kernel
theorem dX10_put_105 : decode cX10_put 105 = .ok (.aload_n 0, 1) := by decide +kernel
theorem dX10_put_106 : decode cX10_put 106 = .ok (.iload_n 1, 1) := by decide +kernel
theorem dX10_put_107 : decode cX10_put 107 = .ok (.iload 7, 2) := by decide +kernel
theorem dX10_put_109 : decode cX10_put 109 = .ok (.invokevirtual 175, 3) := by decide +kernel
theorem dX10_put_112 : decode cX10_put 112 = .ok (.i2l, 1) := by decide +kernel
theorem dX10_put_113 : decode cX10_put 113 = .ok (.lcmp, 1) := by decide +kernel
theorem dX10_put_114 : decode cX10_put 114 = .ok (.ifCond .le 9, 3) := by decide +kernel
theorem dX10_put_117 : decode cX10_put 117 = .ok (.aload_n 0, 1) := by decide +kernel
theorem dX10_put_118 : decode cX10_put 118 = .ok (.iconst (-1), 1) := by decide +kernel
theorem dX10_put_119 : decode cX10_put 119 = .ok (.invokevirtual 126, 3) := by decide +kernel
theorem dX10_put_122 : decode cX10_put 122 = .ok (.ireturn, 1) := by decide +kernel
theorem dX10_put_123 : decode cX10_put 123 = .ok (.aload_n 0, 1) := by decide +kernel
theorem dX10_put_124 : decode cX10_put 124 = .ok (.getfield 13, 3) := by decide +kernel
theorem dX10_put_127 : decode cX10_put 127 = .ok (.iload_n 1, 1) := by decide +kernel
theorem dX10_put_128 : decode cX10_put 128 = .ok (.iaload, 1) := by decide +kernel
theorem dX10_put_129 : decode cX10_put 129 = .ok (.bipush 30, 2) := by decide +kernel
theorem dX10_put_131 : decode cX10_put 131 = .ok (.if_icmp .ne 10, 3) := by decide +kernel
theorem dX10_put_134 : decode cX10_put 134 = .ok (.aload_n 0, 1) := by decide +kernel
theorem dX10_put_135 : decode cX10_put 135 = .ok (.bipush (-5), 2) := by decide +kernel
theorem dX10_put_137 : decode cX10_put 137 = .ok (.invokevirtual 126, 3) := by decide +kernel
theorem dX10_put_140 : decode cX10_put 140 = .ok (.ireturn, 1) := by decide +kernel
theorem dX10_put_141 : decode cX10_put 141 = .ok (.aload_n 0, 1) := by decide +kernel
theorem dX10_put_142 : decode cX10_put 142 = .ok (.iload_n 1, 1) := by decide +kernel
theorem dX10_put_143 : decode cX10_put 143 = .ok (.iload 7, 2) := by decide +kernel
theorem dX10_put_145 : decode cX10_put 145 = .ok (.iload 4, 2) := by decide +kernel
theorem dX10_put_147 : decode cX10_put 147 = .ok (.invokevirtual 188, 3) := by decide +kernel
theorem dX10_put_150 : decode cX10_put 150 = .ok (.istore 9, 2) := by decide +kernel
theorem dX10_put_152 : decode cX10_put 152 = .ok (.iload 9, 2) := by decide +kernel
theorem dX10_put_154 : decode cX10_put 154 = .ok (.istore 10, 2) := by decide +kernel
theorem dX10_put_156 : decode cX10_put 156 = .ok (.iconst 0, 1) := by decide +kernel
theorem dX10_put_157 : decode cX10_put 157 = .ok (.istore 11, 2) := by decide +kernel
theorem dX10_put_159 : decode cX10_put 159 = .ok (.iload 11, 2) := by decide +kernel
theorem dX10_put_161 : decode cX10_put 161 = .ok (.iload 5, 2) := by decide +kernel
theorem dX10_put_163 : decode cX10_put 163 = .ok (.if_icmp .ge 18, 3) := by decide +kernel
theorem dX10_put_166 : decode cX10_put 166 = .ok (.aload_n 0, 1) := by decide +kernel
theorem dX10_put_167 : decode cX10_put 167 = .ok (.iload_n 1, 1) := by decide +kernel
theorem dX10_put_168 : decode cX10_put 168 = .ok (.iload 10, 2) := by decide +kernel
theorem dX10_put_170 : decode cX10_put 170 = .ok (.invokevirtual 119, 3) := by decide +kernel
theorem dX10_put_173 : decode cX10_put 173 = .ok (.istore 10, 2) := by decide +kernel
theorem dX10_put_175 : decode cX10_put 175 = .ok (.iinc 11 1, 3) := by decide +kernel
theorem dX10_put_178 : decode cX10_put 178 = .ok (.goto (-19), 3) := by decide +kernel
theorem dX10_put_181 : decode cX10_put 181 = .ok (.iconst 3, 1) := by decide +kernel
theorem dX10_put_182 : decode cX10_put 182 = .ok (.istore 11, 2) := by decide +kernel
theorem dX10_put_184 : decode cX10_put 184 = .ok (.iload 11, 2) := by decide +kernel
theorem dX10_put_186 : decode cX10_put 186 = .ok (.bipush 10, 2) := by decide +kernel
theorem dX10_put_188 : decode cX10_put 188 = .ok (.if_icmp .ge 28, 3) := by decide +kernel
theorem dX10_put_191 : decode cX10_put 191 = .ok (.aload_n 0, 1) := by decide +kernel
theorem dX10_put_192 : decode cX10_put 192 = .ok (.bipush 9, 2) := by decide +kernel
theorem dX10_put_194 : decode cX10_put 194 = .ok (.iload 9, 2) := by decide +kernel
theorem dX10_put_196 : decode cX10_put 196 = .ok (.iload 11, 2) := by decide +kernel
theorem dX10_put_198 : decode cX10_put 198 = .ok (.aload_n 0, 1) := by decide +kernel
theorem dX10_put_199 : decode cX10_put 199 = .ok (.bipush 8, 2) := by decide +kernel
theorem dX10_put_201 : decode cX10_put 201 = .ok (.iconst 0, 1) := by decide +kernel
theorem dX10_put_202 : decode cX10_put 202 = .ok (.iload 11, 2) := by decide +kernel
theorem dX10_put_204 : decode cX10_put 204 = .ok (.invokevirtual 104, 3) := by decide +kernel
theorem dX10_put_207 : decode cX10_put 207 = .ok (.invokevirtual 108, 3) := by decide +kernel
theorem dX10_put_210 : decode cX10_put 210 = .ok (.iinc 11 1, 3) := by decide +kernel
theorem dX10_put_213 : decode cX10_put 213 = .ok (.goto (-29), 3) := by decide +kernel
theorem dX10_put_216 : decode cX10_put 216 = .ok (.aload_n 0, 1) := by decide +kernel
theorem dX10_put_217 : decode cX10_put 217 = .ok (.bipush 9, 2) := by decide +kernel
theorem dX10_put_219 : decode cX10_put 219 = .ok (.iload 9, 2) := by decide +kernel
theorem dX10_put_221 : decode cX10_put 221 = .ok (.iconst 0, 1) := by decide +kernel
theorem dX10_put_222 : decode cX10_put 222 = .ok (.aload_n 0, 1) := by decide +kernel
theorem dX10_put_223 : decode cX10_put 223 = .ok (.getfield 155, 3) := by decide +kernel
theorem dX10_put_226 : decode cX10_put 226 = .ok (.invokevirtual 108, 3) := by decide +kernel
theorem dX10_put_229 : decode cX10_put 229 = .ok (.aload_n 0, 1) := by decide +kernel
theorem dX10_put_230 : decode cX10_put 230 = .ok (.bipush 9, 2) := by decide +kernel
theorem dX10_put_232 : decode cX10_put 232 = .ok (.iload 9, 2) := by decide +kernel
theorem dX10_put_234 : decode cX10_put 234 = .ok (.iconst 1, 1) := by decide +kernel
theorem dX10_put_235 : decode cX10_put 235 = .ok (.iload_n 3, 1) := by decide +kernel
theorem dX10_put_236 : decode cX10_put 236 = .ok (.invokevirtual 108, 3) := by decide +kernel
theorem dX10_put_239 : decode cX10_put 239 = .ok (.aload_n 0, 1) := by decide +kernel
theorem dX10_put_240 : decode cX10_put 240 = .ok (.bipush 9, 2) := by decide +kernel
theorem dX10_put_242 : decode cX10_put 242 = .ok (.iload 9, 2) := by decide +kernel
theorem dX10_put_244 : decode cX10_put 244 = .ok (.iconst 2, 1) := by decide +kernel
theorem dX10_put_245 : decode cX10_put 245 = .ok (.aload_n 0, 1) := by decide +kernel
theorem dX10_put_246 : decode cX10_put 246 = .ok (.iload_n 1, 1) := by decide +kernel
theorem dX10_put_247 : decode cX10_put 247 = .ok (.iload 7, 2) := by decide +kernel
theorem dX10_put_249 : decode cX10_put 249 = .ok (.invokevirtual 115, 3) := by decide +kernel
theorem dX10_put_252 : decode cX10_put 252 = .ok (.iconst 1, 1) := by decide +kernel
theorem dX10_put_253 : decode cX10_put 253 = .ok (.iadd, 1) := by decide +kernel
theorem dX10_put_254 : decode cX10_put 254 = .ok (.invokevirtual 108, 3) := by decide +kernel
theorem dX10_put_257 : decode cX10_put 257 = .ok (.aload_n 0, 1) := by decide +kernel
theorem dX10_put_258 : decode cX10_put 258 = .ok (.bipush 9, 2) := by decide +kernel
theorem dX10_put_260 : decode cX10_put 260 = .ok (.iload 9, 2) := by decide +kernel
theorem dX10_put_262 : decode cX10_put 262 = .ok (.bipush 10, 2) := by decide +kernel
theorem dX10_put_264 : decode cX10_put 264 = .ok (.iconst 0, 1) := by decide +kernel
theorem dX10_put_265 : decode cX10_put 265 = .ok (.invokevirtual 108, 3) := by decide +kernel
theorem dX10_put_268 : decode cX10_put 268 = .ok (.iconst 0, 1) := by decide +kernel
theorem dX10_put_269 : decode cX10_put 269 = .ok (.istore 11, 2) := by decide +kernel
theorem dX10_put_271 : decode cX10_put 271 = .ok (.iload 11, 2) := by decide +kernel
theorem dX10_put_273 : decode cX10_put 273 = .ok (.aload_n 0, 1) := by decide +kernel
theorem dX10_put_274 : decode cX10_put 274 = .ok (.getfield 13, 3) := by decide +kernel
theorem dX10_put_277 : decode cX10_put 277 = .ok (.iload_n 1, 1) := by decide +kernel
theorem dX10_put_278 : decode cX10_put 278 = .ok (.iaload, 1) := by decide +kernel
theorem dX10_put_279 : decode cX10_put 279 = .ok (.if_icmp .ge 70, 3) := by decide +kernel
theorem dX10_put_282 : decode cX10_put 282 = .ok (.iload 11, 2) := by decide +kernel
theorem dX10_put_284 : decode cX10_put 284 = .ok (.iload 9, 2) := by decide +kernel
theorem dX10_put_286 : decode cX10_put 286 = .ok (.if_icmp .ge 8, 3) := by decide +kernel
theorem dX10_put_289 : decode cX10_put 289 = .ok (.iload 11, 2) := by decide +kernel
theorem dX10_put_291 : decode cX10_put 291 = .ok (.goto 7, 3) := by decide +kernel
theorem dX10_put_294 : decode cX10_put 294 = .ok (.iload 11, 2) := by decide +kernel
theorem dX10_put_296 : decode cX10_put 296 = .ok (.iconst 1, 1) := by decide +kernel
theorem dX10_put_297 : decode cX10_put 297 = .ok (.iadd, 1) := by decide +kernel
theorem dX10_put_298 : decode cX10_put 298 = .ok (.istore 12, 2) := by decide +kernel
theorem dX10_put_300 : decode cX10_put 300 = .ok (.aload_n 0, 1) := by decide +kernel
theorem dX10_put_301 : decode cX10_put 301 = .ok (.iload_n 1, 1) := by decide +kernel
theorem dX10_put_302 : decode cX10_put 302 = .ok (.iload 11, 2) := by decide +kernel
theorem dX10_put_304 : decode cX10_put 304 = .ok (.bipush 9, 2) := by decide +kernel
theorem dX10_put_306 : decode cX10_put 306 = .ok (.iload 12, 2) := by decide +kernel
theorem dX10_put_308 : decode cX10_put 308 = .ok (.invokevirtual 112, 3) := by decide +kernel
theorem dX10_put_311 : decode cX10_put 311 = .ok (.iload 11, 2) := by decide +kernel
theorem dX10_put_313 : decode cX10_put 313 = .ok (.iload 9, 2) := by decide +kernel
theorem dX10_put_315 : decode cX10_put 315 = .ok (.if_icmp .lt 28, 3) := by decide +kernel
theorem dX10_put_318 : decode cX10_put 318 = .ok (.iload 11, 2) := by decide +kernel
theorem dX10_put_320 : decode cX10_put 320 = .ok (.iload 10, 2) := by decide +kernel
theorem dX10_put_322 : decode cX10_put 322 = .ok (.if_icmp .ge 21, 3) := by decide +kernel
theorem dX10_put_325 : decode cX10_put 325 = .ok (.aload_n 0, 1) := by decide +kernel
theorem dX10_put_326 : decode cX10_put 326 = .ok (.bipush 9, 2) := by decide +kernel
theorem dX10_put_328 : decode cX10_put 328 = .ok (.iload 12, 2) := by decide +kernel
theorem dX10_put_330 : decode cX10_put 330 = .ok (.iconst 2, 1) := by decide +kernel
theorem dX10_put_331 : decode cX10_put 331 = .ok (.aload_n 0, 1) := by decide +kernel
theorem dX10_put_332 : decode cX10_put 332 = .ok (.iload_n 1, 1) := by decide +kernel
theorem dX10_put_333 : decode cX10_put 333 = .ok (.iload 11, 2) := by decide +kernel
theorem dX10_put_335 : decode cX10_put 335 = .ok (.invokevirtual 115, 3) := by decide +kernel
theorem dX10_put_338 : decode cX10_put 338 = .ok (.iconst 1, 1) := by decide +kernel
theorem dX10_put_339 : decode cX10_put 339 = .ok (.iadd, 1) := by decide +kernel
theorem dX10_put_340 : decode cX10_put 340 = .ok (.invokevirtual 108, 3) := by decide +kernel
theorem dX10_put_343 : decode cX10_put 343 = .ok (.iinc 11 1, 3) := by decide +kernel
theorem dX10_put_346 : decode cX10_put 346 = .ok (.goto (-75), 3) := by decide +kernel
theorem dX10_put_349 : decode cX10_put 349 = .ok (.aload_n 0, 1) := by decide +kernel
theorem dX10_put_350 : decode cX10_put 350 = .ok (.getfield 13, 3) := by decide +kernel
theorem dX10_put_353 : decode cX10_put 353 = .ok (.bipush 9, 2) := by decide +kernel
theorem dX10_put_355 : decode cX10_put 355 = .ok (.aload_n 0, 1) := by decide +kernel
theorem dX10_put_356 : decode cX10_put 356 = .ok (.getfield 13, 3) := by decide +kernel
theorem dX10_put_359 : decode cX10_put 359 = .ok (.iload_n 1, 1) := by decide +kernel
theorem dX10_put_360 : decode cX10_put 360 = .ok (.iaload, 1) := by decide +kernel
theorem dX10_put_361 : decode cX10_put 361 = .ok (.iconst 1, 1) := by decide +kernel
theorem dX10_put_362 : decode cX10_put 362 = .ok (.iadd, 1) := by decide +kernel
theorem dX10_put_363 : decode cX10_put 363 = .ok (.iastore, 1) := by decide +kernel
theorem dX10_put_364 : decode cX10_put 364 = .ok (.aload_n 0, 1) := by decide +kernel
theorem dX10_put_365 : decode cX10_put 365 = .ok (.bipush 9, 2) := by decide +kernel
theorem dX10_put_367 : decode cX10_put 367 = .ok (.invokevirtual 191, 3) := by decide +kernel
theorem dX10_put_370 : decode cX10_put 370 = .ok (.ifCond .eq 10, 3) := by decide +kernel
theorem dX10_put_373 : decode cX10_put 373 = .ok (.aload_n 0, 1) := by decide +kernel
theorem dX10_put_374 : decode cX10_put 374 = .ok (.bipush (-5), 2) := by decide +kernel
theorem dX10_put_376 : decode cX10_put 376 = .ok (.invokevirtual 126, 3) := by decide +kernel
theorem dX10_put_379 : decode cX10_put 379 = .ok (.ireturn, 1) := by decide +kernel
theorem dX10_put_380 : decode cX10_put 380 = .ok (.aload_n 0, 1) := by decide +kernel
theorem dX10_put_381 : decode cX10_put 381 = .ok (.bipush 9, 2) := by decide +kernel
theorem dX10_put_383 : decode cX10_put 383 = .ok (.invokevirtual 194, 3) := by decide +kernel
theorem dX10_put_386 : decode cX10_put 386 = .ok (.ifCond .eq 10, 3) := by decide +kernel
theorem dX10_put_389 : decode cX10_put 389 = .ok (.aload_n 0, 1) := by decide +kernel
theorem dX10_put_390 : decode cX10_put 390 = .ok (.bipush (-4), 2) := by decide +kernel
theorem dX10_put_392 : decode cX10_put 392 = .ok (.invokevirtual 126, 3) := by decide +kernel
theorem dX10_put_395 : decode cX10_put 395 = .ok (.ireturn, 1) := by decide +kernel
theorem dX10_put_396 : decode cX10_put 396 = .ok (.aload_n 0, 1) := by decide +kernel
theorem dX10_put_397 : decode cX10_put 397 = .ok (.bipush 9, 2) := by decide +kernel
theorem dX10_put_399 : decode cX10_put 399 = .ok (.iload_n 1, 1) := by decide +kernel
theorem dX10_put_400 : decode cX10_put 400 = .ok (.invokevirtual 151, 3) := by decide +kernel
theorem dX10_put_403 : decode cX10_put 403 = .ok (.aload_n 0, 1) := by decide +kernel
theorem dX10_put_404 : decode cX10_put 404 = .ok (.dup, 1) := by decide +kernel
theorem dX10_put_405 : decode cX10_put 405 = .ok (.getfield 155, 3) := by decide +kernel
theorem dX10_put_408 : decode cX10_put 408 = .ok (.iconst 1, 1) := by decide +kernel
theorem dX10_put_409 : decode cX10_put 409 = .ok (.iadd, 1) := by decide +kernel
theorem dX10_put_410 : decode cX10_put 410 = .ok (.putfield 155, 3) := by decide +kernel
theorem dX10_put_413 : decode cX10_put 413 = .ok (.aload_n 0, 1) := by decide +kernel
theorem dX10_put_414 : decode cX10_put 414 = .ok (.getfield 155, 3) := by decide +kernel
theorem dX10_put_417 : decode cX10_put 417 = .ok (.iconst 1, 1) := by decide +kernel
theorem dX10_put_418 : decode cX10_put 418 = .ok (.isub, 1) := by decide +kernel
theorem dX10_put_419 : decode cX10_put 419 = .ok (.ireturn, 1) := by decide +kernel
theorem dX10_take_0 : decode cX10_take 0 = .ok (.aload_n 0, 1) := by decide +kernel
theorem dX10_take_1 : decode cX10_take 1 = .ok (.iload_n 1, 1) := by decide +kernel
theorem dX10_take_2 : decode cX10_take 2 = .ok (.invokevirtual 161, 3) := by decide +kernel
theorem dX10_take_5 : decode cX10_take 5 = .ok (.istore_n 3, 1) := by decide +kernel
theorem dX10_take_6 : decode cX10_take 6 = .ok (.iload_n 3, 1) := by decide +kernel
theorem dX10_take_7 : decode cX10_take 7 = .ok (.ifCond .ge 9, 3) := by decide +kernel
theorem dX10_take_10 : decode cX10_take 10 = .ok (.aload_n 0, 1) := by decide +kernel
theorem dX10_take_11 : decode cX10_take 11 = .ok (.iload_n 3, 1) := by decide +kernel
theorem dX10_take_12 : decode cX10_take 12 = .ok (.invokevirtual 126, 3) := by decide +kernel
theorem dX10_take_15 : decode cX10_take 15 = .ok (.ireturn, 1) := by decide +kernel
theorem dX10_take_16 : decode cX10_take 16 = .ok (.aload_n 0, 1) := by decide +kernel
theorem dX10_take_17 : decode cX10_take 17 = .ok (.iload_n 1, 1) := by decide +kernel
theorem dX10_take_18 : decode cX10_take 18 = .ok (.iload_n 2, 1) := by decide +kernel
theorem dX10_take_19 : decode cX10_take 19 = .ok (.invokevirtual 181, 3) := by decide +kernel
theorem dX10_take_22 : decode cX10_take 22 = .ok (.istore 4, 2) := by decide +kernel
theorem dX10_take_24 : decode cX10_take 24 = .ok (.iload 4, 2) := by decide +kernel
theorem dX10_take_26 : decode cX10_take 26 = .ok (.ifCond .ge 10, 3) := by decide +kernel
theorem dX10_take_29 : decode cX10_take 29 = .ok (.aload_n 0, 1) := by decide +kernel
theorem dX10_take_30 : decode cX10_take 30 = .ok (.bipush (-6), 2) := by decide +kernel
theorem dX10_take_32 : decode cX10_take 32 = .ok (.invokevirtual 126, 3) := by decide +kernel
theorem dX10_take_35 : decode cX10_take 35 = .ok (.ireturn, 1) := by decide +kernel
theorem dX10_take_36 : decode cX10_take 36 = .ok (.iload 4, 2) := by decide +kernel
theorem dX10_take_38 : decode cX10_take 38 = .ok (.ifCond .ne 10, 3) := by decide +kernel
theorem dX10_take_41 : decode cX10_take 41 = .ok (.aload_n 0, 1) := by decide +kernel
theorem dX10_take_42 : decode cX10_take 42 = .ok (.bipush (-7), 2) := by decide +kernel
theorem dX10_take_44 : decode cX10_take 44 = .ok (.invokevirtual 126, 3) := by decide +kernel
theorem dX10_take_47 : decode cX10_take 47 = .ok (.ireturn, 1) := by decide +kernel
theorem dX10_take_48 : decode cX10_take 48 = .ok (.aload_n 0, 1) := by decide +kernel
theorem dX10_take_49 : decode cX10_take 49 = .ok (.iload_n 1, 1) := by decide +kernel
theorem dX10_take_50 : decode cX10_take 50 = .ok (.iload 4, 2) := by decide +kernel
theorem dX10_take_52 : decode cX10_take 52 = .ok (.invokevirtual 175, 3) := by decide +kernel
theorem dX10_take_55 : decode cX10_take 55 = .ok (.istore 5, 2) := by decide +kernel
theorem dX10_take_57 : decode cX10_take 57 = .ok (.aload_n 0, 1) := by decide +kernel
theorem dX10_take_58 : decode cX10_take 58 = .ok (.iload_n 1, 1) := by decide +kernel
theorem dX10_take_59 : decode cX10_take 59 = .ok (.iload 4, 2) := by decide +kernel
theorem dX10_take_61 : decode cX10_take 61 = .ok (.invokevirtual 119, 3) := by decide +kernel
theorem dX10_take_64 : decode cX10_take 64 = .ok (.istore 6, 2) := by decide +kernel
theorem dX10_take_66 : decode cX10_take 66 = .ok (.aload_n 0, 1) := by decide +kernel
theorem dX10_take_67 : decode cX10_take 67 = .ok (.getfield 13, 3) := by decide +kernel
theorem dX10_take_70 : decode cX10_take 70 = .ok (.bipush 9, 2) := by decide +kernel
theorem dX10_take_72 : decode cX10_take 72 = .ok (.iconst 0, 1) := by decide +kernel
theorem dX10_take_73 : decode cX10_take 73 = .ok (.iastore, 1) := by decide +kernel
theorem dX10_take_74 : decode cX10_take 74 = .ok (.iconst 0, 1) := by decide +kernel
theorem dX10_take_75 : decode cX10_take 75 = .ok (.istore 7, 2) := by decide +kernel
theorem dX10_take_77 : decode cX10_take 77 = .ok (.iload 7, 2) := by decide +kernel
theorem dX10_take_79 : decode cX10_take 79 = .ok (.aload_n 0, 1) := by decide +kernel
theorem dX10_take_80 : decode cX10_take 80 = .ok (.getfield 13, 3) := by decide +kernel
theorem dX10_take_83 : decode cX10_take 83 = .ok (.iload_n 1, 1) := by decide +kernel
theorem dX10_take_84 : decode cX10_take 84 = .ok (.iaload, 1) := by decide +kernel
theorem dX10_take_85 : decode cX10_take 85 = .ok (.if_icmp .ge 83, 3) := by decide +kernel
theorem dX10_take_88 : decode cX10_take 88 = .ok (.iload 7, 2) := by decide +kernel
theorem dX10_take_90 : decode cX10_take 90 = .ok (.iload 4, 2) := by decide +kernel
theorem dX10_take_92 : decode cX10_take 92 = .ok (.if_icmp .ne 6, 3) := by decide +kernel
theorem dX10_take_95 : decode cX10_take 95 = .ok (.goto 67, 3) := by decide +kernel
theorem dX10_take_98 : decode cX10_take 98 = .ok (.aload_n 0, 1) := by decide +kernel
theorem dX10_take_99 : decode cX10_take 99 = .ok (.iload_n 1, 1) := by decide +kernel
theorem dX10_take_100 : decode cX10_take 100 = .ok (.iload 7, 2) := by decide +kernel
theorem dX10_take_102 : decode cX10_take 102 = .ok (.bipush 9, 2) := by decide +kernel
theorem dX10_take_104 : decode cX10_take 104 = .ok (.aload_n 0, 1) := by decide +kernel
theorem dX10_take_105 : decode cX10_take 105 = .ok (.getfield 13, 3) := by decide +kernel
theorem dX10_take_108 : decode cX10_take 108 = .ok (.bipush 9, 2) := by decide +kernel
theorem dX10_take_110 : decode cX10_take 110 = .ok (.iaload, 1) := by decide +kernel
theorem dX10_take_111 : decode cX10_take 111 = .ok (.invokevirtual 112, 3) := by decide +kernel
theorem dX10_take_114 : decode cX10_take 114 = .ok (.iload 7, 2) := by decide +kernel
theorem dX10_take_116 : decode cX10_take 116 = .ok (.iload 4, 2) := by decide +kernel
theorem dX10_take_118 : decode cX10_take 118 = .ok (.if_icmp .le 33, 3) := by decide +kernel
theorem dX10_take_121 : decode cX10_take 121 = .ok (.iload 7, 2) := by decide +kernel
theorem dX10_take_123 : decode cX10_take 123 = .ok (.iload 6, 2) := by decide +kernel
theorem dX10_take_125 : decode cX10_take 125 = .ok (.if_icmp .ge 26, 3) := by decide +kernel
theorem dX10_take_128 : decode cX10_take 128 = .ok (.aload_n 0, 1) := by decide +kernel
theorem dX10_take_129 : decode cX10_take 129 = .ok (.bipush 9, 2) := by decide +kernel
theorem dX10_take_131 : decode cX10_take 131 = .ok (.aload_n 0, 1) := by decide +kernel
theorem dX10_take_132 : decode cX10_take 132 = .ok (.getfield 13, 3) := by decide +kernel
theorem dX10_take_135 : decode cX10_take 135 = .ok (.bipush 9, 2) := by decide +kernel
theorem dX10_take_137 : decode cX10_take 137 = .ok (.iaload, 1) := by decide +kernel
theorem dX10_take_138 : decode cX10_take 138 = .ok (.iconst 2, 1) := by decide +kernel
theorem dX10_take_139 : decode cX10_take 139 = .ok (.aload_n 0, 1) := by decide +kernel
theorem dX10_take_140 : decode cX10_take 140 = .ok (.iload_n 1, 1) := by decide +kernel
theorem dX10_take_141 : decode cX10_take 141 = .ok (.iload 7, 2) := by decide +kernel
theorem dX10_take_143 : decode cX10_take 143 = .ok (.invokevirtual 115, 3) := by decide +kernel
theorem dX10_take_146 : decode cX10_take 146 = .ok (.iconst 1, 1) := by decide +kernel
theorem dX10_take_147 : decode cX10_take 147 = .ok (.isub, 1) := by decide +kernel
theorem dX10_take_148 : decode cX10_take 148 = .ok (.invokevirtual 108, 3) := by decide +kernel
theorem dX10_take_151 : decode cX10_take 151 = .ok (.aload_n 0, 1) := by decide +kernel
theorem dX10_take_152 : decode cX10_take 152 = .ok (.getfield 13, 3) := by decide +kernel
theorem dX10_take_155 : decode cX10_take 155 = .ok (.bipush 9, 2) := by decide +kernel
theorem dX10_take_157 : decode cX10_take 157 = .ok (.dup2, 1) := by decide +kernel
theorem dX10_take_158 : decode cX10_take 158 = .ok (.iaload, 1) := by decide +kernel
theorem dX10_take_159 : decode cX10_take 159 = .ok (.iconst 1, 1) := by decide +kernel
theorem dX10_take_160 : decode cX10_take 160 = .ok (.iadd, 1) := by decide +kernel
theorem dX10_take_161 : decode cX10_take 161 = .ok (.iastore, 1) := by decide +kernel
theorem dX10_take_162 : decode cX10_take 162 = .ok (.iinc 7 1, 3) := by decide +kernel
theorem dX10_take_165 : decode cX10_take 165 = .ok (.goto (-88), 3) := by decide +kernel
theorem dX10_take_168 : decode cX10_take 168 = .ok (.aload_n 0, 1) := by decide +kernel
theorem dX10_take_169 : decode cX10_take 169 = .ok (.bipush 9, 2) := by decide +kernel
theorem dX10_take_171 : decode cX10_take 171 = .ok (.invokevirtual 194, 3) := by decide +kernel
theorem dX10_take_174 : decode cX10_take 174 = .ok (.ifCond .eq 10, 3) := by decide +kernel
theorem dX10_take_177 : decode cX10_take 177 = .ok (.aload_n 0, 1) := by decide +kernel
theorem dX10_take_178 : decode cX10_take 178 = .ok (.bipush (-4), 2) := by decide +kernel
theorem dX10_take_180 : decode cX10_take 180 = .ok (.invokevirtual 126, 3) := by decide +kernel
theorem dX10_take_183 : decode cX10_take 183 = .ok (.ireturn, 1) := by decide +kernel
theorem dX10_take_184 : decode cX10_take 184 = .ok (.aload_n 0, 1) := by decide +kernel
theorem dX10_take_185 : decode cX10_take 185 = .ok (.bipush 9, 2) := by decide +kernel
theorem dX10_take_187 : decode cX10_take 187 = .ok (.iload_n 1, 1) := by decide +kernel
theorem dX10_take_188 : decode cX10_take 188 = .ok (.invokevirtual 151, 3) := by decide +kernel
theorem dX10_take_191 : decode cX10_take 191 = .ok (.iload 5, 2) := by decide +kernel
theorem dX10_take_193 : decode cX10_take 193 = .ok (.ireturn, 1) := by decide +kernel
theorem dX10_move_0 : decode cX10_move 0 = .ok (.aload_n 0, 1) := by decide +kernel
theorem dX10_move_1 : decode cX10_move 1 = .ok (.iload_n 1, 1) := by decide +kernel
theorem dX10_move_2 : decode cX10_move 2 = .ok (.invokevirtual 161, 3) := by decide +kernel
theorem dX10_move_5 : decode cX10_move 5 = .ok (.istore 5, 2) := by decide +kernel
theorem dX10_move_7 : decode cX10_move 7 = .ok (.iload 5, 2) := by decide +kernel
theorem dX10_move_9 : decode cX10_move 9 = .ok (.ifCond .ge 10, 3) := by decide +kernel
theorem dX10_move_12 : decode cX10_move 12 = .ok (.aload_n 0, 1) := by decide +kernel
theorem dX10_move_13 : decode cX10_move 13 = .ok (.iload 5, 2) := by decide +kernel
theorem dX10_move_15 : decode cX10_move 15 = .ok (.invokevirtual 126, 3) := by decide +kernel
theorem dX10_move_18 : decode cX10_move 18 = .ok (.ireturn, 1) := by decide +kernel
theorem dX10_move_19 : decode cX10_move 19 = .ok (.aload_n 0, 1) := by decide +kernel
theorem dX10_move_20 : decode cX10_move 20 = .ok (.iload_n 1, 1) := by decide +kernel
theorem dX10_move_21 : decode cX10_move 21 = .ok (.iload_n 2, 1) := by decide +kernel
theorem dX10_move_22 : decode cX10_move 22 = .ok (.invokevirtual 181, 3) := by decide +kernel
theorem dX10_move_25 : decode cX10_move 25 = .ok (.istore 6, 2) := by decide +kernel
theorem dX10_move_27 : decode cX10_move 27 = .ok (.iload 6, 2) := by decide +kernel
theorem dX10_move_29 : decode cX10_move 29 = .ok (.ifCond .ge 10, 3) := by decide +kernel
theorem dX10_move_32 : decode cX10_move 32 = .ok (.aload_n 0, 1) := by decide +kernel
theorem dX10_move_33 : decode cX10_move 33 = .ok (.bipush (-6), 2) := by decide +kernel
theorem dX10_move_35 : decode cX10_move 35 = .ok (.invokevirtual 126, 3) := by decide +kernel
theorem dX10_move_38 : decode cX10_move 38 = .ok (.ireturn, 1) := by decide +kernel
end
section
theorem dX10_move_39 : decode cX10_move 39 = .ok (.iload 6, 2) := by decide +kernel
theorem dX10_move_41 : decode cX10_move 41 = .ok (.ifCond .ne 10, 3) := by decide +kernel
theorem dX10_move_44 : decode cX10_move 44 = .ok (.aload_n 0, 1) := by decide +kernel
theorem dX10_move_45 : decode cX10_move 45 = .ok (.bipush (-7), 2) := by decide +kernel
theorem dX10_move_47 : decode cX10_move 47 = .ok (.invokevirtual 126, 3) := by decide +kernel
theorem dX10_move_50 : decode cX10_move 50 = .ok (.ireturn, 1) := by decide +kernel
theorem dX10_move_51 : decode cX10_move 51 = .ok (.aload_n 0, 1) := by decide +kernel
theorem dX10_move_52 : decode cX10_move 52 = .ok (.iload_n 1, 1) := by decide +kernel
theorem dX10_move_53 : decode cX10_move 53 = .ok (.iload_n 3, 1) := by decide +kernel
theorem dX10_move_54 : decode cX10_move 54 = .ok (.invokevirtual 181, 3) := by decide +kernel
theorem dX10_move_57 : decode cX10_move 57 = .ok (.istore 7, 2) := by decide +kernel
theorem dX10_move_59 : decode cX10_move 59 = .ok (.iload 7, 2) := by decide +kernel
theorem dX10_move_61 : decode cX10_move 61 = .ok (.ifCond .ge 10, 3) := by decide +kernel
theorem dX10_move_64 : decode cX10_move 64 = .ok (.aload_n 0, 1) := by decide +kernel
theorem dX10_move_65 : decode cX10_move 65 = .ok (.bipush (-6), 2) := by decide +kernel
theorem dX10_move_67 : decode cX10_move 67 = .ok (.invokevirtual 126, 3) := by decide +kernel
theorem dX10_move_70 : decode cX10_move 70 = .ok (.ireturn, 1) := by decide +kernel
theorem dX10_move_71 : decode cX10_move 71 = .ok (.aload_n 0, 1) := by decide +kernel
theorem dX10_move_72 : decode cX10_move 72 = .ok (.iload_n 1, 1) := by decide +kernel
theorem dX10_move_73 : decode cX10_move 73 = .ok (.iload 7, 2) := by decide +kernel
theorem dX10_move_75 : decode cX10_move 75 = .ok (.iconst 1, 1) := by decide +kernel
theorem dX10_move_76 : decode cX10_move 76 = .ok (.invokevirtual 104, 3) := by decide +kernel
theorem dX10_move_79 : decode cX10_move 79 = .ok (.iconst 3, 1) := by decide +kernel
theorem dX10_move_80 : decode cX10_move 80 = .ok (.if_icmp .ne 10, 3) := by decide +kernel
theorem dX10_move_83 : decode cX10_move 83 = .ok (.aload_n 0, 1) := by decide +kernel
theorem dX10_move_84 : decode cX10_move 84 = .ok (.bipush (-3), 2) := by decide +kernel
theorem dX10_move_86 : decode cX10_move 86 = .ok (.invokevirtual 126, 3) := by decide +kernel
theorem dX10_move_89 : decode cX10_move 89 = .ok (.ireturn, 1) := by decide +kernel
theorem dX10_move_90 : decode cX10_move 90 = .ok (.aload_n 0, 1) := by decide +kernel
theorem dX10_move_91 : decode cX10_move 91 = .ok (.iload_n 1, 1) := by decide +kernel
theorem dX10_move_92 : decode cX10_move 92 = .ok (.iload 6, 2) := by decide +kernel
theorem dX10_move_94 : decode cX10_move 94 = .ok (.invokevirtual 119, 3) := by decide +kernel
theorem dX10_move_97 : decode cX10_move 97 = .ok (.istore 8, 2) := by decide +kernel
theorem dX10_move_99 : decode cX10_move 99 = .ok (.iload 7, 2) := by decide +kernel
theorem dX10_move_101 : decode cX10_move 101 = .ok (.iload 6, 2) := by decide +kernel
theorem dX10_move_103 : decode cX10_move 103 = .ok (.if_icmp .lt 17, 3) := by decide +kernel
theorem dX10_move_106 : decode cX10_move 106 = .ok (.iload 7, 2) := by decide +kernel
theorem dX10_move_108 : decode cX10_move 108 = .ok (.iload 8, 2) := by decide +kernel
theorem dX10_move_110 : decode cX10_move 110 = .ok (.if_icmp .ge 10, 3) := by decide +kernel
theorem dX10_move_113 : decode cX10_move 113 = .ok (.aload_n 0, 1) := by decide +kernel
theorem dX10_move_114 : decode cX10_move 114 = .ok (.bipush (-7), 2) := by decide +kernel
theorem dX10_move_116 : decode cX10_move 116 = .ok (.invokevirtual 126, 3) := by decide +kernel
theorem dX10_move_119 : decode cX10_move 119 = .ok (.ireturn, 1) := by decide +kernel
theorem dX10_move_120 : decode cX10_move 120 = .ok (.aload_n 0, 1) := by decide +kernel
theorem dX10_move_121 : decode cX10_move 121 = .ok (.getfield 13, 3) := by decide +kernel
theorem dX10_move_124 : decode cX10_move 124 = .ok (.bipush 9, 2) := by decide +kernel
theorem dX10_move_126 : decode cX10_move 126 = .ok (.iconst 0, 1) := by decide +kernel
theorem dX10_move_127 : decode cX10_move 127 = .ok (.iastore, 1) := by decide +kernel
theorem dX10_move_128 : decode cX10_move 128 = .ok (.iconst 0, 1) := by decide +kernel
theorem dX10_move_129 : decode cX10_move 129 = .ok (.istore 9, 2) := by decide +kernel
theorem dX10_move_131 : decode cX10_move 131 = .ok (.iload 9, 2) := by decide +kernel
theorem dX10_move_133 : decode cX10_move 133 = .ok (.aload_n 0, 1) := by decide +kernel
theorem dX10_move_134 : decode cX10_move 134 = .ok (.getfield 13, 3) := by decide +kernel
theorem dX10_move_137 : decode cX10_move 137 = .ok (.iload_n 1, 1) := by decide +kernel
theorem dX10_move_138 : decode cX10_move 138 = .ok (.iaload, 1) := by decide +kernel
theorem dX10_move_139 : decode cX10_move 139 = .ok (.if_icmp .ge 53, 3) := by decide +kernel
theorem dX10_move_142 : decode cX10_move 142 = .ok (.iload 9, 2) := by decide +kernel
theorem dX10_move_144 : decode cX10_move 144 = .ok (.iload 6, 2) := by decide +kernel
theorem dX10_move_146 : decode cX10_move 146 = .ok (.if_icmp .lt 13, 3) := by decide +kernel
theorem dX10_move_149 : decode cX10_move 149 = .ok (.iload 9, 2) := by decide +kernel
theorem dX10_move_151 : decode cX10_move 151 = .ok (.iload 8, 2) := by decide +kernel
theorem dX10_move_153 : decode cX10_move 153 = .ok (.if_icmp .ge 6, 3) := by decide +kernel
theorem dX10_move_156 : decode cX10_move 156 = .ok (.goto 30, 3) := by decide +kernel
theorem dX10_move_159 : decode cX10_move 159 = .ok (.aload_n 0, 1) := by decide +kernel
theorem dX10_move_160 : decode cX10_move 160 = .ok (.iload_n 1, 1) := by decide +kernel
theorem dX10_move_161 : decode cX10_move 161 = .ok (.iload 9, 2) := by decide +kernel
theorem dX10_move_163 : decode cX10_move 163 = .ok (.bipush 9, 2) := by decide +kernel
theorem dX10_move_165 : decode cX10_move 165 = .ok (.aload_n 0, 1) := by decide +kernel
theorem dX10_move_166 : decode cX10_move 166 = .ok (.getfield 13, 3) := by decide +kernel
theorem dX10_move_169 : decode cX10_move 169 = .ok (.bipush 9, 2) := by decide +kernel
theorem dX10_move_171 : decode cX10_move 171 = .ok (.iaload, 1) := by decide +kernel
theorem dX10_move_172 : decode cX10_move 172 = .ok (.invokevirtual 112, 3) := by decide +kernel
theorem dX10_move_175 : decode cX10_move 175 = .ok (.aload_n 0, 1) := by decide +kernel
theorem dX10_move_176 : decode cX10_move 176 = .ok (.getfield 13, 3) := by decide +kernel
theorem dX10_move_179 : decode cX10_move 179 = .ok (.bipush 9, 2) := by decide +kernel
theorem dX10_move_181 : decode cX10_move 181 = .ok (.dup2, 1) := by decide +kernel
theorem dX10_move_182 : decode cX10_move 182 = .ok (.iaload, 1) := by decide +kernel
theorem dX10_move_183 : decode cX10_move 183 = .ok (.iconst 1, 1) := by decide +kernel
theorem dX10_move_184 : decode cX10_move 184 = .ok (.iadd, 1) := by decide +kernel
theorem dX10_move_185 : decode cX10_move 185 = .ok (.iastore, 1) := by decide +kernel
theorem dX10_move_186 : decode cX10_move 186 = .ok (.iinc 9 1, 3) := by decide +kernel
theorem dX10_move_189 : decode cX10_move 189 = .ok (.goto (-58), 3) := by decide +kernel
theorem dX10_move_192 : decode cX10_move 192 = .ok (.aload_n 0, 1) := by decide +kernel
theorem dX10_move_193 : decode cX10_move 193 = .ok (.bipush 9, 2) := by decide +kernel
theorem dX10_move_195 : decode cX10_move 195 = .ok (.iload_n 3, 1) := by decide +kernel
theorem dX10_move_196 : decode cX10_move 196 = .ok (.invokevirtual 181, 3) := by decide +kernel
theorem dX10_move_199 : decode cX10_move 199 = .ok (.istore 9, 2) := by decide +kernel
theorem dX10_move_201 : decode cX10_move 201 = .ok (.iload 4, 2) := by decide +kernel
theorem dX10_move_203 : decode cX10_move 203 = .ok (.ifCond .lt 16, 3) := by decide +kernel
theorem dX10_move_206 : decode cX10_move 206 = .ok (.iload 4, 2) := by decide +kernel
theorem dX10_move_208 : decode cX10_move 208 = .ok (.aload_n 0, 1) := by decide +kernel
theorem dX10_move_209 : decode cX10_move 209 = .ok (.bipush 9, 2) := by decide +kernel
theorem dX10_move_211 : decode cX10_move 211 = .ok (.iload 9, 2) := by decide +kernel
theorem dX10_move_213 : decode cX10_move 213 = .ok (.invokevirtual 175, 3) := by decide +kernel
theorem dX10_move_216 : decode cX10_move 216 = .ok (.if_icmp .le 9, 3) := by decide +kernel
theorem dX10_move_219 : decode cX10_move 219 = .ok (.aload_n 0, 1) := by decide +kernel
theorem dX10_move_220 : decode cX10_move 220 = .ok (.iconst (-1), 1) := by decide +kernel
theorem dX10_move_221 : decode cX10_move 221 = .ok (.invokevirtual 126, 3) := by decide +kernel
theorem dX10_move_224 : decode cX10_move 224 = .ok (.ireturn, 1) := by decide +kernel
theorem dX10_move_225 : decode cX10_move 225 = .ok (.aload_n 0, 1) := by decide +kernel
theorem dX10_move_226 : decode cX10_move 226 = .ok (.bipush 9, 2) := by decide +kernel
theorem dX10_move_228 : decode cX10_move 228 = .ok (.iload 9, 2) := by decide +kernel
theorem dX10_move_230 : decode cX10_move 230 = .ok (.iload 4, 2) := by decide +kernel
theorem dX10_move_232 : decode cX10_move 232 = .ok (.invokevirtual 188, 3) := by decide +kernel
theorem dX10_move_235 : decode cX10_move 235 = .ok (.istore 10, 2) := by decide +kernel
theorem dX10_move_237 : decode cX10_move 237 = .ok (.aload_n 0, 1) := by decide +kernel
theorem dX10_move_238 : decode cX10_move 238 = .ok (.bipush 9, 2) := by decide +kernel
theorem dX10_move_240 : decode cX10_move 240 = .ok (.iload 9, 2) := by decide +kernel
theorem dX10_move_242 : decode cX10_move 242 = .ok (.invokevirtual 115, 3) := by decide +kernel
theorem dX10_move_245 : decode cX10_move 245 = .ok (.iconst 1, 1) := by decide +kernel
theorem dX10_move_246 : decode cX10_move 246 = .ok (.iadd, 1) := by decide +kernel
theorem dX10_move_247 : decode cX10_move 247 = .ok (.aload_n 0, 1) := by decide +kernel
theorem dX10_move_248 : decode cX10_move 248 = .ok (.iload_n 1, 1) := by decide +kernel
theorem dX10_move_249 : decode cX10_move 249 = .ok (.iload 6, 2) := by decide +kernel
theorem dX10_move_251 : decode cX10_move 251 = .ok (.invokevirtual 115, 3) := by decide +kernel
theorem dX10_move_254 : decode cX10_move 254 = .ok (.isub, 1) := by decide +kernel
theorem dX10_move_255 : decode cX10_move 255 = .ok (.istore 11, 2) := by decide +kernel
theorem dX10_move_257 : decode cX10_move 257 = .ok (.aload_n 0, 1) := by decide +kernel
theorem dX10_move_258 : decode cX10_move 258 = .ok (.getfield 13, 3) := by decide +kernel
theorem dX10_move_261 : decode cX10_move 261 = .ok (.bipush 10, 2) := by decide +kernel
theorem dX10_move_263 : decode cX10_move 263 = .ok (.iconst 0, 1) := by decide +kernel
theorem dX10_move_264 : decode cX10_move 264 = .ok (.iastore, 1) := by decide +kernel
theorem dX10_move_265 : decode cX10_move 265 = .ok (.iconst 0, 1) := by decide +kernel
theorem dX10_move_266 : decode cX10_move 266 = .ok (.istore 12, 2) := by decide +kernel
theorem dX10_move_268 : decode cX10_move 268 = .ok (.iload 12, 2) := by decide +kernel
theorem dX10_move_270 : decode cX10_move 270 = .ok (.aload_n 0, 1) := by decide +kernel
theorem dX10_move_271 : decode cX10_move 271 = .ok (.getfield 13, 3) := by decide +kernel
theorem dX10_move_274 : decode cX10_move 274 = .ok (.bipush 9, 2) := by decide +kernel
theorem dX10_move_276 : decode cX10_move 276 = .ok (.iaload, 1) := by decide +kernel
theorem dX10_move_277 : decode cX10_move 277 = .ok (.if_icmp .gt 127, 3) := by decide +kernel
theorem dX10_move_280 : decode cX10_move 280 = .ok (.iload 6, 2) := by decide +kernel
theorem dX10_move_282 : decode cX10_move 282 = .ok (.istore 13, 2) := by decide +kernel
theorem dX10_move_284 : decode cX10_move 284 = .ok (.iload 13, 2) := by decide +kernel
theorem dX10_move_286 : decode cX10_move 286 = .ok (.iload 8, 2) := by decide +kernel
theorem dX10_move_288 : decode cX10_move 288 = .ok (.if_icmp .ge 67, 3) := by decide +kernel
theorem dX10_move_291 : decode cX10_move 291 = .ok (.iload 12, 2) := by decide +kernel
theorem dX10_move_293 : decode cX10_move 293 = .ok (.iload 10, 2) := by decide +kernel
theorem dX10_move_295 : decode cX10_move 295 = .ok (.if_icmp .ne 60, 3) := by decide +kernel
theorem dX10_move_298 : decode cX10_move 298 = .ok (.aload_n 0, 1) := by decide +kernel
theorem dX10_move_299 : decode cX10_move 299 = .ok (.iload_n 1, 1) := by decide +kernel
theorem dX10_move_300 : decode cX10_move 300 = .ok (.iload 13, 2) := by decide +kernel
theorem dX10_move_302 : decode cX10_move 302 = .ok (.bipush 10, 2) := by decide +kernel
theorem dX10_move_304 : decode cX10_move 304 = .ok (.aload_n 0, 1) := by decide +kernel
theorem dX10_move_305 : decode cX10_move 305 = .ok (.getfield 13, 3) := by decide +kernel
theorem dX10_move_308 : decode cX10_move 308 = .ok (.bipush 10, 2) := by decide +kernel
theorem dX10_move_310 : decode cX10_move 310 = .ok (.iaload, 1) := by decide +kernel
theorem dX10_move_311 : decode cX10_move 311 = .ok (.invokevirtual 112, 3) := by decide +kernel
theorem dX10_move_314 : decode cX10_move 314 = .ok (.aload_n 0, 1) := by decide +kernel
theorem dX10_move_315 : decode cX10_move 315 = .ok (.bipush 10, 2) := by decide +kernel
theorem dX10_move_317 : decode cX10_move 317 = .ok (.aload_n 0, 1) := by decide +kernel
theorem dX10_move_318 : decode cX10_move 318 = .ok (.getfield 13, 3) := by decide +kernel
theorem dX10_move_321 : decode cX10_move 321 = .ok (.bipush 10, 2) := by decide +kernel
theorem dX10_move_323 : decode cX10_move 323 = .ok (.iaload, 1) := by decide +kernel
theorem dX10_move_324 : decode cX10_move 324 = .ok (.iconst 2, 1) := by decide +kernel
theorem dX10_move_325 : decode cX10_move 325 = .ok (.aload_n 0, 1) := by decide +kernel
theorem dX10_move_326 : decode cX10_move 326 = .ok (.iload_n 1, 1) := by decide +kernel
theorem dX10_move_327 : decode cX10_move 327 = .ok (.iload 13, 2) := by decide +kernel
theorem dX10_move_329 : decode cX10_move 329 = .ok (.invokevirtual 115, 3) := by decide +kernel
theorem dX10_move_332 : decode cX10_move 332 = .ok (.iload 11, 2) := by decide +kernel
theorem dX10_move_334 : decode cX10_move 334 = .ok (.iadd, 1) := by decide +kernel
theorem dX10_move_335 : decode cX10_move 335 = .ok (.invokevirtual 108, 3) := by decide +kernel
theorem dX10_move_338 : decode cX10_move 338 = .ok (.aload_n 0, 1) := by decide +kernel
theorem dX10_move_339 : decode cX10_move 339 = .ok (.getfield 13, 3) := by decide +kernel
theorem dX10_move_342 : decode cX10_move 342 = .ok (.bipush 10, 2) := by decide +kernel
theorem dX10_move_344 : decode cX10_move 344 = .ok (.dup2, 1) := by decide +kernel
theorem dX10_move_345 : decode cX10_move 345 = .ok (.iaload, 1) := by decide +kernel
theorem dX10_move_346 : decode cX10_move 346 = .ok (.iconst 1, 1) := by decide +kernel
theorem dX10_move_347 : decode cX10_move 347 = .ok (.iadd, 1) := by decide +kernel
theorem dX10_move_348 : decode cX10_move 348 = .ok (.iastore, 1) := by decide +kernel
theorem dX10_move_349 : decode cX10_move 349 = .ok (.iinc 13 1, 3) := by decide +kernel
theorem dX10_move_352 : decode cX10_move 352 = .ok (.goto (-68), 3) := by decide +kernel
theorem dX10_move_355 : decode cX10_move 355 = .ok (.iload 12, 2) := by decide +kernel
theorem dX10_move_357 : decode cX10_move 357 = .ok (.aload_n 0, 1) := by decide +kernel
theorem dX10_move_358 : decode cX10_move 358 = .ok (.getfield 13, 3) := by decide +kernel
theorem dX10_move_361 : decode cX10_move 361 = .ok (.bipush 9, 2) := by decide +kernel
theorem dX10_move_363 : decode cX10_move 363 = .ok (.iaload, 1) := by decide +kernel
theorem dX10_move_364 : decode cX10_move 364 = .ok (.if_icmp .ne 6, 3) := by decide +kernel
theorem dX10_move_367 : decode cX10_move 367 = .ok (.goto 31, 3) := by decide +kernel
theorem dX10_move_370 : decode cX10_move 370 = .ok (.aload_n 0, 1) := by decide +kernel
theorem dX10_move_371 : decode cX10_move 371 = .ok (.bipush 9, 2) := by decide +kernel
theorem dX10_move_373 : decode cX10_move 373 = .ok (.iload 12, 2) := by decide +kernel
theorem dX10_move_375 : decode cX10_move 375 = .ok (.bipush 10, 2) := by decide +kernel
theorem dX10_move_377 : decode cX10_move 377 = .ok (.aload_n 0, 1) := by decide +kernel
theorem dX10_move_378 : decode cX10_move 378 = .ok (.getfield 13, 3) := by decide +kernel
theorem dX10_move_381 : decode cX10_move 381 = .ok (.bipush 10, 2) := by decide +kernel
theorem dX10_move_383 : decode cX10_move 383 = .ok (.iaload, 1) := by decide +kernel
theorem dX10_move_384 : decode cX10_move 384 = .ok (.invokevirtual 112, 3) := by decide +kernel
theorem dX10_move_387 : decode cX10_move 387 = .ok (.aload_n 0, 1) := by decide +kernel
theorem dX10_move_388 : decode cX10_move 388 = .ok (.getfield 13, 3) := by decide +kernel
theorem dX10_move_391 : decode cX10_move 391 = .ok (.bipush 10, 2) := by decide +kernel
theorem dX10_move_393 : decode cX10_move 393 = .ok (.dup2, 1) := by decide +kernel
theorem dX10_move_394 : decode cX10_move 394 = .ok (.iaload, 1) := by decide +kernel
theorem dX10_move_395 : decode cX10_move 395 = .ok (.iconst 1, 1) := by decide +kernel
theorem dX10_move_396 : decode cX10_move 396 = .ok (.iadd, 1) := by decide +kernel
theorem dX10_move_397 : decode cX10_move 397 = .ok (.iastore, 1) := by decide +kernel
theorem dX10_move_398 : decode cX10_move 398 = .ok (.iinc 12 1, 3) := by decide +kernel
theorem dX10_move_401 : decode cX10_move 401 = .ok (.goto (-133), 3) := by decide +kernel
theorem dX10_move_404 : decode cX10_move 404 = .ok (.aload_n 0, 1) := by decide +kernel
theorem dX10_move_405 : decode cX10_move 405 = .ok (.bipush 10, 2) := by decide +kernel
theorem dX10_move_407 : decode cX10_move 407 = .ok (.invokevirtual 191, 3) := by decide +kernel
theorem dX10_move_410 : decode cX10_move 410 = .ok (.ifCond .eq 10, 3) := by decide +kernel
theorem dX10_move_413 : decode cX10_move 413 = .ok (.aload_n 0, 1) := by decide +kernel
theorem dX10_move_414 : decode cX10_move 414 = .ok (.bipush (-5), 2) := by decide +kernel
theorem dX10_move_416 : decode cX10_move 416 = .ok (.invokevirtual 126, 3) := by decide +kernel
theorem dX10_move_419 : decode cX10_move 419 = .ok (.ireturn, 1) := by decide +kernel
theorem dX10_move_420 : decode cX10_move 420 = .ok (.aload_n 0, 1) := by decide +kernel
theorem dX10_move_421 : decode cX10_move 421 = .ok (.bipush 10, 2) := by decide +kernel
theorem dX10_move_423 : decode cX10_move 423 = .ok (.invokevirtual 194, 3) := by decide +kernel
theorem dX10_move_426 : decode cX10_move 426 = .ok (.ifCond .eq 10, 3) := by decide +kernel
theorem dX10_move_429 : decode cX10_move 429 = .ok (.aload_n 0, 1) := by decide +kernel
theorem dX10_move_430 : decode cX10_move 430 = .ok (.bipush (-4), 2) := by decide +kernel
theorem dX10_move_432 : decode cX10_move 432 = .ok (.invokevirtual 126, 3) := by decide +kernel
theorem dX10_move_435 : decode cX10_move 435 = .ok (.ireturn, 1) := by decide +kernel
theorem dX10_move_436 : decode cX10_move 436 = .ok (.aload_n 0, 1) := by decide +kernel
theorem dX10_move_437 : decode cX10_move 437 = .ok (.bipush 10, 2) := by decide +kernel
theorem dX10_move_439 : decode cX10_move 439 = .ok (.iload_n 1, 1) := by decide +kernel
theorem dX10_move_440 : decode cX10_move 440 = .ok (.invokevirtual 151, 3) := by decide +kernel
theorem dX10_move_443 : decode cX10_move 443 = .ok (.iload 8, 2) := by decide +kernel
theorem dX10_move_445 : decode cX10_move 445 = .ok (.iload 6, 2) := by decide +kernel
theorem dX10_move_447 : decode cX10_move 447 = .ok (.isub, 1) := by decide +kernel
theorem dX10_move_448 : decode cX10_move 448 = .ok (.ireturn, 1) := by decide +kernel
theorem dX10_price_0 : decode cX10_price 0 = .ok (.iload_n 1, 1) := by decide +kernel
theorem dX10_price_1 : decode cX10_price 1 = .ok (.iconst 0, 1) := by decide +kernel
theorem dX10_price_2 : decode cX10_price 2 = .ok (.iconst 3, 1) := by decide +kernel
theorem dX10_price_3 : decode cX10_price 3 = .ok (.invokestatic 96, 3) := by decide +kernel
theorem dX10_price_6 : decode cX10_price 6 = .ok (.ifCond .eq 14, 3) := by decide +kernel
theorem dX10_price_9 : decode cX10_price 9 = .ok (.iload_n 2, 1) := by decide +kernel
theorem dX10_price_10 : decode cX10_price 10 = .ok (.iconst 0, 1) := by decide +kernel
theorem dX10_price_11 : decode cX10_price 11 = .ok (.sipush 1000, 3) := by decide +kernel
theorem dX10_price_14 : decode cX10_price 14 = .ok (.invokestatic 96, 3) := by decide +kernel
theorem dX10_price_17 : decode cX10_price 17 = .ok (.ifCond .ne 9, 3) := by decide +kernel
theorem dX10_price_20 : decode cX10_price 20 = .ok (.aload_n 0, 1) := by decide +kernel
theorem dX10_price_21 : decode cX10_price 21 = .ok (.iconst (-1), 1) := by decide +kernel
theorem dX10_price_22 : decode cX10_price 22 = .ok (.invokevirtual 126, 3) := by decide +kernel
theorem dX10_price_25 : decode cX10_price 25 = .ok (.ireturn, 1) := by decide +kernel
theorem dX10_price_26 : decode cX10_price 26 = .ok (.aload_n 0, 1) := by decide +kernel
theorem dX10_price_27 : decode cX10_price 27 = .ok (.getfield 22, 3) := by decide +kernel
theorem dX10_price_30 : decode cX10_price 30 = .ok (.iload_n 1, 1) := by decide +kernel
theorem dX10_price_31 : decode cX10_price 31 = .ok (.iaload, 1) := by decide +kernel
theorem dX10_price_32 : decode cX10_price 32 = .ok (.istore_n 3, 1) := by decide +kernel
theorem dX10_price_33 : decode cX10_price 33 = .ok (.aload_n 0, 1) := by decide +kernel
theorem dX10_price_34 : decode cX10_price 34 = .ok (.getfield 22, 3) := by decide +kernel
theorem dX10_price_37 : decode cX10_price 37 = .ok (.iload_n 1, 1) := by decide +kernel
theorem dX10_price_38 : decode cX10_price 38 = .ok (.iload_n 2, 1) := by decide +kernel
theorem dX10_price_39 : decode cX10_price 39 = .ok (.iastore, 1) := by decide +kernel
theorem dX10_price_40 : decode cX10_price 40 = .ok (.iload_n 3, 1) := by decide +kernel
theorem dX10_price_41 : decode cX10_price 41 = .ok (.ireturn, 1) := by decide +kernel
theorem dX10_lay_0 : decode cX10_lay 0 = .ok (.iconst 0, 1) := by decide +kernel
theorem dX10_lay_1 : decode cX10_lay 1 = .ok (.istore_n 3, 1) := by decide +kernel
theorem dX10_lay_2 : decode cX10_lay 2 = .ok (.iload_n 3, 1) := by decide +kernel
theorem dX10_lay_3 : decode cX10_lay 3 = .ok (.aload_n 0, 1) := by decide +kernel
theorem dX10_lay_4 : decode cX10_lay 4 = .ok (.getfield 13, 3) := by decide +kernel
theorem dX10_lay_7 : decode cX10_lay 7 = .ok (.iload_n 1, 1) := by decide +kernel
theorem dX10_lay_8 : decode cX10_lay 8 = .ok (.iaload, 1) := by decide +kernel
theorem dX10_lay_9 : decode cX10_lay 9 = .ok (.if_icmp .ge 55, 3) := by decide +kernel
theorem dX10_lay_12 : decode cX10_lay 12 = .ok (.aload_n 0, 1) := by decide +kernel
theorem dX10_lay_13 : decode cX10_lay 13 = .ok (.iload_n 1, 1) := by decide +kernel
theorem dX10_lay_14 : decode cX10_lay 14 = .ok (.iload_n 3, 1) := by decide +kernel
theorem dX10_lay_15 : decode cX10_lay 15 = .ok (.invokevirtual 178, 3) := by decide +kernel
theorem dX10_lay_18 : decode cX10_lay 18 = .ok (.istore 4, 2) := by decide +kernel
theorem dX10_lay_20 : decode cX10_lay 20 = .ok (.aload_n 0, 1) := by decide +kernel
theorem dX10_lay_21 : decode cX10_lay 21 = .ok (.getfield 34, 3) := by decide +kernel
theorem dX10_lay_24 : decode cX10_lay 24 = .ok (.bipush 30, 2) := by decide +kernel
theorem dX10_lay_26 : decode cX10_lay 26 = .ok (.iload_n 2, 1) := by decide +kernel
theorem dX10_lay_27 : decode cX10_lay 27 = .ok (.imul, 1) := by decide +kernel
theorem dX10_lay_28 : decode cX10_lay 28 = .ok (.iload 4, 2) := by decide +kernel
theorem dX10_lay_30 : decode cX10_lay 30 = .ok (.iadd, 1) := by decide +kernel
theorem dX10_lay_31 : decode cX10_lay 31 = .ok (.iload_n 3, 1) := by decide +kernel
theorem dX10_lay_32 : decode cX10_lay 32 = .ok (.iastore, 1) := by decide +kernel
theorem dX10_lay_33 : decode cX10_lay 33 = .ok (.aload_n 0, 1) := by decide +kernel
theorem dX10_lay_34 : decode cX10_lay 34 = .ok (.getfield 37, 3) := by decide +kernel
theorem dX10_lay_37 : decode cX10_lay 37 = .ok (.bipush 30, 2) := by decide +kernel
theorem dX10_lay_39 : decode cX10_lay 39 = .ok (.iload_n 2, 1) := by decide +kernel
theorem dX10_lay_40 : decode cX10_lay 40 = .ok (.imul, 1) := by decide +kernel
theorem dX10_lay_41 : decode cX10_lay 41 = .ok (.iload 4, 2) := by decide +kernel
theorem dX10_lay_43 : decode cX10_lay 43 = .ok (.iadd, 1) := by decide +kernel
theorem dX10_lay_44 : decode cX10_lay 44 = .ok (.iload 4, 2) := by decide +kernel
theorem dX10_lay_46 : decode cX10_lay 46 = .ok (.aload_n 0, 1) := by decide +kernel
theorem dX10_lay_47 : decode cX10_lay 47 = .ok (.iload_n 1, 1) := by decide +kernel
theorem dX10_lay_48 : decode cX10_lay 48 = .ok (.iload_n 3, 1) := by decide +kernel
theorem dX10_lay_49 : decode cX10_lay 49 = .ok (.invokevirtual 119, 3) := by decide +kernel
theorem dX10_lay_52 : decode cX10_lay 52 = .ok (.iload_n 3, 1) := by decide +kernel
theorem dX10_lay_53 : decode cX10_lay 53 = .ok (.isub, 1) := by decide +kernel
theorem dX10_lay_54 : decode cX10_lay 54 = .ok (.iconst 1, 1) := by decide +kernel
theorem dX10_lay_55 : decode cX10_lay 55 = .ok (.isub, 1) := by decide +kernel
theorem dX10_lay_56 : decode cX10_lay 56 = .ok (.isub, 1) := by decide +kernel
theorem dX10_lay_57 : decode cX10_lay 57 = .ok (.iastore, 1) := by decide +kernel
theorem dX10_lay_58 : decode cX10_lay 58 = .ok (.iinc 3 1, 3) := by decide +kernel
theorem dX10_lay_61 : decode cX10_lay 61 = .ok (.goto (-59), 3) := by decide +kernel
theorem dX10_lay_64 : decode cX10_lay 64 = .ok (.return_, 1) := by decide +kernel
theorem dX10_pairs_0 : decode cX10_pairs 0 = .ok (.aload_n 0, 1) := by decide +kernel
theorem dX10_pairs_1 : decode cX10_pairs 1 = .ok (.iload_n 1, 1) := by decide +kernel
theorem dX10_pairs_2 : decode cX10_pairs 2 = .ok (.iload_n 2, 1) := by decide +kernel
theorem dX10_pairs_3 : decode cX10_pairs 3 = .ok (.iload_n 3, 1) := by decide +kernel
theorem dX10_pairs_4 : decode cX10_pairs 4 = .ok (.iload 4, 2) := by decide +kernel
theorem dX10_pairs_6 : decode cX10_pairs 6 = .ok (.iconst 3, 1) := by decide +kernel
theorem dX10_pairs_7 : decode cX10_pairs 7 = .ok (.invokevirtual 122, 3) := by decide +kernel
theorem dX10_pairs_10 : decode cX10_pairs 10 = .ok (.istore 5, 2) := by decide +kernel
theorem dX10_pairs_12 : decode cX10_pairs 12 = .ok (.aload_n 0, 1) := by decide +kernel
theorem dX10_pairs_13 : decode cX10_pairs 13 = .ok (.iload_n 1, 1) := by decide +kernel
theorem dX10_pairs_14 : decode cX10_pairs 14 = .ok (.iload_n 2, 1) := by decide +kernel
theorem dX10_pairs_15 : decode cX10_pairs 15 = .ok (.iload_n 3, 1) := by decide +kernel
theorem dX10_pairs_16 : decode cX10_pairs 16 = .ok (.iload 4, 2) := by decide +kernel
theorem dX10_pairs_18 : decode cX10_pairs 18 = .ok (.bipush 10, 2) := by decide +kernel
theorem dX10_pairs_20 : decode cX10_pairs 20 = .ok (.invokevirtual 122, 3) := by decide +kernel
theorem dX10_pairs_23 : decode cX10_pairs 23 = .ok (.istore 6, 2) := by decide +kernel
theorem dX10_pairs_25 : decode cX10_pairs 25 = .ok (.aload_n 0, 1) := by decide +kernel
theorem dX10_pairs_26 : decode cX10_pairs 26 = .ok (.iload_n 1, 1) := by decide +kernel
theorem dX10_pairs_27 : decode cX10_pairs 27 = .ok (.iload_n 2, 1) := by decide +kernel
theorem dX10_pairs_28 : decode cX10_pairs 28 = .ok (.iconst 1, 1) := by decide +kernel
theorem dX10_pairs_29 : decode cX10_pairs 29 = .ok (.invokevirtual 104, 3) := by decide +kernel
theorem dX10_pairs_32 : decode cX10_pairs 32 = .ok (.aload_n 0, 1) := by decide +kernel
theorem dX10_pairs_33 : decode cX10_pairs 33 = .ok (.iload_n 3, 1) := by decide +kernel
theorem dX10_pairs_34 : decode cX10_pairs 34 = .ok (.iload 4, 2) := by decide +kernel
theorem dX10_pairs_36 : decode cX10_pairs 36 = .ok (.iconst 1, 1) := by decide +kernel
theorem dX10_pairs_37 : decode cX10_pairs 37 = .ok (.invokevirtual 104, 3) := by decide +kernel
theorem dX10_pairs_40 : decode cX10_pairs 40 = .ok (.if_icmp .ne 24, 3) := by decide +kernel
theorem dX10_pairs_43 : decode cX10_pairs 43 = .ok (.aload_n 0, 1) := by decide +kernel
theorem dX10_pairs_44 : decode cX10_pairs 44 = .ok (.iload_n 1, 1) := by decide +kernel
theorem dX10_pairs_45 : decode cX10_pairs 45 = .ok (.iload_n 2, 1) := by decide +kernel
theorem dX10_pairs_46 : decode cX10_pairs 46 = .ok (.iconst 1, 1) := by decide +kernel
theorem dX10_pairs_47 : decode cX10_pairs 47 = .ok (.invokevirtual 104, 3) := by decide +kernel
theorem dX10_pairs_50 : decode cX10_pairs 50 = .ok (.iconst 3, 1) := by decide +kernel
theorem dX10_pairs_51 : decode cX10_pairs 51 = .ok (.if_icmp .ne 16, 3) := by decide +kernel
theorem dX10_pairs_54 : decode cX10_pairs 54 = .ok (.iload 5, 2) := by decide +kernel
theorem dX10_pairs_56 : decode cX10_pairs 56 = .ok (.ifCond .eq 8, 3) := by decide +kernel
theorem dX10_pairs_59 : decode cX10_pairs 59 = .ok (.iload 6, 2) := by decide +kernel
theorem dX10_pairs_61 : decode cX10_pairs 61 = .ok (.ifCond .ne 6, 3) := by decide +kernel
theorem dX10_pairs_64 : decode cX10_pairs 64 = .ok (.ldc 197, 2) := by decide +kernel
theorem dX10_pairs_66 : decode cX10_pairs 66 = .ok (.ireturn, 1) := by decide +kernel
theorem dX10_pairs_67 : decode cX10_pairs 67 = .ok (.iload 5, 2) := by decide +kernel
theorem dX10_pairs_69 : decode cX10_pairs 69 = .ok (.ifCond .eq 7, 3) := by decide +kernel
theorem dX10_pairs_72 : decode cX10_pairs 72 = .ok (.iconst 0, 1) := by decide +kernel
theorem dX10_pairs_73 : decode cX10_pairs 73 = .ok (.goto 9, 3) := by decide +kernel
theorem dX10_pairs_76 : decode cX10_pairs 76 = .ok (.aload_n 0, 1) := by decide +kernel
theorem dX10_pairs_77 : decode cX10_pairs 77 = .ok (.getfield 22, 3) := by decide +kernel
theorem dX10_pairs_80 : decode cX10_pairs 80 = .ok (.iconst 0, 1) := by decide +kernel
theorem dX10_pairs_81 : decode cX10_pairs 81 = .ok (.iaload, 1) := by decide +kernel
theorem dX10_pairs_82 : decode cX10_pairs 82 = .ok (.iload 6, 2) := by decide +kernel
theorem dX10_pairs_84 : decode cX10_pairs 84 = .ok (.ifCond .eq 7, 3) := by decide +kernel
theorem dX10_pairs_87 : decode cX10_pairs 87 = .ok (.iconst 0, 1) := by decide +kernel
theorem dX10_pairs_88 : decode cX10_pairs 88 = .ok (.goto 9, 3) := by decide +kernel
theorem dX10_pairs_91 : decode cX10_pairs 91 = .ok (.aload_n 0, 1) := by decide +kernel
theorem dX10_pairs_92 : decode cX10_pairs 92 = .ok (.getfield 22, 3) := by decide +kernel
theorem dX10_pairs_95 : decode cX10_pairs 95 = .ok (.iconst 1, 1) := by decide +kernel
theorem dX10_pairs_96 : decode cX10_pairs 96 = .ok (.iaload, 1) := by decide +kernel
theorem dX10_pairs_97 : decode cX10_pairs 97 = .ok (.iadd, 1) := by decide +kernel
theorem dX10_pairs_98 : decode cX10_pairs 98 = .ok (.ireturn, 1) := by decide +kernel
theorem dX10_cell_0 : decode cX10_cell 0 = .ok (.iload_n 0, 1) := by decide +kernel
theorem dX10_cell_1 : decode cX10_cell 1 = .ok (.bipush 31, 2) := by decide +kernel
theorem dX10_cell_3 : decode cX10_cell 3 = .ok (.imul, 1) := by decide +kernel
theorem dX10_cell_4 : decode cX10_cell 4 = .ok (.iload_n 1, 1) := by decide +kernel
theorem dX10_cell_5 : decode cX10_cell 5 = .ok (.iadd, 1) := by decide +kernel
theorem dX10_cell_6 : decode cX10_cell 6 = .ok (.bipush 31, 2) := by decide +kernel
theorem dX10_cell_8 : decode cX10_cell 8 = .ok (.imul, 1) := by decide +kernel
theorem dX10_cell_9 : decode cX10_cell 9 = .ok (.iload_n 2, 1) := by decide +kernel
theorem dX10_cell_10 : decode cX10_cell 10 = .ok (.iadd, 1) := by decide +kernel
theorem dX10_cell_11 : decode cX10_cell 11 = .ok (.bipush 31, 2) := by decide +kernel
theorem dX10_cell_13 : decode cX10_cell 13 = .ok (.imul, 1) := by decide +kernel
theorem dX10_cell_14 : decode cX10_cell 14 = .ok (.iload_n 3, 1) := by decide +kernel
theorem dX10_cell_15 : decode cX10_cell 15 = .ok (.iadd, 1) := by decide +kernel
theorem dX10_cell_16 : decode cX10_cell 16 = .ok (.ireturn, 1) := by decide +kernel
theorem dX10_reckon_0 : decode cX10_reckon 0 = .ok (.aload_n 0, 1) := by decide +kernel
theorem dX10_reckon_1 : decode cX10_reckon 1 = .ok (.iload_n 1, 1) := by decide +kernel
theorem dX10_reckon_2 : decode cX10_reckon 2 = .ok (.iconst 0, 1) := by decide +kernel
theorem dX10_reckon_3 : decode cX10_reckon 3 = .ok (.invokevirtual 198, 3) := by decide +kernel
theorem dX10_reckon_6 : decode cX10_reckon 6 = .ok (.aload_n 0, 1) := by decide +kernel
theorem dX10_reckon_7 : decode cX10_reckon 7 = .ok (.iload_n 2, 1) := by decide +kernel
theorem dX10_reckon_8 : decode cX10_reckon 8 = .ok (.iconst 1, 1) := by decide +kernel
theorem dX10_reckon_9 : decode cX10_reckon 9 = .ok (.invokevirtual 198, 3) := by decide +kernel
theorem dX10_reckon_12 : decode cX10_reckon 12 = .ok (.aload_n 0, 1) := by decide +kernel
theorem dX10_reckon_13 : decode cX10_reckon 13 = .ok (.getfield 13, 3) := by decide +kernel
theorem dX10_reckon_16 : decode cX10_reckon 16 = .ok (.iload_n 1, 1) := by decide +kernel
theorem dX10_reckon_17 : decode cX10_reckon 17 = .ok (.iaload, 1) := by decide +kernel
theorem dX10_reckon_18 : decode cX10_reckon 18 = .ok (.istore_n 3, 1) := by decide +kernel
theorem dX10_reckon_19 : decode cX10_reckon 19 = .ok (.iload_n 3, 1) := by decide +kernel
theorem dX10_reckon_20 : decode cX10_reckon 20 = .ok (.ifCond .lt 227, 3) := by decide +kernel
theorem dX10_reckon_23 : decode cX10_reckon 23 = .ok (.aload_n 0, 1) := by decide +kernel
theorem dX10_reckon_24 : decode cX10_reckon 24 = .ok (.getfield 13, 3) := by decide +kernel
theorem dX10_reckon_27 : decode cX10_reckon 27 = .ok (.iload_n 2, 1) := by decide +kernel
theorem dX10_reckon_28 : decode cX10_reckon 28 = .ok (.iaload, 1) := by decide +kernel
theorem dX10_reckon_29 : decode cX10_reckon 29 = .ok (.istore 4, 2) := by decide +kernel
theorem dX10_reckon_31 : decode cX10_reckon 31 = .ok (.iload 4, 2) := by decide +kernel
theorem dX10_reckon_33 : decode cX10_reckon 33 = .ok (.ifCond .lt 208, 3) := by decide +kernel
theorem dX10_reckon_36 : decode cX10_reckon 36 = .ok (.iconst 0, 1) := by decide +kernel
theorem dX10_reckon_37 : decode cX10_reckon 37 = .ok (.istore 5, 2) := by decide +kernel
theorem dX10_reckon_39 : decode cX10_reckon 39 = .ok (.iload_n 3, 1) := by decide +kernel
theorem dX10_reckon_40 : decode cX10_reckon 40 = .ok (.iload 5, 2) := by decide +kernel
theorem dX10_reckon_42 : decode cX10_reckon 42 = .ok (.iadd, 1) := by decide +kernel
theorem dX10_reckon_43 : decode cX10_reckon 43 = .ok (.aload_n 0, 1) := by decide +kernel
theorem dX10_reckon_44 : decode cX10_reckon 44 = .ok (.getfield 13, 3) := by decide +kernel
theorem dX10_reckon_47 : decode cX10_reckon 47 = .ok (.iload_n 1, 1) := by decide +kernel
theorem dX10_reckon_48 : decode cX10_reckon 48 = .ok (.iaload, 1) := by decide +kernel
theorem dX10_reckon_49 : decode cX10_reckon 49 = .ok (.if_icmp .gt 186, 3) := by decide +kernel
theorem dX10_reckon_52 : decode cX10_reckon 52 = .ok (.iconst 0, 1) := by decide +kernel
theorem dX10_reckon_53 : decode cX10_reckon 53 = .ok (.istore 6, 2) := by decide +kernel
theorem dX10_reckon_55 : decode cX10_reckon 55 = .ok (.iload 4, 2) := by decide +kernel
theorem dX10_reckon_57 : decode cX10_reckon 57 = .ok (.iload 6, 2) := by decide +kernel
theorem dX10_reckon_59 : decode cX10_reckon 59 = .ok (.iadd, 1) := by decide +kernel
theorem dX10_reckon_60 : decode cX10_reckon 60 = .ok (.aload_n 0, 1) := by decide +kernel
theorem dX10_reckon_61 : decode cX10_reckon 61 = .ok (.getfield 13, 3) := by decide +kernel
theorem dX10_reckon_64 : decode cX10_reckon 64 = .ok (.iload_n 2, 1) := by decide +kernel
theorem dX10_reckon_65 : decode cX10_reckon 65 = .ok (.iaload, 1) := by decide +kernel
theorem dX10_reckon_66 : decode cX10_reckon 66 = .ok (.if_icmp .gt 163, 3) := by decide +kernel
theorem dX10_reckon_69 : decode cX10_reckon 69 = .ok (.iload_n 3, 1) := by decide +kernel
theorem dX10_reckon_70 : decode cX10_reckon 70 = .ok (.iload 5, 2) := by decide +kernel
theorem dX10_reckon_72 : decode cX10_reckon 72 = .ok (.iadd, 1) := by decide +kernel
theorem dX10_reckon_73 : decode cX10_reckon 73 = .ok (.iconst 1, 1) := by decide +kernel
theorem dX10_reckon_74 : decode cX10_reckon 74 = .ok (.isub, 1) := by decide +kernel
theorem dX10_reckon_75 : decode cX10_reckon 75 = .ok (.istore 7, 2) := by decide +kernel
theorem dX10_reckon_77 : decode cX10_reckon 77 = .ok (.iload 4, 2) := by decide +kernel
theorem dX10_reckon_79 : decode cX10_reckon 79 = .ok (.iload 6, 2) := by decide +kernel
theorem dX10_reckon_81 : decode cX10_reckon 81 = .ok (.iadd, 1) := by decide +kernel
theorem dX10_reckon_82 : decode cX10_reckon 82 = .ok (.iconst 1, 1) := by decide +kernel
theorem dX10_reckon_83 : decode cX10_reckon 83 = .ok (.isub, 1) := by decide +kernel
theorem dX10_reckon_84 : decode cX10_reckon 84 = .ok (.istore 8, 2) := by decide +kernel
theorem dX10_reckon_86 : decode cX10_reckon 86 = .ok (.iload 5, 2) := by decide +kernel
theorem dX10_reckon_88 : decode cX10_reckon 88 = .ok (.ifCond .ne 12, 3) := by decide +kernel
theorem dX10_reckon_91 : decode cX10_reckon 91 = .ok (.iload 6, 2) := by decide +kernel
theorem dX10_reckon_93 : decode cX10_reckon 93 = .ok (.ifCond .ne 7, 3) := by decide +kernel
theorem dX10_reckon_96 : decode cX10_reckon 96 = .ok (.iconst 0, 1) := by decide +kernel
theorem dX10_reckon_97 : decode cX10_reckon 97 = .ok (.goto 5, 3) := by decide +kernel
theorem dX10_reckon_100 : decode cX10_reckon 100 = .ok (.ldc 197, 2) := by decide +kernel
theorem dX10_reckon_102 : decode cX10_reckon 102 = .ok (.istore 9, 2) := by decide +kernel
theorem dX10_reckon_104 : decode cX10_reckon 104 = .ok (.iload 5, 2) := by decide +kernel
theorem dX10_reckon_106 : decode cX10_reckon 106 = .ok (.ifCond .le 34, 3) := by decide +kernel
theorem dX10_reckon_109 : decode cX10_reckon 109 = .ok (.iload 9, 2) := by decide +kernel
theorem dX10_reckon_111 : decode cX10_reckon 111 = .ok (.aload_n 0, 1) := by decide +kernel
theorem dX10_reckon_112 : decode cX10_reckon 112 = .ok (.getfield 41, 3) := by decide +kernel
theorem dX10_reckon_115 : decode cX10_reckon 115 = .ok (.iload_n 3, 1) := by decide +kernel
theorem dX10_reckon_116 : decode cX10_reckon 116 = .ok (.iload 5, 2) := by decide +kernel
theorem dX10_reckon_118 : decode cX10_reckon 118 = .ok (.iconst 1, 1) := by decide +kernel
theorem dX10_reckon_119 : decode cX10_reckon 119 = .ok (.isub, 1) := by decide +kernel
theorem dX10_reckon_120 : decode cX10_reckon 120 = .ok (.iload 4, 2) := by decide +kernel
theorem dX10_reckon_122 : decode cX10_reckon 122 = .ok (.iload 6, 2) := by decide +kernel
theorem dX10_reckon_124 : decode cX10_reckon 124 = .ok (.invokestatic 201, 3) := by decide +kernel
theorem dX10_reckon_127 : decode cX10_reckon 127 = .ok (.iaload, 1) := by decide +kernel
theorem dX10_reckon_128 : decode cX10_reckon 128 = .ok (.aload_n 0, 1) := by decide +kernel
theorem dX10_reckon_129 : decode cX10_reckon 129 = .ok (.getfield 22, 3) := by decide +kernel
theorem dX10_reckon_132 : decode cX10_reckon 132 = .ok (.iconst 3, 1) := by decide +kernel
theorem dX10_reckon_133 : decode cX10_reckon 133 = .ok (.iaload, 1) := by decide +kernel
theorem dX10_reckon_134 : decode cX10_reckon 134 = .ok (.iadd, 1) := by decide +kernel
theorem dX10_reckon_135 : decode cX10_reckon 135 = .ok (.invokestatic 205, 3) := by decide +kernel
theorem dX10_reckon_138 : decode cX10_reckon 138 = .ok (.istore 9, 2) := by decide +kernel
theorem dX10_reckon_140 : decode cX10_reckon 140 = .ok (.iload 6, 2) := by decide +kernel
theorem dX10_reckon_142 : decode cX10_reckon 142 = .ok (.ifCond .le 34, 3) := by decide +kernel
theorem dX10_reckon_145 : decode cX10_reckon 145 = .ok (.iload 9, 2) := by decide +kernel
theorem dX10_reckon_147 : decode cX10_reckon 147 = .ok (.aload_n 0, 1) := by decide +kernel
theorem dX10_reckon_148 : decode cX10_reckon 148 = .ok (.getfield 41, 3) := by decide +kernel
theorem dX10_reckon_151 : decode cX10_reckon 151 = .ok (.iload_n 3, 1) := by decide +kernel
theorem dX10_reckon_152 : decode cX10_reckon 152 = .ok (.iload 5, 2) := by decide +kernel
theorem dX10_reckon_154 : decode cX10_reckon 154 = .ok (.iload 4, 2) := by decide +kernel
theorem dX10_reckon_156 : decode cX10_reckon 156 = .ok (.iload 6, 2) := by decide +kernel
theorem dX10_reckon_158 : decode cX10_reckon 158 = .ok (.iconst 1, 1) := by decide +kernel
theorem dX10_reckon_159 : decode cX10_reckon 159 = .ok (.isub, 1) := by decide +kernel
theorem dX10_reckon_160 : decode cX10_reckon 160 = .ok (.invokestatic 201, 3) := by decide +kernel
theorem dX10_reckon_163 : decode cX10_reckon 163 = .ok (.iaload, 1) := by decide +kernel
theorem dX10_reckon_164 : decode cX10_reckon 164 = .ok (.aload_n 0, 1) := by decide +kernel
theorem dX10_reckon_165 : decode cX10_reckon 165 = .ok (.getfield 22, 3) := by decide +kernel
theorem dX10_reckon_168 : decode cX10_reckon 168 = .ok (.iconst 2, 1) := by decide +kernel
theorem dX10_reckon_169 : decode cX10_reckon 169 = .ok (.iaload, 1) := by decide +kernel
theorem dX10_reckon_170 : decode cX10_reckon 170 = .ok (.iadd, 1) := by decide +kernel
theorem dX10_reckon_171 : decode cX10_reckon 171 = .ok (.invokestatic 205, 3) := by decide +kernel
theorem dX10_reckon_174 : decode cX10_reckon 174 = .ok (.istore 9, 2) := by decide +kernel
theorem dX10_reckon_176 : decode cX10_reckon 176 = .ok (.iload 5, 2) := by decide +kernel
theorem dX10_reckon_178 : decode cX10_reckon 178 = .ok (.ifCond .le 28, 3) := by decide +kernel
theorem dX10_reckon_181 : decode cX10_reckon 181 = .ok (.iload 6, 2) := by decide +kernel
theorem dX10_reckon_183 : decode cX10_reckon 183 = .ok (.ifCond .le 23, 3) := by decide +kernel
theorem dX10_reckon_186 : decode cX10_reckon 186 = .ok (.iload 9, 2) := by decide +kernel
theorem dX10_reckon_188 : decode cX10_reckon 188 = .ok (.aload_n 0, 1) := by decide +kernel
theorem dX10_reckon_189 : decode cX10_reckon 189 = .ok (.iload_n 1, 1) := by decide +kernel
theorem dX10_reckon_190 : decode cX10_reckon 190 = .ok (.iload_n 2, 1) := by decide +kernel
theorem dX10_reckon_191 : decode cX10_reckon 191 = .ok (.iload_n 3, 1) := by decide +kernel
theorem dX10_reckon_192 : decode cX10_reckon 192 = .ok (.iload 7, 2) := by decide +kernel
theorem dX10_reckon_194 : decode cX10_reckon 194 = .ok (.iload 4, 2) := by decide +kernel
theorem dX10_reckon_196 : decode cX10_reckon 196 = .ok (.iload 8, 2) := by decide +kernel
theorem dX10_reckon_198 : decode cX10_reckon 198 = .ok (.invokevirtual 208, 3) := by decide +kernel
theorem dX10_reckon_201 : decode cX10_reckon 201 = .ok (.invokestatic 205, 3) := by decide +kernel
theorem dX10_reckon_204 : decode cX10_reckon 204 = .ok (.istore 9, 2) := by decide +kernel
theorem dX10_reckon_206 : decode cX10_reckon 206 = .ok (.aload_n 0, 1) := by decide +kernel
theorem dX10_reckon_207 : decode cX10_reckon 207 = .ok (.getfield 41, 3) := by decide +kernel
theorem dX10_reckon_210 : decode cX10_reckon 210 = .ok (.iload_n 3, 1) := by decide +kernel
theorem dX10_reckon_211 : decode cX10_reckon 211 = .ok (.iload 5, 2) := by decide +kernel
theorem dX10_reckon_213 : decode cX10_reckon 213 = .ok (.iload 4, 2) := by decide +kernel
theorem dX10_reckon_215 : decode cX10_reckon 215 = .ok (.iload 6, 2) := by decide +kernel
theorem dX10_reckon_217 : decode cX10_reckon 217 = .ok (.invokestatic 201, 3) := by decide +kernel
theorem dX10_reckon_220 : decode cX10_reckon 220 = .ok (.iload 9, 2) := by decide +kernel
theorem dX10_reckon_222 : decode cX10_reckon 222 = .ok (.iastore, 1) := by decide +kernel
theorem dX10_reckon_223 : decode cX10_reckon 223 = .ok (.iinc 6 1, 3) := by decide +kernel
theorem dX10_reckon_226 : decode cX10_reckon 226 = .ok (.goto (-171), 3) := by decide +kernel
theorem dX10_reckon_229 : decode cX10_reckon 229 = .ok (.iinc 5 1, 3) := by decide +kernel
theorem dX10_reckon_232 : decode cX10_reckon 232 = .ok (.goto (-193), 3) := by decide +kernel
theorem dX10_reckon_235 : decode cX10_reckon 235 = .ok (.iinc 4 (-1), 3) := by decide +kernel
theorem dX10_reckon_238 : decode cX10_reckon 238 = .ok (.goto (-207), 3) := by decide +kernel
theorem dX10_reckon_241 : decode cX10_reckon 241 = .ok (.iinc 3 (-1), 3) := by decide +kernel
theorem dX10_reckon_244 : decode cX10_reckon 244 = .ok (.goto (-225), 3) := by decide +kernel
theorem dX10_reckon_247 : decode cX10_reckon 247 = .ok (.return_, 1) := by decide +kernel
theorem dX10_byPair_0 : decode cX10_byPair 0 = .ok (.aload_n 0, 1) := by decide +kernel
theorem dX10_byPair_1 : decode cX10_byPair 1 = .ok (.getfield 37, 3) := by decide +kernel
theorem dX10_byPair_4 : decode cX10_byPair 4 = .ok (.iload 4, 2) := by decide +kernel
theorem dX10_byPair_6 : decode cX10_byPair 6 = .ok (.iaload, 1) := by decide +kernel
theorem dX10_byPair_7 : decode cX10_byPair 7 = .ok (.istore 7, 2) := by decide +kernel
theorem dX10_byPair_9 : decode cX10_byPair 9 = .ok (.aload_n 0, 1) := by decide +kernel
theorem dX10_byPair_10 : decode cX10_byPair 10 = .ok (.getfield 37, 3) := by decide +kernel
theorem dX10_byPair_13 : decode cX10_byPair 13 = .ok (.bipush 30, 2) := by decide +kernel
theorem dX10_byPair_15 : decode cX10_byPair 15 = .ok (.iload 6, 2) := by decide +kernel
theorem dX10_byPair_17 : decode cX10_byPair 17 = .ok (.iadd, 1) := by decide +kernel
theorem dX10_byPair_18 : decode cX10_byPair 18 = .ok (.iaload, 1) := by decide +kernel
theorem dX10_byPair_19 : decode cX10_byPair 19 = .ok (.istore 8, 2) := by decide +kernel
theorem dX10_byPair_21 : decode cX10_byPair 21 = .ok (.iload 7, 2) := by decide +kernel
theorem dX10_byPair_23 : decode cX10_byPair 23 = .ok (.iload_n 3, 1) := by decide +kernel
theorem dX10_byPair_24 : decode cX10_byPair 24 = .ok (.if_icmp .lt 10, 3) := by decide +kernel
theorem dX10_byPair_27 : decode cX10_byPair 27 = .ok (.iload 8, 2) := by decide +kernel
theorem dX10_byPair_29 : decode cX10_byPair 29 = .ok (.iload 5, 2) := by decide +kernel
theorem dX10_byPair_31 : decode cX10_byPair 31 = .ok (.if_icmp .ge 6, 3) := by decide +kernel
theorem dX10_byPair_34 : decode cX10_byPair 34 = .ok (.ldc 197, 2) := by decide +kernel
theorem dX10_byPair_36 : decode cX10_byPair 36 = .ok (.ireturn, 1) := by decide +kernel
theorem dX10_byPair_37 : decode cX10_byPair 37 = .ok (.aload_n 0, 1) := by decide +kernel
theorem dX10_byPair_38 : decode cX10_byPair 38 = .ok (.iload_n 1, 1) := by decide +kernel
theorem dX10_byPair_39 : decode cX10_byPair 39 = .ok (.aload_n 0, 1) := by decide +kernel
theorem dX10_byPair_40 : decode cX10_byPair 40 = .ok (.getfield 34, 3) := by decide +kernel
theorem dX10_byPair_43 : decode cX10_byPair 43 = .ok (.iload 4, 2) := by decide +kernel
theorem dX10_byPair_45 : decode cX10_byPair 45 = .ok (.iaload, 1) := by decide +kernel
theorem dX10_byPair_46 : decode cX10_byPair 46 = .ok (.iload_n 2, 1) := by decide +kernel
theorem dX10_byPair_47 : decode cX10_byPair 47 = .ok (.aload_n 0, 1) := by decide +kernel
theorem dX10_byPair_48 : decode cX10_byPair 48 = .ok (.getfield 34, 3) := by decide +kernel
theorem dX10_byPair_51 : decode cX10_byPair 51 = .ok (.bipush 30, 2) := by decide +kernel
theorem dX10_byPair_53 : decode cX10_byPair 53 = .ok (.iload 6, 2) := by decide +kernel
theorem dX10_byPair_55 : decode cX10_byPair 55 = .ok (.iadd, 1) := by decide +kernel
theorem dX10_byPair_56 : decode cX10_byPair 56 = .ok (.iaload, 1) := by decide +kernel
theorem dX10_byPair_57 : decode cX10_byPair 57 = .ok (.invokevirtual 212, 3) := by decide +kernel
theorem dX10_byPair_60 : decode cX10_byPair 60 = .ok (.istore 9, 2) := by decide +kernel
theorem dX10_byPair_62 : decode cX10_byPair 62 = .ok (.iload 9, 2) := by decide +kernel
theorem dX10_byPair_64 : decode cX10_byPair 64 = .ok (.ldc 197, 2) := by decide +kernel
theorem dX10_byPair_66 : decode cX10_byPair 66 = .ok (.if_icmp .ne 6, 3) := by decide +kernel
theorem dX10_byPair_69 : decode cX10_byPair 69 = .ok (.ldc 197, 2) := by decide +kernel
theorem dX10_byPair_71 : decode cX10_byPair 71 = .ok (.ireturn, 1) := by decide +kernel
theorem dX10_byPair_72 : decode cX10_byPair 72 = .ok (.aload_n 0, 1) := by decide +kernel
theorem dX10_byPair_73 : decode cX10_byPair 73 = .ok (.getfield 41, 3) := by decide +kernel
theorem dX10_byPair_76 : decode cX10_byPair 76 = .ok (.iload 7, 2) := by decide +kernel
theorem dX10_byPair_78 : decode cX10_byPair 78 = .ok (.iload 4, 2) := by decide +kernel
theorem dX10_byPair_80 : decode cX10_byPair 80 = .ok (.iload 7, 2) := by decide +kernel
theorem dX10_byPair_82 : decode cX10_byPair 82 = .ok (.isub, 1) := by decide +kernel
theorem dX10_byPair_83 : decode cX10_byPair 83 = .ok (.iload 8, 2) := by decide +kernel
theorem dX10_byPair_85 : decode cX10_byPair 85 = .ok (.iload 6, 2) := by decide +kernel
theorem dX10_byPair_87 : decode cX10_byPair 87 = .ok (.iload 8, 2) := by decide +kernel
theorem dX10_byPair_89 : decode cX10_byPair 89 = .ok (.isub, 1) := by decide +kernel
theorem dX10_byPair_90 : decode cX10_byPair 90 = .ok (.invokestatic 201, 3) := by decide +kernel
theorem dX10_byPair_93 : decode cX10_byPair 93 = .ok (.iaload, 1) := by decide +kernel
theorem dX10_byPair_94 : decode cX10_byPair 94 = .ok (.aload_n 0, 1) := by decide +kernel
theorem dX10_byPair_95 : decode cX10_byPair 95 = .ok (.getfield 41, 3) := by decide +kernel
theorem dX10_byPair_98 : decode cX10_byPair 98 = .ok (.iload_n 3, 1) := by decide +kernel
theorem dX10_byPair_99 : decode cX10_byPair 99 = .ok (.iload 7, 2) := by decide +kernel
theorem dX10_byPair_101 : decode cX10_byPair 101 = .ok (.iload_n 3, 1) := by decide +kernel
theorem dX10_byPair_102 : decode cX10_byPair 102 = .ok (.isub, 1) := by decide +kernel
theorem dX10_byPair_103 : decode cX10_byPair 103 = .ok (.iload 5, 2) := by decide +kernel
theorem dX10_byPair_105 : decode cX10_byPair 105 = .ok (.iload 8, 2) := by decide +kernel
theorem dX10_byPair_107 : decode cX10_byPair 107 = .ok (.iload 5, 2) := by decide +kernel
theorem dX10_byPair_109 : decode cX10_byPair 109 = .ok (.isub, 1) := by decide +kernel
theorem dX10_byPair_110 : decode cX10_byPair 110 = .ok (.invokestatic 201, 3) := by decide +kernel
theorem dX10_byPair_113 : decode cX10_byPair 113 = .ok (.iaload, 1) := by decide +kernel
theorem dX10_byPair_114 : decode cX10_byPair 114 = .ok (.iadd, 1) := by decide +kernel
theorem dX10_byPair_115 : decode cX10_byPair 115 = .ok (.iload 9, 2) := by decide +kernel
theorem dX10_byPair_117 : decode cX10_byPair 117 = .ok (.iadd, 1) := by decide +kernel
theorem dX10_byPair_118 : decode cX10_byPair 118 = .ok (.ireturn, 1) := by decide +kernel
theorem dX10_lesser_0 : decode cX10_lesser 0 = .ok (.iload_n 0, 1) := by decide +kernel
theorem dX10_lesser_1 : decode cX10_lesser 1 = .ok (.iload_n 1, 1) := by decide +kernel
theorem dX10_lesser_2 : decode cX10_lesser 2 = .ok (.if_icmp .ge 7, 3) := by decide +kernel
theorem dX10_lesser_5 : decode cX10_lesser 5 = .ok (.iload_n 0, 1) := by decide +kernel
theorem dX10_lesser_6 : decode cX10_lesser 6 = .ok (.goto 4, 3) := by decide +kernel
theorem dX10_lesser_9 : decode cX10_lesser 9 = .ok (.iload_n 1, 1) := by decide +kernel
theorem dX10_lesser_10 : decode cX10_lesser 10 = .ok (.ireturn, 1) := by decide +kernel
theorem dX10_distance_0 : decode cX10_distance 0 = .ok (.aload_n 0, 1) := by decide +kernel
theorem dX10_distance_1 : decode cX10_distance 1 = .ok (.iload_n 1, 1) := by decide +kernel
theorem dX10_distance_2 : decode cX10_distance 2 = .ok (.invokevirtual 161, 3) := by decide +kernel
theorem dX10_distance_5 : decode cX10_distance 5 = .ok (.istore_n 3, 1) := by decide +kernel
theorem dX10_distance_6 : decode cX10_distance 6 = .ok (.iload_n 3, 1) := by decide +kernel
theorem dX10_distance_7 : decode cX10_distance 7 = .ok (.ifCond .ge 9, 3) := by decide +kernel
theorem dX10_distance_10 : decode cX10_distance 10 = .ok (.aload_n 0, 1) := by decide +kernel
theorem dX10_distance_11 : decode cX10_distance 11 = .ok (.iload_n 3, 1) := by decide +kernel
theorem dX10_distance_12 : decode cX10_distance 12 = .ok (.invokevirtual 126, 3) := by decide +kernel
theorem dX10_distance_15 : decode cX10_distance 15 = .ok (.ireturn, 1) := by decide +kernel
theorem dX10_distance_16 : decode cX10_distance 16 = .ok (.aload_n 0, 1) := by decide +kernel
theorem dX10_distance_17 : decode cX10_distance 17 = .ok (.iload_n 2, 1) := by decide +kernel
theorem dX10_distance_18 : decode cX10_distance 18 = .ok (.invokevirtual 161, 3) := by decide +kernel
theorem dX10_distance_21 : decode cX10_distance 21 = .ok (.istore_n 3, 1) := by decide +kernel
theorem dX10_distance_22 : decode cX10_distance 22 = .ok (.iload_n 3, 1) := by decide +kernel
theorem dX10_distance_23 : decode cX10_distance 23 = .ok (.ifCond .ge 9, 3) := by decide +kernel
theorem dX10_distance_26 : decode cX10_distance 26 = .ok (.aload_n 0, 1) := by decide +kernel
theorem dX10_distance_27 : decode cX10_distance 27 = .ok (.iload_n 3, 1) := by decide +kernel
theorem dX10_distance_28 : decode cX10_distance 28 = .ok (.invokevirtual 126, 3) := by decide +kernel
theorem dX10_distance_31 : decode cX10_distance 31 = .ok (.ireturn, 1) := by decide +kernel
theorem dX10_distance_32 : decode cX10_distance 32 = .ok (.aload_n 0, 1) := by decide +kernel
theorem dX10_distance_33 : decode cX10_distance 33 = .ok (.iload_n 1, 1) := by decide +kernel
theorem dX10_distance_34 : decode cX10_distance 34 = .ok (.iload_n 2, 1) := by decide +kernel
theorem dX10_distance_35 : decode cX10_distance 35 = .ok (.invokevirtual 215, 3) := by decide +kernel
theorem dX10_distance_38 : decode cX10_distance 38 = .ok (.aload_n 0, 1) := by decide +kernel
theorem dX10_distance_39 : decode cX10_distance 39 = .ok (.getfield 41, 3) := by decide +kernel
theorem dX10_distance_42 : decode cX10_distance 42 = .ok (.iconst 0, 1) := by decide +kernel
theorem dX10_distance_43 : decode cX10_distance 43 = .ok (.aload_n 0, 1) := by decide +kernel
theorem dX10_distance_44 : decode cX10_distance 44 = .ok (.getfield 13, 3) := by decide +kernel
theorem dX10_distance_47 : decode cX10_distance 47 = .ok (.iload_n 1, 1) := by decide +kernel
theorem dX10_distance_48 : decode cX10_distance 48 = .ok (.iaload, 1) := by decide +kernel
theorem dX10_distance_49 : decode cX10_distance 49 = .ok (.iconst 0, 1) := by decide +kernel
theorem dX10_distance_50 : decode cX10_distance 50 = .ok (.aload_n 0, 1) := by decide +kernel
theorem dX10_distance_51 : decode cX10_distance 51 = .ok (.getfield 13, 3) := by decide +kernel
theorem dX10_distance_54 : decode cX10_distance 54 = .ok (.iload_n 2, 1) := by decide +kernel
theorem dX10_distance_55 : decode cX10_distance 55 = .ok (.iaload, 1) := by decide +kernel
theorem dX10_distance_56 : decode cX10_distance 56 = .ok (.invokestatic 201, 3) := by decide +kernel
theorem dX10_distance_59 : decode cX10_distance 59 = .ok (.iaload, 1) := by decide +kernel
theorem dX10_distance_60 : decode cX10_distance 60 = .ok (.ireturn, 1) := by decide +kernel
theorem dX10_adds_0 : decode cX10_adds 0 = .ok (.aload_n 0, 1) := by decide +kernel
theorem dX10_adds_1 : decode cX10_adds 1 = .ok (.getfield 72, 3) := by decide +kernel
theorem dX10_adds_4 : decode cX10_adds 4 = .ok (.aload_n 0, 1) := by decide +kernel
theorem dX10_adds_5 : decode cX10_adds 5 = .ok (.getfield 218, 3) := by decide +kernel
theorem dX10_adds_8 : decode cX10_adds 8 = .ok (.iload_n 1, 1) := by decide +kernel
theorem dX10_adds_9 : decode cX10_adds 9 = .ok (.iastore, 1) := by decide +kernel
theorem dX10_adds_10 : decode cX10_adds 10 = .ok (.aload_n 0, 1) := by decide +kernel
theorem dX10_adds_11 : decode cX10_adds 11 = .ok (.getfield 75, 3) := by decide +kernel
theorem dX10_adds_14 : decode cX10_adds 14 = .ok (.aload_n 0, 1) := by decide +kernel
theorem dX10_adds_15 : decode cX10_adds 15 = .ok (.getfield 218, 3) := by decide +kernel
theorem dX10_adds_18 : decode cX10_adds 18 = .ok (.iload_n 2, 1) := by decide +kernel
theorem dX10_adds_19 : decode cX10_adds 19 = .ok (.iastore, 1) := by decide +kernel
theorem dX10_adds_20 : decode cX10_adds 20 = .ok (.aload_n 0, 1) := by decide +kernel
theorem dX10_adds_21 : decode cX10_adds 21 = .ok (.getfield 78, 3) := by decide +kernel
theorem dX10_adds_24 : decode cX10_adds 24 = .ok (.aload_n 0, 1) := by decide +kernel
theorem dX10_adds_25 : decode cX10_adds 25 = .ok (.getfield 218, 3) := by decide +kernel
theorem dX10_adds_28 : decode cX10_adds 28 = .ok (.aload_n 0, 1) := by decide +kernel
theorem dX10_adds_29 : decode cX10_adds 29 = .ok (.getfield 22, 3) := by decide +kernel
theorem dX10_adds_32 : decode cX10_adds 32 = .ok (.iload_n 1, 1) := by decide +kernel
theorem dX10_adds_33 : decode cX10_adds 33 = .ok (.iaload, 1) := by decide +kernel
theorem dX10_adds_34 : decode cX10_adds 34 = .ok (.iastore, 1) := by decide +kernel
theorem dX10_adds_35 : decode cX10_adds 35 = .ok (.aload_n 0, 1) := by decide +kernel
theorem dX10_adds_36 : decode cX10_adds 36 = .ok (.dup, 1) := by decide +kernel
theorem dX10_adds_37 : decode cX10_adds 37 = .ok (.getfield 218, 3) := by decide +kernel
theorem dX10_adds_40 : decode cX10_adds 40 = .ok (.iconst 1, 1) := by decide +kernel
theorem dX10_adds_41 : decode cX10_adds 41 = .ok (.iadd, 1) := by decide +kernel
theorem dX10_adds_42 : decode cX10_adds 42 = .ok (.putfield 218, 3) := by decide +kernel
theorem dX10_adds_45 : decode cX10_adds 45 = .ok (.return_, 1) := by decide +kernel
theorem dX10_map_0 : decode cX10_map 0 = .ok (.aload_n 0, 1) := by decide +kernel
theorem dX10_map_1 : decode cX10_map 1 = .ok (.iload_n 1, 1) := by decide +kernel
theorem dX10_map_2 : decode cX10_map 2 = .ok (.invokevirtual 161, 3) := by decide +kernel
theorem dX10_map_5 : decode cX10_map 5 = .ok (.istore_n 3, 1) := by decide +kernel
theorem dX10_map_6 : decode cX10_map 6 = .ok (.iload_n 3, 1) := by decide +kernel
theorem dX10_map_7 : decode cX10_map 7 = .ok (.ifCond .ge 9, 3) := by decide +kernel
theorem dX10_map_10 : decode cX10_map 10 = .ok (.aload_n 0, 1) := by decide +kernel
theorem dX10_map_11 : decode cX10_map 11 = .ok (.iload_n 3, 1) := by decide +kernel
theorem dX10_map_12 : decode cX10_map 12 = .ok (.invokevirtual 126, 3) := by decide +kernel
theorem dX10_map_15 : decode cX10_map 15 = .ok (.ireturn, 1) := by decide +kernel
theorem dX10_map_16 : decode cX10_map 16 = .ok (.aload_n 0, 1) := by decide +kernel
theorem dX10_map_17 : decode cX10_map 17 = .ok (.iload_n 2, 1) := by decide +kernel
theorem dX10_map_18 : decode cX10_map 18 = .ok (.invokevirtual 161, 3) := by decide +kernel
theorem dX10_map_21 : decode cX10_map 21 = .ok (.istore_n 3, 1) := by decide +kernel
theorem dX10_map_22 : decode cX10_map 22 = .ok (.iload_n 3, 1) := by decide +kernel
theorem dX10_map_23 : decode cX10_map 23 = .ok (.ifCond .ge 9, 3) := by decide +kernel
theorem dX10_map_26 : decode cX10_map 26 = .ok (.aload_n 0, 1) := by decide +kernel
theorem dX10_map_27 : decode cX10_map 27 = .ok (.iload_n 3, 1) := by decide +kernel
theorem dX10_map_28 : decode cX10_map 28 = .ok (.invokevirtual 126, 3) := by decide +kernel
theorem dX10_map_31 : decode cX10_map 31 = .ok (.ireturn, 1) := by decide +kernel
theorem dX10_map_32 : decode cX10_map 32 = .ok (.aload_n 0, 1) := by decide +kernel
theorem dX10_map_33 : decode cX10_map 33 = .ok (.iload_n 1, 1) := by decide +kernel
theorem dX10_map_34 : decode cX10_map 34 = .ok (.iload_n 2, 1) := by decide +kernel
theorem dX10_map_35 : decode cX10_map 35 = .ok (.invokevirtual 215, 3) := by decide +kernel
theorem dX10_map_38 : decode cX10_map 38 = .ok (.iconst 0, 1) := by decide +kernel
theorem dX10_map_39 : decode cX10_map 39 = .ok (.istore 4, 2) := by decide +kernel
theorem dX10_map_41 : decode cX10_map 41 = .ok (.iload 4, 2) := by decide +kernel
theorem dX10_map_43 : decode cX10_map 43 = .ok (.bipush 30, 2) := by decide +kernel
theorem dX10_map_45 : decode cX10_map 45 = .ok (.if_icmp .ge 17, 3) := by decide +kernel
theorem dX10_map_48 : decode cX10_map 48 = .ok (.aload_n 0, 1) := by decide +kernel
theorem dX10_map_49 : decode cX10_map 49 = .ok (.getfield 44, 3) := by decide +kernel
theorem dX10_map_52 : decode cX10_map 52 = .ok (.iload 4, 2) := by decide +kernel
theorem dX10_map_54 : decode cX10_map 54 = .ok (.iconst (-1), 1) := by decide +kernel
theorem dX10_map_55 : decode cX10_map 55 = .ok (.iastore, 1) := by decide +kernel
theorem dX10_map_56 : decode cX10_map 56 = .ok (.iinc 4 1, 3) := by decide +kernel
theorem dX10_map_59 : decode cX10_map 59 = .ok (.goto (-18), 3) := by decide +kernel
theorem dX10_map_62 : decode cX10_map 62 = .ok (.iconst 0, 1) := by decide +kernel
theorem dX10_map_63 : decode cX10_map 63 = .ok (.istore 4, 2) := by decide +kernel
theorem dX10_map_65 : decode cX10_map 65 = .ok (.iload 4, 2) := by decide +kernel
theorem dX10_map_67 : decode cX10_map 67 = .ok (.bipush 30, 2) := by decide +kernel
theorem dX10_map_69 : decode cX10_map 69 = .ok (.if_icmp .ge 17, 3) := by decide +kernel
theorem dX10_map_72 : decode cX10_map 72 = .ok (.aload_n 0, 1) := by decide +kernel
theorem dX10_map_73 : decode cX10_map 73 = .ok (.getfield 47, 3) := by decide +kernel
theorem dX10_map_76 : decode cX10_map 76 = .ok (.iload 4, 2) := by decide +kernel
theorem dX10_map_78 : decode cX10_map 78 = .ok (.iconst (-1), 1) := by decide +kernel
theorem dX10_map_79 : decode cX10_map 79 = .ok (.iastore, 1) := by decide +kernel
theorem dX10_map_80 : decode cX10_map 80 = .ok (.iinc 4 1, 3) := by decide +kernel
theorem dX10_map_83 : decode cX10_map 83 = .ok (.goto (-18), 3) := by decide +kernel
theorem dX10_map_86 : decode cX10_map 86 = .ok (.iconst 1, 1) := by decide +kernel
theorem dX10_map_87 : decode cX10_map 87 = .ok (.istore 4, 2) := by decide +kernel
theorem dX10_map_89 : decode cX10_map 89 = .ok (.aload_n 0, 1) := by decide +kernel
theorem dX10_map_90 : decode cX10_map 90 = .ok (.getfield 50, 3) := by decide +kernel
theorem dX10_map_93 : decode cX10_map 93 = .ok (.iconst 0, 1) := by decide +kernel
theorem dX10_map_94 : decode cX10_map 94 = .ok (.iconst 0, 1) := by decide +kernel
theorem dX10_map_95 : decode cX10_map 95 = .ok (.iastore, 1) := by decide +kernel
theorem dX10_map_96 : decode cX10_map 96 = .ok (.aload_n 0, 1) := by decide +kernel
theorem dX10_map_97 : decode cX10_map 97 = .ok (.getfield 53, 3) := by decide +kernel
theorem dX10_map_100 : decode cX10_map 100 = .ok (.iconst 0, 1) := by decide +kernel
theorem dX10_map_101 : decode cX10_map 101 = .ok (.aload_n 0, 1) := by decide +kernel
theorem dX10_map_102 : decode cX10_map 102 = .ok (.getfield 13, 3) := by decide +kernel
theorem dX10_map_105 : decode cX10_map 105 = .ok (.iload_n 1, 1) := by decide +kernel
theorem dX10_map_106 : decode cX10_map 106 = .ok (.iaload, 1) := by decide +kernel
theorem dX10_map_107 : decode cX10_map 107 = .ok (.iastore, 1) := by decide +kernel
theorem dX10_map_108 : decode cX10_map 108 = .ok (.aload_n 0, 1) := by decide +kernel
theorem dX10_map_109 : decode cX10_map 109 = .ok (.getfield 56, 3) := by decide +kernel
theorem dX10_map_112 : decode cX10_map 112 = .ok (.iconst 0, 1) := by decide +kernel
theorem dX10_map_113 : decode cX10_map 113 = .ok (.iconst 0, 1) := by decide +kernel
theorem dX10_map_114 : decode cX10_map 114 = .ok (.iastore, 1) := by decide +kernel
theorem dX10_map_115 : decode cX10_map 115 = .ok (.aload_n 0, 1) := by decide +kernel
theorem dX10_map_116 : decode cX10_map 116 = .ok (.getfield 59, 3) := by decide +kernel
theorem dX10_map_119 : decode cX10_map 119 = .ok (.iconst 0, 1) := by decide +kernel
theorem dX10_map_120 : decode cX10_map 120 = .ok (.aload_n 0, 1) := by decide +kernel
theorem dX10_map_121 : decode cX10_map 121 = .ok (.getfield 13, 3) := by decide +kernel
theorem dX10_map_124 : decode cX10_map 124 = .ok (.iload_n 2, 1) := by decide +kernel
theorem dX10_map_125 : decode cX10_map 125 = .ok (.iaload, 1) := by decide +kernel
theorem dX10_map_126 : decode cX10_map 126 = .ok (.iastore, 1) := by decide +kernel
theorem dX10_map_127 : decode cX10_map 127 = .ok (.iload 4, 2) := by decide +kernel
theorem dX10_map_129 : decode cX10_map 129 = .ok (.ifCond .le 351, 3) := by decide +kernel
theorem dX10_map_132 : decode cX10_map 132 = .ok (.iload 4, 2) := by decide +kernel
theorem dX10_map_134 : decode cX10_map 134 = .ok (.iconst 1, 1) := by decide +kernel
theorem dX10_map_135 : decode cX10_map 135 = .ok (.isub, 1) := by decide +kernel
theorem dX10_map_136 : decode cX10_map 136 = .ok (.istore 5, 2) := by decide +kernel
theorem dX10_map_138 : decode cX10_map 138 = .ok (.aload_n 0, 1) := by decide +kernel
theorem dX10_map_139 : decode cX10_map 139 = .ok (.getfield 50, 3) := by decide +kernel
theorem dX10_map_142 : decode cX10_map 142 = .ok (.iload 5, 2) := by decide +kernel
theorem dX10_map_144 : decode cX10_map 144 = .ok (.iaload, 1) := by decide +kernel
theorem dX10_map_145 : decode cX10_map 145 = .ok (.istore 6, 2) := by decide +kernel
theorem dX10_map_147 : decode cX10_map 147 = .ok (.aload_n 0, 1) := by decide +kernel
theorem dX10_map_148 : decode cX10_map 148 = .ok (.getfield 56, 3) := by decide +kernel
theorem dX10_map_151 : decode cX10_map 151 = .ok (.iload 5, 2) := by decide +kernel
theorem dX10_map_153 : decode cX10_map 153 = .ok (.iaload, 1) := by decide +kernel
theorem dX10_map_154 : decode cX10_map 154 = .ok (.istore 7, 2) := by decide +kernel
theorem dX10_map_156 : decode cX10_map 156 = .ok (.iload 6, 2) := by decide +kernel
theorem dX10_map_158 : decode cX10_map 158 = .ok (.aload_n 0, 1) := by decide +kernel
theorem dX10_map_159 : decode cX10_map 159 = .ok (.getfield 53, 3) := by decide +kernel
theorem dX10_map_162 : decode cX10_map 162 = .ok (.iload 5, 2) := by decide +kernel
theorem dX10_map_164 : decode cX10_map 164 = .ok (.iaload, 1) := by decide +kernel
theorem dX10_map_165 : decode cX10_map 165 = .ok (.iadd, 1) := by decide +kernel
theorem dX10_map_166 : decode cX10_map 166 = .ok (.iconst 1, 1) := by decide +kernel
theorem dX10_map_167 : decode cX10_map 167 = .ok (.isub, 1) := by decide +kernel
theorem dX10_map_168 : decode cX10_map 168 = .ok (.istore 8, 2) := by decide +kernel
theorem dX10_map_170 : decode cX10_map 170 = .ok (.iload 7, 2) := by decide +kernel
theorem dX10_map_172 : decode cX10_map 172 = .ok (.aload_n 0, 1) := by decide +kernel
theorem dX10_map_173 : decode cX10_map 173 = .ok (.getfield 59, 3) := by decide +kernel
theorem dX10_map_176 : decode cX10_map 176 = .ok (.iload 5, 2) := by decide +kernel
theorem dX10_map_178 : decode cX10_map 178 = .ok (.iaload, 1) := by decide +kernel
theorem dX10_map_179 : decode cX10_map 179 = .ok (.iadd, 1) := by decide +kernel
theorem dX10_map_180 : decode cX10_map 180 = .ok (.iconst 1, 1) := by decide +kernel
theorem dX10_map_181 : decode cX10_map 181 = .ok (.isub, 1) := by decide +kernel
theorem dX10_map_182 : decode cX10_map 182 = .ok (.istore 9, 2) := by decide +kernel
theorem dX10_map_184 : decode cX10_map 184 = .ok (.aload_n 0, 1) := by decide +kernel
theorem dX10_map_185 : decode cX10_map 185 = .ok (.getfield 53, 3) := by decide +kernel
theorem dX10_map_188 : decode cX10_map 188 = .ok (.iload 5, 2) := by decide +kernel
theorem dX10_map_190 : decode cX10_map 190 = .ok (.iaload, 1) := by decide +kernel
theorem dX10_map_191 : decode cX10_map 191 = .ok (.ifCond .eq 13, 3) := by decide +kernel
theorem dX10_map_194 : decode cX10_map 194 = .ok (.aload_n 0, 1) := by decide +kernel
theorem dX10_map_195 : decode cX10_map 195 = .ok (.getfield 59, 3) := by decide +kernel
theorem dX10_map_198 : decode cX10_map 198 = .ok (.iload 5, 2) := by decide +kernel
theorem dX10_map_200 : decode cX10_map 200 = .ok (.iaload, 1) := by decide +kernel
theorem dX10_map_201 : decode cX10_map 201 = .ok (.ifCond .ne 9, 3) := by decide +kernel
theorem dX10_map_204 : decode cX10_map 204 = .ok (.iinc 4 (-1), 3) := by decide +kernel
theorem dX10_map_207 : decode cX10_map 207 = .ok (.goto (-80), 3) := by decide +kernel
theorem dX10_map_210 : decode cX10_map 210 = .ok (.aload_n 0, 1) := by decide +kernel
theorem dX10_map_211 : decode cX10_map 211 = .ok (.getfield 41, 3) := by decide +kernel
theorem dX10_map_214 : decode cX10_map 214 = .ok (.iload 6, 2) := by decide +kernel
theorem dX10_map_216 : decode cX10_map 216 = .ok (.aload_n 0, 1) := by decide +kernel
theorem dX10_map_217 : decode cX10_map 217 = .ok (.getfield 53, 3) := by decide +kernel
theorem dX10_map_220 : decode cX10_map 220 = .ok (.iload 5, 2) := by decide +kernel
theorem dX10_map_222 : decode cX10_map 222 = .ok (.iaload, 1) := by decide +kernel
theorem dX10_map_223 : decode cX10_map 223 = .ok (.iload 7, 2) := by decide +kernel
theorem dX10_map_225 : decode cX10_map 225 = .ok (.aload_n 0, 1) := by decide +kernel
theorem dX10_map_226 : decode cX10_map 226 = .ok (.getfield 59, 3) := by decide +kernel
theorem dX10_map_229 : decode cX10_map 229 = .ok (.iload 5, 2) := by decide +kernel
theorem dX10_map_231 : decode cX10_map 231 = .ok (.iaload, 1) := by decide +kernel
theorem dX10_map_232 : decode cX10_map 232 = .ok (.invokestatic 201, 3) := by decide +kernel
theorem dX10_map_235 : decode cX10_map 235 = .ok (.iaload, 1) := by decide +kernel
theorem dX10_map_236 : decode cX10_map 236 = .ok (.istore 10, 2) := by decide +kernel
theorem dX10_map_238 : decode cX10_map 238 = .ok (.aload_n 0, 1) := by decide +kernel
theorem dX10_map_239 : decode cX10_map 239 = .ok (.iload_n 1, 1) := by decide +kernel
theorem dX10_map_240 : decode cX10_map 240 = .ok (.iload_n 2, 1) := by decide +kernel
theorem dX10_map_241 : decode cX10_map 241 = .ok (.iload 6, 2) := by decide +kernel
theorem dX10_map_243 : decode cX10_map 243 = .ok (.iload 8, 2) := by decide +kernel
theorem dX10_map_245 : decode cX10_map 245 = .ok (.iload 7, 2) := by decide +kernel
theorem dX10_map_247 : decode cX10_map 247 = .ok (.iload 9, 2) := by decide +kernel
theorem dX10_map_249 : decode cX10_map 249 = .ok (.invokevirtual 208, 3) := by decide +kernel
theorem dX10_map_252 : decode cX10_map 252 = .ok (.iload 10, 2) := by decide +kernel
theorem dX10_map_254 : decode cX10_map 254 = .ok (.if_icmp .ne 158, 3) := by decide +kernel
theorem dX10_map_257 : decode cX10_map 257 = .ok (.aload_n 0, 1) := by decide +kernel
theorem dX10_map_258 : decode cX10_map 258 = .ok (.getfield 44, 3) := by decide +kernel
theorem dX10_map_261 : decode cX10_map 261 = .ok (.aload_n 0, 1) := by decide +kernel
theorem dX10_map_262 : decode cX10_map 262 = .ok (.getfield 34, 3) := by decide +kernel
theorem dX10_map_265 : decode cX10_map 265 = .ok (.iload 8, 2) := by decide +kernel
theorem dX10_map_267 : decode cX10_map 267 = .ok (.iaload, 1) := by decide +kernel
theorem dX10_map_268 : decode cX10_map 268 = .ok (.aload_n 0, 1) := by decide +kernel
theorem dX10_map_269 : decode cX10_map 269 = .ok (.getfield 34, 3) := by decide +kernel
theorem dX10_map_272 : decode cX10_map 272 = .ok (.bipush 30, 2) := by decide +kernel
theorem dX10_map_274 : decode cX10_map 274 = .ok (.iload 9, 2) := by decide +kernel
theorem dX10_map_276 : decode cX10_map 276 = .ok (.iadd, 1) := by decide +kernel
theorem dX10_map_277 : decode cX10_map 277 = .ok (.iaload, 1) := by decide +kernel
theorem dX10_map_278 : decode cX10_map 278 = .ok (.iastore, 1) := by decide +kernel
theorem dX10_map_279 : decode cX10_map 279 = .ok (.aload_n 0, 1) := by decide +kernel
theorem dX10_map_280 : decode cX10_map 280 = .ok (.getfield 47, 3) := by decide +kernel
theorem dX10_map_283 : decode cX10_map 283 = .ok (.aload_n 0, 1) := by decide +kernel
theorem dX10_map_284 : decode cX10_map 284 = .ok (.getfield 34, 3) := by decide +kernel
theorem dX10_map_287 : decode cX10_map 287 = .ok (.bipush 30, 2) := by decide +kernel
theorem dX10_map_289 : decode cX10_map 289 = .ok (.iload 9, 2) := by decide +kernel
theorem dX10_map_291 : decode cX10_map 291 = .ok (.iadd, 1) := by decide +kernel
theorem dX10_map_292 : decode cX10_map 292 = .ok (.iaload, 1) := by decide +kernel
theorem dX10_map_293 : decode cX10_map 293 = .ok (.aload_n 0, 1) := by decide +kernel
theorem dX10_map_294 : decode cX10_map 294 = .ok (.getfield 34, 3) := by decide +kernel
theorem dX10_map_297 : decode cX10_map 297 = .ok (.iload 8, 2) := by decide +kernel
theorem dX10_map_299 : decode cX10_map 299 = .ok (.iaload, 1) := by decide +kernel
theorem dX10_map_300 : decode cX10_map 300 = .ok (.iastore, 1) := by decide +kernel
theorem dX10_map_301 : decode cX10_map 301 = .ok (.aload_n 0, 1) := by decide +kernel
theorem dX10_map_302 : decode cX10_map 302 = .ok (.getfield 53, 3) := by decide +kernel
theorem dX10_map_305 : decode cX10_map 305 = .ok (.iload 5, 2) := by decide +kernel
theorem dX10_map_307 : decode cX10_map 307 = .ok (.aload_n 0, 1) := by decide +kernel
theorem dX10_map_308 : decode cX10_map 308 = .ok (.getfield 37, 3) := by decide +kernel
theorem dX10_map_311 : decode cX10_map 311 = .ok (.iload 8, 2) := by decide +kernel
theorem dX10_map_313 : decode cX10_map 313 = .ok (.iaload, 1) := by decide +kernel
theorem dX10_map_314 : decode cX10_map 314 = .ok (.iload 6, 2) := by decide +kernel
theorem dX10_map_316 : decode cX10_map 316 = .ok (.isub, 1) := by decide +kernel
theorem dX10_map_317 : decode cX10_map 317 = .ok (.iastore, 1) := by decide +kernel
theorem dX10_map_318 : decode cX10_map 318 = .ok (.aload_n 0, 1) := by decide +kernel
theorem dX10_map_319 : decode cX10_map 319 = .ok (.getfield 59, 3) := by decide +kernel
theorem dX10_map_322 : decode cX10_map 322 = .ok (.iload 5, 2) := by decide +kernel
theorem dX10_map_324 : decode cX10_map 324 = .ok (.aload_n 0, 1) := by decide +kernel
theorem dX10_map_325 : decode cX10_map 325 = .ok (.getfield 37, 3) := by decide +kernel
theorem dX10_map_328 : decode cX10_map 328 = .ok (.bipush 30, 2) := by decide +kernel
theorem dX10_map_330 : decode cX10_map 330 = .ok (.iload 9, 2) := by decide +kernel
theorem dX10_map_332 : decode cX10_map 332 = .ok (.iadd, 1) := by decide +kernel
theorem dX10_map_333 : decode cX10_map 333 = .ok (.iaload, 1) := by decide +kernel
theorem dX10_map_334 : decode cX10_map 334 = .ok (.iload 7, 2) := by decide +kernel
theorem dX10_map_336 : decode cX10_map 336 = .ok (.isub, 1) := by decide +kernel
theorem dX10_map_337 : decode cX10_map 337 = .ok (.iastore, 1) := by decide +kernel
theorem dX10_map_338 : decode cX10_map 338 = .ok (.aload_n 0, 1) := by decide +kernel
theorem dX10_map_339 : decode cX10_map 339 = .ok (.getfield 50, 3) := by decide +kernel
theorem dX10_map_342 : decode cX10_map 342 = .ok (.iload 4, 2) := by decide +kernel
theorem dX10_map_344 : decode cX10_map 344 = .ok (.aload_n 0, 1) := by decide +kernel
theorem dX10_map_345 : decode cX10_map 345 = .ok (.getfield 37, 3) := by decide +kernel
theorem dX10_map_348 : decode cX10_map 348 = .ok (.iload 8, 2) := by decide +kernel
theorem dX10_map_350 : decode cX10_map 350 = .ok (.iaload, 1) := by decide +kernel
theorem dX10_map_351 : decode cX10_map 351 = .ok (.iastore, 1) := by decide +kernel
theorem dX10_map_352 : decode cX10_map 352 = .ok (.aload_n 0, 1) := by decide +kernel
theorem dX10_map_353 : decode cX10_map 353 = .ok (.getfield 53, 3) := by decide +kernel
theorem dX10_map_356 : decode cX10_map 356 = .ok (.iload 4, 2) := by decide +kernel
theorem dX10_map_358 : decode cX10_map 358 = .ok (.iload 8, 2) := by decide +kernel
theorem dX10_map_360 : decode cX10_map 360 = .ok (.aload_n 0, 1) := by decide +kernel
theorem dX10_map_361 : decode cX10_map 361 = .ok (.getfield 37, 3) := by decide +kernel
theorem dX10_map_364 : decode cX10_map 364 = .ok (.iload 8, 2) := by decide +kernel
theorem dX10_map_366 : decode cX10_map 366 = .ok (.iaload, 1) := by decide +kernel
theorem dX10_map_367 : decode cX10_map 367 = .ok (.isub, 1) := by decide +kernel
theorem dX10_map_368 : decode cX10_map 368 = .ok (.iastore, 1) := by decide +kernel
theorem dX10_map_369 : decode cX10_map 369 = .ok (.aload_n 0, 1) := by decide +kernel
theorem dX10_map_370 : decode cX10_map 370 = .ok (.getfield 56, 3) := by decide +kernel
theorem dX10_map_373 : decode cX10_map 373 = .ok (.iload 4, 2) := by decide +kernel
theorem dX10_map_375 : decode cX10_map 375 = .ok (.aload_n 0, 1) := by decide +kernel
theorem dX10_map_376 : decode cX10_map 376 = .ok (.getfield 37, 3) := by decide +kernel
theorem dX10_map_379 : decode cX10_map 379 = .ok (.bipush 30, 2) := by decide +kernel
theorem dX10_map_381 : decode cX10_map 381 = .ok (.iload 9, 2) := by decide +kernel
theorem dX10_map_383 : decode cX10_map 383 = .ok (.iadd, 1) := by decide +kernel
theorem dX10_map_384 : decode cX10_map 384 = .ok (.iaload, 1) := by decide +kernel
theorem dX10_map_385 : decode cX10_map 385 = .ok (.iastore, 1) := by decide +kernel
theorem dX10_map_386 : decode cX10_map 386 = .ok (.aload_n 0, 1) := by decide +kernel
theorem dX10_map_387 : decode cX10_map 387 = .ok (.getfield 59, 3) := by decide +kernel
theorem dX10_map_390 : decode cX10_map 390 = .ok (.iload 4, 2) := by decide +kernel
theorem dX10_map_392 : decode cX10_map 392 = .ok (.iload 9, 2) := by decide +kernel
theorem dX10_map_394 : decode cX10_map 394 = .ok (.aload_n 0, 1) := by decide +kernel
theorem dX10_map_395 : decode cX10_map 395 = .ok (.getfield 37, 3) := by decide +kernel
theorem dX10_map_398 : decode cX10_map 398 = .ok (.bipush 30, 2) := by decide +kernel
theorem dX10_map_400 : decode cX10_map 400 = .ok (.iload 9, 2) := by decide +kernel
theorem dX10_map_402 : decode cX10_map 402 = .ok (.iadd, 1) := by decide +kernel
theorem dX10_map_403 : decode cX10_map 403 = .ok (.iaload, 1) := by decide +kernel
theorem dX10_map_404 : decode cX10_map 404 = .ok (.isub, 1) := by decide +kernel
theorem dX10_map_405 : decode cX10_map 405 = .ok (.iastore, 1) := by decide +kernel
theorem dX10_map_406 : decode cX10_map 406 = .ok (.iinc 4 1, 3) := by decide +kernel
theorem dX10_map_409 : decode cX10_map 409 = .ok (.goto 68, 3) := by decide +kernel
theorem dX10_map_412 : decode cX10_map 412 = .ok (.aload_n 0, 1) := by decide +kernel
theorem dX10_map_413 : decode cX10_map 413 = .ok (.getfield 41, 3) := by decide +kernel
theorem dX10_map_416 : decode cX10_map 416 = .ok (.iload 6, 2) := by decide +kernel
theorem dX10_map_418 : decode cX10_map 418 = .ok (.aload_n 0, 1) := by decide +kernel
theorem dX10_map_419 : decode cX10_map 419 = .ok (.getfield 53, 3) := by decide +kernel
theorem dX10_map_422 : decode cX10_map 422 = .ok (.iload 5, 2) := by decide +kernel
theorem dX10_map_424 : decode cX10_map 424 = .ok (.iaload, 1) := by decide +kernel
theorem dX10_map_425 : decode cX10_map 425 = .ok (.iconst 1, 1) := by decide +kernel
theorem dX10_map_426 : decode cX10_map 426 = .ok (.isub, 1) := by decide +kernel
theorem dX10_map_427 : decode cX10_map 427 = .ok (.iload 7, 2) := by decide +kernel
theorem dX10_map_429 : decode cX10_map 429 = .ok (.aload_n 0, 1) := by decide +kernel
theorem dX10_map_430 : decode cX10_map 430 = .ok (.getfield 59, 3) := by decide +kernel
theorem dX10_map_433 : decode cX10_map 433 = .ok (.iload 5, 2) := by decide +kernel
theorem dX10_map_435 : decode cX10_map 435 = .ok (.iaload, 1) := by decide +kernel
theorem dX10_map_436 : decode cX10_map 436 = .ok (.invokestatic 201, 3) := by decide +kernel
theorem dX10_map_439 : decode cX10_map 439 = .ok (.iaload, 1) := by decide +kernel
theorem dX10_map_440 : decode cX10_map 440 = .ok (.aload_n 0, 1) := by decide +kernel
theorem dX10_map_441 : decode cX10_map 441 = .ok (.getfield 22, 3) := by decide +kernel
theorem dX10_map_444 : decode cX10_map 444 = .ok (.iconst 3, 1) := by decide +kernel
theorem dX10_map_445 : decode cX10_map 445 = .ok (.iaload, 1) := by decide +kernel
theorem dX10_map_446 : decode cX10_map 446 = .ok (.iadd, 1) := by decide +kernel
theorem dX10_map_447 : decode cX10_map 447 = .ok (.iload 10, 2) := by decide +kernel
theorem dX10_map_449 : decode cX10_map 449 = .ok (.if_icmp .ne 17, 3) := by decide +kernel
theorem dX10_map_452 : decode cX10_map 452 = .ok (.aload_n 0, 1) := by decide +kernel
theorem dX10_map_453 : decode cX10_map 453 = .ok (.getfield 53, 3) := by decide +kernel
theorem dX10_map_456 : decode cX10_map 456 = .ok (.iload 5, 2) := by decide +kernel
theorem dX10_map_458 : decode cX10_map 458 = .ok (.dup2, 1) := by decide +kernel
theorem dX10_map_459 : decode cX10_map 459 = .ok (.iaload, 1) := by decide +kernel
theorem dX10_map_460 : decode cX10_map 460 = .ok (.iconst 1, 1) := by decide +kernel
theorem dX10_map_461 : decode cX10_map 461 = .ok (.isub, 1) := by decide +kernel
theorem dX10_map_462 : decode cX10_map 462 = .ok (.iastore, 1) := by decide +kernel
theorem dX10_map_463 : decode cX10_map 463 = .ok (.goto 14, 3) := by decide +kernel
theorem dX10_map_466 : decode cX10_map 466 = .ok (.aload_n 0, 1) := by decide +kernel
theorem dX10_map_467 : decode cX10_map 467 = .ok (.getfield 59, 3) := by decide +kernel
theorem dX10_map_470 : decode cX10_map 470 = .ok (.iload 5, 2) := by decide +kernel
theorem dX10_map_472 : decode cX10_map 472 = .ok (.dup2, 1) := by decide +kernel
theorem dX10_map_473 : decode cX10_map 473 = .ok (.iaload, 1) := by decide +kernel
theorem dX10_map_474 : decode cX10_map 474 = .ok (.iconst 1, 1) := by decide +kernel
theorem dX10_map_475 : decode cX10_map 475 = .ok (.isub, 1) := by decide +kernel
theorem dX10_map_476 : decode cX10_map 476 = .ok (.iastore, 1) := by decide +kernel
theorem dX10_map_477 : decode cX10_map 477 = .ok (.goto (-350), 3) := by decide +kernel
theorem dX10_map_480 : decode cX10_map 480 = .ok (.aload_n 0, 1) := by decide +kernel
theorem dX10_map_481 : decode cX10_map 481 = .ok (.iload_n 1, 1) := by decide +kernel
theorem dX10_map_482 : decode cX10_map 482 = .ok (.iload_n 2, 1) := by decide +kernel
theorem dX10_map_483 : decode cX10_map 483 = .ok (.invokevirtual 221, 3) := by decide +kernel
theorem dX10_map_486 : decode cX10_map 486 = .ok (.aload_n 0, 1) := by decide +kernel
theorem dX10_map_487 : decode cX10_map 487 = .ok (.getfield 224, 3) := by decide +kernel
theorem dX10_map_490 : decode cX10_map 490 = .ok (.ireturn, 1) := by decide +kernel
theorem dX10_tells_0 : decode cX10_tells 0 = .ok (.aload_n 0, 1) := by decide +kernel
theorem dX10_tells_1 : decode cX10_tells 1 = .ok (.iconst 0, 1) := by decide +kernel
theorem dX10_tells_2 : decode cX10_tells 2 = .ok (.putfield 224, 3) := by decide +kernel
theorem dX10_tells_5 : decode cX10_tells 5 = .ok (.aload_n 0, 1) := by decide +kernel
theorem dX10_tells_6 : decode cX10_tells 6 = .ok (.iconst 0, 1) := by decide +kernel
theorem dX10_tells_7 : decode cX10_tells 7 = .ok (.putfield 218, 3) := by decide +kernel
theorem dX10_tells_10 : decode cX10_tells 10 = .ok (.aload_n 0, 1) := by decide +kernel
theorem dX10_tells_11 : decode cX10_tells 11 = .ok (.aload_n 0, 1) := by decide +kernel
theorem dX10_tells_12 : decode cX10_tells 12 = .ok (.getfield 13, 3) := by decide +kernel
theorem dX10_tells_15 : decode cX10_tells 15 = .ok (.iload_n 1, 1) := by decide +kernel
theorem dX10_tells_16 : decode cX10_tells 16 = .ok (.iaload, 1) := by decide +kernel
theorem dX10_tells_17 : decode cX10_tells 17 = .ok (.aload_n 0, 1) := by decide +kernel
theorem dX10_tells_18 : decode cX10_tells 18 = .ok (.getfield 13, 3) := by decide +kernel
theorem dX10_tells_21 : decode cX10_tells 21 = .ok (.iload_n 2, 1) := by decide +kernel
theorem dX10_tells_22 : decode cX10_tells 22 = .ok (.iaload, 1) := by decide +kernel
theorem dX10_tells_23 : decode cX10_tells 23 = .ok (.iadd, 1) := by decide +kernel
theorem dX10_tells_24 : decode cX10_tells 24 = .ok (.putfield 62, 3) := by decide +kernel
theorem dX10_tells_27 : decode cX10_tells 27 = .ok (.iconst 0, 1) := by decide +kernel
theorem dX10_tells_28 : decode cX10_tells 28 = .ok (.istore_n 3, 1) := by decide +kernel
theorem dX10_tells_29 : decode cX10_tells 29 = .ok (.iload_n 3, 1) := by decide +kernel
theorem dX10_tells_30 : decode cX10_tells 30 = .ok (.aload_n 0, 1) := by decide +kernel
theorem dX10_tells_31 : decode cX10_tells 31 = .ok (.getfield 13, 3) := by decide +kernel
theorem dX10_tells_34 : decode cX10_tells 34 = .ok (.iload_n 1, 1) := by decide +kernel
theorem dX10_tells_35 : decode cX10_tells 35 = .ok (.iaload, 1) := by decide +kernel
theorem dX10_tells_36 : decode cX10_tells 36 = .ok (.if_icmp .ge 30, 3) := by decide +kernel
theorem dX10_tells_39 : decode cX10_tells 39 = .ok (.aload_n 0, 1) := by decide +kernel
theorem dX10_tells_40 : decode cX10_tells 40 = .ok (.getfield 44, 3) := by decide +kernel
theorem dX10_tells_43 : decode cX10_tells 43 = .ok (.iload_n 3, 1) := by decide +kernel
theorem dX10_tells_44 : decode cX10_tells 44 = .ok (.iaload, 1) := by decide +kernel
theorem dX10_tells_45 : decode cX10_tells 45 = .ok (.ifCond .ge 15, 3) := by decide +kernel
theorem dX10_tells_48 : decode cX10_tells 48 = .ok (.aload_n 0, 1) := by decide +kernel
theorem dX10_tells_49 : decode cX10_tells 49 = .ok (.iconst 3, 1) := by decide +kernel
theorem dX10_tells_50 : decode cX10_tells 50 = .ok (.aload_n 0, 1) := by decide +kernel
theorem dX10_tells_51 : decode cX10_tells 51 = .ok (.iload_n 1, 1) := by decide +kernel
theorem dX10_tells_52 : decode cX10_tells 52 = .ok (.iload_n 3, 1) := by decide +kernel
theorem dX10_tells_53 : decode cX10_tells 53 = .ok (.iconst 0, 1) := by decide +kernel
theorem dX10_tells_54 : decode cX10_tells 54 = .ok (.invokevirtual 104, 3) := by decide +kernel
theorem dX10_tells_57 : decode cX10_tells 57 = .ok (.invokevirtual 227, 3) := by decide +kernel
theorem dX10_tells_60 : decode cX10_tells 60 = .ok (.iinc 3 1, 3) := by decide +kernel
theorem dX10_tells_63 : decode cX10_tells 63 = .ok (.goto (-34), 3) := by decide +kernel
theorem dX10_tells_66 : decode cX10_tells 66 = .ok (.iconst 0, 1) := by decide +kernel
theorem dX10_tells_67 : decode cX10_tells 67 = .ok (.istore_n 3, 1) := by decide +kernel
theorem dX10_tells_68 : decode cX10_tells 68 = .ok (.iload_n 3, 1) := by decide +kernel
theorem dX10_tells_69 : decode cX10_tells 69 = .ok (.aload_n 0, 1) := by decide +kernel
theorem dX10_tells_70 : decode cX10_tells 70 = .ok (.getfield 13, 3) := by decide +kernel
theorem dX10_tells_73 : decode cX10_tells 73 = .ok (.iload_n 1, 1) := by decide +kernel
theorem dX10_tells_74 : decode cX10_tells 74 = .ok (.iaload, 1) := by decide +kernel
theorem dX10_tells_75 : decode cX10_tells 75 = .ok (.if_icmp .ge 119, 3) := by decide +kernel
theorem dX10_tells_78 : decode cX10_tells 78 = .ok (.aload_n 0, 1) := by decide +kernel
theorem dX10_tells_79 : decode cX10_tells 79 = .ok (.getfield 44, 3) := by decide +kernel
theorem dX10_tells_82 : decode cX10_tells 82 = .ok (.iload_n 3, 1) := by decide +kernel
theorem dX10_tells_83 : decode cX10_tells 83 = .ok (.iaload, 1) := by decide +kernel
theorem dX10_tells_84 : decode cX10_tells 84 = .ok (.istore 4, 2) := by decide +kernel
theorem dX10_tells_86 : decode cX10_tells 86 = .ok (.iload 4, 2) := by decide +kernel
theorem dX10_tells_88 : decode cX10_tells 88 = .ok (.ifCond .ge 6, 3) := by decide +kernel
theorem dX10_tells_91 : decode cX10_tells 91 = .ok (.goto 97, 3) := by decide +kernel
theorem dX10_tells_94 : decode cX10_tells 94 = .ok (.aload_n 0, 1) := by decide +kernel
theorem dX10_tells_95 : decode cX10_tells 95 = .ok (.getfield 66, 3) := by decide +kernel
theorem dX10_tells_98 : decode cX10_tells 98 = .ok (.aload_n 0, 1) := by decide +kernel
theorem dX10_tells_99 : decode cX10_tells 99 = .ok (.getfield 224, 3) := by decide +kernel
theorem dX10_tells_102 : decode cX10_tells 102 = .ok (.aload_n 0, 1) := by decide +kernel
theorem dX10_tells_103 : decode cX10_tells 103 = .ok (.iload_n 1, 1) := by decide +kernel
theorem dX10_tells_104 : decode cX10_tells 104 = .ok (.iload_n 3, 1) := by decide +kernel
theorem dX10_tells_105 : decode cX10_tells 105 = .ok (.iconst 0, 1) := by decide +kernel
theorem dX10_tells_106 : decode cX10_tells 106 = .ok (.invokevirtual 104, 3) := by decide +kernel
theorem dX10_tells_109 : decode cX10_tells 109 = .ok (.iastore, 1) := by decide +kernel
theorem dX10_tells_110 : decode cX10_tells 110 = .ok (.aload_n 0, 1) := by decide +kernel
theorem dX10_tells_111 : decode cX10_tells 111 = .ok (.getfield 69, 3) := by decide +kernel
theorem dX10_tells_114 : decode cX10_tells 114 = .ok (.aload_n 0, 1) := by decide +kernel
theorem dX10_tells_115 : decode cX10_tells 115 = .ok (.getfield 224, 3) := by decide +kernel
theorem dX10_tells_118 : decode cX10_tells 118 = .ok (.aload_n 0, 1) := by decide +kernel
theorem dX10_tells_119 : decode cX10_tells 119 = .ok (.iload_n 2, 1) := by decide +kernel
theorem dX10_tells_120 : decode cX10_tells 120 = .ok (.iload 4, 2) := by decide +kernel
theorem dX10_tells_122 : decode cX10_tells 122 = .ok (.iconst 0, 1) := by decide +kernel
theorem dX10_tells_123 : decode cX10_tells 123 = .ok (.invokevirtual 104, 3) := by decide +kernel
theorem dX10_tells_126 : decode cX10_tells 126 = .ok (.iastore, 1) := by decide +kernel
theorem dX10_tells_127 : decode cX10_tells 127 = .ok (.aload_n 0, 1) := by decide +kernel
theorem dX10_tells_128 : decode cX10_tells 128 = .ok (.dup, 1) := by decide +kernel
theorem dX10_tells_129 : decode cX10_tells 129 = .ok (.getfield 224, 3) := by decide +kernel
theorem dX10_tells_132 : decode cX10_tells 132 = .ok (.iconst 1, 1) := by decide +kernel
theorem dX10_tells_133 : decode cX10_tells 133 = .ok (.iadd, 1) := by decide +kernel
theorem dX10_tells_134 : decode cX10_tells 134 = .ok (.putfield 224, 3) := by decide +kernel
theorem dX10_tells_137 : decode cX10_tells 137 = .ok (.aload_n 0, 1) := by decide +kernel
theorem dX10_tells_138 : decode cX10_tells 138 = .ok (.iload_n 1, 1) := by decide +kernel
theorem dX10_tells_139 : decode cX10_tells 139 = .ok (.iload_n 3, 1) := by decide +kernel
theorem dX10_tells_140 : decode cX10_tells 140 = .ok (.iload_n 2, 1) := by decide +kernel
theorem dX10_tells_141 : decode cX10_tells 141 = .ok (.iload 4, 2) := by decide +kernel
theorem dX10_tells_143 : decode cX10_tells 143 = .ok (.iconst 3, 1) := by decide +kernel
theorem dX10_tells_144 : decode cX10_tells 144 = .ok (.invokevirtual 122, 3) := by decide +kernel
theorem dX10_tells_147 : decode cX10_tells 147 = .ok (.ifCond .ne 15, 3) := by decide +kernel
theorem dX10_tells_150 : decode cX10_tells 150 = .ok (.aload_n 0, 1) := by decide +kernel
theorem dX10_tells_151 : decode cX10_tells 151 = .ok (.iconst 0, 1) := by decide +kernel
theorem dX10_tells_152 : decode cX10_tells 152 = .ok (.aload_n 0, 1) := by decide +kernel
theorem dX10_tells_153 : decode cX10_tells 153 = .ok (.iload_n 1, 1) := by decide +kernel
theorem dX10_tells_154 : decode cX10_tells 154 = .ok (.iload_n 3, 1) := by decide +kernel
theorem dX10_tells_155 : decode cX10_tells 155 = .ok (.iconst 0, 1) := by decide +kernel
theorem dX10_tells_156 : decode cX10_tells 156 = .ok (.invokevirtual 104, 3) := by decide +kernel
theorem dX10_tells_159 : decode cX10_tells 159 = .ok (.invokevirtual 227, 3) := by decide +kernel
theorem dX10_tells_162 : decode cX10_tells 162 = .ok (.aload_n 0, 1) := by decide +kernel
theorem dX10_tells_163 : decode cX10_tells 163 = .ok (.iload_n 1, 1) := by decide +kernel
theorem dX10_tells_164 : decode cX10_tells 164 = .ok (.iload_n 3, 1) := by decide +kernel
theorem dX10_tells_165 : decode cX10_tells 165 = .ok (.iload_n 2, 1) := by decide +kernel
theorem dX10_tells_166 : decode cX10_tells 166 = .ok (.iload 4, 2) := by decide +kernel
theorem dX10_tells_168 : decode cX10_tells 168 = .ok (.bipush 10, 2) := by decide +kernel
theorem dX10_tells_170 : decode cX10_tells 170 = .ok (.invokevirtual 122, 3) := by decide +kernel
theorem dX10_tells_173 : decode cX10_tells 173 = .ok (.ifCond .ne 15, 3) := by decide +kernel
theorem dX10_tells_176 : decode cX10_tells 176 = .ok (.aload_n 0, 1) := by decide +kernel
theorem dX10_tells_177 : decode cX10_tells 177 = .ok (.iconst 1, 1) := by decide +kernel
theorem dX10_tells_178 : decode cX10_tells 178 = .ok (.aload_n 0, 1) := by decide +kernel
theorem dX10_tells_179 : decode cX10_tells 179 = .ok (.iload_n 1, 1) := by decide +kernel
theorem dX10_tells_180 : decode cX10_tells 180 = .ok (.iload_n 3, 1) := by decide +kernel
theorem dX10_tells_181 : decode cX10_tells 181 = .ok (.iconst 0, 1) := by decide +kernel
theorem dX10_tells_182 : decode cX10_tells 182 = .ok (.invokevirtual 104, 3) := by decide +kernel
theorem dX10_tells_185 : decode cX10_tells 185 = .ok (.invokevirtual 227, 3) := by decide +kernel
theorem dX10_tells_188 : decode cX10_tells 188 = .ok (.iinc 3 1, 3) := by decide +kernel
theorem dX10_tells_191 : decode cX10_tells 191 = .ok (.goto (-123), 3) := by decide +kernel
theorem dX10_tells_194 : decode cX10_tells 194 = .ok (.iconst 0, 1) := by decide +kernel
theorem dX10_tells_195 : decode cX10_tells 195 = .ok (.istore_n 3, 1) := by decide +kernel
theorem dX10_tells_196 : decode cX10_tells 196 = .ok (.iload_n 3, 1) := by decide +kernel
theorem dX10_tells_197 : decode cX10_tells 197 = .ok (.aload_n 0, 1) := by decide +kernel
theorem dX10_tells_198 : decode cX10_tells 198 = .ok (.getfield 13, 3) := by decide +kernel
theorem dX10_tells_201 : decode cX10_tells 201 = .ok (.iload_n 2, 1) := by decide +kernel
theorem dX10_tells_202 : decode cX10_tells 202 = .ok (.iaload, 1) := by decide +kernel
theorem dX10_tells_203 : decode cX10_tells 203 = .ok (.if_icmp .ge 46, 3) := by decide +kernel
theorem dX10_tells_206 : decode cX10_tells 206 = .ok (.aload_n 0, 1) := by decide +kernel
theorem dX10_tells_207 : decode cX10_tells 207 = .ok (.getfield 47, 3) := by decide +kernel
theorem dX10_tells_210 : decode cX10_tells 210 = .ok (.aload_n 0, 1) := by decide +kernel
theorem dX10_tells_211 : decode cX10_tells 211 = .ok (.getfield 34, 3) := by decide +kernel
theorem dX10_tells_214 : decode cX10_tells 214 = .ok (.bipush 30, 2) := by decide +kernel
theorem dX10_tells_216 : decode cX10_tells 216 = .ok (.iload_n 3, 1) := by decide +kernel
theorem dX10_tells_217 : decode cX10_tells 217 = .ok (.iadd, 1) := by decide +kernel
theorem dX10_tells_218 : decode cX10_tells 218 = .ok (.iaload, 1) := by decide +kernel
theorem dX10_tells_219 : decode cX10_tells 219 = .ok (.iaload, 1) := by decide +kernel
theorem dX10_tells_220 : decode cX10_tells 220 = .ok (.ifCond .ge 23, 3) := by decide +kernel
theorem dX10_tells_223 : decode cX10_tells 223 = .ok (.aload_n 0, 1) := by decide +kernel
theorem dX10_tells_224 : decode cX10_tells 224 = .ok (.iconst 2, 1) := by decide +kernel
theorem dX10_tells_225 : decode cX10_tells 225 = .ok (.aload_n 0, 1) := by decide +kernel
theorem dX10_tells_226 : decode cX10_tells 226 = .ok (.iload_n 2, 1) := by decide +kernel
theorem dX10_tells_227 : decode cX10_tells 227 = .ok (.aload_n 0, 1) := by decide +kernel
theorem dX10_tells_228 : decode cX10_tells 228 = .ok (.getfield 34, 3) := by decide +kernel
theorem dX10_tells_231 : decode cX10_tells 231 = .ok (.bipush 30, 2) := by decide +kernel
theorem dX10_tells_233 : decode cX10_tells 233 = .ok (.iload_n 3, 1) := by decide +kernel
theorem dX10_tells_234 : decode cX10_tells 234 = .ok (.iadd, 1) := by decide +kernel
theorem dX10_tells_235 : decode cX10_tells 235 = .ok (.iaload, 1) := by decide +kernel
theorem dX10_tells_236 : decode cX10_tells 236 = .ok (.iconst 0, 1) := by decide +kernel
theorem dX10_tells_237 : decode cX10_tells 237 = .ok (.invokevirtual 104, 3) := by decide +kernel
theorem dX10_tells_240 : decode cX10_tells 240 = .ok (.invokevirtual 227, 3) := by decide +kernel
theorem dX10_tells_243 : decode cX10_tells 243 = .ok (.iinc 3 1, 3) := by decide +kernel
theorem dX10_tells_246 : decode cX10_tells 246 = .ok (.goto (-50), 3) := by decide +kernel
theorem dX10_tells_249 : decode cX10_tells 249 = .ok (.return_, 1) := by decide +kernel
theorem dX10_pair_0 : decode cX10_pair 0 = .ok (.iload_n 1, 1) := by decide +kernel
theorem dX10_pair_1 : decode cX10_pair 1 = .ok (.iconst 0, 1) := by decide +kernel
theorem dX10_pair_2 : decode cX10_pair 2 = .ok (.aload_n 0, 1) := by decide +kernel
theorem dX10_pair_3 : decode cX10_pair 3 = .ok (.getfield 224, 3) := by decide +kernel
theorem dX10_pair_6 : decode cX10_pair 6 = .ok (.iconst 1, 1) := by decide +kernel
theorem dX10_pair_7 : decode cX10_pair 7 = .ok (.isub, 1) := by decide +kernel
theorem dX10_pair_8 : decode cX10_pair 8 = .ok (.invokestatic 96, 3) := by decide +kernel
theorem dX10_pair_11 : decode cX10_pair 11 = .ok (.ifCond .ne 10, 3) := by decide +kernel
theorem dX10_pair_14 : decode cX10_pair 14 = .ok (.aload_n 0, 1) := by decide +kernel
theorem dX10_pair_15 : decode cX10_pair 15 = .ok (.bipush (-6), 2) := by decide +kernel
theorem dX10_pair_17 : decode cX10_pair 17 = .ok (.invokevirtual 126, 3) := by decide +kernel
theorem dX10_pair_20 : decode cX10_pair 20 = .ok (.ireturn, 1) := by decide +kernel
theorem dX10_pair_21 : decode cX10_pair 21 = .ok (.iload_n 2, 1) := by decide +kernel
theorem dX10_pair_22 : decode cX10_pair 22 = .ok (.ifCond .ne 12, 3) := by decide +kernel
theorem dX10_pair_25 : decode cX10_pair 25 = .ok (.aload_n 0, 1) := by decide +kernel
theorem dX10_pair_26 : decode cX10_pair 26 = .ok (.getfield 66, 3) := by decide +kernel
theorem dX10_pair_29 : decode cX10_pair 29 = .ok (.iload_n 1, 1) := by decide +kernel
theorem dX10_pair_30 : decode cX10_pair 30 = .ok (.iaload, 1) := by decide +kernel
theorem dX10_pair_31 : decode cX10_pair 31 = .ok (.goto 22, 3) := by decide +kernel
theorem dX10_pair_34 : decode cX10_pair 34 = .ok (.iload_n 2, 1) := by decide +kernel
theorem dX10_pair_35 : decode cX10_pair 35 = .ok (.iconst 1, 1) := by decide +kernel
theorem dX10_pair_36 : decode cX10_pair 36 = .ok (.if_icmp .ne 12, 3) := by decide +kernel
theorem dX10_pair_39 : decode cX10_pair 39 = .ok (.aload_n 0, 1) := by decide +kernel
theorem dX10_pair_40 : decode cX10_pair 40 = .ok (.getfield 69, 3) := by decide +kernel
theorem dX10_pair_43 : decode cX10_pair 43 = .ok (.iload_n 1, 1) := by decide +kernel
theorem dX10_pair_44 : decode cX10_pair 44 = .ok (.iaload, 1) := by decide +kernel
theorem dX10_pair_45 : decode cX10_pair 45 = .ok (.goto 8, 3) := by decide +kernel
theorem dX10_pair_48 : decode cX10_pair 48 = .ok (.aload_n 0, 1) := by decide +kernel
theorem dX10_pair_49 : decode cX10_pair 49 = .ok (.iconst (-1), 1) := by decide +kernel
theorem dX10_pair_50 : decode cX10_pair 50 = .ok (.invokevirtual 126, 3) := by decide +kernel
theorem dX10_pair_53 : decode cX10_pair 53 = .ok (.ireturn, 1) := by decide +kernel
theorem dX10_acts_0 : decode cX10_acts 0 = .ok (.aload_n 0, 1) := by decide +kernel
theorem dX10_acts_1 : decode cX10_acts 1 = .ok (.getfield 218, 3) := by decide +kernel
theorem dX10_acts_4 : decode cX10_acts 4 = .ok (.ireturn, 1) := by decide +kernel
theorem dX10_act_0 : decode cX10_act 0 = .ok (.iload_n 1, 1) := by decide +kernel
theorem dX10_act_1 : decode cX10_act 1 = .ok (.iconst 0, 1) := by decide +kernel
theorem dX10_act_2 : decode cX10_act 2 = .ok (.aload_n 0, 1) := by decide +kernel
theorem dX10_act_3 : decode cX10_act 3 = .ok (.getfield 218, 3) := by decide +kernel
theorem dX10_act_6 : decode cX10_act 6 = .ok (.iconst 1, 1) := by decide +kernel
theorem dX10_act_7 : decode cX10_act 7 = .ok (.isub, 1) := by decide +kernel
theorem dX10_act_8 : decode cX10_act 8 = .ok (.invokestatic 96, 3) := by decide +kernel
theorem dX10_act_11 : decode cX10_act 11 = .ok (.ifCond .ne 10, 3) := by decide +kernel
theorem dX10_act_14 : decode cX10_act 14 = .ok (.aload_n 0, 1) := by decide +kernel
theorem dX10_act_15 : decode cX10_act 15 = .ok (.bipush (-6), 2) := by decide +kernel
theorem dX10_act_17 : decode cX10_act 17 = .ok (.invokevirtual 126, 3) := by decide +kernel
theorem dX10_act_20 : decode cX10_act 20 = .ok (.ireturn, 1) := by decide +kernel
theorem dX10_act_21 : decode cX10_act 21 = .ok (.iload_n 2, 1) := by decide +kernel
theorem dX10_act_22 : decode cX10_act 22 = .ok (.ifCond .ne 12, 3) := by decide +kernel
theorem dX10_act_25 : decode cX10_act 25 = .ok (.aload_n 0, 1) := by decide +kernel
theorem dX10_act_26 : decode cX10_act 26 = .ok (.getfield 72, 3) := by decide +kernel
theorem dX10_act_29 : decode cX10_act 29 = .ok (.iload_n 1, 1) := by decide +kernel
theorem dX10_act_30 : decode cX10_act 30 = .ok (.iaload, 1) := by decide +kernel
theorem dX10_act_31 : decode cX10_act 31 = .ok (.goto 36, 3) := by decide +kernel
theorem dX10_act_34 : decode cX10_act 34 = .ok (.iload_n 2, 1) := by decide +kernel
theorem dX10_act_35 : decode cX10_act 35 = .ok (.iconst 1, 1) := by decide +kernel
theorem dX10_act_36 : decode cX10_act 36 = .ok (.if_icmp .ne 12, 3) := by decide +kernel
theorem dX10_act_39 : decode cX10_act 39 = .ok (.aload_n 0, 1) := by decide +kernel
theorem dX10_act_40 : decode cX10_act 40 = .ok (.getfield 75, 3) := by decide +kernel
theorem dX10_act_43 : decode cX10_act 43 = .ok (.iload_n 1, 1) := by decide +kernel
theorem dX10_act_44 : decode cX10_act 44 = .ok (.iaload, 1) := by decide +kernel
theorem dX10_act_45 : decode cX10_act 45 = .ok (.goto 22, 3) := by decide +kernel
theorem dX10_act_48 : decode cX10_act 48 = .ok (.iload_n 2, 1) := by decide +kernel
theorem dX10_act_49 : decode cX10_act 49 = .ok (.iconst 2, 1) := by decide +kernel
theorem dX10_act_50 : decode cX10_act 50 = .ok (.if_icmp .ne 12, 3) := by decide +kernel
theorem dX10_act_53 : decode cX10_act 53 = .ok (.aload_n 0, 1) := by decide +kernel
theorem dX10_act_54 : decode cX10_act 54 = .ok (.getfield 78, 3) := by decide +kernel
theorem dX10_act_57 : decode cX10_act 57 = .ok (.iload_n 1, 1) := by decide +kernel
theorem dX10_act_58 : decode cX10_act 58 = .ok (.iaload, 1) := by decide +kernel
theorem dX10_act_59 : decode cX10_act 59 = .ok (.goto 8, 3) := by decide +kernel
theorem dX10_act_62 : decode cX10_act 62 = .ok (.aload_n 0, 1) := by decide +kernel
theorem dX10_act_63 : decode cX10_act 63 = .ok (.iconst (-1), 1) := by decide +kernel
theorem dX10_act_64 : decode cX10_act 64 = .ok (.invokevirtual 126, 3) := by decide +kernel
theorem dX10_act_67 : decode cX10_act 67 = .ok (.ireturn, 1) := by decide +kernel
theorem dX10_like_0 : decode cX10_like 0 = .ok (.aload_n 0, 1) := by decide +kernel
theorem dX10_like_1 : decode cX10_like 1 = .ok (.getfield 62, 3) := by decide +kernel
theorem dX10_like_4 : decode cX10_like 4 = .ok (.ifCond .ge 12, 3) := by decide +kernel
theorem dX10_like_7 : decode cX10_like 7 = .ok (.aload_n 0, 1) := by decide +kernel
theorem dX10_like_8 : decode cX10_like 8 = .ok (.bipush (-6), 2) := by decide +kernel
theorem dX10_like_10 : decode cX10_like 10 = .ok (.invokevirtual 126, 3) := by decide +kernel
theorem dX10_like_13 : decode cX10_like 13 = .ok (.goto 16, 3) := by decide +kernel
theorem dX10_like_16 : decode cX10_like 16 = .ok (.sipush 200, 3) := by decide +kernel
theorem dX10_like_19 : decode cX10_like 19 = .ok (.aload_n 0, 1) := by decide +kernel
theorem dX10_like_20 : decode cX10_like 20 = .ok (.getfield 224, 3) := by decide +kernel
theorem dX10_like_23 : decode cX10_like 23 = .ok (.imul, 1) := by decide +kernel
theorem dX10_like_24 : decode cX10_like 24 = .ok (.aload_n 0, 1) := by decide +kernel
theorem dX10_like_25 : decode cX10_like 25 = .ok (.getfield 62, 3) := by decide +kernel
theorem dX10_like_28 : decode cX10_like 28 = .ok (.idiv, 1) := by decide +kernel
theorem dX10_like_29 : decode cX10_like 29 = .ok (.ireturn, 1) := by decide +kernel
theorem dX10_areSame_0 : decode cX10_areSame 0 = .ok (.aload_n 0, 1) := by decide +kernel
theorem dX10_areSame_1 : decode cX10_areSame 1 = .ok (.iload_n 1, 1) := by decide +kernel
theorem dX10_areSame_2 : decode cX10_areSame 2 = .ok (.iload_n 2, 1) := by decide +kernel
theorem dX10_areSame_3 : decode cX10_areSame 3 = .ok (.iconst 1, 1) := by decide +kernel
theorem dX10_areSame_4 : decode cX10_areSame 4 = .ok (.invokevirtual 104, 3) := by decide +kernel
theorem dX10_areSame_7 : decode cX10_areSame 7 = .ok (.aload_n 0, 1) := by decide +kernel
theorem dX10_areSame_8 : decode cX10_areSame 8 = .ok (.iload 4, 2) := by decide +kernel
theorem dX10_areSame_10 : decode cX10_areSame 10 = .ok (.iload 5, 2) := by decide +kernel
theorem dX10_areSame_12 : decode cX10_areSame 12 = .ok (.iconst 1, 1) := by decide +kernel
theorem dX10_areSame_13 : decode cX10_areSame 13 = .ok (.invokevirtual 104, 3) := by decide +kernel
theorem dX10_areSame_16 : decode cX10_areSame 16 = .ok (.if_icmp .ne 49, 3) := by decide +kernel
theorem dX10_areSame_19 : decode cX10_areSame 19 = .ok (.aload_n 0, 1) := by decide +kernel
theorem dX10_areSame_20 : decode cX10_areSame 20 = .ok (.iload_n 1, 1) := by decide +kernel
theorem dX10_areSame_21 : decode cX10_areSame 21 = .ok (.iload_n 2, 1) := by decide +kernel
theorem dX10_areSame_22 : decode cX10_areSame 22 = .ok (.iload 4, 2) := by decide +kernel
theorem dX10_areSame_24 : decode cX10_areSame 24 = .ok (.iload 5, 2) := by decide +kernel
theorem dX10_areSame_26 : decode cX10_areSame 26 = .ok (.iconst 3, 1) := by decide +kernel
theorem dX10_areSame_27 : decode cX10_areSame 27 = .ok (.invokevirtual 122, 3) := by decide +kernel
theorem dX10_areSame_30 : decode cX10_areSame 30 = .ok (.ifCond .eq 35, 3) := by decide +kernel
theorem dX10_areSame_33 : decode cX10_areSame 33 = .ok (.aload_n 0, 1) := by decide +kernel
theorem dX10_areSame_34 : decode cX10_areSame 34 = .ok (.iload_n 1, 1) := by decide +kernel
theorem dX10_areSame_35 : decode cX10_areSame 35 = .ok (.iload_n 2, 1) := by decide +kernel
theorem dX10_areSame_36 : decode cX10_areSame 36 = .ok (.iload 4, 2) := by decide +kernel
theorem dX10_areSame_38 : decode cX10_areSame 38 = .ok (.iload 5, 2) := by decide +kernel
theorem dX10_areSame_40 : decode cX10_areSame 40 = .ok (.bipush 10, 2) := by decide +kernel
theorem dX10_areSame_42 : decode cX10_areSame 42 = .ok (.invokevirtual 122, 3) := by decide +kernel
theorem dX10_areSame_45 : decode cX10_areSame 45 = .ok (.ifCond .eq 20, 3) := by decide +kernel
theorem dX10_areSame_48 : decode cX10_areSame 48 = .ok (.aload_n 0, 1) := by decide +kernel
theorem dX10_areSame_49 : decode cX10_areSame 49 = .ok (.iload_n 1, 1) := by decide +kernel
theorem dX10_areSame_50 : decode cX10_areSame 50 = .ok (.iload_n 2, 1) := by decide +kernel
theorem dX10_areSame_51 : decode cX10_areSame 51 = .ok (.invokevirtual 175, 3) := by decide +kernel
theorem dX10_areSame_54 : decode cX10_areSame 54 = .ok (.aload_n 0, 1) := by decide +kernel
theorem dX10_areSame_55 : decode cX10_areSame 55 = .ok (.iload 4, 2) := by decide +kernel
theorem dX10_areSame_57 : decode cX10_areSame 57 = .ok (.iload 5, 2) := by decide +kernel
theorem dX10_areSame_59 : decode cX10_areSame 59 = .ok (.invokevirtual 175, 3) := by decide +kernel
theorem dX10_areSame_62 : decode cX10_areSame 62 = .ok (.if_icmp .eq 5, 3) := by decide +kernel
theorem dX10_areSame_65 : decode cX10_areSame 65 = .ok (.iconst 0, 1) := by decide +kernel
theorem dX10_areSame_66 : decode cX10_areSame 66 = .ok (.ireturn, 1) := by decide +kernel
theorem dX10_areSame_67 : decode cX10_areSame 67 = .ok (.aload_n 0, 1) := by decide +kernel
theorem dX10_areSame_68 : decode cX10_areSame 68 = .ok (.iload_n 1, 1) := by decide +kernel
theorem dX10_areSame_69 : decode cX10_areSame 69 = .ok (.iload_n 2, 1) := by decide +kernel
theorem dX10_areSame_70 : decode cX10_areSame 70 = .ok (.iconst 1, 1) := by decide +kernel
theorem dX10_areSame_71 : decode cX10_areSame 71 = .ok (.invokevirtual 104, 3) := by decide +kernel
theorem dX10_areSame_74 : decode cX10_areSame 74 = .ok (.iconst 1, 1) := by decide +kernel
theorem dX10_areSame_75 : decode cX10_areSame 75 = .ok (.if_icmp .eq 14, 3) := by decide +kernel
theorem dX10_areSame_78 : decode cX10_areSame 78 = .ok (.aload_n 0, 1) := by decide +kernel
theorem dX10_areSame_79 : decode cX10_areSame 79 = .ok (.iload_n 1, 1) := by decide +kernel
theorem dX10_areSame_80 : decode cX10_areSame 80 = .ok (.iload_n 2, 1) := by decide +kernel
theorem dX10_areSame_81 : decode cX10_areSame 81 = .ok (.iconst 1, 1) := by decide +kernel
theorem dX10_areSame_82 : decode cX10_areSame 82 = .ok (.invokevirtual 104, 3) := by decide +kernel
theorem dX10_areSame_85 : decode cX10_areSame 85 = .ok (.iconst 2, 1) := by decide +kernel
theorem dX10_areSame_86 : decode cX10_areSame 86 = .ok (.if_icmp .ne 7, 3) := by decide +kernel
theorem dX10_areSame_89 : decode cX10_areSame 89 = .ok (.iconst 1, 1) := by decide +kernel
theorem dX10_areSame_90 : decode cX10_areSame 90 = .ok (.goto 4, 3) := by decide +kernel
theorem dX10_areSame_93 : decode cX10_areSame 93 = .ok (.iconst 0, 1) := by decide +kernel
theorem dX10_areSame_94 : decode cX10_areSame 94 = .ok (.istore 7, 2) := by decide +kernel
theorem dX10_areSame_96 : decode cX10_areSame 96 = .ok (.iload 5, 2) := by decide +kernel
theorem dX10_areSame_98 : decode cX10_areSame 98 = .ok (.iconst 1, 1) := by decide +kernel
theorem dX10_areSame_99 : decode cX10_areSame 99 = .ok (.iadd, 1) := by decide +kernel
theorem dX10_areSame_100 : decode cX10_areSame 100 = .ok (.istore 8, 2) := by decide +kernel
theorem dX10_areSame_102 : decode cX10_areSame 102 = .ok (.iload_n 2, 1) := by decide +kernel
theorem dX10_areSame_103 : decode cX10_areSame 103 = .ok (.iconst 1, 1) := by decide +kernel
theorem dX10_areSame_104 : decode cX10_areSame 104 = .ok (.iadd, 1) := by decide +kernel
theorem dX10_areSame_105 : decode cX10_areSame 105 = .ok (.istore 9, 2) := by decide +kernel
theorem dX10_areSame_107 : decode cX10_areSame 107 = .ok (.iload 9, 2) := by decide +kernel
theorem dX10_areSame_109 : decode cX10_areSame 109 = .ok (.aload_n 0, 1) := by decide +kernel
theorem dX10_areSame_110 : decode cX10_areSame 110 = .ok (.iload_n 1, 1) := by decide +kernel
theorem dX10_areSame_111 : decode cX10_areSame 111 = .ok (.iload_n 2, 1) := by decide +kernel
theorem dX10_areSame_112 : decode cX10_areSame 112 = .ok (.invokevirtual 119, 3) := by decide +kernel
theorem dX10_areSame_115 : decode cX10_areSame 115 = .ok (.if_icmp .ge 207, 3) := by decide +kernel
theorem dX10_areSame_118 : decode cX10_areSame 118 = .ok (.iload 7, 2) := by decide +kernel
theorem dX10_areSame_120 : decode cX10_areSame 120 = .ok (.ifCond .ne 27, 3) := by decide +kernel
theorem dX10_areSame_123 : decode cX10_areSame 123 = .ok (.aload_n 0, 1) := by decide +kernel
theorem dX10_areSame_124 : decode cX10_areSame 124 = .ok (.getfield 81, 3) := by decide +kernel
theorem dX10_areSame_127 : decode cX10_areSame 127 = .ok (.iload_n 3, 1) := by decide +kernel
theorem dX10_areSame_128 : decode cX10_areSame 128 = .ok (.iload 9, 2) := by decide +kernel
theorem dX10_areSame_130 : decode cX10_areSame 130 = .ok (.iadd, 1) := by decide +kernel
theorem dX10_areSame_131 : decode cX10_areSame 131 = .ok (.iaload, 1) := by decide +kernel
theorem dX10_areSame_132 : decode cX10_areSame 132 = .ok (.aload_n 0, 1) := by decide +kernel
theorem dX10_areSame_133 : decode cX10_areSame 133 = .ok (.getfield 81, 3) := by decide +kernel
theorem dX10_areSame_136 : decode cX10_areSame 136 = .ok (.iload 6, 2) := by decide +kernel
theorem dX10_areSame_138 : decode cX10_areSame 138 = .ok (.iload 8, 2) := by decide +kernel
theorem dX10_areSame_140 : decode cX10_areSame 140 = .ok (.iadd, 1) := by decide +kernel
theorem dX10_areSame_141 : decode cX10_areSame 141 = .ok (.iaload, 1) := by decide +kernel
theorem dX10_areSame_142 : decode cX10_areSame 142 = .ok (.if_icmp .eq 5, 3) := by decide +kernel
theorem dX10_areSame_145 : decode cX10_areSame 145 = .ok (.iconst 0, 1) := by decide +kernel
theorem dX10_areSame_146 : decode cX10_areSame 146 = .ok (.ireturn, 1) := by decide +kernel
theorem dX10_areSame_147 : decode cX10_areSame 147 = .ok (.iload 7, 2) := by decide +kernel
theorem dX10_areSame_149 : decode cX10_areSame 149 = .ok (.ifCond .ne 13, 3) := by decide +kernel
theorem dX10_areSame_152 : decode cX10_areSame 152 = .ok (.aload_n 0, 1) := by decide +kernel
theorem dX10_areSame_153 : decode cX10_areSame 153 = .ok (.iload 4, 2) := by decide +kernel
theorem dX10_areSame_155 : decode cX10_areSame 155 = .ok (.iload 8, 2) := by decide +kernel
theorem dX10_areSame_157 : decode cX10_areSame 157 = .ok (.invokevirtual 119, 3) := by decide +kernel
theorem dX10_areSame_160 : decode cX10_areSame 160 = .ok (.istore 8, 2) := by decide +kernel
theorem dX10_areSame_162 : decode cX10_areSame 162 = .ok (.iconst 0, 1) := by decide +kernel
theorem dX10_areSame_163 : decode cX10_areSame 163 = .ok (.istore 10, 2) := by decide +kernel
theorem dX10_areSame_165 : decode cX10_areSame 165 = .ok (.iconst 0, 1) := by decide +kernel
theorem dX10_areSame_166 : decode cX10_areSame 166 = .ok (.istore 11, 2) := by decide +kernel
theorem dX10_areSame_168 : decode cX10_areSame 168 = .ok (.iload_n 2, 1) := by decide +kernel
theorem dX10_areSame_169 : decode cX10_areSame 169 = .ok (.iconst 1, 1) := by decide +kernel
theorem dX10_areSame_170 : decode cX10_areSame 170 = .ok (.iadd, 1) := by decide +kernel
theorem dX10_areSame_171 : decode cX10_areSame 171 = .ok (.istore 12, 2) := by decide +kernel
theorem dX10_areSame_173 : decode cX10_areSame 173 = .ok (.iload 12, 2) := by decide +kernel
theorem dX10_areSame_175 : decode cX10_areSame 175 = .ok (.aload_n 0, 1) := by decide +kernel
theorem dX10_areSame_176 : decode cX10_areSame 176 = .ok (.iload_n 1, 1) := by decide +kernel
theorem dX10_areSame_177 : decode cX10_areSame 177 = .ok (.iload_n 2, 1) := by decide +kernel
theorem dX10_areSame_178 : decode cX10_areSame 178 = .ok (.invokevirtual 119, 3) := by decide +kernel
theorem dX10_areSame_181 : decode cX10_areSame 181 = .ok (.if_icmp .ge 51, 3) := by decide +kernel
theorem dX10_areSame_184 : decode cX10_areSame 184 = .ok (.iload 7, 2) := by decide +kernel
theorem dX10_areSame_186 : decode cX10_areSame 186 = .ok (.ifCond .eq 46, 3) := by decide +kernel
theorem dX10_areSame_189 : decode cX10_areSame 189 = .ok (.iload 10, 2) := by decide +kernel
theorem dX10_areSame_191 : decode cX10_areSame 191 = .ok (.aload_n 0, 1) := by decide +kernel
theorem dX10_areSame_192 : decode cX10_areSame 192 = .ok (.getfield 81, 3) := by decide +kernel
theorem dX10_areSame_195 : decode cX10_areSame 195 = .ok (.iload_n 3, 1) := by decide +kernel
theorem dX10_areSame_196 : decode cX10_areSame 196 = .ok (.iload 12, 2) := by decide +kernel
theorem dX10_areSame_198 : decode cX10_areSame 198 = .ok (.iadd, 1) := by decide +kernel
theorem dX10_areSame_199 : decode cX10_areSame 199 = .ok (.iaload, 1) := by decide +kernel
theorem dX10_areSame_200 : decode cX10_areSame 200 = .ok (.aload_n 0, 1) := by decide +kernel
theorem dX10_areSame_201 : decode cX10_areSame 201 = .ok (.getfield 81, 3) := by decide +kernel
theorem dX10_areSame_204 : decode cX10_areSame 204 = .ok (.iload_n 3, 1) := by decide +kernel
theorem dX10_areSame_205 : decode cX10_areSame 205 = .ok (.iload 9, 2) := by decide +kernel
theorem dX10_areSame_207 : decode cX10_areSame 207 = .ok (.iadd, 1) := by decide +kernel
theorem dX10_areSame_208 : decode cX10_areSame 208 = .ok (.iaload, 1) := by decide +kernel
theorem dX10_areSame_209 : decode cX10_areSame 209 = .ok (.if_icmp .ne 7, 3) := by decide +kernel
theorem dX10_areSame_212 : decode cX10_areSame 212 = .ok (.iconst 1, 1) := by decide +kernel
theorem dX10_areSame_213 : decode cX10_areSame 213 = .ok (.goto 4, 3) := by decide +kernel
theorem dX10_areSame_216 : decode cX10_areSame 216 = .ok (.iconst 0, 1) := by decide +kernel
theorem dX10_areSame_217 : decode cX10_areSame 217 = .ok (.iadd, 1) := by decide +kernel
theorem dX10_areSame_218 : decode cX10_areSame 218 = .ok (.istore 10, 2) := by decide +kernel
theorem dX10_areSame_220 : decode cX10_areSame 220 = .ok (.aload_n 0, 1) := by decide +kernel
theorem dX10_areSame_221 : decode cX10_areSame 221 = .ok (.iload_n 1, 1) := by decide +kernel
theorem dX10_areSame_222 : decode cX10_areSame 222 = .ok (.iload 12, 2) := by decide +kernel
theorem dX10_areSame_224 : decode cX10_areSame 224 = .ok (.invokevirtual 119, 3) := by decide +kernel
theorem dX10_areSame_227 : decode cX10_areSame 227 = .ok (.istore 12, 2) := by decide +kernel
theorem dX10_areSame_229 : decode cX10_areSame 229 = .ok (.goto (-56), 3) := by decide +kernel
theorem dX10_areSame_232 : decode cX10_areSame 232 = .ok (.iload 5, 2) := by decide +kernel
theorem dX10_areSame_234 : decode cX10_areSame 234 = .ok (.iconst 1, 1) := by decide +kernel
theorem dX10_areSame_235 : decode cX10_areSame 235 = .ok (.iadd, 1) := by decide +kernel
theorem dX10_areSame_236 : decode cX10_areSame 236 = .ok (.istore 12, 2) := by decide +kernel
theorem dX10_areSame_238 : decode cX10_areSame 238 = .ok (.iload 12, 2) := by decide +kernel
theorem dX10_areSame_240 : decode cX10_areSame 240 = .ok (.aload_n 0, 1) := by decide +kernel
theorem dX10_areSame_241 : decode cX10_areSame 241 = .ok (.iload 4, 2) := by decide +kernel
theorem dX10_areSame_243 : decode cX10_areSame 243 = .ok (.iload 5, 2) := by decide +kernel
theorem dX10_areSame_245 : decode cX10_areSame 245 = .ok (.invokevirtual 119, 3) := by decide +kernel
theorem dX10_areSame_248 : decode cX10_areSame 248 = .ok (.if_icmp .ge 53, 3) := by decide +kernel
theorem dX10_areSame_251 : decode cX10_areSame 251 = .ok (.iload 7, 2) := by decide +kernel
theorem dX10_areSame_253 : decode cX10_areSame 253 = .ok (.ifCond .eq 48, 3) := by decide +kernel
theorem dX10_areSame_256 : decode cX10_areSame 256 = .ok (.iload 11, 2) := by decide +kernel
theorem dX10_areSame_258 : decode cX10_areSame 258 = .ok (.aload_n 0, 1) := by decide +kernel
theorem dX10_areSame_259 : decode cX10_areSame 259 = .ok (.getfield 81, 3) := by decide +kernel
theorem dX10_areSame_262 : decode cX10_areSame 262 = .ok (.iload 6, 2) := by decide +kernel
theorem dX10_areSame_264 : decode cX10_areSame 264 = .ok (.iload 12, 2) := by decide +kernel
theorem dX10_areSame_266 : decode cX10_areSame 266 = .ok (.iadd, 1) := by decide +kernel
theorem dX10_areSame_267 : decode cX10_areSame 267 = .ok (.iaload, 1) := by decide +kernel
theorem dX10_areSame_268 : decode cX10_areSame 268 = .ok (.aload_n 0, 1) := by decide +kernel
theorem dX10_areSame_269 : decode cX10_areSame 269 = .ok (.getfield 81, 3) := by decide +kernel
theorem dX10_areSame_272 : decode cX10_areSame 272 = .ok (.iload_n 3, 1) := by decide +kernel
theorem dX10_areSame_273 : decode cX10_areSame 273 = .ok (.iload 9, 2) := by decide +kernel
theorem dX10_areSame_275 : decode cX10_areSame 275 = .ok (.iadd, 1) := by decide +kernel
theorem dX10_areSame_276 : decode cX10_areSame 276 = .ok (.iaload, 1) := by decide +kernel
theorem dX10_areSame_277 : decode cX10_areSame 277 = .ok (.if_icmp .ne 7, 3) := by decide +kernel
theorem dX10_areSame_280 : decode cX10_areSame 280 = .ok (.iconst 1, 1) := by decide +kernel
theorem dX10_areSame_281 : decode cX10_areSame 281 = .ok (.goto 4, 3) := by decide +kernel
theorem dX10_areSame_284 : decode cX10_areSame 284 = .ok (.iconst 0, 1) := by decide +kernel
theorem dX10_areSame_285 : decode cX10_areSame 285 = .ok (.iadd, 1) := by decide +kernel
theorem dX10_areSame_286 : decode cX10_areSame 286 = .ok (.istore 11, 2) := by decide +kernel
theorem dX10_areSame_288 : decode cX10_areSame 288 = .ok (.aload_n 0, 1) := by decide +kernel
theorem dX10_areSame_289 : decode cX10_areSame 289 = .ok (.iload 4, 2) := by decide +kernel
theorem dX10_areSame_291 : decode cX10_areSame 291 = .ok (.iload 12, 2) := by decide +kernel
theorem dX10_areSame_293 : decode cX10_areSame 293 = .ok (.invokevirtual 119, 3) := by decide +kernel
theorem dX10_areSame_296 : decode cX10_areSame 296 = .ok (.istore 12, 2) := by decide +kernel
theorem dX10_areSame_298 : decode cX10_areSame 298 = .ok (.goto (-60), 3) := by decide +kernel
theorem dX10_areSame_301 : decode cX10_areSame 301 = .ok (.iload 10, 2) := by decide +kernel
theorem dX10_areSame_303 : decode cX10_areSame 303 = .ok (.iload 11, 2) := by decide +kernel
theorem dX10_areSame_305 : decode cX10_areSame 305 = .ok (.if_icmp .eq 5, 3) := by decide +kernel
theorem dX10_areSame_308 : decode cX10_areSame 308 = .ok (.iconst 0, 1) := by decide +kernel
theorem dX10_areSame_309 : decode cX10_areSame 309 = .ok (.ireturn, 1) := by decide +kernel
theorem dX10_areSame_310 : decode cX10_areSame 310 = .ok (.aload_n 0, 1) := by decide +kernel
theorem dX10_areSame_311 : decode cX10_areSame 311 = .ok (.iload_n 1, 1) := by decide +kernel
theorem dX10_areSame_312 : decode cX10_areSame 312 = .ok (.iload 9, 2) := by decide +kernel
theorem dX10_areSame_314 : decode cX10_areSame 314 = .ok (.invokevirtual 119, 3) := by decide +kernel
theorem dX10_areSame_317 : decode cX10_areSame 317 = .ok (.istore 9, 2) := by decide +kernel
theorem dX10_areSame_319 : decode cX10_areSame 319 = .ok (.goto (-212), 3) := by decide +kernel
theorem dX10_areSame_322 : decode cX10_areSame 322 = .ok (.iconst 1, 1) := by decide +kernel
theorem dX10_areSame_323 : decode cX10_areSame 323 = .ok (.ireturn, 1) := by decide +kernel
theorem dX10_sort_0 : decode cX10_sort 0 = .ok (.aload_n 0, 1) := by decide +kernel
theorem dX10_sort_1 : decode cX10_sort 1 = .ok (.getfield 13, 3) := by decide +kernel
theorem dX10_sort_4 : decode cX10_sort 4 = .ok (.iload_n 1, 1) := by decide +kernel
theorem dX10_sort_5 : decode cX10_sort 5 = .ok (.iaload, 1) := by decide +kernel
theorem dX10_sort_6 : decode cX10_sort 6 = .ok (.iconst 1, 1) := by decide +kernel
theorem dX10_sort_7 : decode cX10_sort 7 = .ok (.isub, 1) := by decide +kernel
theorem dX10_sort_8 : decode cX10_sort 8 = .ok (.istore_n 3, 1) := by decide +kernel
theorem dX10_sort_9 : decode cX10_sort 9 = .ok (.iload_n 3, 1) := by decide +kernel
theorem dX10_sort_10 : decode cX10_sort 10 = .ok (.ifCond .lt 65, 3) := by decide +kernel
theorem dX10_sort_13 : decode cX10_sort 13 = .ok (.aload_n 0, 1) := by decide +kernel
theorem dX10_sort_14 : decode cX10_sort 14 = .ok (.getfield 81, 3) := by decide +kernel
theorem dX10_sort_17 : decode cX10_sort 17 = .ok (.iload_n 3, 1) := by decide +kernel
theorem dX10_sort_18 : decode cX10_sort 18 = .ok (.iload_n 3, 1) := by decide +kernel
theorem dX10_sort_19 : decode cX10_sort 19 = .ok (.iastore, 1) := by decide +kernel
theorem dX10_sort_20 : decode cX10_sort 20 = .ok (.aload_n 0, 1) := by decide +kernel
theorem dX10_sort_21 : decode cX10_sort 21 = .ok (.getfield 13, 3) := by decide +kernel
theorem dX10_sort_24 : decode cX10_sort 24 = .ok (.iload_n 1, 1) := by decide +kernel
theorem dX10_sort_25 : decode cX10_sort 25 = .ok (.iaload, 1) := by decide +kernel
theorem dX10_sort_26 : decode cX10_sort 26 = .ok (.iconst 1, 1) := by decide +kernel
theorem dX10_sort_27 : decode cX10_sort 27 = .ok (.isub, 1) := by decide +kernel
theorem dX10_sort_28 : decode cX10_sort 28 = .ok (.istore 4, 2) := by decide +kernel
theorem dX10_sort_30 : decode cX10_sort 30 = .ok (.iload 4, 2) := by decide +kernel
theorem dX10_sort_32 : decode cX10_sort 32 = .ok (.iload_n 3, 1) := by decide +kernel
theorem dX10_sort_33 : decode cX10_sort 33 = .ok (.if_icmp .le 36, 3) := by decide +kernel
theorem dX10_sort_36 : decode cX10_sort 36 = .ok (.aload_n 0, 1) := by decide +kernel
theorem dX10_sort_37 : decode cX10_sort 37 = .ok (.iload_n 1, 1) := by decide +kernel
theorem dX10_sort_38 : decode cX10_sort 38 = .ok (.iload_n 3, 1) := by decide +kernel
theorem dX10_sort_39 : decode cX10_sort 39 = .ok (.iconst 0, 1) := by decide +kernel
theorem dX10_sort_40 : decode cX10_sort 40 = .ok (.iload_n 1, 1) := by decide +kernel
theorem dX10_sort_41 : decode cX10_sort 41 = .ok (.iload 4, 2) := by decide +kernel
theorem dX10_sort_43 : decode cX10_sort 43 = .ok (.iconst 0, 1) := by decide +kernel
theorem dX10_sort_44 : decode cX10_sort 44 = .ok (.invokevirtual 230, 3) := by decide +kernel
theorem dX10_sort_47 : decode cX10_sort 47 = .ok (.ifCond .eq 16, 3) := by decide +kernel
theorem dX10_sort_50 : decode cX10_sort 50 = .ok (.aload_n 0, 1) := by decide +kernel
theorem dX10_sort_51 : decode cX10_sort 51 = .ok (.getfield 81, 3) := by decide +kernel
theorem dX10_sort_54 : decode cX10_sort 54 = .ok (.iload_n 3, 1) := by decide +kernel
theorem dX10_sort_55 : decode cX10_sort 55 = .ok (.aload_n 0, 1) := by decide +kernel
theorem dX10_sort_56 : decode cX10_sort 56 = .ok (.getfield 81, 3) := by decide +kernel
theorem dX10_sort_59 : decode cX10_sort 59 = .ok (.iload 4, 2) := by decide +kernel
theorem dX10_sort_61 : decode cX10_sort 61 = .ok (.iaload, 1) := by decide +kernel
theorem dX10_sort_62 : decode cX10_sort 62 = .ok (.iastore, 1) := by decide +kernel
theorem dX10_sort_63 : decode cX10_sort 63 = .ok (.iinc 4 (-1), 3) := by decide +kernel
theorem dX10_sort_66 : decode cX10_sort 66 = .ok (.goto (-36), 3) := by decide +kernel
theorem dX10_sort_69 : decode cX10_sort 69 = .ok (.iinc 3 (-1), 3) := by decide +kernel
theorem dX10_sort_72 : decode cX10_sort 72 = .ok (.goto (-63), 3) := by decide +kernel
theorem dX10_sort_75 : decode cX10_sort 75 = .ok (.aload_n 0, 1) := by decide +kernel
theorem dX10_sort_76 : decode cX10_sort 76 = .ok (.getfield 13, 3) := by decide +kernel
theorem dX10_sort_79 : decode cX10_sort 79 = .ok (.iload_n 2, 1) := by decide +kernel
theorem dX10_sort_80 : decode cX10_sort 80 = .ok (.iaload, 1) := by decide +kernel
theorem dX10_sort_81 : decode cX10_sort 81 = .ok (.iconst 1, 1) := by decide +kernel
theorem dX10_sort_82 : decode cX10_sort 82 = .ok (.isub, 1) := by decide +kernel
theorem dX10_sort_83 : decode cX10_sort 83 = .ok (.istore_n 3, 1) := by decide +kernel
theorem dX10_sort_84 : decode cX10_sort 84 = .ok (.iload_n 3, 1) := by decide +kernel
theorem dX10_sort_85 : decode cX10_sort 85 = .ok (.ifCond .lt 131, 3) := by decide +kernel
theorem dX10_sort_88 : decode cX10_sort 88 = .ok (.aload_n 0, 1) := by decide +kernel
theorem dX10_sort_89 : decode cX10_sort 89 = .ok (.getfield 81, 3) := by decide +kernel
theorem dX10_sort_92 : decode cX10_sort 92 = .ok (.bipush 30, 2) := by decide +kernel
theorem dX10_sort_94 : decode cX10_sort 94 = .ok (.iload_n 3, 1) := by decide +kernel
theorem dX10_sort_95 : decode cX10_sort 95 = .ok (.iadd, 1) := by decide +kernel
theorem dX10_sort_96 : decode cX10_sort 96 = .ok (.bipush 30, 2) := by decide +kernel
theorem dX10_sort_98 : decode cX10_sort 98 = .ok (.iload_n 3, 1) := by decide +kernel
theorem dX10_sort_99 : decode cX10_sort 99 = .ok (.iadd, 1) := by decide +kernel
theorem dX10_sort_100 : decode cX10_sort 100 = .ok (.iastore, 1) := by decide +kernel
theorem dX10_sort_101 : decode cX10_sort 101 = .ok (.aload_n 0, 1) := by decide +kernel
theorem dX10_sort_102 : decode cX10_sort 102 = .ok (.getfield 13, 3) := by decide +kernel
theorem dX10_sort_105 : decode cX10_sort 105 = .ok (.iload_n 2, 1) := by decide +kernel
theorem dX10_sort_106 : decode cX10_sort 106 = .ok (.iaload, 1) := by decide +kernel
theorem dX10_sort_107 : decode cX10_sort 107 = .ok (.iconst 1, 1) := by decide +kernel
theorem dX10_sort_108 : decode cX10_sort 108 = .ok (.isub, 1) := by decide +kernel
theorem dX10_sort_109 : decode cX10_sort 109 = .ok (.istore 4, 2) := by decide +kernel
theorem dX10_sort_111 : decode cX10_sort 111 = .ok (.iload 4, 2) := by decide +kernel
theorem dX10_sort_113 : decode cX10_sort 113 = .ok (.iload_n 3, 1) := by decide +kernel
theorem dX10_sort_114 : decode cX10_sort 114 = .ok (.if_icmp .le 44, 3) := by decide +kernel
theorem dX10_sort_117 : decode cX10_sort 117 = .ok (.aload_n 0, 1) := by decide +kernel
theorem dX10_sort_118 : decode cX10_sort 118 = .ok (.iload_n 2, 1) := by decide +kernel
theorem dX10_sort_119 : decode cX10_sort 119 = .ok (.iload_n 3, 1) := by decide +kernel
theorem dX10_sort_120 : decode cX10_sort 120 = .ok (.bipush 30, 2) := by decide +kernel
theorem dX10_sort_122 : decode cX10_sort 122 = .ok (.iload_n 2, 1) := by decide +kernel
theorem dX10_sort_123 : decode cX10_sort 123 = .ok (.iload 4, 2) := by decide +kernel
theorem dX10_sort_125 : decode cX10_sort 125 = .ok (.bipush 30, 2) := by decide +kernel
theorem dX10_sort_127 : decode cX10_sort 127 = .ok (.invokevirtual 230, 3) := by decide +kernel
theorem dX10_sort_130 : decode cX10_sort 130 = .ok (.ifCond .eq 22, 3) := by decide +kernel
theorem dX10_sort_133 : decode cX10_sort 133 = .ok (.aload_n 0, 1) := by decide +kernel
theorem dX10_sort_134 : decode cX10_sort 134 = .ok (.getfield 81, 3) := by decide +kernel
theorem dX10_sort_137 : decode cX10_sort 137 = .ok (.bipush 30, 2) := by decide +kernel
theorem dX10_sort_139 : decode cX10_sort 139 = .ok (.iload_n 3, 1) := by decide +kernel
theorem dX10_sort_140 : decode cX10_sort 140 = .ok (.iadd, 1) := by decide +kernel
theorem dX10_sort_141 : decode cX10_sort 141 = .ok (.aload_n 0, 1) := by decide +kernel
theorem dX10_sort_142 : decode cX10_sort 142 = .ok (.getfield 81, 3) := by decide +kernel
theorem dX10_sort_145 : decode cX10_sort 145 = .ok (.bipush 30, 2) := by decide +kernel
theorem dX10_sort_147 : decode cX10_sort 147 = .ok (.iload 4, 2) := by decide +kernel
theorem dX10_sort_149 : decode cX10_sort 149 = .ok (.iadd, 1) := by decide +kernel
theorem dX10_sort_150 : decode cX10_sort 150 = .ok (.iaload, 1) := by decide +kernel
theorem dX10_sort_151 : decode cX10_sort 151 = .ok (.iastore, 1) := by decide +kernel
theorem dX10_sort_152 : decode cX10_sort 152 = .ok (.iinc 4 (-1), 3) := by decide +kernel
theorem dX10_sort_155 : decode cX10_sort 155 = .ok (.goto (-44), 3) := by decide +kernel
theorem dX10_sort_158 : decode cX10_sort 158 = .ok (.aload_n 0, 1) := by decide +kernel
theorem dX10_sort_159 : decode cX10_sort 159 = .ok (.getfield 13, 3) := by decide +kernel
theorem dX10_sort_162 : decode cX10_sort 162 = .ok (.iload_n 1, 1) := by decide +kernel
theorem dX10_sort_163 : decode cX10_sort 163 = .ok (.iaload, 1) := by decide +kernel
theorem dX10_sort_164 : decode cX10_sort 164 = .ok (.iconst 1, 1) := by decide +kernel
theorem dX10_sort_165 : decode cX10_sort 165 = .ok (.isub, 1) := by decide +kernel
theorem dX10_sort_166 : decode cX10_sort 166 = .ok (.istore 4, 2) := by decide +kernel
theorem dX10_sort_168 : decode cX10_sort 168 = .ok (.iload 4, 2) := by decide +kernel
theorem dX10_sort_170 : decode cX10_sort 170 = .ok (.ifCond .lt 40, 3) := by decide +kernel
theorem dX10_sort_173 : decode cX10_sort 173 = .ok (.aload_n 0, 1) := by decide +kernel
theorem dX10_sort_174 : decode cX10_sort 174 = .ok (.iload_n 2, 1) := by decide +kernel
theorem dX10_sort_175 : decode cX10_sort 175 = .ok (.iload_n 3, 1) := by decide +kernel
theorem dX10_sort_176 : decode cX10_sort 176 = .ok (.bipush 30, 2) := by decide +kernel
theorem dX10_sort_178 : decode cX10_sort 178 = .ok (.iload_n 1, 1) := by decide +kernel
theorem dX10_sort_179 : decode cX10_sort 179 = .ok (.iload 4, 2) := by decide +kernel
theorem dX10_sort_181 : decode cX10_sort 181 = .ok (.iconst 0, 1) := by decide +kernel
theorem dX10_sort_182 : decode cX10_sort 182 = .ok (.invokevirtual 230, 3) := by decide +kernel
theorem dX10_sort_185 : decode cX10_sort 185 = .ok (.ifCond .eq 19, 3) := by decide +kernel
theorem dX10_sort_188 : decode cX10_sort 188 = .ok (.aload_n 0, 1) := by decide +kernel
theorem dX10_sort_189 : decode cX10_sort 189 = .ok (.getfield 81, 3) := by decide +kernel
theorem dX10_sort_192 : decode cX10_sort 192 = .ok (.bipush 30, 2) := by decide +kernel
theorem dX10_sort_194 : decode cX10_sort 194 = .ok (.iload_n 3, 1) := by decide +kernel
theorem dX10_sort_195 : decode cX10_sort 195 = .ok (.iadd, 1) := by decide +kernel
theorem dX10_sort_196 : decode cX10_sort 196 = .ok (.aload_n 0, 1) := by decide +kernel
theorem dX10_sort_197 : decode cX10_sort 197 = .ok (.getfield 81, 3) := by decide +kernel
theorem dX10_sort_200 : decode cX10_sort 200 = .ok (.iload 4, 2) := by decide +kernel
theorem dX10_sort_202 : decode cX10_sort 202 = .ok (.iaload, 1) := by decide +kernel
theorem dX10_sort_203 : decode cX10_sort 203 = .ok (.iastore, 1) := by decide +kernel
theorem dX10_sort_204 : decode cX10_sort 204 = .ok (.iinc 4 (-1), 3) := by decide +kernel
theorem dX10_sort_207 : decode cX10_sort 207 = .ok (.goto (-39), 3) := by decide +kernel
theorem dX10_sort_210 : decode cX10_sort 210 = .ok (.iinc 3 (-1), 3) := by decide +kernel
theorem dX10_sort_213 : decode cX10_sort 213 = .ok (.goto (-129), 3) := by decide +kernel
theorem dX10_sort_216 : decode cX10_sort 216 = .ok (.return_, 1) := by decide +kernel
theorem dX10_same_0 : decode cX10_same 0 = .ok (.aload_n 0, 1) := by decide +kernel
theorem dX10_same_1 : decode cX10_same 1 = .ok (.iload_n 1, 1) := by decide +kernel
theorem dX10_same_2 : decode cX10_same 2 = .ok (.invokevirtual 161, 3) := by decide +kernel
theorem dX10_same_5 : decode cX10_same 5 = .ok (.istore_n 3, 1) := by decide +kernel
theorem dX10_same_6 : decode cX10_same 6 = .ok (.iload_n 3, 1) := by decide +kernel
theorem dX10_same_7 : decode cX10_same 7 = .ok (.ifCond .ge 9, 3) := by decide +kernel
theorem dX10_same_10 : decode cX10_same 10 = .ok (.aload_n 0, 1) := by decide +kernel
theorem dX10_same_11 : decode cX10_same 11 = .ok (.iload_n 3, 1) := by decide +kernel
theorem dX10_same_12 : decode cX10_same 12 = .ok (.invokevirtual 126, 3) := by decide +kernel
theorem dX10_same_15 : decode cX10_same 15 = .ok (.ireturn, 1) := by decide +kernel
theorem dX10_same_16 : decode cX10_same 16 = .ok (.aload_n 0, 1) := by decide +kernel
theorem dX10_same_17 : decode cX10_same 17 = .ok (.iload_n 2, 1) := by decide +kernel
theorem dX10_same_18 : decode cX10_same 18 = .ok (.invokevirtual 161, 3) := by decide +kernel
theorem dX10_same_21 : decode cX10_same 21 = .ok (.istore_n 3, 1) := by decide +kernel
theorem dX10_same_22 : decode cX10_same 22 = .ok (.iload_n 3, 1) := by decide +kernel
theorem dX10_same_23 : decode cX10_same 23 = .ok (.ifCond .ge 9, 3) := by decide +kernel
theorem dX10_same_26 : decode cX10_same 26 = .ok (.aload_n 0, 1) := by decide +kernel
theorem dX10_same_27 : decode cX10_same 27 = .ok (.iload_n 3, 1) := by decide +kernel
theorem dX10_same_28 : decode cX10_same 28 = .ok (.invokevirtual 126, 3) := by decide +kernel
theorem dX10_same_31 : decode cX10_same 31 = .ok (.ireturn, 1) := by decide +kernel
theorem dX10_same_32 : decode cX10_same 32 = .ok (.aload_n 0, 1) := by decide +kernel
theorem dX10_same_33 : decode cX10_same 33 = .ok (.iload_n 1, 1) := by decide +kernel
theorem dX10_same_34 : decode cX10_same 34 = .ok (.iload_n 2, 1) := by decide +kernel
theorem dX10_same_35 : decode cX10_same 35 = .ok (.invokevirtual 234, 3) := by decide +kernel
theorem dX10_same_38 : decode cX10_same 38 = .ok (.aload_n 0, 1) := by decide +kernel
theorem dX10_same_39 : decode cX10_same 39 = .ok (.getfield 81, 3) := by decide +kernel
theorem dX10_same_42 : decode cX10_same 42 = .ok (.iconst 0, 1) := by decide +kernel
theorem dX10_same_43 : decode cX10_same 43 = .ok (.iaload, 1) := by decide +kernel
theorem dX10_same_44 : decode cX10_same 44 = .ok (.aload_n 0, 1) := by decide +kernel
theorem dX10_same_45 : decode cX10_same 45 = .ok (.getfield 81, 3) := by decide +kernel
theorem dX10_same_48 : decode cX10_same 48 = .ok (.bipush 30, 2) := by decide +kernel
theorem dX10_same_50 : decode cX10_same 50 = .ok (.iaload, 1) := by decide +kernel
theorem dX10_same_51 : decode cX10_same 51 = .ok (.if_icmp .ne 7, 3) := by decide +kernel
theorem dX10_same_54 : decode cX10_same 54 = .ok (.iconst 1, 1) := by decide +kernel
theorem dX10_same_55 : decode cX10_same 55 = .ok (.goto 4, 3) := by decide +kernel
theorem dX10_same_58 : decode cX10_same 58 = .ok (.iconst 0, 1) := by decide +kernel
theorem dX10_same_59 : decode cX10_same 59 = .ok (.ireturn, 1) := by decide +kernel
theorem dX10_unlike_0 : decode cX10_unlike 0 = .ok (.aload_n 0, 1) := by decide +kernel
theorem dX10_unlike_1 : decode cX10_unlike 1 = .ok (.iload_n 1, 1) := by decide +kernel
theorem dX10_unlike_2 : decode cX10_unlike 2 = .ok (.invokevirtual 161, 3) := by decide +kernel
theorem dX10_unlike_5 : decode cX10_unlike 5 = .ok (.istore_n 2, 1) := by decide +kernel
theorem dX10_unlike_6 : decode cX10_unlike 6 = .ok (.iload_n 2, 1) := by decide +kernel
theorem dX10_unlike_7 : decode cX10_unlike 7 = .ok (.ifCond .ge 9, 3) := by decide +kernel
theorem dX10_unlike_10 : decode cX10_unlike 10 = .ok (.aload_n 0, 1) := by decide +kernel
theorem dX10_unlike_11 : decode cX10_unlike 11 = .ok (.iload_n 2, 1) := by decide +kernel
theorem dX10_unlike_12 : decode cX10_unlike 12 = .ok (.invokevirtual 126, 3) := by decide +kernel
theorem dX10_unlike_15 : decode cX10_unlike 15 = .ok (.ireturn, 1) := by decide +kernel
theorem dX10_unlike_16 : decode cX10_unlike 16 = .ok (.aload_n 0, 1) := by decide +kernel
theorem dX10_unlike_17 : decode cX10_unlike 17 = .ok (.iload_n 1, 1) := by decide +kernel
theorem dX10_unlike_18 : decode cX10_unlike 18 = .ok (.iload_n 1, 1) := by decide +kernel
theorem dX10_unlike_19 : decode cX10_unlike 19 = .ok (.invokevirtual 234, 3) := by decide +kernel
theorem dX10_unlike_22 : decode cX10_unlike 22 = .ok (.iconst 0, 1) := by decide +kernel
theorem dX10_unlike_23 : decode cX10_unlike 23 = .ok (.istore_n 3, 1) := by decide +kernel
theorem dX10_unlike_24 : decode cX10_unlike 24 = .ok (.iconst 0, 1) := by decide +kernel
theorem dX10_unlike_25 : decode cX10_unlike 25 = .ok (.istore 4, 2) := by decide +kernel
theorem dX10_unlike_27 : decode cX10_unlike 27 = .ok (.iload 4, 2) := by decide +kernel
theorem dX10_unlike_29 : decode cX10_unlike 29 = .ok (.aload_n 0, 1) := by decide +kernel
theorem dX10_unlike_30 : decode cX10_unlike 30 = .ok (.getfield 13, 3) := by decide +kernel
theorem dX10_unlike_33 : decode cX10_unlike 33 = .ok (.iload_n 1, 1) := by decide +kernel
theorem dX10_unlike_34 : decode cX10_unlike 34 = .ok (.iaload, 1) := by decide +kernel
theorem dX10_unlike_35 : decode cX10_unlike 35 = .ok (.if_icmp .ge 29, 3) := by decide +kernel
theorem dX10_unlike_38 : decode cX10_unlike 38 = .ok (.iload_n 3, 1) := by decide +kernel
theorem dX10_unlike_39 : decode cX10_unlike 39 = .ok (.aload_n 0, 1) := by decide +kernel
theorem dX10_unlike_40 : decode cX10_unlike 40 = .ok (.getfield 81, 3) := by decide +kernel
theorem dX10_unlike_43 : decode cX10_unlike 43 = .ok (.iload 4, 2) := by decide +kernel
theorem dX10_unlike_45 : decode cX10_unlike 45 = .ok (.iaload, 1) := by decide +kernel
theorem dX10_unlike_46 : decode cX10_unlike 46 = .ok (.iload 4, 2) := by decide +kernel
theorem dX10_unlike_48 : decode cX10_unlike 48 = .ok (.if_icmp .ne 7, 3) := by decide +kernel
theorem dX10_unlike_51 : decode cX10_unlike 51 = .ok (.iconst 1, 1) := by decide +kernel
theorem dX10_unlike_52 : decode cX10_unlike 52 = .ok (.goto 4, 3) := by decide +kernel
theorem dX10_unlike_55 : decode cX10_unlike 55 = .ok (.iconst 0, 1) := by decide +kernel
theorem dX10_unlike_56 : decode cX10_unlike 56 = .ok (.iadd, 1) := by decide +kernel
theorem dX10_unlike_57 : decode cX10_unlike 57 = .ok (.istore_n 3, 1) := by decide +kernel
theorem dX10_unlike_58 : decode cX10_unlike 58 = .ok (.iinc 4 1, 3) := by decide +kernel
theorem dX10_unlike_61 : decode cX10_unlike 61 = .ok (.goto (-34), 3) := by decide +kernel
theorem dX10_unlike_64 : decode cX10_unlike 64 = .ok (.iload_n 3, 1) := by decide +kernel
theorem dX10_unlike_65 : decode cX10_unlike 65 = .ok (.ireturn, 1) := by decide +kernel
theorem dX10_shared_0 : decode cX10_shared 0 = .ok (.aload_n 0, 1) := by decide +kernel
theorem dX10_shared_1 : decode cX10_shared 1 = .ok (.iload_n 1, 1) := by decide +kernel
theorem dX10_shared_2 : decode cX10_shared 2 = .ok (.invokevirtual 161, 3) := by decide +kernel
theorem dX10_shared_5 : decode cX10_shared 5 = .ok (.istore_n 3, 1) := by decide +kernel
theorem dX10_shared_6 : decode cX10_shared 6 = .ok (.iload_n 3, 1) := by decide +kernel
theorem dX10_shared_7 : decode cX10_shared 7 = .ok (.ifCond .ge 9, 3) := by decide +kernel
theorem dX10_shared_10 : decode cX10_shared 10 = .ok (.aload_n 0, 1) := by decide +kernel
theorem dX10_shared_11 : decode cX10_shared 11 = .ok (.iload_n 3, 1) := by decide +kernel
theorem dX10_shared_12 : decode cX10_shared 12 = .ok (.invokevirtual 126, 3) := by decide +kernel
theorem dX10_shared_15 : decode cX10_shared 15 = .ok (.ireturn, 1) := by decide +kernel
theorem dX10_shared_16 : decode cX10_shared 16 = .ok (.aload_n 0, 1) := by decide +kernel
theorem dX10_shared_17 : decode cX10_shared 17 = .ok (.iload_n 2, 1) := by decide +kernel
theorem dX10_shared_18 : decode cX10_shared 18 = .ok (.invokevirtual 161, 3) := by decide +kernel
theorem dX10_shared_21 : decode cX10_shared 21 = .ok (.istore_n 3, 1) := by decide +kernel
theorem dX10_shared_22 : decode cX10_shared 22 = .ok (.iload_n 3, 1) := by decide +kernel
theorem dX10_shared_23 : decode cX10_shared 23 = .ok (.ifCond .ge 9, 3) := by decide +kernel
theorem dX10_shared_26 : decode cX10_shared 26 = .ok (.aload_n 0, 1) := by decide +kernel
theorem dX10_shared_27 : decode cX10_shared 27 = .ok (.iload_n 3, 1) := by decide +kernel
theorem dX10_shared_28 : decode cX10_shared 28 = .ok (.invokevirtual 126, 3) := by decide +kernel
theorem dX10_shared_31 : decode cX10_shared 31 = .ok (.ireturn, 1) := by decide +kernel
theorem dX10_shared_32 : decode cX10_shared 32 = .ok (.aload_n 0, 1) := by decide +kernel
theorem dX10_shared_33 : decode cX10_shared 33 = .ok (.iload_n 1, 1) := by decide +kernel
theorem dX10_shared_34 : decode cX10_shared 34 = .ok (.iload_n 2, 1) := by decide +kernel
theorem dX10_shared_35 : decode cX10_shared 35 = .ok (.invokevirtual 234, 3) := by decide +kernel
theorem dX10_shared_38 : decode cX10_shared 38 = .ok (.iconst 0, 1) := by decide +kernel
theorem dX10_shared_39 : decode cX10_shared 39 = .ok (.istore 4, 2) := by decide +kernel
theorem dX10_shared_41 : decode cX10_shared 41 = .ok (.iconst 0, 1) := by decide +kernel
theorem dX10_shared_42 : decode cX10_shared 42 = .ok (.istore 5, 2) := by decide +kernel
theorem dX10_shared_44 : decode cX10_shared 44 = .ok (.iload 5, 2) := by decide +kernel
theorem dX10_shared_46 : decode cX10_shared 46 = .ok (.aload_n 0, 1) := by decide +kernel
theorem dX10_shared_47 : decode cX10_shared 47 = .ok (.getfield 13, 3) := by decide +kernel
theorem dX10_shared_50 : decode cX10_shared 50 = .ok (.iload_n 1, 1) := by decide +kernel
theorem dX10_shared_51 : decode cX10_shared 51 = .ok (.iaload, 1) := by decide +kernel
theorem dX10_shared_52 : decode cX10_shared 52 = .ok (.if_icmp .ge 79, 3) := by decide +kernel
theorem dX10_shared_55 : decode cX10_shared 55 = .ok (.iconst 0, 1) := by decide +kernel
theorem dX10_shared_56 : decode cX10_shared 56 = .ok (.istore 6, 2) := by decide +kernel
theorem dX10_shared_58 : decode cX10_shared 58 = .ok (.iconst 0, 1) := by decide +kernel
theorem dX10_shared_59 : decode cX10_shared 59 = .ok (.istore 7, 2) := by decide +kernel
theorem dX10_shared_61 : decode cX10_shared 61 = .ok (.iload 7, 2) := by decide +kernel
theorem dX10_shared_63 : decode cX10_shared 63 = .ok (.aload_n 0, 1) := by decide +kernel
theorem dX10_shared_64 : decode cX10_shared 64 = .ok (.getfield 13, 3) := by decide +kernel
theorem dX10_shared_67 : decode cX10_shared 67 = .ok (.iload_n 2, 1) := by decide +kernel
theorem dX10_shared_68 : decode cX10_shared 68 = .ok (.iaload, 1) := by decide +kernel
theorem dX10_shared_69 : decode cX10_shared 69 = .ok (.if_icmp .ge 41, 3) := by decide +kernel
theorem dX10_shared_72 : decode cX10_shared 72 = .ok (.iload 6, 2) := by decide +kernel
theorem dX10_shared_74 : decode cX10_shared 74 = .ok (.ifCond .ne 23, 3) := by decide +kernel
theorem dX10_shared_77 : decode cX10_shared 77 = .ok (.aload_n 0, 1) := by decide +kernel
end
section
theorem dX10_shared_78 : decode cX10_shared 78 = .ok (.getfield 81, 3) := by decide +kernel
theorem dX10_shared_81 : decode cX10_shared 81 = .ok (.bipush 30, 2) := by decide +kernel
theorem dX10_shared_83 : decode cX10_shared 83 = .ok (.iload 7, 2) := by decide +kernel
theorem dX10_shared_85 : decode cX10_shared 85 = .ok (.iadd, 1) := by decide +kernel
theorem dX10_shared_86 : decode cX10_shared 86 = .ok (.iaload, 1) := by decide +kernel
theorem dX10_shared_87 : decode cX10_shared 87 = .ok (.aload_n 0, 1) := by decide +kernel
theorem dX10_shared_88 : decode cX10_shared 88 = .ok (.getfield 81, 3) := by decide +kernel
theorem dX10_shared_91 : decode cX10_shared 91 = .ok (.iload 5, 2) := by decide +kernel
theorem dX10_shared_93 : decode cX10_shared 93 = .ok (.iaload, 1) := by decide +kernel
theorem dX10_shared_94 : decode cX10_shared 94 = .ok (.if_icmp .ne 7, 3) := by decide +kernel
theorem dX10_shared_97 : decode cX10_shared 97 = .ok (.iconst 1, 1) := by decide +kernel
theorem dX10_shared_98 : decode cX10_shared 98 = .ok (.goto 4, 3) := by decide +kernel
theorem dX10_shared_101 : decode cX10_shared 101 = .ok (.iconst 0, 1) := by decide +kernel
theorem dX10_shared_102 : decode cX10_shared 102 = .ok (.istore 6, 2) := by decide +kernel
theorem dX10_shared_104 : decode cX10_shared 104 = .ok (.iinc 7 1, 3) := by decide +kernel
theorem dX10_shared_107 : decode cX10_shared 107 = .ok (.goto (-46), 3) := by decide +kernel
theorem dX10_shared_110 : decode cX10_shared 110 = .ok (.iload 4, 2) := by decide +kernel
theorem dX10_shared_112 : decode cX10_shared 112 = .ok (.iload 6, 2) := by decide +kernel
theorem dX10_shared_114 : decode cX10_shared 114 = .ok (.ifCond .eq 7, 3) := by decide +kernel
theorem dX10_shared_117 : decode cX10_shared 117 = .ok (.iconst 1, 1) := by decide +kernel
theorem dX10_shared_118 : decode cX10_shared 118 = .ok (.goto 4, 3) := by decide +kernel
theorem dX10_shared_121 : decode cX10_shared 121 = .ok (.iconst 0, 1) := by decide +kernel
theorem dX10_shared_122 : decode cX10_shared 122 = .ok (.iadd, 1) := by decide +kernel
theorem dX10_shared_123 : decode cX10_shared 123 = .ok (.istore 4, 2) := by decide +kernel
theorem dX10_shared_125 : decode cX10_shared 125 = .ok (.iinc 5 1, 3) := by decide +kernel
theorem dX10_shared_128 : decode cX10_shared 128 = .ok (.goto (-84), 3) := by decide +kernel
theorem dX10_shared_131 : decode cX10_shared 131 = .ok (.iload 4, 2) := by decide +kernel
theorem dX10_shared_133 : decode cX10_shared 133 = .ok (.ireturn, 1) := by decide +kernel
theorem dX10_clashed_0 : decode cX10_clashed 0 = .ok (.aload_n 0, 1) := by decide +kernel
theorem dX10_clashed_1 : decode cX10_clashed 1 = .ok (.getfield 84, 3) := by decide +kernel
theorem dX10_clashed_4 : decode cX10_clashed 4 = .ok (.aload_n 0, 1) := by decide +kernel
theorem dX10_clashed_5 : decode cX10_clashed 5 = .ok (.getfield 237, 3) := by decide +kernel
theorem dX10_clashed_8 : decode cX10_clashed 8 = .ok (.iload_n 1, 1) := by decide +kernel
theorem dX10_clashed_9 : decode cX10_clashed 9 = .ok (.iastore, 1) := by decide +kernel
theorem dX10_clashed_10 : decode cX10_clashed 10 = .ok (.aload_n 0, 1) := by decide +kernel
theorem dX10_clashed_11 : decode cX10_clashed 11 = .ok (.getfield 87, 3) := by decide +kernel
theorem dX10_clashed_14 : decode cX10_clashed 14 = .ok (.aload_n 0, 1) := by decide +kernel
theorem dX10_clashed_15 : decode cX10_clashed 15 = .ok (.getfield 237, 3) := by decide +kernel
theorem dX10_clashed_18 : decode cX10_clashed 18 = .ok (.iload_n 2, 1) := by decide +kernel
theorem dX10_clashed_19 : decode cX10_clashed 19 = .ok (.iastore, 1) := by decide +kernel
theorem dX10_clashed_20 : decode cX10_clashed 20 = .ok (.aload_n 0, 1) := by decide +kernel
theorem dX10_clashed_21 : decode cX10_clashed 21 = .ok (.dup, 1) := by decide +kernel
theorem dX10_clashed_22 : decode cX10_clashed 22 = .ok (.getfield 237, 3) := by decide +kernel
theorem dX10_clashed_25 : decode cX10_clashed 25 = .ok (.iconst 1, 1) := by decide +kernel
theorem dX10_clashed_26 : decode cX10_clashed 26 = .ok (.iadd, 1) := by decide +kernel
theorem dX10_clashed_27 : decode cX10_clashed 27 = .ok (.putfield 237, 3) := by decide +kernel
theorem dX10_clashed_30 : decode cX10_clashed 30 = .ok (.return_, 1) := by decide +kernel
theorem dX10_isField_0 : decode cX10_isField 0 = .ok (.iload 5, 2) := by decide +kernel
theorem dX10_isField_2 : decode cX10_isField 2 = .ok (.ifCond .ne 27, 3) := by decide +kernel
theorem dX10_isField_5 : decode cX10_isField 5 = .ok (.aload_n 0, 1) := by decide +kernel
theorem dX10_isField_6 : decode cX10_isField 6 = .ok (.iload_n 1, 1) := by decide +kernel
theorem dX10_isField_7 : decode cX10_isField 7 = .ok (.iload_n 2, 1) := by decide +kernel
theorem dX10_isField_8 : decode cX10_isField 8 = .ok (.iconst 1, 1) := by decide +kernel
theorem dX10_isField_9 : decode cX10_isField 9 = .ok (.invokevirtual 104, 3) := by decide +kernel
theorem dX10_isField_12 : decode cX10_isField 12 = .ok (.aload_n 0, 1) := by decide +kernel
theorem dX10_isField_13 : decode cX10_isField 13 = .ok (.iload_n 3, 1) := by decide +kernel
theorem dX10_isField_14 : decode cX10_isField 14 = .ok (.iload 4, 2) := by decide +kernel
theorem dX10_isField_16 : decode cX10_isField 16 = .ok (.iconst 1, 1) := by decide +kernel
theorem dX10_isField_17 : decode cX10_isField 17 = .ok (.invokevirtual 104, 3) := by decide +kernel
theorem dX10_isField_20 : decode cX10_isField 20 = .ok (.if_icmp .ne 7, 3) := by decide +kernel
theorem dX10_isField_23 : decode cX10_isField 23 = .ok (.iconst 1, 1) := by decide +kernel
theorem dX10_isField_24 : decode cX10_isField 24 = .ok (.goto 4, 3) := by decide +kernel
theorem dX10_isField_27 : decode cX10_isField 27 = .ok (.iconst 0, 1) := by decide +kernel
theorem dX10_isField_28 : decode cX10_isField 28 = .ok (.ireturn, 1) := by decide +kernel
theorem dX10_isField_29 : decode cX10_isField 29 = .ok (.iload 5, 2) := by decide +kernel
theorem dX10_isField_31 : decode cX10_isField 31 = .ok (.iconst 3, 1) := by decide +kernel
theorem dX10_isField_32 : decode cX10_isField 32 = .ok (.if_icmp .ge 25, 3) := by decide +kernel
theorem dX10_isField_35 : decode cX10_isField 35 = .ok (.aload_n 0, 1) := by decide +kernel
theorem dX10_isField_36 : decode cX10_isField 36 = .ok (.iload_n 1, 1) := by decide +kernel
theorem dX10_isField_37 : decode cX10_isField 37 = .ok (.iload_n 2, 1) := by decide +kernel
theorem dX10_isField_38 : decode cX10_isField 38 = .ok (.iload_n 3, 1) := by decide +kernel
theorem dX10_isField_39 : decode cX10_isField 39 = .ok (.iload 4, 2) := by decide +kernel
theorem dX10_isField_41 : decode cX10_isField 41 = .ok (.iload 5, 2) := by decide +kernel
theorem dX10_isField_43 : decode cX10_isField 43 = .ok (.iconst 1, 1) := by decide +kernel
theorem dX10_isField_44 : decode cX10_isField 44 = .ok (.if_icmp .ne 7, 3) := by decide +kernel
theorem dX10_isField_47 : decode cX10_isField 47 = .ok (.iconst 3, 1) := by decide +kernel
theorem dX10_isField_48 : decode cX10_isField 48 = .ok (.goto 5, 3) := by decide +kernel
theorem dX10_isField_51 : decode cX10_isField 51 = .ok (.bipush 10, 2) := by decide +kernel
theorem dX10_isField_53 : decode cX10_isField 53 = .ok (.invokevirtual 122, 3) := by decide +kernel
theorem dX10_isField_56 : decode cX10_isField 56 = .ok (.ireturn, 1) := by decide +kernel
theorem dX10_isField_57 : decode cX10_isField 57 = .ok (.aload_n 0, 1) := by decide +kernel
theorem dX10_isField_58 : decode cX10_isField 58 = .ok (.iload_n 1, 1) := by decide +kernel
theorem dX10_isField_59 : decode cX10_isField 59 = .ok (.iload_n 2, 1) := by decide +kernel
theorem dX10_isField_60 : decode cX10_isField 60 = .ok (.invokevirtual 175, 3) := by decide +kernel
theorem dX10_isField_63 : decode cX10_isField 63 = .ok (.aload_n 0, 1) := by decide +kernel
theorem dX10_isField_64 : decode cX10_isField 64 = .ok (.iload_n 3, 1) := by decide +kernel
theorem dX10_isField_65 : decode cX10_isField 65 = .ok (.iload 4, 2) := by decide +kernel
theorem dX10_isField_67 : decode cX10_isField 67 = .ok (.invokevirtual 175, 3) := by decide +kernel
theorem dX10_isField_70 : decode cX10_isField 70 = .ok (.if_icmp .eq 5, 3) := by decide +kernel
theorem dX10_isField_73 : decode cX10_isField 73 = .ok (.iconst 0, 1) := by decide +kernel
theorem dX10_isField_74 : decode cX10_isField 74 = .ok (.ireturn, 1) := by decide +kernel
theorem dX10_isField_75 : decode cX10_isField 75 = .ok (.iload 4, 2) := by decide +kernel
theorem dX10_isField_77 : decode cX10_isField 77 = .ok (.iconst 1, 1) := by decide +kernel
theorem dX10_isField_78 : decode cX10_isField 78 = .ok (.iadd, 1) := by decide +kernel
theorem dX10_isField_79 : decode cX10_isField 79 = .ok (.istore 6, 2) := by decide +kernel
theorem dX10_isField_81 : decode cX10_isField 81 = .ok (.iload_n 2, 1) := by decide +kernel
theorem dX10_isField_82 : decode cX10_isField 82 = .ok (.iconst 1, 1) := by decide +kernel
theorem dX10_isField_83 : decode cX10_isField 83 = .ok (.iadd, 1) := by decide +kernel
theorem dX10_isField_84 : decode cX10_isField 84 = .ok (.istore 7, 2) := by decide +kernel
theorem dX10_isField_86 : decode cX10_isField 86 = .ok (.iload 7, 2) := by decide +kernel
theorem dX10_isField_88 : decode cX10_isField 88 = .ok (.aload_n 0, 1) := by decide +kernel
theorem dX10_isField_89 : decode cX10_isField 89 = .ok (.iload_n 1, 1) := by decide +kernel
theorem dX10_isField_90 : decode cX10_isField 90 = .ok (.iload_n 2, 1) := by decide +kernel
theorem dX10_isField_91 : decode cX10_isField 91 = .ok (.invokevirtual 119, 3) := by decide +kernel
theorem dX10_isField_94 : decode cX10_isField 94 = .ok (.if_icmp .ge 45, 3) := by decide +kernel
theorem dX10_isField_97 : decode cX10_isField 97 = .ok (.aload_n 0, 1) := by decide +kernel
theorem dX10_isField_98 : decode cX10_isField 98 = .ok (.iload_n 1, 1) := by decide +kernel
theorem dX10_isField_99 : decode cX10_isField 99 = .ok (.iload 7, 2) := by decide +kernel
theorem dX10_isField_101 : decode cX10_isField 101 = .ok (.iconst 0, 1) := by decide +kernel
theorem dX10_isField_102 : decode cX10_isField 102 = .ok (.invokevirtual 104, 3) := by decide +kernel
theorem dX10_isField_105 : decode cX10_isField 105 = .ok (.aload_n 0, 1) := by decide +kernel
theorem dX10_isField_106 : decode cX10_isField 106 = .ok (.iload_n 3, 1) := by decide +kernel
theorem dX10_isField_107 : decode cX10_isField 107 = .ok (.iload 6, 2) := by decide +kernel
theorem dX10_isField_109 : decode cX10_isField 109 = .ok (.iconst 0, 1) := by decide +kernel
theorem dX10_isField_110 : decode cX10_isField 110 = .ok (.invokevirtual 104, 3) := by decide +kernel
theorem dX10_isField_113 : decode cX10_isField 113 = .ok (.if_icmp .eq 5, 3) := by decide +kernel
theorem dX10_isField_116 : decode cX10_isField 116 = .ok (.iconst 0, 1) := by decide +kernel
theorem dX10_isField_117 : decode cX10_isField 117 = .ok (.ireturn, 1) := by decide +kernel
theorem dX10_isField_118 : decode cX10_isField 118 = .ok (.aload_n 0, 1) := by decide +kernel
theorem dX10_isField_119 : decode cX10_isField 119 = .ok (.iload_n 3, 1) := by decide +kernel
theorem dX10_isField_120 : decode cX10_isField 120 = .ok (.iload 6, 2) := by decide +kernel
theorem dX10_isField_122 : decode cX10_isField 122 = .ok (.invokevirtual 119, 3) := by decide +kernel
theorem dX10_isField_125 : decode cX10_isField 125 = .ok (.istore 6, 2) := by decide +kernel
theorem dX10_isField_127 : decode cX10_isField 127 = .ok (.aload_n 0, 1) := by decide +kernel
theorem dX10_isField_128 : decode cX10_isField 128 = .ok (.iload_n 1, 1) := by decide +kernel
theorem dX10_isField_129 : decode cX10_isField 129 = .ok (.iload 7, 2) := by decide +kernel
theorem dX10_isField_131 : decode cX10_isField 131 = .ok (.invokevirtual 119, 3) := by decide +kernel
theorem dX10_isField_134 : decode cX10_isField 134 = .ok (.istore 7, 2) := by decide +kernel
theorem dX10_isField_136 : decode cX10_isField 136 = .ok (.goto (-50), 3) := by decide +kernel
theorem dX10_isField_139 : decode cX10_isField 139 = .ok (.iconst 1, 1) := by decide +kernel
theorem dX10_isField_140 : decode cX10_isField 140 = .ok (.ireturn, 1) := by decide +kernel
theorem dX10_whose_0 : decode cX10_whose 0 = .ok (.aload_n 0, 1) := by decide +kernel
theorem dX10_whose_1 : decode cX10_whose 1 = .ok (.iload_n 1, 1) := by decide +kernel
theorem dX10_whose_2 : decode cX10_whose 2 = .ok (.iload 4, 2) := by decide +kernel
theorem dX10_whose_4 : decode cX10_whose 4 = .ok (.invokevirtual 181, 3) := by decide +kernel
theorem dX10_whose_7 : decode cX10_whose 7 = .ok (.istore 6, 2) := by decide +kernel
theorem dX10_whose_9 : decode cX10_whose 9 = .ok (.aload_n 0, 1) := by decide +kernel
theorem dX10_whose_10 : decode cX10_whose 10 = .ok (.iload_n 2, 1) := by decide +kernel
theorem dX10_whose_11 : decode cX10_whose 11 = .ok (.iload 4, 2) := by decide +kernel
theorem dX10_whose_13 : decode cX10_whose 13 = .ok (.invokevirtual 181, 3) := by decide +kernel
theorem dX10_whose_16 : decode cX10_whose 16 = .ok (.istore 7, 2) := by decide +kernel
theorem dX10_whose_18 : decode cX10_whose 18 = .ok (.aload_n 0, 1) := by decide +kernel
theorem dX10_whose_19 : decode cX10_whose 19 = .ok (.iload_n 3, 1) := by decide +kernel
theorem dX10_whose_20 : decode cX10_whose 20 = .ok (.iload 4, 2) := by decide +kernel
theorem dX10_whose_22 : decode cX10_whose 22 = .ok (.invokevirtual 181, 3) := by decide +kernel
theorem dX10_whose_25 : decode cX10_whose 25 = .ok (.istore 8, 2) := by decide +kernel
theorem dX10_whose_27 : decode cX10_whose 27 = .ok (.aload_n 0, 1) := by decide +kernel
theorem dX10_whose_28 : decode cX10_whose 28 = .ok (.iconst 0, 1) := by decide +kernel
theorem dX10_whose_29 : decode cX10_whose 29 = .ok (.putfield 240, 3) := by decide +kernel
theorem dX10_whose_32 : decode cX10_whose 32 = .ok (.iload 7, 2) := by decide +kernel
theorem dX10_whose_34 : decode cX10_whose 34 = .ok (.ifCond .lt 69, 3) := by decide +kernel
theorem dX10_whose_37 : decode cX10_whose 37 = .ok (.iload 8, 2) := by decide +kernel
theorem dX10_whose_39 : decode cX10_whose 39 = .ok (.ifCond .lt 64, 3) := by decide +kernel
theorem dX10_whose_42 : decode cX10_whose 42 = .ok (.iload 6, 2) := by decide +kernel
theorem dX10_whose_44 : decode cX10_whose 44 = .ok (.ifCond .lt 59, 3) := by decide +kernel
theorem dX10_whose_47 : decode cX10_whose 47 = .ok (.aload_n 0, 1) := by decide +kernel
theorem dX10_whose_48 : decode cX10_whose 48 = .ok (.iload_n 2, 1) := by decide +kernel
theorem dX10_whose_49 : decode cX10_whose 49 = .ok (.iload 7, 2) := by decide +kernel
theorem dX10_whose_51 : decode cX10_whose 51 = .ok (.iload_n 1, 1) := by decide +kernel
theorem dX10_whose_52 : decode cX10_whose 52 = .ok (.iload 6, 2) := by decide +kernel
theorem dX10_whose_54 : decode cX10_whose 54 = .ok (.iload 5, 2) := by decide +kernel
theorem dX10_whose_56 : decode cX10_whose 56 = .ok (.invokevirtual 244, 3) := by decide +kernel
theorem dX10_whose_59 : decode cX10_whose 59 = .ok (.ifCond .eq 5, 3) := by decide +kernel
theorem dX10_whose_62 : decode cX10_whose 62 = .ok (.iload_n 3, 1) := by decide +kernel
theorem dX10_whose_63 : decode cX10_whose 63 = .ok (.ireturn, 1) := by decide +kernel
theorem dX10_whose_64 : decode cX10_whose 64 = .ok (.aload_n 0, 1) := by decide +kernel
theorem dX10_whose_65 : decode cX10_whose 65 = .ok (.iload_n 3, 1) := by decide +kernel
theorem dX10_whose_66 : decode cX10_whose 66 = .ok (.iload 8, 2) := by decide +kernel
theorem dX10_whose_68 : decode cX10_whose 68 = .ok (.iload_n 1, 1) := by decide +kernel
theorem dX10_whose_69 : decode cX10_whose 69 = .ok (.iload 6, 2) := by decide +kernel
theorem dX10_whose_71 : decode cX10_whose 71 = .ok (.iload 5, 2) := by decide +kernel
theorem dX10_whose_73 : decode cX10_whose 73 = .ok (.invokevirtual 244, 3) := by decide +kernel
theorem dX10_whose_76 : decode cX10_whose 76 = .ok (.ifCond .ne 18, 3) := by decide +kernel
theorem dX10_whose_79 : decode cX10_whose 79 = .ok (.aload_n 0, 1) := by decide +kernel
theorem dX10_whose_80 : decode cX10_whose 80 = .ok (.iload_n 2, 1) := by decide +kernel
theorem dX10_whose_81 : decode cX10_whose 81 = .ok (.iload 7, 2) := by decide +kernel
theorem dX10_whose_83 : decode cX10_whose 83 = .ok (.iload_n 3, 1) := by decide +kernel
theorem dX10_whose_84 : decode cX10_whose 84 = .ok (.iload 8, 2) := by decide +kernel
theorem dX10_whose_86 : decode cX10_whose 86 = .ok (.iload 5, 2) := by decide +kernel
theorem dX10_whose_88 : decode cX10_whose 88 = .ok (.invokevirtual 244, 3) := by decide +kernel
theorem dX10_whose_91 : decode cX10_whose 91 = .ok (.ifCond .eq 5, 3) := by decide +kernel
theorem dX10_whose_94 : decode cX10_whose 94 = .ok (.iload_n 2, 1) := by decide +kernel
theorem dX10_whose_95 : decode cX10_whose 95 = .ok (.ireturn, 1) := by decide +kernel
theorem dX10_whose_96 : decode cX10_whose 96 = .ok (.aload_n 0, 1) := by decide +kernel
theorem dX10_whose_97 : decode cX10_whose 97 = .ok (.iconst 1, 1) := by decide +kernel
theorem dX10_whose_98 : decode cX10_whose 98 = .ok (.putfield 240, 3) := by decide +kernel
theorem dX10_whose_101 : decode cX10_whose 101 = .ok (.iload_n 1, 1) := by decide +kernel
theorem dX10_whose_102 : decode cX10_whose 102 = .ok (.ireturn, 1) := by decide +kernel
theorem dX10_whose_103 : decode cX10_whose 103 = .ok (.iload 7, 2) := by decide +kernel
theorem dX10_whose_105 : decode cX10_whose 105 = .ok (.ifCond .lt 34, 3) := by decide +kernel
theorem dX10_whose_108 : decode cX10_whose 108 = .ok (.iload 8, 2) := by decide +kernel
theorem dX10_whose_110 : decode cX10_whose 110 = .ok (.ifCond .lt 29, 3) := by decide +kernel
theorem dX10_whose_113 : decode cX10_whose 113 = .ok (.aload_n 0, 1) := by decide +kernel
theorem dX10_whose_114 : decode cX10_whose 114 = .ok (.aload_n 0, 1) := by decide +kernel
theorem dX10_whose_115 : decode cX10_whose 115 = .ok (.iload_n 2, 1) := by decide +kernel
theorem dX10_whose_116 : decode cX10_whose 116 = .ok (.iload 7, 2) := by decide +kernel
theorem dX10_whose_118 : decode cX10_whose 118 = .ok (.iload_n 3, 1) := by decide +kernel
theorem dX10_whose_119 : decode cX10_whose 119 = .ok (.iload 8, 2) := by decide +kernel
theorem dX10_whose_121 : decode cX10_whose 121 = .ok (.iload 5, 2) := by decide +kernel
theorem dX10_whose_123 : decode cX10_whose 123 = .ok (.invokevirtual 244, 3) := by decide +kernel
theorem dX10_whose_126 : decode cX10_whose 126 = .ok (.ifCond .ne 7, 3) := by decide +kernel
theorem dX10_whose_129 : decode cX10_whose 129 = .ok (.iconst 1, 1) := by decide +kernel
theorem dX10_whose_130 : decode cX10_whose 130 = .ok (.goto 4, 3) := by decide +kernel
theorem dX10_whose_133 : decode cX10_whose 133 = .ok (.iconst 0, 1) := by decide +kernel
theorem dX10_whose_134 : decode cX10_whose 134 = .ok (.putfield 240, 3) := by decide +kernel
theorem dX10_whose_137 : decode cX10_whose 137 = .ok (.iload_n 2, 1) := by decide +kernel
theorem dX10_whose_138 : decode cX10_whose 138 = .ok (.ireturn, 1) := by decide +kernel
theorem dX10_whose_139 : decode cX10_whose 139 = .ok (.iload 7, 2) := by decide +kernel
theorem dX10_whose_141 : decode cX10_whose 141 = .ok (.ifCond .lt 7, 3) := by decide +kernel
theorem dX10_whose_144 : decode cX10_whose 144 = .ok (.iload_n 2, 1) := by decide +kernel
theorem dX10_whose_145 : decode cX10_whose 145 = .ok (.goto 13, 3) := by decide +kernel
theorem dX10_whose_148 : decode cX10_whose 148 = .ok (.iload 8, 2) := by decide +kernel
theorem dX10_whose_150 : decode cX10_whose 150 = .ok (.ifCond .lt 7, 3) := by decide +kernel
theorem dX10_whose_153 : decode cX10_whose 153 = .ok (.iload_n 3, 1) := by decide +kernel
theorem dX10_whose_154 : decode cX10_whose 154 = .ok (.goto 4, 3) := by decide +kernel
theorem dX10_whose_157 : decode cX10_whose 157 = .ok (.iconst (-1), 1) := by decide +kernel
theorem dX10_whose_158 : decode cX10_whose 158 = .ok (.ireturn, 1) := by decide +kernel
theorem dX10_merges_0 : decode cX10_merges 0 = .ok (.aload_n 0, 1) := by decide +kernel
theorem dX10_merges_1 : decode cX10_merges 1 = .ok (.getfield 13, 3) := by decide +kernel
theorem dX10_merges_4 : decode cX10_merges 4 = .ok (.bipush 9, 2) := by decide +kernel
theorem dX10_merges_6 : decode cX10_merges 6 = .ok (.iconst 0, 1) := by decide +kernel
theorem dX10_merges_7 : decode cX10_merges 7 = .ok (.iastore, 1) := by decide +kernel
theorem dX10_merges_8 : decode cX10_merges 8 = .ok (.iconst 1, 1) := by decide +kernel
theorem dX10_merges_9 : decode cX10_merges 9 = .ok (.istore 4, 2) := by decide +kernel
theorem dX10_merges_11 : decode cX10_merges 11 = .ok (.aload_n 0, 1) := by decide +kernel
theorem dX10_merges_12 : decode cX10_merges 12 = .ok (.getfield 90, 3) := by decide +kernel
theorem dX10_merges_15 : decode cX10_merges 15 = .ok (.iconst 0, 1) := by decide +kernel
theorem dX10_merges_16 : decode cX10_merges 16 = .ok (.aload_n 0, 1) := by decide +kernel
theorem dX10_merges_17 : decode cX10_merges 17 = .ok (.iload_n 1, 1) := by decide +kernel
theorem dX10_merges_18 : decode cX10_merges 18 = .ok (.iconst 0, 1) := by decide +kernel
theorem dX10_merges_19 : decode cX10_merges 19 = .ok (.iconst 0, 1) := by decide +kernel
theorem dX10_merges_20 : decode cX10_merges 20 = .ok (.invokevirtual 104, 3) := by decide +kernel
theorem dX10_merges_23 : decode cX10_merges 23 = .ok (.iastore, 1) := by decide +kernel
theorem dX10_merges_24 : decode cX10_merges 24 = .ok (.aload_n 0, 1) := by decide +kernel
theorem dX10_merges_25 : decode cX10_merges 25 = .ok (.getfield 93, 3) := by decide +kernel
theorem dX10_merges_28 : decode cX10_merges 28 = .ok (.iconst 0, 1) := by decide +kernel
theorem dX10_merges_29 : decode cX10_merges 29 = .ok (.iconst 0, 1) := by decide +kernel
theorem dX10_merges_30 : decode cX10_merges 30 = .ok (.iastore, 1) := by decide +kernel
theorem dX10_merges_31 : decode cX10_merges 31 = .ok (.iload 4, 2) := by decide +kernel
theorem dX10_merges_33 : decode cX10_merges 33 = .ok (.ifCond .le 353, 3) := by decide +kernel
theorem dX10_merges_36 : decode cX10_merges 36 = .ok (.iinc 4 (-1), 3) := by decide +kernel
theorem dX10_merges_39 : decode cX10_merges 39 = .ok (.aload_n 0, 1) := by decide +kernel
theorem dX10_merges_40 : decode cX10_merges 40 = .ok (.getfield 90, 3) := by decide +kernel
theorem dX10_merges_43 : decode cX10_merges 43 = .ok (.iload 4, 2) := by decide +kernel
theorem dX10_merges_45 : decode cX10_merges 45 = .ok (.iaload, 1) := by decide +kernel
theorem dX10_merges_46 : decode cX10_merges 46 = .ok (.istore 5, 2) := by decide +kernel
theorem dX10_merges_48 : decode cX10_merges 48 = .ok (.aload_n 0, 1) := by decide +kernel
theorem dX10_merges_49 : decode cX10_merges 49 = .ok (.getfield 93, 3) := by decide +kernel
theorem dX10_merges_52 : decode cX10_merges 52 = .ok (.iload 4, 2) := by decide +kernel
theorem dX10_merges_54 : decode cX10_merges 54 = .ok (.iaload, 1) := by decide +kernel
theorem dX10_merges_55 : decode cX10_merges 55 = .ok (.istore 6, 2) := by decide +kernel
theorem dX10_merges_57 : decode cX10_merges 57 = .ok (.aload_n 0, 1) := by decide +kernel
theorem dX10_merges_58 : decode cX10_merges 58 = .ok (.getfield 13, 3) := by decide +kernel
theorem dX10_merges_61 : decode cX10_merges 61 = .ok (.bipush 9, 2) := by decide +kernel
theorem dX10_merges_63 : decode cX10_merges 63 = .ok (.iaload, 1) := by decide +kernel
theorem dX10_merges_64 : decode cX10_merges 64 = .ok (.istore 7, 2) := by decide +kernel
theorem dX10_merges_66 : decode cX10_merges 66 = .ok (.aload_n 0, 1) := by decide +kernel
theorem dX10_merges_67 : decode cX10_merges 67 = .ok (.iload_n 1, 1) := by decide +kernel
theorem dX10_merges_68 : decode cX10_merges 68 = .ok (.iload_n 2, 1) := by decide +kernel
theorem dX10_merges_69 : decode cX10_merges 69 = .ok (.iload_n 3, 1) := by decide +kernel
theorem dX10_merges_70 : decode cX10_merges 70 = .ok (.iload 5, 2) := by decide +kernel
theorem dX10_merges_72 : decode cX10_merges 72 = .ok (.iconst 0, 1) := by decide +kernel
theorem dX10_merges_73 : decode cX10_merges 73 = .ok (.invokevirtual 247, 3) := by decide +kernel
theorem dX10_merges_76 : decode cX10_merges 76 = .ok (.istore 8, 2) := by decide +kernel
theorem dX10_merges_78 : decode cX10_merges 78 = .ok (.aload_n 0, 1) := by decide +kernel
theorem dX10_merges_79 : decode cX10_merges 79 = .ok (.bipush 9, 2) := by decide +kernel
theorem dX10_merges_81 : decode cX10_merges 81 = .ok (.iload 5, 2) := by decide +kernel
theorem dX10_merges_83 : decode cX10_merges 83 = .ok (.invokevirtual 181, 3) := by decide +kernel
theorem dX10_merges_86 : decode cX10_merges 86 = .ok (.ifCond .ge 22, 3) := by decide +kernel
theorem dX10_merges_89 : decode cX10_merges 89 = .ok (.iload 8, 2) := by decide +kernel
theorem dX10_merges_91 : decode cX10_merges 91 = .ok (.ifCond .lt 17, 3) := by decide +kernel
theorem dX10_merges_94 : decode cX10_merges 94 = .ok (.iload 7, 2) := by decide +kernel
theorem dX10_merges_96 : decode cX10_merges 96 = .ok (.bipush 30, 2) := by decide +kernel
theorem dX10_merges_98 : decode cX10_merges 98 = .ok (.if_icmp .eq 10, 3) := by decide +kernel
theorem dX10_merges_101 : decode cX10_merges 101 = .ok (.iload 6, 2) := by decide +kernel
theorem dX10_merges_103 : decode cX10_merges 103 = .ok (.bipush 12, 2) := by decide +kernel
theorem dX10_merges_105 : decode cX10_merges 105 = .ok (.if_icmp .lt 5, 3) := by decide +kernel
theorem dX10_merges_108 : decode cX10_merges 108 = .ok (.iconst 0, 1) := by decide +kernel
theorem dX10_merges_109 : decode cX10_merges 109 = .ok (.ireturn, 1) := by decide +kernel
theorem dX10_merges_110 : decode cX10_merges 110 = .ok (.aload_n 0, 1) := by decide +kernel
theorem dX10_merges_111 : decode cX10_merges 111 = .ok (.iload_n 1, 1) := by decide +kernel
theorem dX10_merges_112 : decode cX10_merges 112 = .ok (.iload_n 2, 1) := by decide +kernel
theorem dX10_merges_113 : decode cX10_merges 113 = .ok (.iload_n 3, 1) := by decide +kernel
theorem dX10_merges_114 : decode cX10_merges 114 = .ok (.iload 5, 2) := by decide +kernel
theorem dX10_merges_116 : decode cX10_merges 116 = .ok (.iconst 1, 1) := by decide +kernel
theorem dX10_merges_117 : decode cX10_merges 117 = .ok (.invokevirtual 247, 3) := by decide +kernel
theorem dX10_merges_120 : decode cX10_merges 120 = .ok (.istore 9, 2) := by decide +kernel
theorem dX10_merges_122 : decode cX10_merges 122 = .ok (.aload_n 0, 1) := by decide +kernel
theorem dX10_merges_123 : decode cX10_merges 123 = .ok (.iload_n 1, 1) := by decide +kernel
theorem dX10_merges_124 : decode cX10_merges 124 = .ok (.iload_n 2, 1) := by decide +kernel
theorem dX10_merges_125 : decode cX10_merges 125 = .ok (.iload_n 3, 1) := by decide +kernel
theorem dX10_merges_126 : decode cX10_merges 126 = .ok (.iload 5, 2) := by decide +kernel
theorem dX10_merges_128 : decode cX10_merges 128 = .ok (.iconst 2, 1) := by decide +kernel
theorem dX10_merges_129 : decode cX10_merges 129 = .ok (.invokevirtual 247, 3) := by decide +kernel
theorem dX10_merges_132 : decode cX10_merges 132 = .ok (.istore 10, 2) := by decide +kernel
theorem dX10_merges_134 : decode cX10_merges 134 = .ok (.aload_n 0, 1) := by decide +kernel
theorem dX10_merges_135 : decode cX10_merges 135 = .ok (.iload_n 1, 1) := by decide +kernel
theorem dX10_merges_136 : decode cX10_merges 136 = .ok (.iload_n 2, 1) := by decide +kernel
theorem dX10_merges_137 : decode cX10_merges 137 = .ok (.iload_n 3, 1) := by decide +kernel
theorem dX10_merges_138 : decode cX10_merges 138 = .ok (.iload 5, 2) := by decide +kernel
theorem dX10_merges_140 : decode cX10_merges 140 = .ok (.iconst 3, 1) := by decide +kernel
theorem dX10_merges_141 : decode cX10_merges 141 = .ok (.invokevirtual 247, 3) := by decide +kernel
theorem dX10_merges_144 : decode cX10_merges 144 = .ok (.istore 11, 2) := by decide +kernel
theorem dX10_merges_146 : decode cX10_merges 146 = .ok (.aload_n 0, 1) := by decide +kernel
theorem dX10_merges_147 : decode cX10_merges 147 = .ok (.bipush 9, 2) := by decide +kernel
theorem dX10_merges_149 : decode cX10_merges 149 = .ok (.iload 7, 2) := by decide +kernel
theorem dX10_merges_151 : decode cX10_merges 151 = .ok (.iconst 0, 1) := by decide +kernel
theorem dX10_merges_152 : decode cX10_merges 152 = .ok (.iload 5, 2) := by decide +kernel
theorem dX10_merges_154 : decode cX10_merges 154 = .ok (.invokevirtual 108, 3) := by decide +kernel
theorem dX10_merges_157 : decode cX10_merges 157 = .ok (.aload_n 0, 1) := by decide +kernel
theorem dX10_merges_158 : decode cX10_merges 158 = .ok (.bipush 9, 2) := by decide +kernel
theorem dX10_merges_160 : decode cX10_merges 160 = .ok (.iload 7, 2) := by decide +kernel
theorem dX10_merges_162 : decode cX10_merges 162 = .ok (.iconst 1, 1) := by decide +kernel
theorem dX10_merges_163 : decode cX10_merges 163 = .ok (.aload_n 0, 1) := by decide +kernel
theorem dX10_merges_164 : decode cX10_merges 164 = .ok (.iload 8, 2) := by decide +kernel
theorem dX10_merges_166 : decode cX10_merges 166 = .ok (.aload_n 0, 1) := by decide +kernel
theorem dX10_merges_167 : decode cX10_merges 167 = .ok (.iload 8, 2) := by decide +kernel
theorem dX10_merges_169 : decode cX10_merges 169 = .ok (.iload 5, 2) := by decide +kernel
theorem dX10_merges_171 : decode cX10_merges 171 = .ok (.invokevirtual 181, 3) := by decide +kernel
theorem dX10_merges_174 : decode cX10_merges 174 = .ok (.iconst 1, 1) := by decide +kernel
theorem dX10_merges_175 : decode cX10_merges 175 = .ok (.invokevirtual 104, 3) := by decide +kernel
theorem dX10_merges_178 : decode cX10_merges 178 = .ok (.invokevirtual 108, 3) := by decide +kernel
theorem dX10_merges_181 : decode cX10_merges 181 = .ok (.aload_n 0, 1) := by decide +kernel
theorem dX10_merges_182 : decode cX10_merges 182 = .ok (.bipush 9, 2) := by decide +kernel
theorem dX10_merges_184 : decode cX10_merges 184 = .ok (.iload 7, 2) := by decide +kernel
theorem dX10_merges_186 : decode cX10_merges 186 = .ok (.iconst 2, 1) := by decide +kernel
theorem dX10_merges_187 : decode cX10_merges 187 = .ok (.iload 6, 2) := by decide +kernel
theorem dX10_merges_189 : decode cX10_merges 189 = .ok (.invokevirtual 108, 3) := by decide +kernel
theorem dX10_merges_192 : decode cX10_merges 192 = .ok (.iconst 3, 1) := by decide +kernel
theorem dX10_merges_193 : decode cX10_merges 193 = .ok (.istore 12, 2) := by decide +kernel
theorem dX10_merges_195 : decode cX10_merges 195 = .ok (.iload 12, 2) := by decide +kernel
theorem dX10_merges_197 : decode cX10_merges 197 = .ok (.bipush 10, 2) := by decide +kernel
theorem dX10_merges_199 : decode cX10_merges 199 = .ok (.if_icmp .ge 35, 3) := by decide +kernel
theorem dX10_merges_202 : decode cX10_merges 202 = .ok (.aload_n 0, 1) := by decide +kernel
theorem dX10_merges_203 : decode cX10_merges 203 = .ok (.bipush 9, 2) := by decide +kernel
theorem dX10_merges_205 : decode cX10_merges 205 = .ok (.iload 7, 2) := by decide +kernel
theorem dX10_merges_207 : decode cX10_merges 207 = .ok (.iload 12, 2) := by decide +kernel
theorem dX10_merges_209 : decode cX10_merges 209 = .ok (.aload_n 0, 1) := by decide +kernel
theorem dX10_merges_210 : decode cX10_merges 210 = .ok (.iload 9, 2) := by decide +kernel
theorem dX10_merges_212 : decode cX10_merges 212 = .ok (.aload_n 0, 1) := by decide +kernel
theorem dX10_merges_213 : decode cX10_merges 213 = .ok (.iload 9, 2) := by decide +kernel
theorem dX10_merges_215 : decode cX10_merges 215 = .ok (.iload 5, 2) := by decide +kernel
theorem dX10_merges_217 : decode cX10_merges 217 = .ok (.invokevirtual 181, 3) := by decide +kernel
theorem dX10_merges_220 : decode cX10_merges 220 = .ok (.iload 12, 2) := by decide +kernel
theorem dX10_merges_222 : decode cX10_merges 222 = .ok (.invokevirtual 104, 3) := by decide +kernel
theorem dX10_merges_225 : decode cX10_merges 225 = .ok (.invokevirtual 108, 3) := by decide +kernel
theorem dX10_merges_228 : decode cX10_merges 228 = .ok (.iinc 12 1, 3) := by decide +kernel
theorem dX10_merges_231 : decode cX10_merges 231 = .ok (.goto (-36), 3) := by decide +kernel
theorem dX10_merges_234 : decode cX10_merges 234 = .ok (.bipush 10, 2) := by decide +kernel
theorem dX10_merges_236 : decode cX10_merges 236 = .ok (.istore 12, 2) := by decide +kernel
theorem dX10_merges_238 : decode cX10_merges 238 = .ok (.iload 12, 2) := by decide +kernel
theorem dX10_merges_240 : decode cX10_merges 240 = .ok (.bipush 19, 2) := by decide +kernel
theorem dX10_merges_242 : decode cX10_merges 242 = .ok (.if_icmp .ge 35, 3) := by decide +kernel
theorem dX10_merges_245 : decode cX10_merges 245 = .ok (.aload_n 0, 1) := by decide +kernel
theorem dX10_merges_246 : decode cX10_merges 246 = .ok (.bipush 9, 2) := by decide +kernel
theorem dX10_merges_248 : decode cX10_merges 248 = .ok (.iload 7, 2) := by decide +kernel
theorem dX10_merges_250 : decode cX10_merges 250 = .ok (.iload 12, 2) := by decide +kernel
theorem dX10_merges_252 : decode cX10_merges 252 = .ok (.aload_n 0, 1) := by decide +kernel
theorem dX10_merges_253 : decode cX10_merges 253 = .ok (.iload 10, 2) := by decide +kernel
theorem dX10_merges_255 : decode cX10_merges 255 = .ok (.aload_n 0, 1) := by decide +kernel
theorem dX10_merges_256 : decode cX10_merges 256 = .ok (.iload 10, 2) := by decide +kernel
theorem dX10_merges_258 : decode cX10_merges 258 = .ok (.iload 5, 2) := by decide +kernel
theorem dX10_merges_260 : decode cX10_merges 260 = .ok (.invokevirtual 181, 3) := by decide +kernel
theorem dX10_merges_263 : decode cX10_merges 263 = .ok (.iload 12, 2) := by decide +kernel
theorem dX10_merges_265 : decode cX10_merges 265 = .ok (.invokevirtual 104, 3) := by decide +kernel
theorem dX10_merges_268 : decode cX10_merges 268 = .ok (.invokevirtual 108, 3) := by decide +kernel
theorem dX10_merges_271 : decode cX10_merges 271 = .ok (.iinc 12 1, 3) := by decide +kernel
theorem dX10_merges_274 : decode cX10_merges 274 = .ok (.goto (-36), 3) := by decide +kernel
theorem dX10_merges_277 : decode cX10_merges 277 = .ok (.aload_n 0, 1) := by decide +kernel
theorem dX10_merges_278 : decode cX10_merges 278 = .ok (.getfield 13, 3) := by decide +kernel
theorem dX10_merges_281 : decode cX10_merges 281 = .ok (.bipush 9, 2) := by decide +kernel
theorem dX10_merges_283 : decode cX10_merges 283 = .ok (.dup2, 1) := by decide +kernel
theorem dX10_merges_284 : decode cX10_merges 284 = .ok (.iaload, 1) := by decide +kernel
theorem dX10_merges_285 : decode cX10_merges 285 = .ok (.iconst 1, 1) := by decide +kernel
theorem dX10_merges_286 : decode cX10_merges 286 = .ok (.iadd, 1) := by decide +kernel
theorem dX10_merges_287 : decode cX10_merges 287 = .ok (.iastore, 1) := by decide +kernel
theorem dX10_merges_288 : decode cX10_merges 288 = .ok (.aload_n 0, 1) := by decide +kernel
theorem dX10_merges_289 : decode cX10_merges 289 = .ok (.iload 11, 2) := by decide +kernel
theorem dX10_merges_291 : decode cX10_merges 291 = .ok (.iload 5, 2) := by decide +kernel
theorem dX10_merges_293 : decode cX10_merges 293 = .ok (.invokevirtual 181, 3) := by decide +kernel
theorem dX10_merges_296 : decode cX10_merges 296 = .ok (.istore 12, 2) := by decide +kernel
theorem dX10_merges_298 : decode cX10_merges 298 = .ok (.aload_n 0, 1) := by decide +kernel
theorem dX10_merges_299 : decode cX10_merges 299 = .ok (.iload 11, 2) := by decide +kernel
theorem dX10_merges_301 : decode cX10_merges 301 = .ok (.iload 12, 2) := by decide +kernel
theorem dX10_merges_303 : decode cX10_merges 303 = .ok (.invokevirtual 175, 3) := by decide +kernel
theorem dX10_merges_306 : decode cX10_merges 306 = .ok (.istore 13, 2) := by decide +kernel
theorem dX10_merges_308 : decode cX10_merges 308 = .ok (.iload 13, 2) := by decide +kernel
theorem dX10_merges_310 : decode cX10_merges 310 = .ok (.ifCond .le 18, 3) := by decide +kernel
theorem dX10_merges_313 : decode cX10_merges 313 = .ok (.aload_n 0, 1) := by decide +kernel
theorem dX10_merges_314 : decode cX10_merges 314 = .ok (.bipush 9, 2) := by decide +kernel
theorem dX10_merges_316 : decode cX10_merges 316 = .ok (.iload 7, 2) := by decide +kernel
theorem dX10_merges_318 : decode cX10_merges 318 = .ok (.iconst 1, 1) := by decide +kernel
theorem dX10_merges_319 : decode cX10_merges 319 = .ok (.invokevirtual 104, 3) := by decide +kernel
theorem dX10_merges_322 : decode cX10_merges 322 = .ok (.iconst 3, 1) := by decide +kernel
theorem dX10_merges_323 : decode cX10_merges 323 = .ok (.if_icmp .ne 5, 3) := by decide +kernel
theorem dX10_merges_326 : decode cX10_merges 326 = .ok (.iconst 0, 1) := by decide +kernel
theorem dX10_merges_327 : decode cX10_merges 327 = .ok (.ireturn, 1) := by decide +kernel
theorem dX10_merges_328 : decode cX10_merges 328 = .ok (.iload 13, 2) := by decide +kernel
theorem dX10_merges_330 : decode cX10_merges 330 = .ok (.iconst 1, 1) := by decide +kernel
theorem dX10_merges_331 : decode cX10_merges 331 = .ok (.isub, 1) := by decide +kernel
theorem dX10_merges_332 : decode cX10_merges 332 = .ok (.istore 14, 2) := by decide +kernel
theorem dX10_merges_334 : decode cX10_merges 334 = .ok (.iload 14, 2) := by decide +kernel
theorem dX10_merges_336 : decode cX10_merges 336 = .ok (.ifCond .lt 47, 3) := by decide +kernel
theorem dX10_merges_339 : decode cX10_merges 339 = .ok (.aload_n 0, 1) := by decide +kernel
theorem dX10_merges_340 : decode cX10_merges 340 = .ok (.getfield 90, 3) := by decide +kernel
theorem dX10_merges_343 : decode cX10_merges 343 = .ok (.iload 4, 2) := by decide +kernel
theorem dX10_merges_345 : decode cX10_merges 345 = .ok (.aload_n 0, 1) := by decide +kernel
theorem dX10_merges_346 : decode cX10_merges 346 = .ok (.iload 11, 2) := by decide +kernel
theorem dX10_merges_348 : decode cX10_merges 348 = .ok (.aload_n 0, 1) := by decide +kernel
theorem dX10_merges_349 : decode cX10_merges 349 = .ok (.iload 11, 2) := by decide +kernel
theorem dX10_merges_351 : decode cX10_merges 351 = .ok (.iload 12, 2) := by decide +kernel
theorem dX10_merges_353 : decode cX10_merges 353 = .ok (.iload 14, 2) := by decide +kernel
theorem dX10_merges_355 : decode cX10_merges 355 = .ok (.invokevirtual 188, 3) := by decide +kernel
theorem dX10_merges_358 : decode cX10_merges 358 = .ok (.iconst 0, 1) := by decide +kernel
theorem dX10_merges_359 : decode cX10_merges 359 = .ok (.invokevirtual 104, 3) := by decide +kernel
theorem dX10_merges_362 : decode cX10_merges 362 = .ok (.iastore, 1) := by decide +kernel
theorem dX10_merges_363 : decode cX10_merges 363 = .ok (.aload_n 0, 1) := by decide +kernel
theorem dX10_merges_364 : decode cX10_merges 364 = .ok (.getfield 93, 3) := by decide +kernel
theorem dX10_merges_367 : decode cX10_merges 367 = .ok (.iload 4, 2) := by decide +kernel
theorem dX10_merges_369 : decode cX10_merges 369 = .ok (.iload 6, 2) := by decide +kernel
theorem dX10_merges_371 : decode cX10_merges 371 = .ok (.iconst 1, 1) := by decide +kernel
theorem dX10_merges_372 : decode cX10_merges 372 = .ok (.iadd, 1) := by decide +kernel
theorem dX10_merges_373 : decode cX10_merges 373 = .ok (.iastore, 1) := by decide +kernel
theorem dX10_merges_374 : decode cX10_merges 374 = .ok (.iinc 4 1, 3) := by decide +kernel
theorem dX10_merges_377 : decode cX10_merges 377 = .ok (.iinc 14 (-1), 3) := by decide +kernel
theorem dX10_merges_380 : decode cX10_merges 380 = .ok (.goto (-46), 3) := by decide +kernel
theorem dX10_merges_383 : decode cX10_merges 383 = .ok (.goto (-352), 3) := by decide +kernel
theorem dX10_merges_386 : decode cX10_merges 386 = .ok (.aload_n 0, 1) := by decide +kernel
theorem dX10_merges_387 : decode cX10_merges 387 = .ok (.bipush 9, 2) := by decide +kernel
theorem dX10_merges_389 : decode cX10_merges 389 = .ok (.invokevirtual 194, 3) := by decide +kernel
theorem dX10_merges_392 : decode cX10_merges 392 = .ok (.ifCond .ne 7, 3) := by decide +kernel
theorem dX10_merges_395 : decode cX10_merges 395 = .ok (.iconst 1, 1) := by decide +kernel
theorem dX10_merges_396 : decode cX10_merges 396 = .ok (.goto 4, 3) := by decide +kernel
theorem dX10_merges_399 : decode cX10_merges 399 = .ok (.iconst 0, 1) := by decide +kernel
theorem dX10_merges_400 : decode cX10_merges 400 = .ok (.ireturn, 1) := by decide +kernel
theorem dX10_merge_0 : decode cX10_merge 0 = .ok (.aload_n 0, 1) := by decide +kernel
theorem dX10_merge_1 : decode cX10_merge 1 = .ok (.iload_n 1, 1) := by decide +kernel
theorem dX10_merge_2 : decode cX10_merge 2 = .ok (.invokevirtual 161, 3) := by decide +kernel
theorem dX10_merge_5 : decode cX10_merge 5 = .ok (.istore 5, 2) := by decide +kernel
theorem dX10_merge_7 : decode cX10_merge 7 = .ok (.iload 5, 2) := by decide +kernel
theorem dX10_merge_9 : decode cX10_merge 9 = .ok (.ifCond .ne 10, 3) := by decide +kernel
theorem dX10_merge_12 : decode cX10_merge 12 = .ok (.aload_n 0, 1) := by decide +kernel
theorem dX10_merge_13 : decode cX10_merge 13 = .ok (.iload_n 2, 1) := by decide +kernel
theorem dX10_merge_14 : decode cX10_merge 14 = .ok (.invokevirtual 161, 3) := by decide +kernel
theorem dX10_merge_17 : decode cX10_merge 17 = .ok (.istore 5, 2) := by decide +kernel
theorem dX10_merge_19 : decode cX10_merge 19 = .ok (.iload 5, 2) := by decide +kernel
theorem dX10_merge_21 : decode cX10_merge 21 = .ok (.ifCond .ne 10, 3) := by decide +kernel
theorem dX10_merge_24 : decode cX10_merge 24 = .ok (.aload_n 0, 1) := by decide +kernel
theorem dX10_merge_25 : decode cX10_merge 25 = .ok (.iload_n 3, 1) := by decide +kernel
theorem dX10_merge_26 : decode cX10_merge 26 = .ok (.invokevirtual 161, 3) := by decide +kernel
theorem dX10_merge_29 : decode cX10_merge 29 = .ok (.istore 5, 2) := by decide +kernel
theorem dX10_merge_31 : decode cX10_merge 31 = .ok (.iload 5, 2) := by decide +kernel
theorem dX10_merge_33 : decode cX10_merge 33 = .ok (.ifCond .ge 10, 3) := by decide +kernel
theorem dX10_merge_36 : decode cX10_merge 36 = .ok (.aload_n 0, 1) := by decide +kernel
theorem dX10_merge_37 : decode cX10_merge 37 = .ok (.iload 5, 2) := by decide +kernel
theorem dX10_merge_39 : decode cX10_merge 39 = .ok (.invokevirtual 126, 3) := by decide +kernel
theorem dX10_merge_42 : decode cX10_merge 42 = .ok (.ireturn, 1) := by decide +kernel
theorem dX10_merge_43 : decode cX10_merge 43 = .ok (.iload 4, 2) := by decide +kernel
theorem dX10_merge_45 : decode cX10_merge 45 = .ok (.invokestatic 100, 3) := by decide +kernel
theorem dX10_merge_48 : decode cX10_merge 48 = .ok (.ifCond .ne 9, 3) := by decide +kernel
theorem dX10_merge_51 : decode cX10_merge 51 = .ok (.aload_n 0, 1) := by decide +kernel
theorem dX10_merge_52 : decode cX10_merge 52 = .ok (.iconst (-1), 1) := by decide +kernel
theorem dX10_merge_53 : decode cX10_merge 53 = .ok (.invokevirtual 126, 3) := by decide +kernel
theorem dX10_merge_56 : decode cX10_merge 56 = .ok (.ireturn, 1) := by decide +kernel
theorem dX10_merge_57 : decode cX10_merge 57 = .ok (.aload_n 0, 1) := by decide +kernel
theorem dX10_merge_58 : decode cX10_merge 58 = .ok (.iconst 0, 1) := by decide +kernel
theorem dX10_merge_59 : decode cX10_merge 59 = .ok (.putfield 237, 3) := by decide +kernel
theorem dX10_merge_62 : decode cX10_merge 62 = .ok (.aload_n 0, 1) := by decide +kernel
theorem dX10_merge_63 : decode cX10_merge 63 = .ok (.iconst 0, 1) := by decide +kernel
theorem dX10_merge_64 : decode cX10_merge 64 = .ok (.putfield 250, 3) := by decide +kernel
theorem dX10_merge_67 : decode cX10_merge 67 = .ok (.aload_n 0, 1) := by decide +kernel
theorem dX10_merge_68 : decode cX10_merge 68 = .ok (.iload_n 1, 1) := by decide +kernel
theorem dX10_merge_69 : decode cX10_merge 69 = .ok (.iconst 0, 1) := by decide +kernel
theorem dX10_merge_70 : decode cX10_merge 70 = .ok (.iconst 0, 1) := by decide +kernel
theorem dX10_merge_71 : decode cX10_merge 71 = .ok (.invokevirtual 104, 3) := by decide +kernel
theorem dX10_merge_74 : decode cX10_merge 74 = .ok (.istore 6, 2) := by decide +kernel
theorem dX10_merge_76 : decode cX10_merge 76 = .ok (.aload_n 0, 1) := by decide +kernel
theorem dX10_merge_77 : decode cX10_merge 77 = .ok (.iload_n 2, 1) := by decide +kernel
theorem dX10_merge_78 : decode cX10_merge 78 = .ok (.iconst 0, 1) := by decide +kernel
theorem dX10_merge_79 : decode cX10_merge 79 = .ok (.iconst 0, 1) := by decide +kernel
theorem dX10_merge_80 : decode cX10_merge 80 = .ok (.invokevirtual 104, 3) := by decide +kernel
theorem dX10_merge_83 : decode cX10_merge 83 = .ok (.iload 6, 2) := by decide +kernel
theorem dX10_merge_85 : decode cX10_merge 85 = .ok (.if_icmp .ne 15, 3) := by decide +kernel
theorem dX10_merge_88 : decode cX10_merge 88 = .ok (.aload_n 0, 1) := by decide +kernel
theorem dX10_merge_89 : decode cX10_merge 89 = .ok (.iload_n 3, 1) := by decide +kernel
theorem dX10_merge_90 : decode cX10_merge 90 = .ok (.iconst 0, 1) := by decide +kernel
theorem dX10_merge_91 : decode cX10_merge 91 = .ok (.iconst 0, 1) := by decide +kernel
theorem dX10_merge_92 : decode cX10_merge 92 = .ok (.invokevirtual 104, 3) := by decide +kernel
theorem dX10_merge_95 : decode cX10_merge 95 = .ok (.iload 6, 2) := by decide +kernel
theorem dX10_merge_97 : decode cX10_merge 97 = .ok (.if_icmp .eq 14, 3) := by decide +kernel
theorem dX10_merge_100 : decode cX10_merge 100 = .ok (.aload_n 0, 1) := by decide +kernel
theorem dX10_merge_101 : decode cX10_merge 101 = .ok (.iconst (-1), 1) := by decide +kernel
theorem dX10_merge_102 : decode cX10_merge 102 = .ok (.iconst 4, 1) := by decide +kernel
theorem dX10_merge_103 : decode cX10_merge 103 = .ok (.invokevirtual 253, 3) := by decide +kernel
theorem dX10_merge_106 : decode cX10_merge 106 = .ok (.aload_n 0, 1) := by decide +kernel
theorem dX10_merge_107 : decode cX10_merge 107 = .ok (.getfield 237, 3) := by decide +kernel
theorem dX10_merge_110 : decode cX10_merge 110 = .ok (.ireturn, 1) := by decide +kernel
theorem dX10_merge_111 : decode cX10_merge 111 = .ok (.aload_n 0, 1) := by decide +kernel
theorem dX10_merge_112 : decode cX10_merge 112 = .ok (.iload_n 1, 1) := by decide +kernel
theorem dX10_merge_113 : decode cX10_merge 113 = .ok (.iload_n 2, 1) := by decide +kernel
theorem dX10_merge_114 : decode cX10_merge 114 = .ok (.iload_n 3, 1) := by decide +kernel
theorem dX10_merge_115 : decode cX10_merge 115 = .ok (.invokevirtual 256, 3) := by decide +kernel
theorem dX10_merge_118 : decode cX10_merge 118 = .ok (.istore 7, 2) := by decide +kernel
theorem dX10_merge_120 : decode cX10_merge 120 = .ok (.iload 7, 2) := by decide +kernel
theorem dX10_merge_122 : decode cX10_merge 122 = .ok (.ifCond .ne 9, 3) := by decide +kernel
theorem dX10_merge_125 : decode cX10_merge 125 = .ok (.aload_n 0, 1) := by decide +kernel
theorem dX10_merge_126 : decode cX10_merge 126 = .ok (.iconst (-1), 1) := by decide +kernel
theorem dX10_merge_127 : decode cX10_merge 127 = .ok (.iconst 5, 1) := by decide +kernel
theorem dX10_merge_128 : decode cX10_merge 128 = .ok (.invokevirtual 253, 3) := by decide +kernel
theorem dX10_merge_131 : decode cX10_merge 131 = .ok (.aload_n 0, 1) := by decide +kernel
theorem dX10_merge_132 : decode cX10_merge 132 = .ok (.iload_n 2, 1) := by decide +kernel
theorem dX10_merge_133 : decode cX10_merge 133 = .ok (.iload_n 3, 1) := by decide +kernel
theorem dX10_merge_134 : decode cX10_merge 134 = .ok (.iconst (-1), 1) := by decide +kernel
theorem dX10_merge_135 : decode cX10_merge 135 = .ok (.invokevirtual 259, 3) := by decide +kernel
theorem dX10_merge_138 : decode cX10_merge 138 = .ok (.istore 8, 2) := by decide +kernel
theorem dX10_merge_140 : decode cX10_merge 140 = .ok (.iload 8, 2) := by decide +kernel
theorem dX10_merge_142 : decode cX10_merge 142 = .ok (.ifCond .lt 59, 3) := by decide +kernel
theorem dX10_merge_145 : decode cX10_merge 145 = .ok (.iconst 0, 1) := by decide +kernel
theorem dX10_merge_146 : decode cX10_merge 146 = .ok (.istore 9, 2) := by decide +kernel
theorem dX10_merge_148 : decode cX10_merge 148 = .ok (.iload 9, 2) := by decide +kernel
theorem dX10_merge_150 : decode cX10_merge 150 = .ok (.iconst 4, 1) := by decide +kernel
theorem dX10_merge_151 : decode cX10_merge 151 = .ok (.if_icmp .ge 37, 3) := by decide +kernel
theorem dX10_merge_154 : decode cX10_merge 154 = .ok (.aload_n 0, 1) := by decide +kernel
theorem dX10_merge_155 : decode cX10_merge 155 = .ok (.iload_n 1, 1) := by decide +kernel
theorem dX10_merge_156 : decode cX10_merge 156 = .ok (.iload_n 2, 1) := by decide +kernel
theorem dX10_merge_157 : decode cX10_merge 157 = .ok (.iload_n 3, 1) := by decide +kernel
theorem dX10_merge_158 : decode cX10_merge 158 = .ok (.iload 8, 2) := by decide +kernel
theorem dX10_merge_160 : decode cX10_merge 160 = .ok (.iload 9, 2) := by decide +kernel
theorem dX10_merge_162 : decode cX10_merge 162 = .ok (.invokevirtual 247, 3) := by decide +kernel
theorem dX10_merge_165 : decode cX10_merge 165 = .ok (.istore 10, 2) := by decide +kernel
theorem dX10_merge_167 : decode cX10_merge 167 = .ok (.aload_n 0, 1) := by decide +kernel
theorem dX10_merge_168 : decode cX10_merge 168 = .ok (.getfield 240, 3) := by decide +kernel
theorem dX10_merge_171 : decode cX10_merge 171 = .ok (.ifCond .eq 11, 3) := by decide +kernel
theorem dX10_merge_174 : decode cX10_merge 174 = .ok (.aload_n 0, 1) := by decide +kernel
theorem dX10_merge_175 : decode cX10_merge 175 = .ok (.iload 8, 2) := by decide +kernel
theorem dX10_merge_177 : decode cX10_merge 177 = .ok (.iload 9, 2) := by decide +kernel
theorem dX10_merge_179 : decode cX10_merge 179 = .ok (.invokevirtual 253, 3) := by decide +kernel
theorem dX10_merge_182 : decode cX10_merge 182 = .ok (.iinc 9 1, 3) := by decide +kernel
theorem dX10_merge_185 : decode cX10_merge 185 = .ok (.goto (-37), 3) := by decide +kernel
theorem dX10_merge_188 : decode cX10_merge 188 = .ok (.aload_n 0, 1) := by decide +kernel
theorem dX10_merge_189 : decode cX10_merge 189 = .ok (.iload_n 2, 1) := by decide +kernel
theorem dX10_merge_190 : decode cX10_merge 190 = .ok (.iload_n 3, 1) := by decide +kernel
theorem dX10_merge_191 : decode cX10_merge 191 = .ok (.iload 8, 2) := by decide +kernel
theorem dX10_merge_193 : decode cX10_merge 193 = .ok (.invokevirtual 259, 3) := by decide +kernel
theorem dX10_merge_196 : decode cX10_merge 196 = .ok (.istore 8, 2) := by decide +kernel
theorem dX10_merge_198 : decode cX10_merge 198 = .ok (.goto (-58), 3) := by decide +kernel
theorem dX10_merge_201 : decode cX10_merge 201 = .ok (.iload 7, 2) := by decide +kernel
theorem dX10_merge_203 : decode cX10_merge 203 = .ok (.ifCond .eq 22, 3) := by decide +kernel
theorem dX10_merge_206 : decode cX10_merge 206 = .ok (.aload_n 0, 1) := by decide +kernel
theorem dX10_merge_207 : decode cX10_merge 207 = .ok (.aload_n 0, 1) := by decide +kernel
theorem dX10_merge_208 : decode cX10_merge 208 = .ok (.getfield 13, 3) := by decide +kernel
theorem dX10_merge_211 : decode cX10_merge 211 = .ok (.bipush 9, 2) := by decide +kernel
theorem dX10_merge_213 : decode cX10_merge 213 = .ok (.iaload, 1) := by decide +kernel
theorem dX10_merge_214 : decode cX10_merge 214 = .ok (.putfield 250, 3) := by decide +kernel
theorem dX10_merge_217 : decode cX10_merge 217 = .ok (.aload_n 0, 1) := by decide +kernel
theorem dX10_merge_218 : decode cX10_merge 218 = .ok (.bipush 9, 2) := by decide +kernel
theorem dX10_merge_220 : decode cX10_merge 220 = .ok (.iload 4, 2) := by decide +kernel
theorem dX10_merge_222 : decode cX10_merge 222 = .ok (.invokevirtual 151, 3) := by decide +kernel
theorem dX10_merge_225 : decode cX10_merge 225 = .ok (.aload_n 0, 1) := by decide +kernel
theorem dX10_merge_226 : decode cX10_merge 226 = .ok (.getfield 237, 3) := by decide +kernel
theorem dX10_merge_229 : decode cX10_merge 229 = .ok (.ireturn, 1) := by decide +kernel
theorem dX10_least_0 : decode cX10_least 0 = .ok (.iconst (-1), 1) := by decide +kernel
theorem dX10_least_1 : decode cX10_least 1 = .ok (.istore 4, 2) := by decide +kernel
theorem dX10_least_3 : decode cX10_least 3 = .ok (.iconst 0, 1) := by decide +kernel
theorem dX10_least_4 : decode cX10_least 4 = .ok (.istore 5, 2) := by decide +kernel
theorem dX10_least_6 : decode cX10_least 6 = .ok (.iload 5, 2) := by decide +kernel
theorem dX10_least_8 : decode cX10_least 8 = .ok (.aload_n 0, 1) := by decide +kernel
theorem dX10_least_9 : decode cX10_least 9 = .ok (.getfield 13, 3) := by decide +kernel
theorem dX10_least_12 : decode cX10_least 12 = .ok (.iload_n 1, 1) := by decide +kernel
theorem dX10_least_13 : decode cX10_least 13 = .ok (.iaload, 1) := by decide +kernel
theorem dX10_least_14 : decode cX10_least 14 = .ok (.if_icmp .ge 51, 3) := by decide +kernel
theorem dX10_least_17 : decode cX10_least 17 = .ok (.aload_n 0, 1) := by decide +kernel
theorem dX10_least_18 : decode cX10_least 18 = .ok (.iload_n 1, 1) := by decide +kernel
theorem dX10_least_19 : decode cX10_least 19 = .ok (.iload 5, 2) := by decide +kernel
theorem dX10_least_21 : decode cX10_least 21 = .ok (.iconst 0, 1) := by decide +kernel
theorem dX10_least_22 : decode cX10_least 22 = .ok (.invokevirtual 104, 3) := by decide +kernel
theorem dX10_least_25 : decode cX10_least 25 = .ok (.istore 6, 2) := by decide +kernel
theorem dX10_least_27 : decode cX10_least 27 = .ok (.iload 6, 2) := by decide +kernel
theorem dX10_least_29 : decode cX10_least 29 = .ok (.iload_n 3, 1) := by decide +kernel
theorem dX10_least_30 : decode cX10_least 30 = .ok (.if_icmp .le 29, 3) := by decide +kernel
theorem dX10_least_33 : decode cX10_least 33 = .ok (.aload_n 0, 1) := by decide +kernel
theorem dX10_least_34 : decode cX10_least 34 = .ok (.iload_n 2, 1) := by decide +kernel
theorem dX10_least_35 : decode cX10_least 35 = .ok (.iload 6, 2) := by decide +kernel
theorem dX10_least_37 : decode cX10_least 37 = .ok (.invokevirtual 181, 3) := by decide +kernel
theorem dX10_least_40 : decode cX10_least 40 = .ok (.ifCond .lt 19, 3) := by decide +kernel
theorem dX10_least_43 : decode cX10_least 43 = .ok (.iload 4, 2) := by decide +kernel
theorem dX10_least_45 : decode cX10_least 45 = .ok (.ifCond .lt 10, 3) := by decide +kernel
theorem dX10_least_48 : decode cX10_least 48 = .ok (.iload 6, 2) := by decide +kernel
theorem dX10_least_50 : decode cX10_least 50 = .ok (.iload 4, 2) := by decide +kernel
theorem dX10_least_52 : decode cX10_least 52 = .ok (.if_icmp .ge 7, 3) := by decide +kernel
theorem dX10_least_55 : decode cX10_least 55 = .ok (.iload 6, 2) := by decide +kernel
theorem dX10_least_57 : decode cX10_least 57 = .ok (.istore 4, 2) := by decide +kernel
theorem dX10_least_59 : decode cX10_least 59 = .ok (.iinc 5 1, 3) := by decide +kernel
theorem dX10_least_62 : decode cX10_least 62 = .ok (.goto (-56), 3) := by decide +kernel
theorem dX10_least_65 : decode cX10_least 65 = .ok (.iload 4, 2) := by decide +kernel
theorem dX10_least_67 : decode cX10_least 67 = .ok (.ireturn, 1) := by decide +kernel
theorem dX10_merged_0 : decode cX10_merged 0 = .ok (.aload_n 0, 1) := by decide +kernel
theorem dX10_merged_1 : decode cX10_merged 1 = .ok (.getfield 250, 3) := by decide +kernel
theorem dX10_merged_4 : decode cX10_merged 4 = .ok (.ireturn, 1) := by decide +kernel
theorem dX10_clash_0 : decode cX10_clash 0 = .ok (.iload_n 1, 1) := by decide +kernel
theorem dX10_clash_1 : decode cX10_clash 1 = .ok (.iconst 0, 1) := by decide +kernel
theorem dX10_clash_2 : decode cX10_clash 2 = .ok (.aload_n 0, 1) := by decide +kernel
theorem dX10_clash_3 : decode cX10_clash 3 = .ok (.getfield 237, 3) := by decide +kernel
theorem dX10_clash_6 : decode cX10_clash 6 = .ok (.iconst 1, 1) := by decide +kernel
theorem dX10_clash_7 : decode cX10_clash 7 = .ok (.isub, 1) := by decide +kernel
theorem dX10_clash_8 : decode cX10_clash 8 = .ok (.invokestatic 96, 3) := by decide +kernel
theorem dX10_clash_11 : decode cX10_clash 11 = .ok (.ifCond .ne 10, 3) := by decide +kernel
theorem dX10_clash_14 : decode cX10_clash 14 = .ok (.aload_n 0, 1) := by decide +kernel
theorem dX10_clash_15 : decode cX10_clash 15 = .ok (.bipush (-6), 2) := by decide +kernel
theorem dX10_clash_17 : decode cX10_clash 17 = .ok (.invokevirtual 126, 3) := by decide +kernel
theorem dX10_clash_20 : decode cX10_clash 20 = .ok (.ireturn, 1) := by decide +kernel
theorem dX10_clash_21 : decode cX10_clash 21 = .ok (.iload_n 2, 1) := by decide +kernel
theorem dX10_clash_22 : decode cX10_clash 22 = .ok (.ifCond .ne 12, 3) := by decide +kernel
theorem dX10_clash_25 : decode cX10_clash 25 = .ok (.aload_n 0, 1) := by decide +kernel
theorem dX10_clash_26 : decode cX10_clash 26 = .ok (.getfield 84, 3) := by decide +kernel
theorem dX10_clash_29 : decode cX10_clash 29 = .ok (.iload_n 1, 1) := by decide +kernel
theorem dX10_clash_30 : decode cX10_clash 30 = .ok (.iaload, 1) := by decide +kernel
theorem dX10_clash_31 : decode cX10_clash 31 = .ok (.goto 22, 3) := by decide +kernel
theorem dX10_clash_34 : decode cX10_clash 34 = .ok (.iload_n 2, 1) := by decide +kernel
theorem dX10_clash_35 : decode cX10_clash 35 = .ok (.iconst 1, 1) := by decide +kernel
theorem dX10_clash_36 : decode cX10_clash 36 = .ok (.if_icmp .ne 12, 3) := by decide +kernel
theorem dX10_clash_39 : decode cX10_clash 39 = .ok (.aload_n 0, 1) := by decide +kernel
theorem dX10_clash_40 : decode cX10_clash 40 = .ok (.getfield 87, 3) := by decide +kernel
theorem dX10_clash_43 : decode cX10_clash 43 = .ok (.iload_n 1, 1) := by decide +kernel
theorem dX10_clash_44 : decode cX10_clash 44 = .ok (.iaload, 1) := by decide +kernel
theorem dX10_clash_45 : decode cX10_clash 45 = .ok (.goto 8, 3) := by decide +kernel
theorem dX10_clash_48 : decode cX10_clash 48 = .ok (.aload_n 0, 1) := by decide +kernel
theorem dX10_clash_49 : decode cX10_clash 49 = .ok (.iconst (-1), 1) := by decide +kernel
theorem dX10_clash_50 : decode cX10_clash 50 = .ok (.invokevirtual 126, 3) := by decide +kernel
theorem dX10_clash_53 : decode cX10_clash 53 = .ok (.ireturn, 1) := by decide +kernel
theorem dX10_found_0 : decode cX10_found 0 = .ok (.iload_n 1, 1) := by decide +kernel
theorem dX10_found_1 : decode cX10_found 1 = .ok (.bipush (-7), 2) := by decide +kernel
theorem dX10_found_3 : decode cX10_found 3 = .ok (.iconst (-1), 1) := by decide +kernel
theorem dX10_found_4 : decode cX10_found 4 = .ok (.invokestatic 96, 3) := by decide +kernel
theorem dX10_found_7 : decode cX10_found 7 = .ok (.ifCond .ne 9, 3) := by decide +kernel
theorem dX10_found_10 : decode cX10_found 10 = .ok (.iload_n 1, 1) := by decide +kernel
theorem dX10_found_11 : decode cX10_found 11 = .ok (.bipush (-9), 2) := by decide +kernel
theorem dX10_found_13 : decode cX10_found 13 = .ok (.if_icmp .ne 13, 3) := by decide +kernel
theorem dX10_found_16 : decode cX10_found 16 = .ok (.aload_n 0, 1) := by decide +kernel
theorem dX10_found_17 : decode cX10_found 17 = .ok (.getfield 25, 3) := by decide +kernel
theorem dX10_found_20 : decode cX10_found 20 = .ok (.iload_n 1, 1) := by decide +kernel
theorem dX10_found_21 : decode cX10_found 21 = .ok (.ineg, 1) := by decide +kernel
theorem dX10_found_22 : decode cX10_found 22 = .ok (.iaload, 1) := by decide +kernel
theorem dX10_found_23 : decode cX10_found 23 = .ok (.goto 8, 3) := by decide +kernel
theorem dX10_found_26 : decode cX10_found 26 = .ok (.aload_n 0, 1) := by decide +kernel
theorem dX10_found_27 : decode cX10_found 27 = .ok (.iconst (-1), 1) := by decide +kernel
theorem dX10_found_28 : decode cX10_found 28 = .ok (.invokevirtual 126, 3) := by decide +kernel
theorem dX10_found_31 : decode cX10_found 31 = .ok (.ireturn, 1) := by decide +kernel
theorem dL_law_0 : decode cL_law 0 = .ok (.new 7, 3) := by decide +kernel
theorem dL_law_3 : decode cL_law 3 = .ok (.dup, 1) := by decide +kernel
theorem dL_law_4 : decode cL_law 4 = .ok (.invokespecial 9, 3) := by decide +kernel
theorem dL_law_7 : decode cL_law 7 = .ok (.astore_n 1, 1) := by decide +kernel
theorem dL_law_8 : decode cL_law 8 = .ok (.new 10, 3) := by decide +kernel
theorem dL_law_11 : decode cL_law 11 = .ok (.dup, 1) := by decide +kernel
theorem dL_law_12 : decode cL_law 12 = .ok (.invokespecial 12, 3) := by decide +kernel
theorem dL_law_15 : decode cL_law 15 = .ok (.astore_n 2, 1) := by decide +kernel
theorem dL_law_16 : decode cL_law 16 = .ok (.iconst 0, 1) := by decide +kernel
theorem dL_law_17 : decode cL_law 17 = .ok (.istore_n 3, 1) := by decide +kernel
theorem dL_law_18 : decode cL_law 18 = .ok (.iload_n 3, 1) := by decide +kernel
theorem dL_law_19 : decode cL_law 19 = .ok (.aload_n 0, 1) := by decide +kernel
theorem dL_law_20 : decode cL_law 20 = .ok (.arraylength, 1) := by decide +kernel
theorem dL_law_21 : decode cL_law 21 = .ok (.bipush 6, 2) := by decide +kernel
theorem dL_law_23 : decode cL_law 23 = .ok (.isub, 1) := by decide +kernel
theorem dL_law_24 : decode cL_law 24 = .ok (.if_icmp .gt 1009, 3) := by decide +kernel
theorem dL_law_27 : decode cL_law 27 = .ok (.aload_n 0, 1) := by decide +kernel
theorem dL_law_28 : decode cL_law 28 = .ok (.iload_n 3, 1) := by decide +kernel
theorem dL_law_29 : decode cL_law 29 = .ok (.iaload, 1) := by decide +kernel
theorem dL_law_30 : decode cL_law 30 = .ok (.bipush 31, 2) := by decide +kernel
theorem dL_law_32 : decode cL_law 32 = .ok (.iand, 1) := by decide +kernel
theorem dL_law_33 : decode cL_law 33 = .ok (.tableswitch 994 0 26 #[123, 186, 209, 232, 255, 288, 311, 354, 377, 410, 443, 506, 539, 592, 625, 658, 691, 724, 737, 770, 783, 816, 839, 872, 925, 938, 971], 123) := by decide +kernel
theorem dL_law_156 : decode cL_law 156 = .ok (.aload_n 1, 1) := by decide +kernel
theorem dL_law_157 : decode cL_law 157 = .ok (.aload_n 0, 1) := by decide +kernel
theorem dL_law_158 : decode cL_law 158 = .ok (.iload_n 3, 1) := by decide +kernel
theorem dL_law_159 : decode cL_law 159 = .ok (.iconst 1, 1) := by decide +kernel
theorem dL_law_160 : decode cL_law 160 = .ok (.iadd, 1) := by decide +kernel
theorem dL_law_161 : decode cL_law 161 = .ok (.iaload, 1) := by decide +kernel
theorem dL_law_162 : decode cL_law 162 = .ok (.i2l, 1) := by decide +kernel
theorem dL_law_163 : decode cL_law 163 = .ok (.bipush 32, 2) := by decide +kernel
theorem dL_law_165 : decode cL_law 165 = .ok (.lshl, 1) := by decide +kernel
theorem dL_law_166 : decode cL_law 166 = .ok (.aload_n 0, 1) := by decide +kernel
theorem dL_law_167 : decode cL_law 167 = .ok (.iload_n 3, 1) := by decide +kernel
theorem dL_law_168 : decode cL_law 168 = .ok (.iconst 2, 1) := by decide +kernel
theorem dL_law_169 : decode cL_law 169 = .ok (.iadd, 1) := by decide +kernel
theorem dL_law_170 : decode cL_law 170 = .ok (.iaload, 1) := by decide +kernel
theorem dL_law_171 : decode cL_law 171 = .ok (.i2l, 1) := by decide +kernel
theorem dL_law_172 : decode cL_law 172 = .ok (.ldc2_w 13, 3) := by decide +kernel
theorem dL_law_175 : decode cL_law 175 = .ok (.land, 1) := by decide +kernel
theorem dL_law_176 : decode cL_law 176 = .ok (.lor, 1) := by decide +kernel
theorem dL_law_177 : decode cL_law 177 = .ok (.aload_n 0, 1) := by decide +kernel
theorem dL_law_178 : decode cL_law 178 = .ok (.iload_n 3, 1) := by decide +kernel
theorem dL_law_179 : decode cL_law 179 = .ok (.iconst 3, 1) := by decide +kernel
theorem dL_law_180 : decode cL_law 180 = .ok (.iadd, 1) := by decide +kernel
theorem dL_law_181 : decode cL_law 181 = .ok (.iaload, 1) := by decide +kernel
theorem dL_law_182 : decode cL_law 182 = .ok (.invokevirtual 15, 3) := by decide +kernel
theorem dL_law_185 : decode cL_law 185 = .ok (.aload_n 2, 1) := by decide +kernel
theorem dL_law_186 : decode cL_law 186 = .ok (.aload_n 0, 1) := by decide +kernel
theorem dL_law_187 : decode cL_law 187 = .ok (.iload_n 3, 1) := by decide +kernel
theorem dL_law_188 : decode cL_law 188 = .ok (.iconst 1, 1) := by decide +kernel
theorem dL_law_189 : decode cL_law 189 = .ok (.iadd, 1) := by decide +kernel
theorem dL_law_190 : decode cL_law 190 = .ok (.iaload, 1) := by decide +kernel
theorem dL_law_191 : decode cL_law 191 = .ok (.i2l, 1) := by decide +kernel
theorem dL_law_192 : decode cL_law 192 = .ok (.bipush 32, 2) := by decide +kernel
theorem dL_law_194 : decode cL_law 194 = .ok (.lshl, 1) := by decide +kernel
theorem dL_law_195 : decode cL_law 195 = .ok (.aload_n 0, 1) := by decide +kernel
theorem dL_law_196 : decode cL_law 196 = .ok (.iload_n 3, 1) := by decide +kernel
theorem dL_law_197 : decode cL_law 197 = .ok (.iconst 2, 1) := by decide +kernel
theorem dL_law_198 : decode cL_law 198 = .ok (.iadd, 1) := by decide +kernel
theorem dL_law_199 : decode cL_law 199 = .ok (.iaload, 1) := by decide +kernel
theorem dL_law_200 : decode cL_law 200 = .ok (.i2l, 1) := by decide +kernel
theorem dL_law_201 : decode cL_law 201 = .ok (.ldc2_w 13, 3) := by decide +kernel
theorem dL_law_204 : decode cL_law 204 = .ok (.land, 1) := by decide +kernel
theorem dL_law_205 : decode cL_law 205 = .ok (.lor, 1) := by decide +kernel
theorem dL_law_206 : decode cL_law 206 = .ok (.aload_n 0, 1) := by decide +kernel
theorem dL_law_207 : decode cL_law 207 = .ok (.iload_n 3, 1) := by decide +kernel
theorem dL_law_208 : decode cL_law 208 = .ok (.iconst 3, 1) := by decide +kernel
theorem dL_law_209 : decode cL_law 209 = .ok (.iadd, 1) := by decide +kernel
theorem dL_law_210 : decode cL_law 210 = .ok (.iaload, 1) := by decide +kernel
theorem dL_law_211 : decode cL_law 211 = .ok (.invokevirtual 19, 3) := by decide +kernel
theorem dL_law_214 : decode cL_law 214 = .ok (.if_icmp .eq 813, 3) := by decide +kernel
theorem dL_law_217 : decode cL_law 217 = .ok (.iconst 0, 1) := by decide +kernel
theorem dL_law_218 : decode cL_law 218 = .ok (.ireturn, 1) := by decide +kernel
theorem dL_law_219 : decode cL_law 219 = .ok (.aload_n 1, 1) := by decide +kernel
theorem dL_law_220 : decode cL_law 220 = .ok (.aload_n 0, 1) := by decide +kernel
theorem dL_law_221 : decode cL_law 221 = .ok (.iload_n 3, 1) := by decide +kernel
theorem dL_law_222 : decode cL_law 222 = .ok (.iconst 1, 1) := by decide +kernel
theorem dL_law_223 : decode cL_law 223 = .ok (.iadd, 1) := by decide +kernel
theorem dL_law_224 : decode cL_law 224 = .ok (.iaload, 1) := by decide +kernel
theorem dL_law_225 : decode cL_law 225 = .ok (.invokevirtual 20, 3) := by decide +kernel
theorem dL_law_228 : decode cL_law 228 = .ok (.aload_n 2, 1) := by decide +kernel
theorem dL_law_229 : decode cL_law 229 = .ok (.aload_n 0, 1) := by decide +kernel
theorem dL_law_230 : decode cL_law 230 = .ok (.iload_n 3, 1) := by decide +kernel
theorem dL_law_231 : decode cL_law 231 = .ok (.iconst 1, 1) := by decide +kernel
theorem dL_law_232 : decode cL_law 232 = .ok (.iadd, 1) := by decide +kernel
theorem dL_law_233 : decode cL_law 233 = .ok (.iaload, 1) := by decide +kernel
theorem dL_law_234 : decode cL_law 234 = .ok (.invokevirtual 24, 3) := by decide +kernel
theorem dL_law_237 : decode cL_law 237 = .ok (.if_icmp .eq 790, 3) := by decide +kernel
theorem dL_law_240 : decode cL_law 240 = .ok (.iconst 0, 1) := by decide +kernel
theorem dL_law_241 : decode cL_law 241 = .ok (.ireturn, 1) := by decide +kernel
theorem dL_law_242 : decode cL_law 242 = .ok (.aload_n 1, 1) := by decide +kernel
theorem dL_law_243 : decode cL_law 243 = .ok (.aload_n 0, 1) := by decide +kernel
theorem dL_law_244 : decode cL_law 244 = .ok (.iload_n 3, 1) := by decide +kernel
theorem dL_law_245 : decode cL_law 245 = .ok (.iconst 1, 1) := by decide +kernel
theorem dL_law_246 : decode cL_law 246 = .ok (.iadd, 1) := by decide +kernel
theorem dL_law_247 : decode cL_law 247 = .ok (.iaload, 1) := by decide +kernel
theorem dL_law_248 : decode cL_law 248 = .ok (.invokevirtual 25, 3) := by decide +kernel
theorem dL_law_251 : decode cL_law 251 = .ok (.aload_n 2, 1) := by decide +kernel
theorem dL_law_252 : decode cL_law 252 = .ok (.aload_n 0, 1) := by decide +kernel
theorem dL_law_253 : decode cL_law 253 = .ok (.iload_n 3, 1) := by decide +kernel
theorem dL_law_254 : decode cL_law 254 = .ok (.iconst 1, 1) := by decide +kernel
theorem dL_law_255 : decode cL_law 255 = .ok (.iadd, 1) := by decide +kernel
theorem dL_law_256 : decode cL_law 256 = .ok (.iaload, 1) := by decide +kernel
theorem dL_law_257 : decode cL_law 257 = .ok (.invokevirtual 28, 3) := by decide +kernel
theorem dL_law_260 : decode cL_law 260 = .ok (.if_icmp .eq 767, 3) := by decide +kernel
theorem dL_law_263 : decode cL_law 263 = .ok (.iconst 0, 1) := by decide +kernel
theorem dL_law_264 : decode cL_law 264 = .ok (.ireturn, 1) := by decide +kernel
theorem dL_law_265 : decode cL_law 265 = .ok (.aload_n 1, 1) := by decide +kernel
theorem dL_law_266 : decode cL_law 266 = .ok (.aload_n 0, 1) := by decide +kernel
theorem dL_law_267 : decode cL_law 267 = .ok (.iload_n 3, 1) := by decide +kernel
theorem dL_law_268 : decode cL_law 268 = .ok (.iconst 1, 1) := by decide +kernel
theorem dL_law_269 : decode cL_law 269 = .ok (.iadd, 1) := by decide +kernel
theorem dL_law_270 : decode cL_law 270 = .ok (.iaload, 1) := by decide +kernel
theorem dL_law_271 : decode cL_law 271 = .ok (.invokevirtual 29, 3) := by decide +kernel
theorem dL_law_274 : decode cL_law 274 = .ok (.aload_n 2, 1) := by decide +kernel
theorem dL_law_275 : decode cL_law 275 = .ok (.aload_n 0, 1) := by decide +kernel
theorem dL_law_276 : decode cL_law 276 = .ok (.iload_n 3, 1) := by decide +kernel
theorem dL_law_277 : decode cL_law 277 = .ok (.iconst 1, 1) := by decide +kernel
theorem dL_law_278 : decode cL_law 278 = .ok (.iadd, 1) := by decide +kernel
theorem dL_law_279 : decode cL_law 279 = .ok (.iaload, 1) := by decide +kernel
theorem dL_law_280 : decode cL_law 280 = .ok (.invokevirtual 32, 3) := by decide +kernel
theorem dL_law_283 : decode cL_law 283 = .ok (.if_icmp .eq 744, 3) := by decide +kernel
theorem dL_law_286 : decode cL_law 286 = .ok (.iconst 0, 1) := by decide +kernel
theorem dL_law_287 : decode cL_law 287 = .ok (.ireturn, 1) := by decide +kernel
theorem dL_law_288 : decode cL_law 288 = .ok (.aload_n 1, 1) := by decide +kernel
theorem dL_law_289 : decode cL_law 289 = .ok (.aload_n 0, 1) := by decide +kernel
theorem dL_law_290 : decode cL_law 290 = .ok (.iload_n 3, 1) := by decide +kernel
theorem dL_law_291 : decode cL_law 291 = .ok (.iconst 1, 1) := by decide +kernel
theorem dL_law_292 : decode cL_law 292 = .ok (.iadd, 1) := by decide +kernel
theorem dL_law_293 : decode cL_law 293 = .ok (.iaload, 1) := by decide +kernel
theorem dL_law_294 : decode cL_law 294 = .ok (.aload_n 0, 1) := by decide +kernel
theorem dL_law_295 : decode cL_law 295 = .ok (.iload_n 3, 1) := by decide +kernel
theorem dL_law_296 : decode cL_law 296 = .ok (.iconst 2, 1) := by decide +kernel
theorem dL_law_297 : decode cL_law 297 = .ok (.iadd, 1) := by decide +kernel
theorem dL_law_298 : decode cL_law 298 = .ok (.iaload, 1) := by decide +kernel
theorem dL_law_299 : decode cL_law 299 = .ok (.invokevirtual 33, 3) := by decide +kernel
theorem dL_law_302 : decode cL_law 302 = .ok (.aload_n 2, 1) := by decide +kernel
theorem dL_law_303 : decode cL_law 303 = .ok (.aload_n 0, 1) := by decide +kernel
theorem dL_law_304 : decode cL_law 304 = .ok (.iload_n 3, 1) := by decide +kernel
theorem dL_law_305 : decode cL_law 305 = .ok (.iconst 1, 1) := by decide +kernel
theorem dL_law_306 : decode cL_law 306 = .ok (.iadd, 1) := by decide +kernel
theorem dL_law_307 : decode cL_law 307 = .ok (.iaload, 1) := by decide +kernel
theorem dL_law_308 : decode cL_law 308 = .ok (.aload_n 0, 1) := by decide +kernel
theorem dL_law_309 : decode cL_law 309 = .ok (.iload_n 3, 1) := by decide +kernel
theorem dL_law_310 : decode cL_law 310 = .ok (.iconst 2, 1) := by decide +kernel
theorem dL_law_311 : decode cL_law 311 = .ok (.iadd, 1) := by decide +kernel
theorem dL_law_312 : decode cL_law 312 = .ok (.iaload, 1) := by decide +kernel
theorem dL_law_313 : decode cL_law 313 = .ok (.invokevirtual 37, 3) := by decide +kernel
theorem dL_law_316 : decode cL_law 316 = .ok (.if_icmp .eq 711, 3) := by decide +kernel
theorem dL_law_319 : decode cL_law 319 = .ok (.iconst 0, 1) := by decide +kernel
theorem dL_law_320 : decode cL_law 320 = .ok (.ireturn, 1) := by decide +kernel
theorem dL_law_321 : decode cL_law 321 = .ok (.aload_n 1, 1) := by decide +kernel
theorem dL_law_322 : decode cL_law 322 = .ok (.aload_n 0, 1) := by decide +kernel
theorem dL_law_323 : decode cL_law 323 = .ok (.iload_n 3, 1) := by decide +kernel
theorem dL_law_324 : decode cL_law 324 = .ok (.iconst 1, 1) := by decide +kernel
theorem dL_law_325 : decode cL_law 325 = .ok (.iadd, 1) := by decide +kernel
theorem dL_law_326 : decode cL_law 326 = .ok (.iaload, 1) := by decide +kernel
theorem dL_law_327 : decode cL_law 327 = .ok (.invokevirtual 38, 3) := by decide +kernel
theorem dL_law_330 : decode cL_law 330 = .ok (.aload_n 2, 1) := by decide +kernel
theorem dL_law_331 : decode cL_law 331 = .ok (.aload_n 0, 1) := by decide +kernel
theorem dL_law_332 : decode cL_law 332 = .ok (.iload_n 3, 1) := by decide +kernel
theorem dL_law_333 : decode cL_law 333 = .ok (.iconst 1, 1) := by decide +kernel
theorem dL_law_334 : decode cL_law 334 = .ok (.iadd, 1) := by decide +kernel
theorem dL_law_335 : decode cL_law 335 = .ok (.iaload, 1) := by decide +kernel
theorem dL_law_336 : decode cL_law 336 = .ok (.invokevirtual 41, 3) := by decide +kernel
theorem dL_law_339 : decode cL_law 339 = .ok (.if_icmp .eq 688, 3) := by decide +kernel
theorem dL_law_342 : decode cL_law 342 = .ok (.iconst 0, 1) := by decide +kernel
theorem dL_law_343 : decode cL_law 343 = .ok (.ireturn, 1) := by decide +kernel
theorem dL_law_344 : decode cL_law 344 = .ok (.aload_n 1, 1) := by decide +kernel
theorem dL_law_345 : decode cL_law 345 = .ok (.aload_n 0, 1) := by decide +kernel
theorem dL_law_346 : decode cL_law 346 = .ok (.iload_n 3, 1) := by decide +kernel
theorem dL_law_347 : decode cL_law 347 = .ok (.iconst 1, 1) := by decide +kernel
theorem dL_law_348 : decode cL_law 348 = .ok (.iadd, 1) := by decide +kernel
theorem dL_law_349 : decode cL_law 349 = .ok (.iaload, 1) := by decide +kernel
theorem dL_law_350 : decode cL_law 350 = .ok (.aload_n 0, 1) := by decide +kernel
theorem dL_law_351 : decode cL_law 351 = .ok (.iload_n 3, 1) := by decide +kernel
theorem dL_law_352 : decode cL_law 352 = .ok (.iconst 2, 1) := by decide +kernel
theorem dL_law_353 : decode cL_law 353 = .ok (.iadd, 1) := by decide +kernel
theorem dL_law_354 : decode cL_law 354 = .ok (.iaload, 1) := by decide +kernel
theorem dL_law_355 : decode cL_law 355 = .ok (.aload_n 0, 1) := by decide +kernel
theorem dL_law_356 : decode cL_law 356 = .ok (.iload_n 3, 1) := by decide +kernel
theorem dL_law_357 : decode cL_law 357 = .ok (.iconst 3, 1) := by decide +kernel
theorem dL_law_358 : decode cL_law 358 = .ok (.iadd, 1) := by decide +kernel
theorem dL_law_359 : decode cL_law 359 = .ok (.iaload, 1) := by decide +kernel
theorem dL_law_360 : decode cL_law 360 = .ok (.invokevirtual 42, 3) := by decide +kernel
theorem dL_law_363 : decode cL_law 363 = .ok (.aload_n 2, 1) := by decide +kernel
theorem dL_law_364 : decode cL_law 364 = .ok (.aload_n 0, 1) := by decide +kernel
theorem dL_law_365 : decode cL_law 365 = .ok (.iload_n 3, 1) := by decide +kernel
theorem dL_law_366 : decode cL_law 366 = .ok (.iconst 1, 1) := by decide +kernel
theorem dL_law_367 : decode cL_law 367 = .ok (.iadd, 1) := by decide +kernel
theorem dL_law_368 : decode cL_law 368 = .ok (.iaload, 1) := by decide +kernel
theorem dL_law_369 : decode cL_law 369 = .ok (.aload_n 0, 1) := by decide +kernel
theorem dL_law_370 : decode cL_law 370 = .ok (.iload_n 3, 1) := by decide +kernel
theorem dL_law_371 : decode cL_law 371 = .ok (.iconst 2, 1) := by decide +kernel
theorem dL_law_372 : decode cL_law 372 = .ok (.iadd, 1) := by decide +kernel
theorem dL_law_373 : decode cL_law 373 = .ok (.iaload, 1) := by decide +kernel
theorem dL_law_374 : decode cL_law 374 = .ok (.aload_n 0, 1) := by decide +kernel
theorem dL_law_375 : decode cL_law 375 = .ok (.iload_n 3, 1) := by decide +kernel
theorem dL_law_376 : decode cL_law 376 = .ok (.iconst 3, 1) := by decide +kernel
theorem dL_law_377 : decode cL_law 377 = .ok (.iadd, 1) := by decide +kernel
theorem dL_law_378 : decode cL_law 378 = .ok (.iaload, 1) := by decide +kernel
theorem dL_law_379 : decode cL_law 379 = .ok (.invokevirtual 46, 3) := by decide +kernel
theorem dL_law_382 : decode cL_law 382 = .ok (.if_icmp .eq 645, 3) := by decide +kernel
theorem dL_law_385 : decode cL_law 385 = .ok (.iconst 0, 1) := by decide +kernel
theorem dL_law_386 : decode cL_law 386 = .ok (.ireturn, 1) := by decide +kernel
theorem dL_law_387 : decode cL_law 387 = .ok (.aload_n 1, 1) := by decide +kernel
theorem dL_law_388 : decode cL_law 388 = .ok (.aload_n 0, 1) := by decide +kernel
theorem dL_law_389 : decode cL_law 389 = .ok (.iload_n 3, 1) := by decide +kernel
theorem dL_law_390 : decode cL_law 390 = .ok (.iconst 1, 1) := by decide +kernel
theorem dL_law_391 : decode cL_law 391 = .ok (.iadd, 1) := by decide +kernel
theorem dL_law_392 : decode cL_law 392 = .ok (.iaload, 1) := by decide +kernel
theorem dL_law_393 : decode cL_law 393 = .ok (.invokevirtual 47, 3) := by decide +kernel
theorem dL_law_396 : decode cL_law 396 = .ok (.aload_n 2, 1) := by decide +kernel
theorem dL_law_397 : decode cL_law 397 = .ok (.aload_n 0, 1) := by decide +kernel
theorem dL_law_398 : decode cL_law 398 = .ok (.iload_n 3, 1) := by decide +kernel
theorem dL_law_399 : decode cL_law 399 = .ok (.iconst 1, 1) := by decide +kernel
theorem dL_law_400 : decode cL_law 400 = .ok (.iadd, 1) := by decide +kernel
theorem dL_law_401 : decode cL_law 401 = .ok (.iaload, 1) := by decide +kernel
theorem dL_law_402 : decode cL_law 402 = .ok (.invokevirtual 50, 3) := by decide +kernel
theorem dL_law_405 : decode cL_law 405 = .ok (.if_icmp .eq 622, 3) := by decide +kernel
theorem dL_law_408 : decode cL_law 408 = .ok (.iconst 0, 1) := by decide +kernel
theorem dL_law_409 : decode cL_law 409 = .ok (.ireturn, 1) := by decide +kernel
theorem dL_law_410 : decode cL_law 410 = .ok (.aload_n 1, 1) := by decide +kernel
theorem dL_law_411 : decode cL_law 411 = .ok (.aload_n 0, 1) := by decide +kernel
theorem dL_law_412 : decode cL_law 412 = .ok (.iload_n 3, 1) := by decide +kernel
theorem dL_law_413 : decode cL_law 413 = .ok (.iconst 1, 1) := by decide +kernel
theorem dL_law_414 : decode cL_law 414 = .ok (.iadd, 1) := by decide +kernel
theorem dL_law_415 : decode cL_law 415 = .ok (.iaload, 1) := by decide +kernel
theorem dL_law_416 : decode cL_law 416 = .ok (.aload_n 0, 1) := by decide +kernel
theorem dL_law_417 : decode cL_law 417 = .ok (.iload_n 3, 1) := by decide +kernel
theorem dL_law_418 : decode cL_law 418 = .ok (.iconst 2, 1) := by decide +kernel
theorem dL_law_419 : decode cL_law 419 = .ok (.iadd, 1) := by decide +kernel
theorem dL_law_420 : decode cL_law 420 = .ok (.iaload, 1) := by decide +kernel
theorem dL_law_421 : decode cL_law 421 = .ok (.invokevirtual 51, 3) := by decide +kernel
theorem dL_law_424 : decode cL_law 424 = .ok (.aload_n 2, 1) := by decide +kernel
theorem dL_law_425 : decode cL_law 425 = .ok (.aload_n 0, 1) := by decide +kernel
theorem dL_law_426 : decode cL_law 426 = .ok (.iload_n 3, 1) := by decide +kernel
theorem dL_law_427 : decode cL_law 427 = .ok (.iconst 1, 1) := by decide +kernel
theorem dL_law_428 : decode cL_law 428 = .ok (.iadd, 1) := by decide +kernel
theorem dL_law_429 : decode cL_law 429 = .ok (.iaload, 1) := by decide +kernel
theorem dL_law_430 : decode cL_law 430 = .ok (.aload_n 0, 1) := by decide +kernel
theorem dL_law_431 : decode cL_law 431 = .ok (.iload_n 3, 1) := by decide +kernel
theorem dL_law_432 : decode cL_law 432 = .ok (.iconst 2, 1) := by decide +kernel
theorem dL_law_433 : decode cL_law 433 = .ok (.iadd, 1) := by decide +kernel
theorem dL_law_434 : decode cL_law 434 = .ok (.iaload, 1) := by decide +kernel
theorem dL_law_435 : decode cL_law 435 = .ok (.invokevirtual 54, 3) := by decide +kernel
theorem dL_law_438 : decode cL_law 438 = .ok (.if_icmp .eq 589, 3) := by decide +kernel
theorem dL_law_441 : decode cL_law 441 = .ok (.iconst 0, 1) := by decide +kernel
theorem dL_law_442 : decode cL_law 442 = .ok (.ireturn, 1) := by decide +kernel
theorem dL_law_443 : decode cL_law 443 = .ok (.aload_n 1, 1) := by decide +kernel
theorem dL_law_444 : decode cL_law 444 = .ok (.aload_n 0, 1) := by decide +kernel
theorem dL_law_445 : decode cL_law 445 = .ok (.iload_n 3, 1) := by decide +kernel
theorem dL_law_446 : decode cL_law 446 = .ok (.iconst 1, 1) := by decide +kernel
theorem dL_law_447 : decode cL_law 447 = .ok (.iadd, 1) := by decide +kernel
theorem dL_law_448 : decode cL_law 448 = .ok (.iaload, 1) := by decide +kernel
theorem dL_law_449 : decode cL_law 449 = .ok (.aload_n 0, 1) := by decide +kernel
theorem dL_law_450 : decode cL_law 450 = .ok (.iload_n 3, 1) := by decide +kernel
theorem dL_law_451 : decode cL_law 451 = .ok (.iconst 2, 1) := by decide +kernel
theorem dL_law_452 : decode cL_law 452 = .ok (.iadd, 1) := by decide +kernel
theorem dL_law_453 : decode cL_law 453 = .ok (.iaload, 1) := by decide +kernel
theorem dL_law_454 : decode cL_law 454 = .ok (.invokevirtual 55, 3) := by decide +kernel
theorem dL_law_457 : decode cL_law 457 = .ok (.aload_n 2, 1) := by decide +kernel
theorem dL_law_458 : decode cL_law 458 = .ok (.aload_n 0, 1) := by decide +kernel
theorem dL_law_459 : decode cL_law 459 = .ok (.iload_n 3, 1) := by decide +kernel
theorem dL_law_460 : decode cL_law 460 = .ok (.iconst 1, 1) := by decide +kernel
theorem dL_law_461 : decode cL_law 461 = .ok (.iadd, 1) := by decide +kernel
theorem dL_law_462 : decode cL_law 462 = .ok (.iaload, 1) := by decide +kernel
theorem dL_law_463 : decode cL_law 463 = .ok (.aload_n 0, 1) := by decide +kernel
theorem dL_law_464 : decode cL_law 464 = .ok (.iload_n 3, 1) := by decide +kernel
theorem dL_law_465 : decode cL_law 465 = .ok (.iconst 2, 1) := by decide +kernel
theorem dL_law_466 : decode cL_law 466 = .ok (.iadd, 1) := by decide +kernel
theorem dL_law_467 : decode cL_law 467 = .ok (.iaload, 1) := by decide +kernel
theorem dL_law_468 : decode cL_law 468 = .ok (.invokevirtual 58, 3) := by decide +kernel
theorem dL_law_471 : decode cL_law 471 = .ok (.if_icmp .eq 556, 3) := by decide +kernel
theorem dL_law_474 : decode cL_law 474 = .ok (.iconst 0, 1) := by decide +kernel
theorem dL_law_475 : decode cL_law 475 = .ok (.ireturn, 1) := by decide +kernel
theorem dL_law_476 : decode cL_law 476 = .ok (.aload_n 1, 1) := by decide +kernel
theorem dL_law_477 : decode cL_law 477 = .ok (.aload_n 0, 1) := by decide +kernel
theorem dL_law_478 : decode cL_law 478 = .ok (.iload_n 3, 1) := by decide +kernel
theorem dL_law_479 : decode cL_law 479 = .ok (.iconst 1, 1) := by decide +kernel
theorem dL_law_480 : decode cL_law 480 = .ok (.iadd, 1) := by decide +kernel
theorem dL_law_481 : decode cL_law 481 = .ok (.iaload, 1) := by decide +kernel
theorem dL_law_482 : decode cL_law 482 = .ok (.aload_n 0, 1) := by decide +kernel
theorem dL_law_483 : decode cL_law 483 = .ok (.iload_n 3, 1) := by decide +kernel
theorem dL_law_484 : decode cL_law 484 = .ok (.iconst 2, 1) := by decide +kernel
theorem dL_law_485 : decode cL_law 485 = .ok (.iadd, 1) := by decide +kernel
theorem dL_law_486 : decode cL_law 486 = .ok (.iaload, 1) := by decide +kernel
theorem dL_law_487 : decode cL_law 487 = .ok (.aload_n 0, 1) := by decide +kernel
theorem dL_law_488 : decode cL_law 488 = .ok (.iload_n 3, 1) := by decide +kernel
theorem dL_law_489 : decode cL_law 489 = .ok (.iconst 3, 1) := by decide +kernel
theorem dL_law_490 : decode cL_law 490 = .ok (.iadd, 1) := by decide +kernel
theorem dL_law_491 : decode cL_law 491 = .ok (.iaload, 1) := by decide +kernel
theorem dL_law_492 : decode cL_law 492 = .ok (.aload_n 0, 1) := by decide +kernel
theorem dL_law_493 : decode cL_law 493 = .ok (.iload_n 3, 1) := by decide +kernel
theorem dL_law_494 : decode cL_law 494 = .ok (.iconst 4, 1) := by decide +kernel
theorem dL_law_495 : decode cL_law 495 = .ok (.iadd, 1) := by decide +kernel
theorem dL_law_496 : decode cL_law 496 = .ok (.iaload, 1) := by decide +kernel
theorem dL_law_497 : decode cL_law 497 = .ok (.aload_n 0, 1) := by decide +kernel
theorem dL_law_498 : decode cL_law 498 = .ok (.iload_n 3, 1) := by decide +kernel
theorem dL_law_499 : decode cL_law 499 = .ok (.iconst 5, 1) := by decide +kernel
theorem dL_law_500 : decode cL_law 500 = .ok (.iadd, 1) := by decide +kernel
theorem dL_law_501 : decode cL_law 501 = .ok (.iaload, 1) := by decide +kernel
theorem dL_law_502 : decode cL_law 502 = .ok (.invokevirtual 59, 3) := by decide +kernel
theorem dL_law_505 : decode cL_law 505 = .ok (.aload_n 2, 1) := by decide +kernel
theorem dL_law_506 : decode cL_law 506 = .ok (.aload_n 0, 1) := by decide +kernel
theorem dL_law_507 : decode cL_law 507 = .ok (.iload_n 3, 1) := by decide +kernel
theorem dL_law_508 : decode cL_law 508 = .ok (.iconst 1, 1) := by decide +kernel
theorem dL_law_509 : decode cL_law 509 = .ok (.iadd, 1) := by decide +kernel
theorem dL_law_510 : decode cL_law 510 = .ok (.iaload, 1) := by decide +kernel
theorem dL_law_511 : decode cL_law 511 = .ok (.aload_n 0, 1) := by decide +kernel
theorem dL_law_512 : decode cL_law 512 = .ok (.iload_n 3, 1) := by decide +kernel
theorem dL_law_513 : decode cL_law 513 = .ok (.iconst 2, 1) := by decide +kernel
theorem dL_law_514 : decode cL_law 514 = .ok (.iadd, 1) := by decide +kernel
theorem dL_law_515 : decode cL_law 515 = .ok (.iaload, 1) := by decide +kernel
theorem dL_law_516 : decode cL_law 516 = .ok (.aload_n 0, 1) := by decide +kernel
theorem dL_law_517 : decode cL_law 517 = .ok (.iload_n 3, 1) := by decide +kernel
theorem dL_law_518 : decode cL_law 518 = .ok (.iconst 3, 1) := by decide +kernel
theorem dL_law_519 : decode cL_law 519 = .ok (.iadd, 1) := by decide +kernel
theorem dL_law_520 : decode cL_law 520 = .ok (.iaload, 1) := by decide +kernel
theorem dL_law_521 : decode cL_law 521 = .ok (.aload_n 0, 1) := by decide +kernel
theorem dL_law_522 : decode cL_law 522 = .ok (.iload_n 3, 1) := by decide +kernel
theorem dL_law_523 : decode cL_law 523 = .ok (.iconst 4, 1) := by decide +kernel
theorem dL_law_524 : decode cL_law 524 = .ok (.iadd, 1) := by decide +kernel
theorem dL_law_525 : decode cL_law 525 = .ok (.iaload, 1) := by decide +kernel
theorem dL_law_526 : decode cL_law 526 = .ok (.aload_n 0, 1) := by decide +kernel
theorem dL_law_527 : decode cL_law 527 = .ok (.iload_n 3, 1) := by decide +kernel
theorem dL_law_528 : decode cL_law 528 = .ok (.iconst 5, 1) := by decide +kernel
theorem dL_law_529 : decode cL_law 529 = .ok (.iadd, 1) := by decide +kernel
theorem dL_law_530 : decode cL_law 530 = .ok (.iaload, 1) := by decide +kernel
theorem dL_law_531 : decode cL_law 531 = .ok (.invokevirtual 63, 3) := by decide +kernel
theorem dL_law_534 : decode cL_law 534 = .ok (.if_icmp .eq 493, 3) := by decide +kernel
theorem dL_law_537 : decode cL_law 537 = .ok (.iconst 0, 1) := by decide +kernel
theorem dL_law_538 : decode cL_law 538 = .ok (.ireturn, 1) := by decide +kernel
theorem dL_law_539 : decode cL_law 539 = .ok (.aload_n 1, 1) := by decide +kernel
theorem dL_law_540 : decode cL_law 540 = .ok (.aload_n 0, 1) := by decide +kernel
theorem dL_law_541 : decode cL_law 541 = .ok (.iload_n 3, 1) := by decide +kernel
theorem dL_law_542 : decode cL_law 542 = .ok (.iconst 1, 1) := by decide +kernel
theorem dL_law_543 : decode cL_law 543 = .ok (.iadd, 1) := by decide +kernel
theorem dL_law_544 : decode cL_law 544 = .ok (.iaload, 1) := by decide +kernel
theorem dL_law_545 : decode cL_law 545 = .ok (.aload_n 0, 1) := by decide +kernel
theorem dL_law_546 : decode cL_law 546 = .ok (.iload_n 3, 1) := by decide +kernel
theorem dL_law_547 : decode cL_law 547 = .ok (.iconst 2, 1) := by decide +kernel
theorem dL_law_548 : decode cL_law 548 = .ok (.iadd, 1) := by decide +kernel
theorem dL_law_549 : decode cL_law 549 = .ok (.iaload, 1) := by decide +kernel
theorem dL_law_550 : decode cL_law 550 = .ok (.invokevirtual 64, 3) := by decide +kernel
theorem dL_law_553 : decode cL_law 553 = .ok (.aload_n 2, 1) := by decide +kernel
theorem dL_law_554 : decode cL_law 554 = .ok (.aload_n 0, 1) := by decide +kernel
theorem dL_law_555 : decode cL_law 555 = .ok (.iload_n 3, 1) := by decide +kernel
theorem dL_law_556 : decode cL_law 556 = .ok (.iconst 1, 1) := by decide +kernel
theorem dL_law_557 : decode cL_law 557 = .ok (.iadd, 1) := by decide +kernel
theorem dL_law_558 : decode cL_law 558 = .ok (.iaload, 1) := by decide +kernel
theorem dL_law_559 : decode cL_law 559 = .ok (.aload_n 0, 1) := by decide +kernel
theorem dL_law_560 : decode cL_law 560 = .ok (.iload_n 3, 1) := by decide +kernel
theorem dL_law_561 : decode cL_law 561 = .ok (.iconst 2, 1) := by decide +kernel
theorem dL_law_562 : decode cL_law 562 = .ok (.iadd, 1) := by decide +kernel
theorem dL_law_563 : decode cL_law 563 = .ok (.iaload, 1) := by decide +kernel
theorem dL_law_564 : decode cL_law 564 = .ok (.invokevirtual 67, 3) := by decide +kernel
theorem dL_law_567 : decode cL_law 567 = .ok (.if_icmp .eq 460, 3) := by decide +kernel
theorem dL_law_570 : decode cL_law 570 = .ok (.iconst 0, 1) := by decide +kernel
theorem dL_law_571 : decode cL_law 571 = .ok (.ireturn, 1) := by decide +kernel
theorem dL_law_572 : decode cL_law 572 = .ok (.aload_n 1, 1) := by decide +kernel
theorem dL_law_573 : decode cL_law 573 = .ok (.aload_n 0, 1) := by decide +kernel
theorem dL_law_574 : decode cL_law 574 = .ok (.iload_n 3, 1) := by decide +kernel
theorem dL_law_575 : decode cL_law 575 = .ok (.iconst 1, 1) := by decide +kernel
theorem dL_law_576 : decode cL_law 576 = .ok (.iadd, 1) := by decide +kernel
theorem dL_law_577 : decode cL_law 577 = .ok (.iaload, 1) := by decide +kernel
theorem dL_law_578 : decode cL_law 578 = .ok (.aload_n 0, 1) := by decide +kernel
theorem dL_law_579 : decode cL_law 579 = .ok (.iload_n 3, 1) := by decide +kernel
theorem dL_law_580 : decode cL_law 580 = .ok (.iconst 2, 1) := by decide +kernel
theorem dL_law_581 : decode cL_law 581 = .ok (.iadd, 1) := by decide +kernel
theorem dL_law_582 : decode cL_law 582 = .ok (.iaload, 1) := by decide +kernel
theorem dL_law_583 : decode cL_law 583 = .ok (.aload_n 0, 1) := by decide +kernel
theorem dL_law_584 : decode cL_law 584 = .ok (.iload_n 3, 1) := by decide +kernel
theorem dL_law_585 : decode cL_law 585 = .ok (.iconst 3, 1) := by decide +kernel
theorem dL_law_586 : decode cL_law 586 = .ok (.iadd, 1) := by decide +kernel
theorem dL_law_587 : decode cL_law 587 = .ok (.iaload, 1) := by decide +kernel
theorem dL_law_588 : decode cL_law 588 = .ok (.aload_n 0, 1) := by decide +kernel
theorem dL_law_589 : decode cL_law 589 = .ok (.iload_n 3, 1) := by decide +kernel
theorem dL_law_590 : decode cL_law 590 = .ok (.iconst 4, 1) := by decide +kernel
theorem dL_law_591 : decode cL_law 591 = .ok (.iadd, 1) := by decide +kernel
theorem dL_law_592 : decode cL_law 592 = .ok (.iaload, 1) := by decide +kernel
theorem dL_law_593 : decode cL_law 593 = .ok (.invokevirtual 68, 3) := by decide +kernel
theorem dL_law_596 : decode cL_law 596 = .ok (.aload_n 2, 1) := by decide +kernel
theorem dL_law_597 : decode cL_law 597 = .ok (.aload_n 0, 1) := by decide +kernel
theorem dL_law_598 : decode cL_law 598 = .ok (.iload_n 3, 1) := by decide +kernel
theorem dL_law_599 : decode cL_law 599 = .ok (.iconst 1, 1) := by decide +kernel
theorem dL_law_600 : decode cL_law 600 = .ok (.iadd, 1) := by decide +kernel
theorem dL_law_601 : decode cL_law 601 = .ok (.iaload, 1) := by decide +kernel
theorem dL_law_602 : decode cL_law 602 = .ok (.aload_n 0, 1) := by decide +kernel
theorem dL_law_603 : decode cL_law 603 = .ok (.iload_n 3, 1) := by decide +kernel
theorem dL_law_604 : decode cL_law 604 = .ok (.iconst 2, 1) := by decide +kernel
theorem dL_law_605 : decode cL_law 605 = .ok (.iadd, 1) := by decide +kernel
theorem dL_law_606 : decode cL_law 606 = .ok (.iaload, 1) := by decide +kernel
theorem dL_law_607 : decode cL_law 607 = .ok (.aload_n 0, 1) := by decide +kernel
theorem dL_law_608 : decode cL_law 608 = .ok (.iload_n 3, 1) := by decide +kernel
theorem dL_law_609 : decode cL_law 609 = .ok (.iconst 3, 1) := by decide +kernel
theorem dL_law_610 : decode cL_law 610 = .ok (.iadd, 1) := by decide +kernel
theorem dL_law_611 : decode cL_law 611 = .ok (.iaload, 1) := by decide +kernel
theorem dL_law_612 : decode cL_law 612 = .ok (.aload_n 0, 1) := by decide +kernel
theorem dL_law_613 : decode cL_law 613 = .ok (.iload_n 3, 1) := by decide +kernel
theorem dL_law_614 : decode cL_law 614 = .ok (.iconst 4, 1) := by decide +kernel
theorem dL_law_615 : decode cL_law 615 = .ok (.iadd, 1) := by decide +kernel
theorem dL_law_616 : decode cL_law 616 = .ok (.iaload, 1) := by decide +kernel
theorem dL_law_617 : decode cL_law 617 = .ok (.invokevirtual 72, 3) := by decide +kernel
theorem dL_law_620 : decode cL_law 620 = .ok (.if_icmp .eq 407, 3) := by decide +kernel
theorem dL_law_623 : decode cL_law 623 = .ok (.iconst 0, 1) := by decide +kernel
theorem dL_law_624 : decode cL_law 624 = .ok (.ireturn, 1) := by decide +kernel
theorem dL_law_625 : decode cL_law 625 = .ok (.aload_n 1, 1) := by decide +kernel
theorem dL_law_626 : decode cL_law 626 = .ok (.aload_n 0, 1) := by decide +kernel
theorem dL_law_627 : decode cL_law 627 = .ok (.iload_n 3, 1) := by decide +kernel
theorem dL_law_628 : decode cL_law 628 = .ok (.iconst 1, 1) := by decide +kernel
theorem dL_law_629 : decode cL_law 629 = .ok (.iadd, 1) := by decide +kernel
theorem dL_law_630 : decode cL_law 630 = .ok (.iaload, 1) := by decide +kernel
theorem dL_law_631 : decode cL_law 631 = .ok (.aload_n 0, 1) := by decide +kernel
theorem dL_law_632 : decode cL_law 632 = .ok (.iload_n 3, 1) := by decide +kernel
theorem dL_law_633 : decode cL_law 633 = .ok (.iconst 2, 1) := by decide +kernel
theorem dL_law_634 : decode cL_law 634 = .ok (.iadd, 1) := by decide +kernel
theorem dL_law_635 : decode cL_law 635 = .ok (.iaload, 1) := by decide +kernel
theorem dL_law_636 : decode cL_law 636 = .ok (.invokevirtual 73, 3) := by decide +kernel
theorem dL_law_639 : decode cL_law 639 = .ok (.aload_n 2, 1) := by decide +kernel
theorem dL_law_640 : decode cL_law 640 = .ok (.aload_n 0, 1) := by decide +kernel
theorem dL_law_641 : decode cL_law 641 = .ok (.iload_n 3, 1) := by decide +kernel
theorem dL_law_642 : decode cL_law 642 = .ok (.iconst 1, 1) := by decide +kernel
theorem dL_law_643 : decode cL_law 643 = .ok (.iadd, 1) := by decide +kernel
theorem dL_law_644 : decode cL_law 644 = .ok (.iaload, 1) := by decide +kernel
theorem dL_law_645 : decode cL_law 645 = .ok (.aload_n 0, 1) := by decide +kernel
theorem dL_law_646 : decode cL_law 646 = .ok (.iload_n 3, 1) := by decide +kernel
theorem dL_law_647 : decode cL_law 647 = .ok (.iconst 2, 1) := by decide +kernel
theorem dL_law_648 : decode cL_law 648 = .ok (.iadd, 1) := by decide +kernel
theorem dL_law_649 : decode cL_law 649 = .ok (.iaload, 1) := by decide +kernel
theorem dL_law_650 : decode cL_law 650 = .ok (.invokevirtual 76, 3) := by decide +kernel
theorem dL_law_653 : decode cL_law 653 = .ok (.if_icmp .eq 374, 3) := by decide +kernel
theorem dL_law_656 : decode cL_law 656 = .ok (.iconst 0, 1) := by decide +kernel
theorem dL_law_657 : decode cL_law 657 = .ok (.ireturn, 1) := by decide +kernel
theorem dL_law_658 : decode cL_law 658 = .ok (.aload_n 1, 1) := by decide +kernel
theorem dL_law_659 : decode cL_law 659 = .ok (.aload_n 0, 1) := by decide +kernel
theorem dL_law_660 : decode cL_law 660 = .ok (.iload_n 3, 1) := by decide +kernel
theorem dL_law_661 : decode cL_law 661 = .ok (.iconst 1, 1) := by decide +kernel
theorem dL_law_662 : decode cL_law 662 = .ok (.iadd, 1) := by decide +kernel
theorem dL_law_663 : decode cL_law 663 = .ok (.iaload, 1) := by decide +kernel
theorem dL_law_664 : decode cL_law 664 = .ok (.aload_n 0, 1) := by decide +kernel
theorem dL_law_665 : decode cL_law 665 = .ok (.iload_n 3, 1) := by decide +kernel
theorem dL_law_666 : decode cL_law 666 = .ok (.iconst 2, 1) := by decide +kernel
theorem dL_law_667 : decode cL_law 667 = .ok (.iadd, 1) := by decide +kernel
theorem dL_law_668 : decode cL_law 668 = .ok (.iaload, 1) := by decide +kernel
theorem dL_law_669 : decode cL_law 669 = .ok (.invokevirtual 77, 3) := by decide +kernel
theorem dL_law_672 : decode cL_law 672 = .ok (.aload_n 2, 1) := by decide +kernel
theorem dL_law_673 : decode cL_law 673 = .ok (.aload_n 0, 1) := by decide +kernel
theorem dL_law_674 : decode cL_law 674 = .ok (.iload_n 3, 1) := by decide +kernel
theorem dL_law_675 : decode cL_law 675 = .ok (.iconst 1, 1) := by decide +kernel
theorem dL_law_676 : decode cL_law 676 = .ok (.iadd, 1) := by decide +kernel
theorem dL_law_677 : decode cL_law 677 = .ok (.iaload, 1) := by decide +kernel
theorem dL_law_678 : decode cL_law 678 = .ok (.aload_n 0, 1) := by decide +kernel
theorem dL_law_679 : decode cL_law 679 = .ok (.iload_n 3, 1) := by decide +kernel
theorem dL_law_680 : decode cL_law 680 = .ok (.iconst 2, 1) := by decide +kernel
theorem dL_law_681 : decode cL_law 681 = .ok (.iadd, 1) := by decide +kernel
theorem dL_law_682 : decode cL_law 682 = .ok (.iaload, 1) := by decide +kernel
theorem dL_law_683 : decode cL_law 683 = .ok (.invokevirtual 80, 3) := by decide +kernel
theorem dL_law_686 : decode cL_law 686 = .ok (.if_icmp .eq 341, 3) := by decide +kernel
theorem dL_law_689 : decode cL_law 689 = .ok (.iconst 0, 1) := by decide +kernel
theorem dL_law_690 : decode cL_law 690 = .ok (.ireturn, 1) := by decide +kernel
theorem dL_law_691 : decode cL_law 691 = .ok (.aload_n 1, 1) := by decide +kernel
theorem dL_law_692 : decode cL_law 692 = .ok (.aload_n 0, 1) := by decide +kernel
theorem dL_law_693 : decode cL_law 693 = .ok (.iload_n 3, 1) := by decide +kernel
theorem dL_law_694 : decode cL_law 694 = .ok (.iconst 1, 1) := by decide +kernel
theorem dL_law_695 : decode cL_law 695 = .ok (.iadd, 1) := by decide +kernel
theorem dL_law_696 : decode cL_law 696 = .ok (.iaload, 1) := by decide +kernel
theorem dL_law_697 : decode cL_law 697 = .ok (.aload_n 0, 1) := by decide +kernel
theorem dL_law_698 : decode cL_law 698 = .ok (.iload_n 3, 1) := by decide +kernel
theorem dL_law_699 : decode cL_law 699 = .ok (.iconst 2, 1) := by decide +kernel
theorem dL_law_700 : decode cL_law 700 = .ok (.iadd, 1) := by decide +kernel
theorem dL_law_701 : decode cL_law 701 = .ok (.iaload, 1) := by decide +kernel
theorem dL_law_702 : decode cL_law 702 = .ok (.invokevirtual 81, 3) := by decide +kernel
theorem dL_law_705 : decode cL_law 705 = .ok (.aload_n 2, 1) := by decide +kernel
theorem dL_law_706 : decode cL_law 706 = .ok (.aload_n 0, 1) := by decide +kernel
theorem dL_law_707 : decode cL_law 707 = .ok (.iload_n 3, 1) := by decide +kernel
theorem dL_law_708 : decode cL_law 708 = .ok (.iconst 1, 1) := by decide +kernel
theorem dL_law_709 : decode cL_law 709 = .ok (.iadd, 1) := by decide +kernel
theorem dL_law_710 : decode cL_law 710 = .ok (.iaload, 1) := by decide +kernel
theorem dL_law_711 : decode cL_law 711 = .ok (.aload_n 0, 1) := by decide +kernel
theorem dL_law_712 : decode cL_law 712 = .ok (.iload_n 3, 1) := by decide +kernel
theorem dL_law_713 : decode cL_law 713 = .ok (.iconst 2, 1) := by decide +kernel
theorem dL_law_714 : decode cL_law 714 = .ok (.iadd, 1) := by decide +kernel
theorem dL_law_715 : decode cL_law 715 = .ok (.iaload, 1) := by decide +kernel
theorem dL_law_716 : decode cL_law 716 = .ok (.invokevirtual 84, 3) := by decide +kernel
theorem dL_law_719 : decode cL_law 719 = .ok (.if_icmp .eq 308, 3) := by decide +kernel
theorem dL_law_722 : decode cL_law 722 = .ok (.iconst 0, 1) := by decide +kernel
theorem dL_law_723 : decode cL_law 723 = .ok (.ireturn, 1) := by decide +kernel
theorem dL_law_724 : decode cL_law 724 = .ok (.aload_n 1, 1) := by decide +kernel
theorem dL_law_725 : decode cL_law 725 = .ok (.aload_n 0, 1) := by decide +kernel
theorem dL_law_726 : decode cL_law 726 = .ok (.iload_n 3, 1) := by decide +kernel
theorem dL_law_727 : decode cL_law 727 = .ok (.iconst 1, 1) := by decide +kernel
theorem dL_law_728 : decode cL_law 728 = .ok (.iadd, 1) := by decide +kernel
theorem dL_law_729 : decode cL_law 729 = .ok (.iaload, 1) := by decide +kernel
theorem dL_law_730 : decode cL_law 730 = .ok (.aload_n 0, 1) := by decide +kernel
theorem dL_law_731 : decode cL_law 731 = .ok (.iload_n 3, 1) := by decide +kernel
theorem dL_law_732 : decode cL_law 732 = .ok (.iconst 2, 1) := by decide +kernel
theorem dL_law_733 : decode cL_law 733 = .ok (.iadd, 1) := by decide +kernel
theorem dL_law_734 : decode cL_law 734 = .ok (.iaload, 1) := by decide +kernel
theorem dL_law_735 : decode cL_law 735 = .ok (.invokevirtual 85, 3) := by decide +kernel
theorem dL_law_738 : decode cL_law 738 = .ok (.aload_n 2, 1) := by decide +kernel
theorem dL_law_739 : decode cL_law 739 = .ok (.aload_n 0, 1) := by decide +kernel
theorem dL_law_740 : decode cL_law 740 = .ok (.iload_n 3, 1) := by decide +kernel
theorem dL_law_741 : decode cL_law 741 = .ok (.iconst 1, 1) := by decide +kernel
theorem dL_law_742 : decode cL_law 742 = .ok (.iadd, 1) := by decide +kernel
theorem dL_law_743 : decode cL_law 743 = .ok (.iaload, 1) := by decide +kernel
theorem dL_law_744 : decode cL_law 744 = .ok (.aload_n 0, 1) := by decide +kernel
theorem dL_law_745 : decode cL_law 745 = .ok (.iload_n 3, 1) := by decide +kernel
theorem dL_law_746 : decode cL_law 746 = .ok (.iconst 2, 1) := by decide +kernel
theorem dL_law_747 : decode cL_law 747 = .ok (.iadd, 1) := by decide +kernel
theorem dL_law_748 : decode cL_law 748 = .ok (.iaload, 1) := by decide +kernel
theorem dL_law_749 : decode cL_law 749 = .ok (.invokevirtual 88, 3) := by decide +kernel
theorem dL_law_752 : decode cL_law 752 = .ok (.if_icmp .eq 275, 3) := by decide +kernel
theorem dL_law_755 : decode cL_law 755 = .ok (.iconst 0, 1) := by decide +kernel
theorem dL_law_756 : decode cL_law 756 = .ok (.ireturn, 1) := by decide +kernel
theorem dL_law_757 : decode cL_law 757 = .ok (.aload_n 1, 1) := by decide +kernel
theorem dL_law_758 : decode cL_law 758 = .ok (.invokevirtual 89, 3) := by decide +kernel
theorem dL_law_761 : decode cL_law 761 = .ok (.aload_n 2, 1) := by decide +kernel
theorem dL_law_762 : decode cL_law 762 = .ok (.invokevirtual 93, 3) := by decide +kernel
theorem dL_law_765 : decode cL_law 765 = .ok (.if_icmp .eq 262, 3) := by decide +kernel
theorem dL_law_768 : decode cL_law 768 = .ok (.iconst 0, 1) := by decide +kernel
theorem dL_law_769 : decode cL_law 769 = .ok (.ireturn, 1) := by decide +kernel
theorem dL_law_770 : decode cL_law 770 = .ok (.aload_n 1, 1) := by decide +kernel
theorem dL_law_771 : decode cL_law 771 = .ok (.aload_n 0, 1) := by decide +kernel
theorem dL_law_772 : decode cL_law 772 = .ok (.iload_n 3, 1) := by decide +kernel
theorem dL_law_773 : decode cL_law 773 = .ok (.iconst 1, 1) := by decide +kernel
theorem dL_law_774 : decode cL_law 774 = .ok (.iadd, 1) := by decide +kernel
theorem dL_law_775 : decode cL_law 775 = .ok (.iaload, 1) := by decide +kernel
theorem dL_law_776 : decode cL_law 776 = .ok (.aload_n 0, 1) := by decide +kernel
theorem dL_law_777 : decode cL_law 777 = .ok (.iload_n 3, 1) := by decide +kernel
theorem dL_law_778 : decode cL_law 778 = .ok (.iconst 2, 1) := by decide +kernel
theorem dL_law_779 : decode cL_law 779 = .ok (.iadd, 1) := by decide +kernel
theorem dL_law_780 : decode cL_law 780 = .ok (.iaload, 1) := by decide +kernel
theorem dL_law_781 : decode cL_law 781 = .ok (.invokevirtual 94, 3) := by decide +kernel
theorem dL_law_784 : decode cL_law 784 = .ok (.aload_n 2, 1) := by decide +kernel
theorem dL_law_785 : decode cL_law 785 = .ok (.aload_n 0, 1) := by decide +kernel
theorem dL_law_786 : decode cL_law 786 = .ok (.iload_n 3, 1) := by decide +kernel
theorem dL_law_787 : decode cL_law 787 = .ok (.iconst 1, 1) := by decide +kernel
theorem dL_law_788 : decode cL_law 788 = .ok (.iadd, 1) := by decide +kernel
theorem dL_law_789 : decode cL_law 789 = .ok (.iaload, 1) := by decide +kernel
theorem dL_law_790 : decode cL_law 790 = .ok (.aload_n 0, 1) := by decide +kernel
theorem dL_law_791 : decode cL_law 791 = .ok (.iload_n 3, 1) := by decide +kernel
theorem dL_law_792 : decode cL_law 792 = .ok (.iconst 2, 1) := by decide +kernel
theorem dL_law_793 : decode cL_law 793 = .ok (.iadd, 1) := by decide +kernel
theorem dL_law_794 : decode cL_law 794 = .ok (.iaload, 1) := by decide +kernel
theorem dL_law_795 : decode cL_law 795 = .ok (.invokevirtual 97, 3) := by decide +kernel
theorem dL_law_798 : decode cL_law 798 = .ok (.if_icmp .eq 229, 3) := by decide +kernel
theorem dL_law_801 : decode cL_law 801 = .ok (.iconst 0, 1) := by decide +kernel
theorem dL_law_802 : decode cL_law 802 = .ok (.ireturn, 1) := by decide +kernel
theorem dL_law_803 : decode cL_law 803 = .ok (.aload_n 1, 1) := by decide +kernel
theorem dL_law_804 : decode cL_law 804 = .ok (.invokevirtual 98, 3) := by decide +kernel
theorem dL_law_807 : decode cL_law 807 = .ok (.aload_n 2, 1) := by decide +kernel
theorem dL_law_808 : decode cL_law 808 = .ok (.invokevirtual 101, 3) := by decide +kernel
theorem dL_law_811 : decode cL_law 811 = .ok (.if_icmp .eq 216, 3) := by decide +kernel
theorem dL_law_814 : decode cL_law 814 = .ok (.iconst 0, 1) := by decide +kernel
theorem dL_law_815 : decode cL_law 815 = .ok (.ireturn, 1) := by decide +kernel
theorem dL_law_816 : decode cL_law 816 = .ok (.aload_n 1, 1) := by decide +kernel
theorem dL_law_817 : decode cL_law 817 = .ok (.aload_n 0, 1) := by decide +kernel
theorem dL_law_818 : decode cL_law 818 = .ok (.iload_n 3, 1) := by decide +kernel
theorem dL_law_819 : decode cL_law 819 = .ok (.iconst 1, 1) := by decide +kernel
theorem dL_law_820 : decode cL_law 820 = .ok (.iadd, 1) := by decide +kernel
theorem dL_law_821 : decode cL_law 821 = .ok (.iaload, 1) := by decide +kernel
theorem dL_law_822 : decode cL_law 822 = .ok (.aload_n 0, 1) := by decide +kernel
theorem dL_law_823 : decode cL_law 823 = .ok (.iload_n 3, 1) := by decide +kernel
theorem dL_law_824 : decode cL_law 824 = .ok (.iconst 2, 1) := by decide +kernel
theorem dL_law_825 : decode cL_law 825 = .ok (.iadd, 1) := by decide +kernel
theorem dL_law_826 : decode cL_law 826 = .ok (.iaload, 1) := by decide +kernel
theorem dL_law_827 : decode cL_law 827 = .ok (.invokevirtual 102, 3) := by decide +kernel
theorem dL_law_830 : decode cL_law 830 = .ok (.aload_n 2, 1) := by decide +kernel
theorem dL_law_831 : decode cL_law 831 = .ok (.aload_n 0, 1) := by decide +kernel
theorem dL_law_832 : decode cL_law 832 = .ok (.iload_n 3, 1) := by decide +kernel
theorem dL_law_833 : decode cL_law 833 = .ok (.iconst 1, 1) := by decide +kernel
theorem dL_law_834 : decode cL_law 834 = .ok (.iadd, 1) := by decide +kernel
theorem dL_law_835 : decode cL_law 835 = .ok (.iaload, 1) := by decide +kernel
theorem dL_law_836 : decode cL_law 836 = .ok (.aload_n 0, 1) := by decide +kernel
theorem dL_law_837 : decode cL_law 837 = .ok (.iload_n 3, 1) := by decide +kernel
theorem dL_law_838 : decode cL_law 838 = .ok (.iconst 2, 1) := by decide +kernel
theorem dL_law_839 : decode cL_law 839 = .ok (.iadd, 1) := by decide +kernel
theorem dL_law_840 : decode cL_law 840 = .ok (.iaload, 1) := by decide +kernel
theorem dL_law_841 : decode cL_law 841 = .ok (.invokevirtual 105, 3) := by decide +kernel
theorem dL_law_844 : decode cL_law 844 = .ok (.if_icmp .eq 183, 3) := by decide +kernel
theorem dL_law_847 : decode cL_law 847 = .ok (.iconst 0, 1) := by decide +kernel
theorem dL_law_848 : decode cL_law 848 = .ok (.ireturn, 1) := by decide +kernel
theorem dL_law_849 : decode cL_law 849 = .ok (.aload_n 1, 1) := by decide +kernel
theorem dL_law_850 : decode cL_law 850 = .ok (.aload_n 0, 1) := by decide +kernel
theorem dL_law_851 : decode cL_law 851 = .ok (.iload_n 3, 1) := by decide +kernel
theorem dL_law_852 : decode cL_law 852 = .ok (.iconst 1, 1) := by decide +kernel
theorem dL_law_853 : decode cL_law 853 = .ok (.iadd, 1) := by decide +kernel
theorem dL_law_854 : decode cL_law 854 = .ok (.iaload, 1) := by decide +kernel
theorem dL_law_855 : decode cL_law 855 = .ok (.invokevirtual 106, 3) := by decide +kernel
theorem dL_law_858 : decode cL_law 858 = .ok (.aload_n 2, 1) := by decide +kernel
theorem dL_law_859 : decode cL_law 859 = .ok (.aload_n 0, 1) := by decide +kernel
theorem dL_law_860 : decode cL_law 860 = .ok (.iload_n 3, 1) := by decide +kernel
theorem dL_law_861 : decode cL_law 861 = .ok (.iconst 1, 1) := by decide +kernel
theorem dL_law_862 : decode cL_law 862 = .ok (.iadd, 1) := by decide +kernel
theorem dL_law_863 : decode cL_law 863 = .ok (.iaload, 1) := by decide +kernel
theorem dL_law_864 : decode cL_law 864 = .ok (.invokevirtual 109, 3) := by decide +kernel
theorem dL_law_867 : decode cL_law 867 = .ok (.if_icmp .eq 160, 3) := by decide +kernel
theorem dL_law_870 : decode cL_law 870 = .ok (.iconst 0, 1) := by decide +kernel
theorem dL_law_871 : decode cL_law 871 = .ok (.ireturn, 1) := by decide +kernel
theorem dL_law_872 : decode cL_law 872 = .ok (.aload_n 1, 1) := by decide +kernel
theorem dL_law_873 : decode cL_law 873 = .ok (.aload_n 0, 1) := by decide +kernel
theorem dL_law_874 : decode cL_law 874 = .ok (.iload_n 3, 1) := by decide +kernel
theorem dL_law_875 : decode cL_law 875 = .ok (.iconst 1, 1) := by decide +kernel
theorem dL_law_876 : decode cL_law 876 = .ok (.iadd, 1) := by decide +kernel
theorem dL_law_877 : decode cL_law 877 = .ok (.iaload, 1) := by decide +kernel
theorem dL_law_878 : decode cL_law 878 = .ok (.aload_n 0, 1) := by decide +kernel
theorem dL_law_879 : decode cL_law 879 = .ok (.iload_n 3, 1) := by decide +kernel
theorem dL_law_880 : decode cL_law 880 = .ok (.iconst 2, 1) := by decide +kernel
theorem dL_law_881 : decode cL_law 881 = .ok (.iadd, 1) := by decide +kernel
theorem dL_law_882 : decode cL_law 882 = .ok (.iaload, 1) := by decide +kernel
theorem dL_law_883 : decode cL_law 883 = .ok (.invokevirtual 110, 3) := by decide +kernel
theorem dL_law_886 : decode cL_law 886 = .ok (.aload_n 2, 1) := by decide +kernel
theorem dL_law_887 : decode cL_law 887 = .ok (.aload_n 0, 1) := by decide +kernel
theorem dL_law_888 : decode cL_law 888 = .ok (.iload_n 3, 1) := by decide +kernel
theorem dL_law_889 : decode cL_law 889 = .ok (.iconst 1, 1) := by decide +kernel
theorem dL_law_890 : decode cL_law 890 = .ok (.iadd, 1) := by decide +kernel
theorem dL_law_891 : decode cL_law 891 = .ok (.iaload, 1) := by decide +kernel
theorem dL_law_892 : decode cL_law 892 = .ok (.aload_n 0, 1) := by decide +kernel
theorem dL_law_893 : decode cL_law 893 = .ok (.iload_n 3, 1) := by decide +kernel
theorem dL_law_894 : decode cL_law 894 = .ok (.iconst 2, 1) := by decide +kernel
theorem dL_law_895 : decode cL_law 895 = .ok (.iadd, 1) := by decide +kernel
theorem dL_law_896 : decode cL_law 896 = .ok (.iaload, 1) := by decide +kernel
theorem dL_law_897 : decode cL_law 897 = .ok (.invokevirtual 113, 3) := by decide +kernel
theorem dL_law_900 : decode cL_law 900 = .ok (.if_icmp .eq 127, 3) := by decide +kernel
theorem dL_law_903 : decode cL_law 903 = .ok (.iconst 0, 1) := by decide +kernel
theorem dL_law_904 : decode cL_law 904 = .ok (.ireturn, 1) := by decide +kernel
theorem dL_law_905 : decode cL_law 905 = .ok (.aload_n 1, 1) := by decide +kernel
theorem dL_law_906 : decode cL_law 906 = .ok (.aload_n 0, 1) := by decide +kernel
theorem dL_law_907 : decode cL_law 907 = .ok (.iload_n 3, 1) := by decide +kernel
theorem dL_law_908 : decode cL_law 908 = .ok (.iconst 1, 1) := by decide +kernel
theorem dL_law_909 : decode cL_law 909 = .ok (.iadd, 1) := by decide +kernel
theorem dL_law_910 : decode cL_law 910 = .ok (.iaload, 1) := by decide +kernel
theorem dL_law_911 : decode cL_law 911 = .ok (.aload_n 0, 1) := by decide +kernel
theorem dL_law_912 : decode cL_law 912 = .ok (.iload_n 3, 1) := by decide +kernel
theorem dL_law_913 : decode cL_law 913 = .ok (.iconst 2, 1) := by decide +kernel
theorem dL_law_914 : decode cL_law 914 = .ok (.iadd, 1) := by decide +kernel
theorem dL_law_915 : decode cL_law 915 = .ok (.iaload, 1) := by decide +kernel
theorem dL_law_916 : decode cL_law 916 = .ok (.aload_n 0, 1) := by decide +kernel
theorem dL_law_917 : decode cL_law 917 = .ok (.iload_n 3, 1) := by decide +kernel
theorem dL_law_918 : decode cL_law 918 = .ok (.iconst 3, 1) := by decide +kernel
theorem dL_law_919 : decode cL_law 919 = .ok (.iadd, 1) := by decide +kernel
theorem dL_law_920 : decode cL_law 920 = .ok (.iaload, 1) := by decide +kernel
theorem dL_law_921 : decode cL_law 921 = .ok (.aload_n 0, 1) := by decide +kernel
theorem dL_law_922 : decode cL_law 922 = .ok (.iload_n 3, 1) := by decide +kernel
theorem dL_law_923 : decode cL_law 923 = .ok (.iconst 4, 1) := by decide +kernel
theorem dL_law_924 : decode cL_law 924 = .ok (.iadd, 1) := by decide +kernel
theorem dL_law_925 : decode cL_law 925 = .ok (.iaload, 1) := by decide +kernel
theorem dL_law_926 : decode cL_law 926 = .ok (.invokevirtual 114, 3) := by decide +kernel
theorem dL_law_929 : decode cL_law 929 = .ok (.aload_n 2, 1) := by decide +kernel
theorem dL_law_930 : decode cL_law 930 = .ok (.aload_n 0, 1) := by decide +kernel
theorem dL_law_931 : decode cL_law 931 = .ok (.iload_n 3, 1) := by decide +kernel
theorem dL_law_932 : decode cL_law 932 = .ok (.iconst 1, 1) := by decide +kernel
theorem dL_law_933 : decode cL_law 933 = .ok (.iadd, 1) := by decide +kernel
theorem dL_law_934 : decode cL_law 934 = .ok (.iaload, 1) := by decide +kernel
theorem dL_law_935 : decode cL_law 935 = .ok (.aload_n 0, 1) := by decide +kernel
theorem dL_law_936 : decode cL_law 936 = .ok (.iload_n 3, 1) := by decide +kernel
theorem dL_law_937 : decode cL_law 937 = .ok (.iconst 2, 1) := by decide +kernel
theorem dL_law_938 : decode cL_law 938 = .ok (.iadd, 1) := by decide +kernel
theorem dL_law_939 : decode cL_law 939 = .ok (.iaload, 1) := by decide +kernel
theorem dL_law_940 : decode cL_law 940 = .ok (.aload_n 0, 1) := by decide +kernel
theorem dL_law_941 : decode cL_law 941 = .ok (.iload_n 3, 1) := by decide +kernel
theorem dL_law_942 : decode cL_law 942 = .ok (.iconst 3, 1) := by decide +kernel
theorem dL_law_943 : decode cL_law 943 = .ok (.iadd, 1) := by decide +kernel
theorem dL_law_944 : decode cL_law 944 = .ok (.iaload, 1) := by decide +kernel
theorem dL_law_945 : decode cL_law 945 = .ok (.aload_n 0, 1) := by decide +kernel
theorem dL_law_946 : decode cL_law 946 = .ok (.iload_n 3, 1) := by decide +kernel
theorem dL_law_947 : decode cL_law 947 = .ok (.iconst 4, 1) := by decide +kernel
theorem dL_law_948 : decode cL_law 948 = .ok (.iadd, 1) := by decide +kernel
theorem dL_law_949 : decode cL_law 949 = .ok (.iaload, 1) := by decide +kernel
theorem dL_law_950 : decode cL_law 950 = .ok (.invokevirtual 117, 3) := by decide +kernel
theorem dL_law_953 : decode cL_law 953 = .ok (.if_icmp .eq 74, 3) := by decide +kernel
theorem dL_law_956 : decode cL_law 956 = .ok (.iconst 0, 1) := by decide +kernel
theorem dL_law_957 : decode cL_law 957 = .ok (.ireturn, 1) := by decide +kernel
theorem dL_law_958 : decode cL_law 958 = .ok (.aload_n 1, 1) := by decide +kernel
theorem dL_law_959 : decode cL_law 959 = .ok (.invokevirtual 118, 3) := by decide +kernel
theorem dL_law_962 : decode cL_law 962 = .ok (.aload_n 2, 1) := by decide +kernel
theorem dL_law_963 : decode cL_law 963 = .ok (.invokevirtual 121, 3) := by decide +kernel
theorem dL_law_966 : decode cL_law 966 = .ok (.if_icmp .eq 61, 3) := by decide +kernel
theorem dL_law_969 : decode cL_law 969 = .ok (.iconst 0, 1) := by decide +kernel
theorem dL_law_970 : decode cL_law 970 = .ok (.ireturn, 1) := by decide +kernel
theorem dL_law_971 : decode cL_law 971 = .ok (.aload_n 1, 1) := by decide +kernel
theorem dL_law_972 : decode cL_law 972 = .ok (.aload_n 0, 1) := by decide +kernel
theorem dL_law_973 : decode cL_law 973 = .ok (.iload_n 3, 1) := by decide +kernel
theorem dL_law_974 : decode cL_law 974 = .ok (.iconst 1, 1) := by decide +kernel
theorem dL_law_975 : decode cL_law 975 = .ok (.iadd, 1) := by decide +kernel
theorem dL_law_976 : decode cL_law 976 = .ok (.iaload, 1) := by decide +kernel
theorem dL_law_977 : decode cL_law 977 = .ok (.aload_n 0, 1) := by decide +kernel
theorem dL_law_978 : decode cL_law 978 = .ok (.iload_n 3, 1) := by decide +kernel
theorem dL_law_979 : decode cL_law 979 = .ok (.iconst 2, 1) := by decide +kernel
theorem dL_law_980 : decode cL_law 980 = .ok (.iadd, 1) := by decide +kernel
theorem dL_law_981 : decode cL_law 981 = .ok (.iaload, 1) := by decide +kernel
theorem dL_law_982 : decode cL_law 982 = .ok (.invokevirtual 122, 3) := by decide +kernel
theorem dL_law_985 : decode cL_law 985 = .ok (.aload_n 2, 1) := by decide +kernel
theorem dL_law_986 : decode cL_law 986 = .ok (.aload_n 0, 1) := by decide +kernel
theorem dL_law_987 : decode cL_law 987 = .ok (.iload_n 3, 1) := by decide +kernel
theorem dL_law_988 : decode cL_law 988 = .ok (.iconst 1, 1) := by decide +kernel
theorem dL_law_989 : decode cL_law 989 = .ok (.iadd, 1) := by decide +kernel
theorem dL_law_990 : decode cL_law 990 = .ok (.iaload, 1) := by decide +kernel
theorem dL_law_991 : decode cL_law 991 = .ok (.aload_n 0, 1) := by decide +kernel
theorem dL_law_992 : decode cL_law 992 = .ok (.iload_n 3, 1) := by decide +kernel
theorem dL_law_993 : decode cL_law 993 = .ok (.iconst 2, 1) := by decide +kernel
theorem dL_law_994 : decode cL_law 994 = .ok (.iadd, 1) := by decide +kernel
theorem dL_law_995 : decode cL_law 995 = .ok (.iaload, 1) := by decide +kernel
theorem dL_law_996 : decode cL_law 996 = .ok (.invokevirtual 125, 3) := by decide +kernel
theorem dL_law_999 : decode cL_law 999 = .ok (.if_icmp .eq 28, 3) := by decide +kernel
theorem dL_law_1002 : decode cL_law 1002 = .ok (.iconst 0, 1) := by decide +kernel
theorem dL_law_1003 : decode cL_law 1003 = .ok (.ireturn, 1) := by decide +kernel
theorem dL_law_1004 : decode cL_law 1004 = .ok (.aload_n 1, 1) := by decide +kernel
theorem dL_law_1005 : decode cL_law 1005 = .ok (.aload_n 0, 1) := by decide +kernel
theorem dL_law_1006 : decode cL_law 1006 = .ok (.iload_n 3, 1) := by decide +kernel
theorem dL_law_1007 : decode cL_law 1007 = .ok (.iconst 1, 1) := by decide +kernel
theorem dL_law_1008 : decode cL_law 1008 = .ok (.iadd, 1) := by decide +kernel
theorem dL_law_1009 : decode cL_law 1009 = .ok (.iaload, 1) := by decide +kernel
theorem dL_law_1010 : decode cL_law 1010 = .ok (.invokevirtual 126, 3) := by decide +kernel
theorem dL_law_1013 : decode cL_law 1013 = .ok (.aload_n 2, 1) := by decide +kernel
theorem dL_law_1014 : decode cL_law 1014 = .ok (.aload_n 0, 1) := by decide +kernel
theorem dL_law_1015 : decode cL_law 1015 = .ok (.iload_n 3, 1) := by decide +kernel
theorem dL_law_1016 : decode cL_law 1016 = .ok (.iconst 1, 1) := by decide +kernel
theorem dL_law_1017 : decode cL_law 1017 = .ok (.iadd, 1) := by decide +kernel
theorem dL_law_1018 : decode cL_law 1018 = .ok (.iaload, 1) := by decide +kernel
theorem dL_law_1019 : decode cL_law 1019 = .ok (.invokevirtual 129, 3) := by decide +kernel
theorem dL_law_1022 : decode cL_law 1022 = .ok (.if_icmp .eq 5, 3) := by decide +kernel
theorem dL_law_1025 : decode cL_law 1025 = .ok (.iconst 0, 1) := by decide +kernel
theorem dL_law_1026 : decode cL_law 1026 = .ok (.ireturn, 1) := by decide +kernel
theorem dL_law_1027 : decode cL_law 1027 = .ok (.iinc 3 6, 3) := by decide +kernel
theorem dL_law_1030 : decode cL_law 1030 = .ok (.goto (-1012), 3) := by decide +kernel
theorem dL_law_1033 : decode cL_law 1033 = .ok (.iconst 1, 1) := by decide +kernel
theorem dL_law_1034 : decode cL_law 1034 = .ok (.ireturn, 1) := by decide +kernel
end
section

/-! ===== words that last, and the links to a nest mate's private methods ===== -/
def gw : List Cond := lw_tbl.filter goodWord
theorem gw_good : GoodIn gw gw := fun _ h => ⟨h, good_of_word (List.mem_filter.mp h).2⟩
def isNst : Cond → Bool
  | .methodLinkNest _ _ _ _ => true
  | _ => false
def nst : List Cond := lw_tbl.filter isNst
theorem nst_warm {w : Cond} (hw : w ∈ nst) {s U : State} (hW : s.WarmedH U.vm) (h : va_Nw w s) : va_Nw w U := by
  have h1 := (List.mem_filter.mp hw).2
  cases w with
  | methodLinkNest a i x hh => exact va_Nw.warmM hW h
  | _ => simp [isNst] at h1
theorem nst_same {w : Cond} (hw : w ∈ nst) {s U : State} (hW : s.vm = U.vm) (h : va_Nw w s) : va_Nw w U := by
  have h1 := (List.mem_filter.mp hw).2
  cases w with
  | methodLinkNest a i x hh => exact va_Nw.same rfl hW h
  | _ => simp [isNst] at h1
/-! ===== the memory: ints, longs, and the merger's three trees ===== -/
abbrev Hp : Type := (Nat → Nat → Int32) × (Nat → Nat → Int64) × (Nat → Nat)
def sI (h : Hp) (i j : Nat) (v : Int32) : Hp := (fun a b => if a = i ∧ b = j then v else h.1 a b, h.2)
def sL (h : Hp) (i j : Nat) (v : Int64) : Hp := (h.1, fun a b => if a = i ∧ b = j then v else h.2.1 a b, h.2.2)
def sR (h : Hp) (k v : Nat) : Hp := (h.1, h.2.1, fun a => if a = k then v else h.2.2 a)
def rI (h : Hp) (i : Nat) (f : Nat → Int32) : Hp := (fun a => if a = i then f else h.1 a, h.2)
def rL (h : Hp) (i : Nat) (f : Nat → Int64) : Hp := (h.1, fun a => if a = i then f else h.2.1 a, h.2.2)
/-! ===== the world: cell numbers below NID; a tree p is at 7 * p .. 7 * p + 6 ===== -/

def NID : Nat := 237
/-- kind and length of the cells behind the trees: 0 int rows, 1 long rows, 2 boolean rows, 3 the row of trees, 4 rows of int rows, 10 + k an object of the k-th kind -/
def shL : List (Nat × Nat) := [(19, 0), (3, 8), (16, 0), (0, 400), (15, 0), (0, 12), (18, 0), (0, 540), (0, 12), (0, 4), (10, 0), (0, 30), (0, 30), (0, 0), (11, 0), (0, 31), (0, 31), (2, 31), (11, 0), (0, 31), (0, 31), (2, 31), (13, 0), (0, 30), (0, 30), (0, 60), (0, 60), (0, 60), (0, 30), (2, 30), (12, 0), (0, 30), (0, 60), (1, 60), (1, 60), (0, 60), (0, 60), (0, 60), (14, 0), (0, 121), (0, 121), (0, 30), (0, 10), (4, 31), (4, 31), (4, 31), (0, 31), (0, 31), (0, 31), (0, 31), (0, 31), (0, 31), (0, 31), (0, 31), (0, 31), (0, 31), (0, 31), (0, 31), (0, 31), (0, 31), (0, 31), (0, 31), (0, 31), (0, 31), (0, 31), (0, 31), (0, 31), (0, 31), (0, 31), (0, 31), (0, 31), (0, 31), (0, 31), (0, 31), (0, 31), (0, 31), (0, 31), (0, 31), (0, 31), (0, 31), (0, 31), (0, 31), (0, 31), (0, 31), (0, 31), (0, 31), (0, 31), (0, 31), (0, 31), (0, 31), (0, 31), (0, 31), (0, 31), (0, 31), (0, 31), (0, 31), (0, 31), (0, 31), (0, 31), (0, 31), (0, 31), (0, 31), (0, 31), (0, 31), (0, 31), (0, 31), (0, 31), (0, 31), (0, 31), (0, 31), (0, 31), (0, 31), (0, 31), (0, 31), (0, 31), (0, 31), (0, 31), (0, 31), (0, 31), (0, 31), (0, 31), (0, 31), (0, 31), (0, 31), (0, 31), (0, 31), (0, 31), (0, 31), (0, 31), (0, 31), (0, 31), (0, 31), (0, 31), (0, 31), (0, 31), (0, 31), (0, 31), (0, 31), (0, 31), (20, 0), (0, 6270), (0, 11), (0, 400), (0, 2000), (0, 4), (0, 10), (0, 13), (0, 13), (0, 60), (0, 60), (0, 923521), (0, 30), (0, 30), (0, 64), (0, 64), (0, 64), (0, 64), (0, 30), (0, 30), (0, 130), (0, 130), (0, 130), (0, 60), (0, 130), (0, 130), (0, 1000), (0, 1000)]
def shp (i : Nat) : Nat × Nat := if i < 70 then (if i % 7 = 0 then (17, 0) else if i % 7 < 5 then (0, 30) else (1, 30)) else shL.getD (i - 70) (9, 0)
/-- which cell the j-th place of a row of references names -/
def rfs (i j : Nat) : Nat := if i = 71 then 7 * j else if i = 113 then 116 + j else if i = 114 then 147 + j else 178 + j
/-- the fields of an object of kind ci at cell i, references as cell numbers -/
def afl (h : Hp) (ci i : Nat) : List Value := match ci with
  | 0 => [.ref (84), .ref (88), .ref (81), .ref (82), .int (h.1 i 4), .ref (113), .ref (114), .ref (115), .int (h.1 i 8), .int (h.1 i 9)]
  | 1 => [.int (h.1 i 0), .ref (i + 1), .ref (i + 2), .ref (i + 3)]
  | 2 => [.int (h.1 i 0), .ref (101), .ref (102), .ref (103), .ref (104), .ref (105), .ref (106), .ref (107), .int (h.1 i 8)]
  | 3 => [.int (h.1 i 0), .int (h.1 i 1), .ref (93), .ref (94), .int (h.1 i 4), .ref (95), .ref (96), .ref (97), .ref (98), .ref (99)]
  | 4 => [.ref (63), .int (h.1 i 1), .ref (109), .ref (110), .ref (h.2.2 4), .ref (h.2.2 5), .ref (h.2.2 6), .ref (111)]
  | 5 => [.ref (72), .ref (56), .ref (75), .int (h.1 i 3), .int (h.1 i 4)]
  | 6 => [.int (h.1 i 0), .ref (73)]
  | 7 => [.int (h.1 i 0), .ref (i + 1), .ref (i + 2), .ref (i + 3), .ref (i + 4), .ref (i + 5), .ref (i + 6)]
  | 8 => [.int (h.1 i 0), .ref (77), .ref (78)]
  | 9 => [.ref (71), .ref (56), .ref (72), .ref (74), .ref (76), .ref (79), .ref (80), .ref (92), .ref (100), .ref (108), .ref (112), .int (h.1 i 11)]
  | 10 => [.ref (210), .ref (211), .int (h.1 i 2), .ref (212), .int (h.1 i 4), .ref (213), .int (h.1 i 6), .ref (214), .ref (215), .ref (216), .ref (217), .ref (218), .ref (219), .ref (220), .ref (221), .ref (222), .ref (223), .ref (224), .ref (225), .ref (226), .int (h.1 i 20), .int (h.1 i 21), .int (h.1 i 22), .ref (227), .ref (228), .ref (229), .ref (230), .ref (231), .ref (232), .ref (233), .ref (234), .int (h.1 i 31), .int (h.1 i 32), .int (h.1 i 33), .ref (235), .ref (236)]
  | _ => []
def tr (ad : Nat → Nat) : Value → Value
  | .ref a => .ref (ad a)
  | v => v
abbrev Wx : Type := Launch × va_G × (Nat → ClassId) × (Nat → Nat)
def cel (X : Wx) (h : Hp) (i : Nat) : va_E :=
  if (shp i).1 = 0 then .inl (X.2.2.1 0, (shp i).2, .inl (h.1 i))
  else if (shp i).1 = 1 then .inl (X.2.2.1 1, (shp i).2, .inr (.inl (h.2.1 i)))
  else if (shp i).1 = 2 then .inl (X.2.2.1 2, (shp i).2, .inl (h.1 i))
  else if (shp i).1 = 3 then .inl (X.2.2.1 3, (shp i).2, .inr (.inr (.inr (.inr (fun j => some (X.2.2.2 (rfs i j)))))))
  else if (shp i).1 = 4 then .inl (X.2.2.1 4, (shp i).2, .inr (.inr (.inr (.inr (fun j => some (X.2.2.2 (rfs i j)))))))
  else .inr ((shp i).1 - 10, (afl h ((shp i).1 - 10) i).map (tr X.2.2.2))
def wl (X : Wx) (h : Hp) : va_W := (List.range NID).map (fun i => (X.2.2.2 i, cel X h i))
def tyx (X : Wx) : List (ClassId × FieldType) := [(X.2.2.1 0, .int), (X.2.2.1 1, .long), (X.2.2.1 2, .boolean), (X.2.2.1 3, .object RX7), (X.2.2.1 4, .array .int)]
def InjX (X : Wx) : Prop := ∀ i j, i < NID → j < NID → X.2.2.2 i = X.2.2.2 j → i = j
def Fr (X : Wx) : Nat → Prop := fun q => ∃ i, i < NID ∧ q = X.2.2.2 i
theorem shp_lt {i : Nat} (h : (shp i).1 ≠ 9) : i < NID := by
  unfold shp at h
  by_cases h1 : i < 70
  · exact Nat.lt_trans h1 (by decide)
  · rw [if_neg h1] at h
    have h2 : i - 70 < shL.length := by
      rcases Nat.lt_or_ge (i - 70) shL.length with q | q
      · exact q
      · rw [List.getD_eq_getElem?_getD, List.getElem?_eq_none q] at h
        exact absurd rfl h
    have h3 : shL.length = NID - 70 := by decide +kernel
    have h4 : NID = 237 := rfl
    omega
theorem wl_get (X : Wx) (h : Hp) {i : Nat} (hi : i < NID) : (wl X h)[i]? = some (X.2.2.2 i, cel X h i) := by
  unfold wl
  rw [List.getElem?_map, List.getElem?_range hi]
  rfl
theorem wl_set (X : Wx) (h h' : Hp) {i : Nat} (hi : i < NID) {e : va_E} (he : cel X h' i = e) (ho : ∀ j, j ≠ i → cel X h' j = cel X h j) : (wl X h).set i (X.2.2.2 i, e) = wl X h' := by
  apply List.ext_getElem?
  intro k
  by_cases hk : k < NID
  · by_cases e1 : k = i
    · subst e1
      rw [List.getElem?_set_self (by unfold wl; rw [List.length_map, List.length_range]; exact hk), wl_get X h' hk, he]
    · rw [List.getElem?_set_ne (Ne.symm e1), wl_get X h hk, wl_get X h' hk, ho k e1]
  · have l1 : (wl X h).length = NID := by unfold wl; rw [List.length_map, List.length_range]
    have l2 : (wl X h').length = NID := by unfold wl; rw [List.length_map, List.length_range]
    rw [List.getElem?_eq_none (by rw [List.length_set, l1]; omega), List.getElem?_eq_none (by rw [l2]; omega)]
theorem wl_D {X : Wx} (hi : InjX X) (h : Hp) : va_D (Fr X) (wl X h) := by
  have l1 : (wl X h).length = NID := by unfold wl; rw [List.length_map, List.length_range]
  have key : ∀ (k : Nat) (q : Nat × va_E), (wl X h)[k]? = some q → k < NID ∧ q.1 = X.2.2.2 k := by
    intro k q hk
    have hl : k < NID := by rw [← l1]; exact (List.getElem?_eq_some_iff.mp hk).1
    rw [wl_get X h hl] at hk
    cases hk
    exact ⟨hl, rfl⟩
  refine ⟨fun a b x y hx hy hxy => ?_, fun k q hk => ?_⟩
  · obtain ⟨h1, h2⟩ := key a x hx
    obtain ⟨h3, h4⟩ := key b y hy
    exact hi a b h1 h3 (by rw [← h2, ← h4, hxy])
  · obtain ⟨h1, h2⟩ := key k q hk
    exact ⟨k, h1, h2⟩
theorem afl_sR_ne (h : Hp) (k v ci i : Nat) (hc : ci ≠ 4) : afl (sR h k v) ci i = afl h ci i := by
  unfold afl
  split <;> first | rfl | exact absurd rfl hc
theorem afl_eq (h h' : Hp) (ci i : Nat) (h1 : h'.1 i = h.1 i) (h2 : h'.2.2 = h.2.2) : afl h' ci i = afl h ci i := by
  unfold afl
  split <;> first | rfl | simp only [h1, h2]
theorem cel_eq (X : Wx) (h h' : Hp) (i : Nat) (h1 : h'.1 i = h.1 i) (h2 : h'.2.1 i = h.2.1 i) (h3 : h'.2.2 = h.2.2) : cel X h' i = cel X h i := by
  unfold cel
  rw [h1, h2, afl_eq h h' _ i h1 h3]
theorem sI_row (h : Hp) {i a : Nat} (j : Nat) (v : Int32) (ha : a ≠ i) : (sI h i j v).1 a = h.1 a := by
  funext b
  simp [sI, ha]
theorem sL_row (h : Hp) {i a : Nat} (j : Nat) (v : Int64) (ha : a ≠ i) : (sL h i j v).2.1 a = h.2.1 a := by
  funext b
  simp [sL, ha]
theorem sI_self (h : Hp) (i j : Nat) (v : Int32) : (sI h i j v).1 i = upd (h.1 i) j v := by
  funext b
  by_cases hb : b = j <;> simp [sI, upd, hb]
theorem sL_self (h : Hp) (i j : Nat) (v : Int64) : (sL h i j v).2.1 i = vp_updL (h.2.1 i) j v := by
  funext b
  by_cases hb : b = j <;> simp [sL, vp_updL, hb]
/-! ===== methods, calls, walks ===== -/
abbrev Mt : Type := MethodName × ByteArray × Nat × Option FieldType
def wsM (M : Mt) : List Cond := .code M.1 M.2.1 M.2.2.1 M.2.2.2 :: gw
def rmD (d : Nat) : Room := { frames := d, cells := 0, slots := 0, locals := 64 * d }
def trp (X : Wx) (q : Nat × Value) : Nat × Value := (q.1, tr X.2.2.2 q.2)
def Cx (X : Wx) (h : Hp) (U : State) : Prop := va_P X.2.1 vwCl (wl X h) U.heap ∧ va_K X.2.1 vwCl (tyx X) U ∧ ∀ w ∈ nst, va_Nw w U
def Qx (X : Wx) (Q : Option Value → Hp → Prop) : Array Value → State → Outcome → State → Prop := fun _ st oc t => (∃ (r : Option Value) (h' : Hp), oc = .returned (r.map (tr X.2.2.2)) ∧ Q r h' ∧ va_P X.2.1 vwCl (wl X h') t.heap) ∧ va_F (Fr X) st t
/-- the call of M with these arguments over the memory h comes back with Q -/
def Cl (X : Wx) (M : Mt) (d : Nat) (av : List Value) (h : Hp) (Q : Option Value → Hp → Prop) : Prop :=
  InjX X → Met X.1 M.1 (wsM M) (rmD d) (va_Pc (av.map (tr X.2.2.2)) (Cx X h)) (Qx X Q) 0 0 (Fr X)
def Ctx (X : Wx) (M : Mt) (p : Program) (s : State) (m : MethodId) (args : Array Value) (meth : Method) (c : Code) : Prop :=
  CallFix p m c M.2.1 M.2.2.1 s args gw M.1.cls ∧ meth.sig.returnType = M.2.2.2 ∧ meth.locks = false ∧ va_K X.2.1 vwCl (tyx X) s ∧ ∀ w ∈ nst, va_Nw w s
/-- from pc with these locals and stack over the memory h, the method M comes to its end with Q -/
def V (X : Wx) (M : Mt) (d pc : Nat) (l : List (Nat × Value)) (st : List Value) (h : Hp) (Q : Option Value → Hp → Prop) : Prop :=
  InjX X → ∀ (p : Program) (e : Env) (s : State) (m : MethodId) (args : Array Value) (below : List Frame) (meth : Method) (c : Code) (H : Heap) (locs : List Loc) (ls : Array Slot),
    Ctx X M p s m args meth c → va_P X.2.1 vwCl (wl X h) H → va_S (Fr X) s.heap H locs → lv_has ls M.2.2.1 (l.map (trp X)) →
    W p X.1 e (rmD d) s m args below meth c H locs 0 0 (MQ below (Qx X Q) args s 0 0 (Fr X)) (F0 m pc ls (st.map (tr X.2.2.2)))
theorem tr_cat (ad : Nat → Nat) (v : Value) : (tr ad v).category = v.category := by cases v <;> rfl
theorem trp_args (X : Wx) : ∀ (k : Nat) (av : List Value), lv_args k (av.map (tr X.2.2.2)) = (lv_args k av).map (trp X)
  | _, [] => rfl
  | k, v :: av => by
    simp only [List.map_cons, lv_args, tr_cat, trp_args X]
    rfl
theorem sl_len (ad : Nat → Nat) : ∀ av : List Value, (lg_sl (av.map (tr ad))).length = (lg_sl av).length
  | [] => rfl
  | v :: av => by
    have ih := sl_len ad av
    unfold lg_sl at ih ⊢
    rw [List.map_cons, List.flatMap_cons, List.flatMap_cons, List.length_append, List.length_append, ih, tr_cat]
    split <;> rfl
theorem Cl.ofV {X : Wx} {M : Mt} {d : Nat} {av : List Value} {h : Hp} {Q : Option Value → Hp → Prop} (hy : plainName M.1.cls = true) (hn : (lg_sl av).length ≤ M.2.2.1) (k : V X M d 0 (lv_args 0 av) [] h Q) : Cl X M d av h Q := by
  intro hi
  refine Met.ofW (cc := M.2.1) (maxL := M.2.2.1) (ret := M.2.2.2) hy rfl ?_
  intro p e s m args below meth c s₁ B hml hv
  obtain ⟨rfl, hP, hK, hN⟩ := hv
  have hts := atoms_spec (ws := wsM M) B.pre
  have hown : s.vm.findClass M.1.cls = some m.cls := findClass_of_methodNamed B.named
  have hl := lv_entry (av.map (tr X.2.2.2)) (n := M.2.2.1) (by rw [sl_len]; exact hn)
  rw [lg_entry_eq]
  rw [trp_args] at hl
  exact k hi p e s m _ below meth c s.heap [] _ ⟨⟨B.exec, B.bytes, hml, hown, fun w hw => hts w (List.mem_cons_of_mem _ hw)⟩, B.returns, B.notSynchronized, hK, hN⟩ hP va_S.rf hl
theorem V.loc {X : Wx} {M : Mt} {d pc : Nat} {l l' : List (Nat × Value)} {st : List Value} {h : Hp} {Q : Option Value → Hp → Prop} (ks : List Nat) (hk : lv_pick l ks = l') (k : V X M d pc l' st h Q) : V X M d pc l st h Q :=
  fun hi p e s m args below meth c H locs ls C hP hS hl => k hi p e s m args below meth c H locs ls C hP hS
    (lv_sub hl ks (by
      rw [← hk]
      unfold lv_pick
      rw [List.map_filterMap]
      congr 1
      funext i
      rw [List.getElem?_map]))
theorem V.mono {X : Wx} {M : Mt} {d pc : Nat} {l : List (Nat × Value)} {st : List Value} {h : Hp} {Q Q' : Option Value → Hp → Prop} (hq : ∀ r h', Q r h' → Q' r h') (k : V X M d pc l st h Q) : V X M d pc l st h Q' := by
  intro hi p e s m args below meth c H locs ls C hP hS hl T hT XX
  obtain ⟨t, a, o, b1, b2, ⟨⟨r, h', q1, q2, q3⟩, q4⟩, b4⟩ := k hi p e s m args below meth c H locs ls C hP hS hl T hT XX
  exact ⟨t, a, o, b1, b2, ⟨⟨r, h', q1, hq r h' q2, q3⟩, q4⟩, b4⟩
theorem Met.mono {l : Launch} {y : MethodName} {ws : List Cond} {rm : Room} {Pc : Array Value → State → Prop} {Qc Qc' : Array Value → State → Outcome → State → Prop} {mc ms : Nat} {free : Addr → Prop} (h : Met l y ws rm Pc Qc mc ms free) (hq : ∀ a st o t, Qc a st o t → Qc' a st o t) : Met l y ws rm Pc Qc' mc ms free := by
  intro p e h1 h2 h3 s m args below h4 h5 h6 h7
  obtain ⟨k, o, a1, a2, a3, a4, a5⟩ := h p e h1 h2 h3 s m args below h4 h5 h6 h7
  exact ⟨k, o, a1, a2, a3, hq _ _ _ _ a4, a5⟩
theorem Cl.mono {X : Wx} {M : Mt} {d : Nat} {av : List Value} {h : Hp} {Q Q' : Option Value → Hp → Prop} (hq : ∀ r h', Q r h' → Q' r h') (k : Cl X M d av h Q) : Cl X M d av h Q' := by
  intro hi
  refine Met.mono (k hi) ?_
  rintro a st o t ⟨⟨r, h', q1, q2, q3⟩, q4⟩
  exact ⟨⟨r, h', q1, hq r h' q2, q3⟩, q4⟩
/-- a call that answers v and leaves the memory as it is -/
theorem Cl.val {X : Wx} {M : Mt} {d : Nat} {av : List Value} {h : Hp} {v : Option Value} {Q : Option Value → Hp → Prop} (k : Cl X M d av h (fun r h' => r = v ∧ h' = h)) (hq : Q v h) : Cl X M d av h Q :=
  Cl.mono (fun r h' q => by rw [q.1, q.2]; exact hq) k
theorem Cl.to {X : Wx} {M : Mt} {d : Nat} {av : List Value} {h h1 : Hp} {v : Option Value} {Q : Option Value → Hp → Prop} (k : Cl X M d av h (fun r h' => r = v ∧ h' = h1)) (hq : Q v h1) : Cl X M d av h Q :=
  Cl.mono (fun r h' q => by rw [q.1, q.2]; exact hq) k
section RowsV
variable {X : Wx} {M : Mt} {d pc : Nat} {l : List (Nat × Value)} {st : List Value} {h : Hp} {Q : Option Value → Hp → Prop}

theorem V_iconst {n : Int} {v : Int32} (hd : decode M.2.1 pc = .ok (.iconst n, 1)) (hv : Int32.ofInt n = v) (k : V X M d (pc + 1) l (.int v :: st) h Q) : V X M d pc l (st) h Q :=
  fun hi p e s m args below meth c H locs ls C hP hS hl => lv_iconst C.1.1 C.1.2.1 hd hv (k hi p e s m args below meth c H locs ls C hP hS hl)
theorem V_bipush {n : Int} {v : Int32} (hd : decode M.2.1 pc = .ok (.bipush n, 2)) (hv : (Int8.ofInt n).toInt32 = v) (k : V X M d (pc + 2) l (.int v :: st) h Q) : V X M d pc l (st) h Q :=
  fun hi p e s m args below meth c H locs ls C hP hS hl => lv_bipush C.1.1 C.1.2.1 hd hv (k hi p e s m args below meth c H locs ls C hP hS hl)
theorem V_sipush {n : Int} {v : Int32} (hd : decode M.2.1 pc = .ok (.sipush n, 3)) (hv : (Int16.ofInt n).toInt32 = v) (k : V X M d (pc + 3) l (.int v :: st) h Q) : V X M d pc l (st) h Q :=
  fun hi p e s m args below meth c H locs ls C hP hS hl => lv_sipush C.1.1 C.1.2.1 hd hv (k hi p e s m args below meth c H locs ls C hP hS hl)
theorem V_lconst {n : Fin 2} {v : Int64} (hd : decode M.2.1 pc = .ok (.lconst n, 1)) (hv : Int64.ofNat (n : Nat) = v) (k : V X M d (pc + 1) l (.long v :: st) h Q) : V X M d pc l (st) h Q :=
  fun hi p e s m args below meth c H locs ls C hP hS hl => lv_lconst C.1.1 C.1.2.1 hd hv (k hi p e s m args below meth c H locs ls C hP hS hl)
theorem V_ldc {ix : Nat} {v : Int32} (hd : decode M.2.1 pc = .ok (.ldc ix, 2)) (hw : Cond.constant M.1.cls ix v ∈ gw) (k : V X M d (pc + 2) l (.int v :: st) h Q) : V X M d pc l (st) h Q :=
  fun hi p e s m args below meth c H locs ls C hP hS hl => lv_ldc C.1.1 C.1.2.1 C.1.2.2.2.1 (C.1.2.2.2.2 _ hw) hd (k hi p e s m args below meth c H locs ls C hP hS hl)
theorem V_ldc2 {ix : Nat} {v : Int64} (hd : decode M.2.1 pc = .ok (.ldc2_w ix, 3)) (hw : Cond.constantLong M.1.cls ix v ∈ gw) (k : V X M d (pc + 3) l (.long v :: st) h Q) : V X M d pc l (st) h Q :=
  fun hi p e s m args below meth c H locs ls C hP hS hl => lv_ldc2 C.1.1 C.1.2.1 C.1.2.2.2.1 (C.1.2.2.2.2 _ hw) hd (k hi p e s m args below meth c H locs ls C hP hS hl)
theorem V_iload_n {k4 : Fin 4} {i : Nat} {x : Int32} (hd : decode M.2.1 pc = .ok (.iload_n k4, 1)) (h4 : (k4 : Nat) = i) (q : Nat) (hq : l[q]? = some (i, .int x)) (k : V X M d (pc + 1) l (.int x :: st) h Q) : V X M d pc l (st) h Q :=
  fun hi p e s m args below meth c H locs ls C hP hS hl => lv_iload_n C.1.1 C.1.2.1 hd h4 (lv_at hl q (by rw [List.getElem?_map, hq]; rfl)) (k hi p e s m args below meth c H locs ls C hP hS hl)
theorem V_iload {i : Nat} {x : Int32} (hd : decode M.2.1 pc = .ok (.iload i, 2)) (q : Nat) (hq : l[q]? = some (i, .int x)) (k : V X M d (pc + 2) l (.int x :: st) h Q) : V X M d pc l (st) h Q :=
  fun hi p e s m args below meth c H locs ls C hP hS hl => lv_iload C.1.1 C.1.2.1 hd (lv_at hl q (by rw [List.getElem?_map, hq]; rfl)) (k hi p e s m args below meth c H locs ls C hP hS hl)
theorem V_lload_n {k4 : Fin 4} {i : Nat} {x : Int64} (hd : decode M.2.1 pc = .ok (.lload_n k4, 1)) (h4 : (k4 : Nat) = i) (q : Nat) (hq : l[q]? = some (i, .long x)) (k : V X M d (pc + 1) l (.long x :: st) h Q) : V X M d pc l (st) h Q :=
  fun hi p e s m args below meth c H locs ls C hP hS hl => lv_lload_n C.1.1 C.1.2.1 hd h4 (lv_at hl q (by rw [List.getElem?_map, hq]; rfl)) (k hi p e s m args below meth c H locs ls C hP hS hl)
theorem V_lload {i : Nat} {x : Int64} (hd : decode M.2.1 pc = .ok (.lload i, 2)) (q : Nat) (hq : l[q]? = some (i, .long x)) (k : V X M d (pc + 2) l (.long x :: st) h Q) : V X M d pc l (st) h Q :=
  fun hi p e s m args below meth c H locs ls C hP hS hl => lv_lload C.1.1 C.1.2.1 hd (lv_at hl q (by rw [List.getElem?_map, hq]; rfl)) (k hi p e s m args below meth c H locs ls C hP hS hl)
theorem V_aload_n {k4 : Fin 4} {i : Nat} {x : Nat} (hd : decode M.2.1 pc = .ok (.aload_n k4, 1)) (h4 : (k4 : Nat) = i) (q : Nat) (hq : l[q]? = some (i, .ref x)) (k : V X M d (pc + 1) l (.ref x :: st) h Q) : V X M d pc l (st) h Q :=
  fun hi p e s m args below meth c H locs ls C hP hS hl => lv_aload_n C.1.1 C.1.2.1 hd h4 (lv_at hl q (by rw [List.getElem?_map, hq]; rfl)) (k hi p e s m args below meth c H locs ls C hP hS hl)
theorem V_aload {i : Nat} {x : Nat} (hd : decode M.2.1 pc = .ok (.aload i, 2)) (q : Nat) (hq : l[q]? = some (i, .ref x)) (k : V X M d (pc + 2) l (.ref x :: st) h Q) : V X M d pc l (st) h Q :=
  fun hi p e s m args below meth c H locs ls C hP hS hl => lv_aload C.1.1 C.1.2.1 hd (lv_at hl q (by rw [List.getElem?_map, hq]; rfl)) (k hi p e s m args below meth c H locs ls C hP hS hl)
theorem trp_f1 (X : Wx) (i : Nat) (l : List (Nat × Value)) : (l.map (trp X)).filter (fun q => !(q.1 == i) && !(q.1 + 1 == i && q.2.category == 2)) = (l.filter (fun q => !(q.1 == i) && !(q.1 + 1 == i && q.2.category == 2))).map (trp X) := by
  rw [List.filter_map]
  congr 1
  apply List.filter_congr
  intro q _
  simp only [Function.comp, trp, tr_cat]
theorem trp_f2 (X : Wx) (i : Nat) (l : List (Nat × Value)) : (l.map (trp X)).filter (fun q => !(q.1 == i) && (!(q.1 == i + 1) && !(q.1 + 1 == i && q.2.category == 2))) = (l.filter (fun q => !(q.1 == i) && (!(q.1 == i + 1) && !(q.1 + 1 == i && q.2.category == 2)))).map (trp X) := by
  rw [List.filter_map]
  congr 1
  apply List.filter_congr
  intro q _
  simp only [Function.comp, trp, tr_cat]
theorem V_istore_n {k4 : Fin 4} {i : Nat} {x : Int32} {l2 : List (Nat × Value)} (hd : decode M.2.1 pc = .ok (.istore_n k4, 1)) (h4 : (k4 : Nat) = i) (hn : i < M.2.2.1) (he : (i, Value.int x) :: l.filter (fun q => !(q.1 == i) && !(q.1 + 1 == i && q.2.category == 2)) = l2) (k : V X M d (pc + 1) l2 (st) h Q) : V X M d pc l (Value.int x :: st) h Q :=
  fun hi p e s m args below meth c H locs ls C hP hS hl => lv_istore_n C.1.1 C.1.2.1 hd h4 hl hn rfl (fun ls hl => k hi p e s m args below meth c H locs ls C hP hS (by subst he; rw [List.map_cons, ← trp_f1]; exact hl))
theorem V_istore {i : Nat} {x : Int32} {l2 : List (Nat × Value)} (hd : decode M.2.1 pc = .ok (.istore i, 2)) (hn : i < M.2.2.1) (he : (i, Value.int x) :: l.filter (fun q => !(q.1 == i) && !(q.1 + 1 == i && q.2.category == 2)) = l2) (k : V X M d (pc + 2) l2 (st) h Q) : V X M d pc l (Value.int x :: st) h Q :=
  fun hi p e s m args below meth c H locs ls C hP hS hl => lv_istore C.1.1 C.1.2.1 hd hl hn rfl (fun ls hl => k hi p e s m args below meth c H locs ls C hP hS (by subst he; rw [List.map_cons, ← trp_f1]; exact hl))
theorem V_astore_n {k4 : Fin 4} {i : Nat} {x : Nat} {l2 : List (Nat × Value)} (hd : decode M.2.1 pc = .ok (.astore_n k4, 1)) (h4 : (k4 : Nat) = i) (hn : i < M.2.2.1) (he : (i, Value.ref x) :: l.filter (fun q => !(q.1 == i) && !(q.1 + 1 == i && q.2.category == 2)) = l2) (k : V X M d (pc + 1) l2 (st) h Q) : V X M d pc l (Value.ref x :: st) h Q :=
  fun hi p e s m args below meth c H locs ls C hP hS hl => lv_astore_n C.1.1 C.1.2.1 hd h4 hl hn rfl (fun ls hl => k hi p e s m args below meth c H locs ls C hP hS (by subst he; rw [List.map_cons, ← trp_f1]; exact hl))
theorem V_astore {i : Nat} {x : Nat} {l2 : List (Nat × Value)} (hd : decode M.2.1 pc = .ok (.astore i, 2)) (hn : i < M.2.2.1) (he : (i, Value.ref x) :: l.filter (fun q => !(q.1 == i) && !(q.1 + 1 == i && q.2.category == 2)) = l2) (k : V X M d (pc + 2) l2 (st) h Q) : V X M d pc l (Value.ref x :: st) h Q :=
  fun hi p e s m args below meth c H locs ls C hP hS hl => lv_astore C.1.1 C.1.2.1 hd hl hn rfl (fun ls hl => k hi p e s m args below meth c H locs ls C hP hS (by subst he; rw [List.map_cons, ← trp_f1]; exact hl))
theorem V_lstore_n {k4 : Fin 4} {i : Nat} {x : Int64} {l2 : List (Nat × Value)} (hd : decode M.2.1 pc = .ok (.lstore_n k4, 1)) (h4 : (k4 : Nat) = i) (hn : i + 1 < M.2.2.1) (he : (i, Value.long x) :: l.filter (fun q => !(q.1 == i) && (!(q.1 == i + 1) && !(q.1 + 1 == i && q.2.category == 2))) = l2) (k : V X M d (pc + 1) l2 (st) h Q) : V X M d pc l (Value.long x :: st) h Q :=
  fun hi p e s m args below meth c H locs ls C hP hS hl => lv_lstore_n C.1.1 C.1.2.1 hd h4 hl hn rfl (fun ls hl => k hi p e s m args below meth c H locs ls C hP hS (by subst he; rw [List.map_cons, ← trp_f2]; exact hl))
theorem V_lstore {i : Nat} {x : Int64} {l2 : List (Nat × Value)} (hd : decode M.2.1 pc = .ok (.lstore i, 2)) (hn : i + 1 < M.2.2.1) (he : (i, Value.long x) :: l.filter (fun q => !(q.1 == i) && (!(q.1 == i + 1) && !(q.1 + 1 == i && q.2.category == 2))) = l2) (k : V X M d (pc + 2) l2 (st) h Q) : V X M d pc l (Value.long x :: st) h Q :=
  fun hi p e s m args below meth c H locs ls C hP hS hl => lv_lstore C.1.1 C.1.2.1 hd hl hn rfl (fun ls hl => k hi p e s m args below meth c H locs ls C hP hS (by subst he; rw [List.map_cons, ← trp_f2]; exact hl))
theorem V_iinc {i : Nat} {n : Int} {x v : Int32} {l2 : List (Nat × Value)} (hd : decode M.2.1 pc = .ok (.iinc i n, 3)) (q : Nat) (hq : l[q]? = some (i, .int x)) (hv : x + Int32.ofInt n = v) (hn : i < M.2.2.1) (he : (i, Value.int v) :: l.filter (fun q => !(q.1 == i) && !(q.1 + 1 == i && q.2.category == 2)) = l2) (k : V X M d (pc + 3) l2 (st) h Q) : V X M d pc l (st) h Q :=
  fun hi p e s m args below meth c H locs ls C hP hS hl => lv_iinc C.1.1 C.1.2.1 hd hl (k := q) (x := x) (by rw [List.getElem?_map, hq]; rfl) hv hn rfl (fun ls hl => k hi p e s m args below meth c H locs ls C hP hS (by subst he; rw [List.map_cons, ← trp_f1]; exact hl))
theorem V_iadd {x y : Int32} (hd : decode M.2.1 pc = .ok (.iadd, 1)) (k : V X M d (pc + 1) l (.int (x + y) :: st) h Q) : V X M d pc l (.int y :: .int x :: st) h Q :=
  fun hi p e s m args below meth c H locs ls C hP hS hl => lv_iadd C.1.1 C.1.2.1 hd (k hi p e s m args below meth c H locs ls C hP hS hl)
theorem V_isub {x y : Int32} (hd : decode M.2.1 pc = .ok (.isub, 1)) (k : V X M d (pc + 1) l (.int (x - y) :: st) h Q) : V X M d pc l (.int y :: .int x :: st) h Q :=
  fun hi p e s m args below meth c H locs ls C hP hS hl => lv_isub C.1.1 C.1.2.1 hd (k hi p e s m args below meth c H locs ls C hP hS hl)
theorem V_imul {x y : Int32} (hd : decode M.2.1 pc = .ok (.imul, 1)) (k : V X M d (pc + 1) l (.int (x * y) :: st) h Q) : V X M d pc l (.int y :: .int x :: st) h Q :=
  fun hi p e s m args below meth c H locs ls C hP hS hl => lv_imul C.1.1 C.1.2.1 hd (k hi p e s m args below meth c H locs ls C hP hS hl)
theorem V_iand {x y : Int32} (hd : decode M.2.1 pc = .ok (.iand, 1)) (k : V X M d (pc + 1) l (.int (x &&& y) :: st) h Q) : V X M d pc l (.int y :: .int x :: st) h Q :=
  fun hi p e s m args below meth c H locs ls C hP hS hl => lv_iand C.1.1 C.1.2.1 hd (k hi p e s m args below meth c H locs ls C hP hS hl)
theorem V_ladd {x y : Int64} (hd : decode M.2.1 pc = .ok (.ladd, 1)) (k : V X M d (pc + 1) l (.long (x + y) :: st) h Q) : V X M d pc l (.long y :: .long x :: st) h Q :=
  fun hi p e s m args below meth c H locs ls C hP hS hl => lv_ladd C.1.1 C.1.2.1 hd (k hi p e s m args below meth c H locs ls C hP hS hl)
theorem V_land {x y : Int64} (hd : decode M.2.1 pc = .ok (.land, 1)) (k : V X M d (pc + 1) l (.long (x &&& y) :: st) h Q) : V X M d pc l (.long y :: .long x :: st) h Q :=
  fun hi p e s m args below meth c H locs ls C hP hS hl => lv_land C.1.1 C.1.2.1 hd (k hi p e s m args below meth c H locs ls C hP hS hl)
theorem V_lor {x y : Int64} (hd : decode M.2.1 pc = .ok (.lor, 1)) (k : V X M d (pc + 1) l (.long (x ||| y) :: st) h Q) : V X M d pc l (.long y :: .long x :: st) h Q :=
  fun hi p e s m args below meth c H locs ls C hP hS hl => lv_lor C.1.1 C.1.2.1 hd (k hi p e s m args below meth c H locs ls C hP hS hl)
theorem V_idiv {x y : Int32} (hd : decode M.2.1 pc = .ok (.idiv, 1)) (hne : ¬ y = 0) (k : V X M d (pc + 1) l (.int (x / y) :: st) h Q) : V X M d pc l (.int y :: .int x :: st) h Q :=
  fun hi p e s m args below meth c H locs ls C hP hS hl => lv_idiv C.1.1 C.1.2.1 hd hne (k hi p e s m args below meth c H locs ls C hP hS hl)
theorem V_ineg {x : Int32} (hd : decode M.2.1 pc = .ok (.ineg, 1)) (k : V X M d (pc + 1) l (.int (-x) :: st) h Q) : V X M d pc l (.int x :: st) h Q :=
  fun hi p e s m args below meth c H locs ls C hP hS hl => lv_ineg C.1.1 C.1.2.1 hd (k hi p e s m args below meth c H locs ls C hP hS hl)
theorem V_i2l {x : Int32} (hd : decode M.2.1 pc = .ok (.i2l, 1)) (k : V X M d (pc + 1) l (.long x.toInt64 :: st) h Q) : V X M d pc l (.int x :: st) h Q :=
  fun hi p e s m args below meth c H locs ls C hP hS hl => lv_i2l C.1.1 C.1.2.1 hd rfl (k hi p e s m args below meth c H locs ls C hP hS hl)
theorem V_l2i {x : Int64} (hd : decode M.2.1 pc = .ok (.l2i, 1)) (k : V X M d (pc + 1) l (.int x.toInt32 :: st) h Q) : V X M d pc l (.long x :: st) h Q :=
  fun hi p e s m args below meth c H locs ls C hP hS hl => lv_l2i C.1.1 C.1.2.1 hd rfl (k hi p e s m args below meth c H locs ls C hP hS hl)
theorem V_lushr {x : Int64} {y : Int32} (hd : decode M.2.1 pc = .ok (.lushr, 1)) (k : V X M d (pc + 1) l (.long (x.toUInt64 >>> (y.toInt64.toUInt64 &&& Int64.toUInt64 63)).toInt64 :: st) h Q) : V X M d pc l (.int y :: .long x :: st) h Q :=
  fun hi p e s m args below meth c H locs ls C hP hS hl => lv_lushr C.1.1 C.1.2.1 hd rfl (k hi p e s m args below meth c H locs ls C hP hS hl)
theorem V_lshl {x : Int64} {y : Int32} (hd : decode M.2.1 pc = .ok (.lshl, 1)) (k : V X M d (pc + 1) l (.long (x <<< (y.toInt64 &&& 63)) :: st) h Q) : V X M d pc l (.int y :: .long x :: st) h Q :=
  fun hi p e s m args below meth c H locs ls C hP hS hl => lv_lshl C.1.1 C.1.2.1 hd rfl (k hi p e s m args below meth c H locs ls C hP hS hl)
theorem V_lshr {x : Int64} {y : Int32} (hd : decode M.2.1 pc = .ok (.lshr, 1)) (k : V X M d (pc + 1) l (.long (x >>> (y.toInt64 &&& 63)) :: st) h Q) : V X M d pc l (.int y :: .long x :: st) h Q :=
  fun hi p e s m args below meth c H locs ls C hP hS hl => lv_lshr C.1.1 C.1.2.1 hd rfl (k hi p e s m args below meth c H locs ls C hP hS hl)
theorem V_lcmp {x y : Int64} (hd : decode M.2.1 pc = .ok (.lcmp, 1)) (k : V X M d (pc + 1) l (.int (lg_cmp x y) :: st) h Q) : V X M d pc l (.long y :: .long x :: st) h Q :=
  fun hi p e s m args below meth c H locs ls C hP hS hl => W.lcmp C.1.1 C.1.2.1 hd (k hi p e s m args below meth c H locs ls C hP hS hl)
theorem V_dup {va : Value} (hd : decode M.2.1 pc = .ok (.dup, 1)) (hv : va.category = 1) (k : V X M d (pc + 1) l (va :: va :: st) h Q) : V X M d pc l (va :: st) h Q :=
  fun hi p e s m args below meth c H locs ls C hP hS hl => lv_dup C.1.1 C.1.2.1 hd ((tr_cat _ _).trans hv) (k hi p e s m args below meth c H locs ls C hP hS hl)
theorem V_dup2 {va vb : Value} (hd : decode M.2.1 pc = .ok (.dup2, 1)) (hv : va.category = 1) (hv2 : vb.category = 1) (k : V X M d (pc + 1) l (va :: vb :: va :: vb :: st) h Q) : V X M d pc l (va :: vb :: st) h Q :=
  fun hi p e s m args below meth c H locs ls C hP hS hl => lv_dup2_11 C.1.1 C.1.2.1 hd ((tr_cat _ _).trans hv) ((tr_cat _ _).trans hv2) (k hi p e s m args below meth c H locs ls C hP hS hl)
theorem V_pop {va : Value} (hd : decode M.2.1 pc = .ok (.pop, 1)) (hv : va.category = 1) (k : V X M d (pc + 1) l (st) h Q) : V X M d pc l (va :: st) h Q :=
  fun hi p e s m args below meth c H locs ls C hP hS hl => lv_pop C.1.1 C.1.2.1 hd ((tr_cat _ _).trans hv) (k hi p e s m args below meth c H locs ls C hP hS hl)
theorem V_icmp_eq {x y : Int32} {off : Int} {tgt : Nat} (hd : decode M.2.1 pc = .ok (.if_icmp .eq off, 3)) (ht : (pc : Int) + off = (tgt : Int)) (kt : x = y → V X M d tgt l st h Q) (kf : ¬ x = y → V X M d (pc + 3) l st h Q) : V X M d pc l (.int y :: .int x :: st) h Q :=
  fun hi p e s m args below meth c H locs ls C hP hS hl => lv_icmp_eq C.1.1 C.1.2.1 hd ht (fun z => kt z hi p e s m args below meth c H locs ls C hP hS hl) (fun z => kf z hi p e s m args below meth c H locs ls C hP hS hl)
theorem V_if_eq {x : Int32} {off : Int} {tgt : Nat} (hd : decode M.2.1 pc = .ok (.ifCond .eq off, 3)) (ht : (pc : Int) + off = (tgt : Int)) (kt : x = 0 → V X M d tgt l st h Q) (kf : ¬ x = 0 → V X M d (pc + 3) l st h Q) : V X M d pc l (.int x :: st) h Q :=
  fun hi p e s m args below meth c H locs ls C hP hS hl => lv_if_eq C.1.1 C.1.2.1 hd ht (fun z => kt z hi p e s m args below meth c H locs ls C hP hS hl) (fun z => kf z hi p e s m args below meth c H locs ls C hP hS hl)
theorem V_icmp_ne {x y : Int32} {off : Int} {tgt : Nat} (hd : decode M.2.1 pc = .ok (.if_icmp .ne off, 3)) (ht : (pc : Int) + off = (tgt : Int)) (kt : ¬ x = y → V X M d tgt l st h Q) (kf : x = y → V X M d (pc + 3) l st h Q) : V X M d pc l (.int y :: .int x :: st) h Q :=
  fun hi p e s m args below meth c H locs ls C hP hS hl => lv_icmp_ne C.1.1 C.1.2.1 hd ht (fun z => kt z hi p e s m args below meth c H locs ls C hP hS hl) (fun z => kf z hi p e s m args below meth c H locs ls C hP hS hl)
theorem V_if_ne {x : Int32} {off : Int} {tgt : Nat} (hd : decode M.2.1 pc = .ok (.ifCond .ne off, 3)) (ht : (pc : Int) + off = (tgt : Int)) (kt : ¬ x = 0 → V X M d tgt l st h Q) (kf : x = 0 → V X M d (pc + 3) l st h Q) : V X M d pc l (.int x :: st) h Q :=
  fun hi p e s m args below meth c H locs ls C hP hS hl => lv_if_ne C.1.1 C.1.2.1 hd ht (fun z => kt z hi p e s m args below meth c H locs ls C hP hS hl) (fun z => kf z hi p e s m args below meth c H locs ls C hP hS hl)
theorem V_icmp_lt {x y : Int32} {off : Int} {tgt : Nat} (hd : decode M.2.1 pc = .ok (.if_icmp .lt off, 3)) (ht : (pc : Int) + off = (tgt : Int)) (kt : x < y → V X M d tgt l st h Q) (kf : ¬ x < y → V X M d (pc + 3) l st h Q) : V X M d pc l (.int y :: .int x :: st) h Q :=
  fun hi p e s m args below meth c H locs ls C hP hS hl => lv_icmp_lt C.1.1 C.1.2.1 hd ht (fun z => kt z hi p e s m args below meth c H locs ls C hP hS hl) (fun z => kf z hi p e s m args below meth c H locs ls C hP hS hl)
theorem V_if_lt {x : Int32} {off : Int} {tgt : Nat} (hd : decode M.2.1 pc = .ok (.ifCond .lt off, 3)) (ht : (pc : Int) + off = (tgt : Int)) (kt : x < 0 → V X M d tgt l st h Q) (kf : ¬ x < 0 → V X M d (pc + 3) l st h Q) : V X M d pc l (.int x :: st) h Q :=
  fun hi p e s m args below meth c H locs ls C hP hS hl => lv_if_lt C.1.1 C.1.2.1 hd ht (fun z => kt z hi p e s m args below meth c H locs ls C hP hS hl) (fun z => kf z hi p e s m args below meth c H locs ls C hP hS hl)
theorem V_icmp_ge {x y : Int32} {off : Int} {tgt : Nat} (hd : decode M.2.1 pc = .ok (.if_icmp .ge off, 3)) (ht : (pc : Int) + off = (tgt : Int)) (kt : y ≤ x → V X M d tgt l st h Q) (kf : ¬ y ≤ x → V X M d (pc + 3) l st h Q) : V X M d pc l (.int y :: .int x :: st) h Q :=
  fun hi p e s m args below meth c H locs ls C hP hS hl => lv_icmp_ge C.1.1 C.1.2.1 hd ht (fun z => kt z hi p e s m args below meth c H locs ls C hP hS hl) (fun z => kf z hi p e s m args below meth c H locs ls C hP hS hl)
theorem V_if_ge {x : Int32} {off : Int} {tgt : Nat} (hd : decode M.2.1 pc = .ok (.ifCond .ge off, 3)) (ht : (pc : Int) + off = (tgt : Int)) (kt : 0 ≤ x → V X M d tgt l st h Q) (kf : ¬ 0 ≤ x → V X M d (pc + 3) l st h Q) : V X M d pc l (.int x :: st) h Q :=
  fun hi p e s m args below meth c H locs ls C hP hS hl => lv_if_ge C.1.1 C.1.2.1 hd ht (fun z => kt z hi p e s m args below meth c H locs ls C hP hS hl) (fun z => kf z hi p e s m args below meth c H locs ls C hP hS hl)
theorem V_icmp_gt {x y : Int32} {off : Int} {tgt : Nat} (hd : decode M.2.1 pc = .ok (.if_icmp .gt off, 3)) (ht : (pc : Int) + off = (tgt : Int)) (kt : y < x → V X M d tgt l st h Q) (kf : ¬ y < x → V X M d (pc + 3) l st h Q) : V X M d pc l (.int y :: .int x :: st) h Q :=
  fun hi p e s m args below meth c H locs ls C hP hS hl => lv_icmp_gt C.1.1 C.1.2.1 hd ht (fun z => kt z hi p e s m args below meth c H locs ls C hP hS hl) (fun z => kf z hi p e s m args below meth c H locs ls C hP hS hl)
theorem V_if_gt {x : Int32} {off : Int} {tgt : Nat} (hd : decode M.2.1 pc = .ok (.ifCond .gt off, 3)) (ht : (pc : Int) + off = (tgt : Int)) (kt : 0 < x → V X M d tgt l st h Q) (kf : ¬ 0 < x → V X M d (pc + 3) l st h Q) : V X M d pc l (.int x :: st) h Q :=
  fun hi p e s m args below meth c H locs ls C hP hS hl => lv_if_gt C.1.1 C.1.2.1 hd ht (fun z => kt z hi p e s m args below meth c H locs ls C hP hS hl) (fun z => kf z hi p e s m args below meth c H locs ls C hP hS hl)
theorem V_icmp_le {x y : Int32} {off : Int} {tgt : Nat} (hd : decode M.2.1 pc = .ok (.if_icmp .le off, 3)) (ht : (pc : Int) + off = (tgt : Int)) (kt : x ≤ y → V X M d tgt l st h Q) (kf : ¬ x ≤ y → V X M d (pc + 3) l st h Q) : V X M d pc l (.int y :: .int x :: st) h Q :=
  fun hi p e s m args below meth c H locs ls C hP hS hl => lv_icmp_le C.1.1 C.1.2.1 hd ht (fun z => kt z hi p e s m args below meth c H locs ls C hP hS hl) (fun z => kf z hi p e s m args below meth c H locs ls C hP hS hl)
theorem V_if_le {x : Int32} {off : Int} {tgt : Nat} (hd : decode M.2.1 pc = .ok (.ifCond .le off, 3)) (ht : (pc : Int) + off = (tgt : Int)) (kt : x ≤ 0 → V X M d tgt l st h Q) (kf : ¬ x ≤ 0 → V X M d (pc + 3) l st h Q) : V X M d pc l (.int x :: st) h Q :=
  fun hi p e s m args below meth c H locs ls C hP hS hl => lv_if_le C.1.1 C.1.2.1 hd ht (fun z => kt z hi p e s m args below meth c H locs ls C hP hS hl) (fun z => kf z hi p e s m args below meth c H locs ls C hP hS hl)
theorem V_goto {off : Int} {tgt : Nat} (hd : decode M.2.1 pc = .ok (.goto off, 3)) (ht : (pc : Int) + off = (tgt : Int)) (k : V X M d tgt l st h Q) : V X M d pc l st h Q :=
  fun hi p e s m args below meth c H locs ls C hP hS hl => lv_goto C.1.1 C.1.2.1 hd ht (k hi p e s m args below meth c H locs ls C hP hS hl)
theorem V_tableOut {dflt lo hh : Int} {offs : Array Int} {len : Nat} {x : Int32} {tgt : Nat} (hd : decode M.2.1 pc = .ok (.tableswitch dflt lo hh offs, len)) (hx : x.toInt < lo ∨ hh < x.toInt) (ht : (pc : Int) + dflt = (tgt : Int)) (k : V X M d tgt l st h Q) : V X M d pc l (.int x :: st) h Q :=
  fun hi p e s m args below meth c H locs ls C hP hS hl => lv_tableOut C.1.1 C.1.2.1 hd hx ht (k hi p e s m args below meth c H locs ls C hP hS hl)
theorem V_tableIn {dflt lo hh : Int} {offs : Array Int} {len : Nat} {x : Int32} {off : Int} {tgt : Nat} (hd : decode M.2.1 pc = .ok (.tableswitch dflt lo hh offs, len)) (h1 : ¬ x.toInt < lo) (h2 : ¬ hh < x.toInt) (ho : offs[(x.toInt - lo).toNat]? = some off) (ht : (pc : Int) + off = (tgt : Int)) (k : V X M d tgt l st h Q) : V X M d pc l (.int x :: st) h Q :=
  fun hi p e s m args below meth c H locs ls C hP hS hl => lv_tableIn C.1.1 C.1.2.1 hd h1 h2 ho ht (k hi p e s m args below meth c H locs ls C hP hS hl)
/-- a field's link: class k of vwCl, its slot -/
def FL (own : String) (ix ci k : Nat) : Prop := ∃ (C : String) (T : u_T) (N : Nat), vwCl[ci]? = some (C, T, N) ∧ (∀ w ∈ u_ws C T N, w ∈ gw) ∧ k < N ∧ (T k).1 = C ∧ Cond.fieldLink own ix C (T k).2.1 (T k).2.2.1 ∈ gw
def FP (ci k : Nat) (ty : FieldType) : Prop := ∃ (C : String) (T : u_T) (N : Nat) (ty0 : Nat → FieldType), vwCl[ci]? = some (C, T, N) ∧ (∀ k, k < N → parseFieldDescriptor (T k).2.2.1 = some (ty0 k)) ∧ (∀ a, a < N → ∀ b, b < N → a ≠ b → (T a).2.1 ≠ (T b).2.1) ∧ (T k).2.2.2 = false ∧ parseFieldDescriptor (T k).2.2.1 = some ty
theorem cel_obj (X : Wx) (h : Hp) {i ci : Nat} (hs : shp i = (10 + ci, 0)) : cel X h i = .inr (ci, (afl h ci i).map (tr X.2.2.2)) := by
  unfold cel
  rw [hs]
  have e : 10 + ci - 10 = ci := by omega
  simp only [e]
  rw [if_neg (by omega), if_neg (by omega), if_neg (by omega), if_neg (by omega), if_neg (by omega)]
theorem cel_0 (X : Wx) (h : Hp) {i n : Nat} (hs : shp i = (0, n)) : cel X h i = .inl (X.2.2.1 0, n, .inl (h.1 i)) := by
  unfold cel
  rw [hs]
  rfl
theorem cel_1 (X : Wx) (h : Hp) {i n : Nat} (hs : shp i = (1, n)) : cel X h i = .inl (X.2.2.1 1, n, .inr (.inl (h.2.1 i))) := by
  unfold cel
  rw [hs]
  rfl
theorem cel_2 (X : Wx) (h : Hp) {i n : Nat} (hs : shp i = (2, n)) : cel X h i = .inl (X.2.2.1 2, n, .inl (h.1 i)) := by
  unfold cel
  rw [hs]
  rfl
theorem cel_3 (X : Wx) (h : Hp) {i n : Nat} (hs : shp i = (3, n)) : cel X h i = .inl (X.2.2.1 3, n, .inr (.inr (.inr (.inr (fun j => some (X.2.2.2 (rfs i j))))))) := by
  unfold cel
  rw [hs]
  rfl
theorem cel_4 (X : Wx) (h : Hp) {i n : Nat} (hs : shp i = (4, n)) : cel X h i = .inl (X.2.2.1 4, n, .inr (.inr (.inr (.inr (fun j => some (X.2.2.2 (rfs i j))))))) := by
  unfold cel
  rw [hs]
  rfl
theorem lt_of_shp {i a b : Nat} (hs : shp i = (a, b)) (ha : a ≠ 9) : i < NID := shp_lt (by rw [hs]; exact ha)
theorem V_get {ix i ci k : Nat} {v : Value} (hf : FL M.1.cls ix ci k) (hs : shp i = (10 + ci, 0)) (hv : (afl h ci i)[k]? = some v) (hd : decode M.2.1 pc = .ok (.getfield ix, 3)) (kk : V X M d (pc + 3) l (v :: st) h Q) : V X M d pc l (.ref i :: st) h Q := by
  intro hi p e s m args below meth c H locs ls C hP hS hl
  obtain ⟨CC, T, N, f1, f2, f3, f4, f5⟩ := hf
  by_cases hci : ci = 999
  · subst hci
    simp [vwCl] at f1
  have hin : i < NID := by
    apply shp_lt
    rw [hs]
    show 10 + ci ≠ 9
    omega
  refine va_get (D := X.2.1) (ci := ci) (v := tr X.2.2.2 v) (C := CC) (T := T) (N := N) (ref := CC) C.1.1 C.1.2.1 C.1.2.2.2.2 f2 C.1.2.2.2.1 C.2.2.2.1 hP i (by rw [wl_get X h hin, cel_obj X h hs]) f1 k f3 (C.1.2.2.2.2 _ f5) (fun x hx => by rw [f4] at hx; exact hx) (by rw [List.getElem?_map, hv]; rfl) hd ?_
  exact kk hi p e s m args below meth c H locs ls C hP hS hl
theorem V_put {ix i ci k : Nat} {v : Value} {ty : FieldType} {h' : Hp} (hf : FL M.1.cls ix ci k) (hp : FP ci k ty) (hs : shp i = (10 + ci, 0)) (hn : narrow ty (tr X.2.2.2 v) = tr X.2.2.2 v) (hfit : fits ty (tr X.2.2.2 v) = true) (hk : k < (afl h ci i).length) (ha : afl h' ci i = (afl h ci i).set k v) (ho : ∀ j, j ≠ i → cel X h' j = cel X h j) (hd : decode M.2.1 pc = .ok (.putfield ix, 3)) (kk : V X M d (pc + 3) l st h' Q) : V X M d pc l (v :: .ref i :: st) h Q := by
  intro hi p e s m args below meth c H locs ls C hP hS hl
  obtain ⟨CC, T, N, f1, f2, f3, f4, f5⟩ := hf
  obtain ⟨CC', T', N', ty0, g1, g2, g3, g4, g5⟩ := hp
  cases f1.symm.trans g1
  have hin : i < NID := by
    apply shp_lt
    rw [hs]
    show 10 + ci ≠ 9
    omega
  refine va_put (D := X.2.1) (ci := ci) (v := tr X.2.2.2 v) (ty := ty) (C := CC) (T := T) (N := N) (ref := CC) C.1.1 C.1.2.1 C.1.2.2.2.2 f2 ty0 g2 g3 C.1.2.2.2.1 C.2.2.2.1 hP (wl_D hi h) hS i (by rw [wl_get X h hin, cel_obj X h hs]) f1 k f3 (C.1.2.2.2.2 _ f5) (fun x hx => by rw [f4] at hx; exact hx) g4 g5 hn hfit (by rw [List.length_map]; exact hk) hd (fun H1 locs1 hP1 _ hS1 => ?_)
  rw [wl_set X h h' hin (by rw [cel_obj X h' hs, ha, List.map_set]) ho] at hP1
  exact kk hi p e s m args below meth c H1 locs1 ls C hP1 hS1 hl
theorem V_putI {ix i ci k : Nat} {v : Int32} (hf : FL M.1.cls ix ci k) (hp : FP ci k .int) (hs : shp i = (10 + ci, 0)) (hk : k < (afl h ci i).length) (ha : afl (sI h i k v) ci i = (afl h ci i).set k (.int v)) (hd : decode M.2.1 pc = .ok (.putfield ix, 3)) (kk : V X M d (pc + 3) l st (sI h i k v) Q) : V X M d pc l (.int v :: .ref i :: st) h Q :=
  V_put (ty := .int) hf hp hs rfl rfl hk ha (fun j hj => cel_eq X h _ j (sI_row h k v hj) rfl rfl) hd kk
theorem V_putZ {ix i ci k : Nat} {v : Int32} (hf : FL M.1.cls ix ci k) (hp : FP ci k .boolean) (hs : shp i = (10 + ci, 0)) (hv : v = 0 ∨ v = 1) (hk : k < (afl h ci i).length) (ha : afl (sI h i k v) ci i = (afl h ci i).set k (.int v)) (hd : decode M.2.1 pc = .ok (.putfield ix, 3)) (kk : V X M d (pc + 3) l st (sI h i k v) Q) : V X M d pc l (.int v :: .ref i :: st) h Q :=
  V_put (ty := .boolean) hf hp hs (by rcases hv with rfl | rfl <;> rfl) (by rcases hv with rfl | rfl <;> rfl) hk ha (fun j hj => cel_eq X h _ j (sI_row h k v hj) rfl rfl) hd kk
theorem cel_sR (X : Wx) (h : Hp) (k v : Nat) {j : Nat} (hj : j ≠ 108) : cel X (sR h k v) j = cel X h j := by
  have e : (shp j).1 - 10 = 4 → (shp j).1 ≠ 14 := by
    intro _ e2
    apply hj
    unfold shp at e2
    by_cases h1 : j < 70
    · rw [if_pos h1] at e2
      split at e2 <;> first | (exact absurd e2 (by decide)) | (split at e2 <;> exact absurd e2 (by decide))
    · rw [if_neg h1] at e2
      have h2 : ∀ x, x < shL.length → (shL.getD x (9, 0)).1 = 14 → x = 38 := by decide +kernel
      rcases Nat.lt_or_ge (j - 70) shL.length with q | q
      · have := h2 _ q e2
        omega
      · rw [List.getD_eq_getElem?_getD, List.getElem?_eq_none q] at e2
        exact absurd e2 (by decide)
  unfold cel
  by_cases h5 : (shp j).1 - 10 = 4
  · have h6 := e h5
    have h7 : (shp j).1 = 14 := by omega
    exact absurd h7 h6
  · rw [afl_sR_ne h k v _ j h5]
    rfl
theorem V_putR {ix k t : Nat} (hf : FL M.1.cls ix 4 k) (hp : FP 4 k (.object RX7)) (hk : k = 4 ∨ k = 5 ∨ k = 6) (hd : decode M.2.1 pc = .ok (.putfield ix, 3)) (kk : V X M d (pc + 3) l st (sR h k t) Q) : V X M d pc l (.ref t :: .ref 108 :: st) h Q :=
  V_put (ty := .object RX7) (v := .ref t) (h' := sR h k t) hf hp (show shp 108 = (10 + 4, 0) from by decide) rfl rfl (by rcases hk with rfl | rfl | rfl <;> exact Nat.le_of_ble_eq_true rfl) (by rcases hk with rfl | rfl | rfl <;> rfl) (fun j hj => cel_sR X h k t hj) hd kk
/-! rows of numbers -/
theorem V_iald {a n : Nat} {i : Int32} (hs : shp a = (0, n)) (hin : vp_in i n) (hd : decode M.2.1 pc = .ok (.iaload, 1)) (kk : V X M d (pc + 1) l (.int (h.1 a i.toNatClampNeg) :: st) h Q) : V X M d pc l (.int i :: .ref a :: st) h Q := by
  intro hi p e s m args below meth c H locs ls C hP hS hl
  exact va_iald C.1.1 C.1.2.1 C.2.2.2.1 hP a 0 (by rw [wl_get X h (lt_of_shp hs (by decide)), cel_0 X h hs]) rfl hin hd (kk hi p e s m args below meth c H locs ls C hP hS hl)
theorem V_lald {a n : Nat} {i : Int32} (hs : shp a = (1, n)) (hin : vp_in i n) (hd : decode M.2.1 pc = .ok (.laload, 1)) (kk : V X M d (pc + 1) l (.long (h.2.1 a i.toNatClampNeg) :: st) h Q) : V X M d pc l (.int i :: .ref a :: st) h Q := by
  intro hi p e s m args below meth c H locs ls C hP hS hl
  exact va_lald C.1.1 C.1.2.1 C.2.2.2.1 hP a 1 (by rw [wl_get X h (lt_of_shp hs (by decide)), cel_1 X h hs]) rfl hin hd (kk hi p e s m args below meth c H locs ls C hP hS hl)
theorem V_zald {a n : Nat} {i : Int32} (hs : shp a = (2, n)) (hin : vp_in i n) (hd : decode M.2.1 pc = .ok (.baload, 1)) (kk : V X M d (pc + 1) l (.int (h.1 a i.toNatClampNeg) :: st) h Q) : V X M d pc l (.int i :: .ref a :: st) h Q := by
  intro hi p e s m args below meth c H locs ls C hP hS hl
  exact va_zald C.1.1 C.1.2.1 C.2.2.2.1 hP a 2 (by rw [wl_get X h (lt_of_shp hs (by decide)), cel_2 X h hs]) rfl hin hd (kk hi p e s m args below meth c H locs ls C hP hS hl)
theorem V_iast {a n : Nat} {i x : Int32} (hs : shp a = (0, n)) (hin : vp_in i n) (hd : decode M.2.1 pc = .ok (.iastore, 1)) (kk : V X M d (pc + 1) l st (sI h a i.toNatClampNeg x) Q) : V X M d pc l (.int x :: .int i :: .ref a :: st) h Q := by
  intro hi p e s m args below meth c H locs ls C hP hS hl
  have ha := lt_of_shp hs (by decide)
  refine va_iast C.1.1 C.1.2.1 C.2.2.2.1 hP (wl_D hi h) hS a 0 (by rw [wl_get X h ha, cel_0 X h hs]) rfl hin hd (fun H1 locs1 hP1 _ hS1 => ?_)
  rw [wl_set X h (sI h a i.toNatClampNeg x) ha (by rw [cel_0 X _ hs, sI_self]) (fun j hj => cel_eq X h _ j (sI_row h _ x hj) rfl rfl)] at hP1
  exact kk hi p e s m args below meth c H1 locs1 ls C hP1 hS1 hl
theorem V_last {a n : Nat} {i : Int32} {x : Int64} (hs : shp a = (1, n)) (hin : vp_in i n) (hd : decode M.2.1 pc = .ok (.lastore, 1)) (kk : V X M d (pc + 1) l st (sL h a i.toNatClampNeg x) Q) : V X M d pc l (.long x :: .int i :: .ref a :: st) h Q := by
  intro hi p e s m args below meth c H locs ls C hP hS hl
  have ha := lt_of_shp hs (by decide)
  refine va_last C.1.1 C.1.2.1 C.2.2.2.1 hP (wl_D hi h) hS a 1 (by rw [wl_get X h ha, cel_1 X h hs]) rfl hin hd (fun H1 locs1 hP1 _ hS1 => ?_)
  rw [wl_set X h (sL h a i.toNatClampNeg x) ha (by rw [cel_1 X _ hs, sL_self]) (fun j hj => cel_eq X h _ j rfl (sL_row h _ x hj) rfl)] at hP1
  exact kk hi p e s m args below meth c H1 locs1 ls C hP1 hS1 hl
theorem V_zast {a n : Nat} {i x : Int32} (hs : shp a = (2, n)) (hv : x = 0 ∨ x = 1) (hin : vp_in i n) (hd : decode M.2.1 pc = .ok (.bastore, 1)) (kk : V X M d (pc + 1) l st (sI h a i.toNatClampNeg x) Q) : V X M d pc l (.int x :: .int i :: .ref a :: st) h Q := by
  intro hi p e s m args below meth c H locs ls C hP hS hl
  have ha := lt_of_shp hs (by decide)
  refine va_zast C.1.1 C.1.2.1 C.2.2.2.1 hP (wl_D hi h) hS a 2 (by rw [wl_get X h ha, cel_2 X h hs]) rfl hin hd (fun H1 locs1 hP1 _ hS1 => ?_)
  have hx : vp_nar .boolean x = x := by rcases hv with rfl | rfl <;> decide
  rw [hx, wl_set X h (sI h a i.toNatClampNeg x) ha (by rw [cel_2 X _ hs, sI_self]) (fun j hj => cel_eq X h _ j (sI_row h _ x hj) rfl rfl)] at hP1
  exact kk hi p e s m args below meth c H1 locs1 ls C hP1 hS1 hl
theorem V_aald3 {a n : Nat} {i : Int32} (hs : shp a = (3, n)) (hin : vp_in i n) (hd : decode M.2.1 pc = .ok (.aaload, 1)) (kk : V X M d (pc + 1) l (.ref (rfs a i.toNatClampNeg) :: st) h Q) : V X M d pc l (.int i :: .ref a :: st) h Q := by
  intro hi p e s m args below meth c H locs ls C hP hS hl
  exact va_aldq (f := fun j => some (X.2.2.2 (rfs a j))) C.1.1 C.1.2.1 C.2.2.2.1 hP a 3 (by rw [wl_get X h (lt_of_shp hs (by decide)), cel_3 X h hs]) rfl hin hd (kk hi p e s m args below meth c H locs ls C hP hS hl)
theorem V_aald4 {a n : Nat} {i : Int32} (hs : shp a = (4, n)) (hin : vp_in i n) (hd : decode M.2.1 pc = .ok (.aaload, 1)) (kk : V X M d (pc + 1) l (.ref (rfs a i.toNatClampNeg) :: st) h Q) : V X M d pc l (.int i :: .ref a :: st) h Q := by
  intro hi p e s m args below meth c H locs ls C hP hS hl
  have hlt : i.toNatClampNeg < n := Nat.not_le.mp fun q => hin (Or.inr q)
  have ha := hP a _ (wl_get X h (lt_of_shp hs (by decide)))
  rw [cel_4 X h hs] at ha
  exact W.aald (v := .ref (X.2.2.2 (rfs a i.toNatClampNeg))) (ty := .array .int) C.1.1 C.1.2.1 ha ((C.2.2.2.1.2 4 _ rfl).1 n (fun j => va_rf (some (X.2.2.2 (rfs a j))))) rfl (fun q => by cases q) (by show ¬ (i < 0 ∨ (arrV _ _ _).slots.size ≤ _); rw [arrV_size]; exact hin) (by show (arrV _ _ _).slots[_]? = _; rw [arrV_read _ _ hlt]; rfl) rfl rfl hd (kk hi p e s m args below meth c H locs ls C hP hS hl)
theorem V_copyi {ix a0 a n0 n1 : Nat} {sp dp n : Int32} (hlk : Cond.methodLink M.1.cls ix arraycopyName ∈ gw) (hd1 : 1 ≤ d) (hr : (st.map fun v => v.category).sum ≤ 8) (hs0 : shp a0 = (0, n0)) (hs1 : shp a = (0, n1)) (h1 : ¬ sp < 0) (h2 : ¬ dp < 0) (h3 : ¬ n < 0) (h4 : sp.toNatClampNeg + n.toNatClampNeg ≤ n0) (h5 : dp.toNatClampNeg + n.toNatClampNeg ≤ n1) (hd : decode M.2.1 pc = .ok (.invokestatic ix, 3))
    (kk : V X M d (pc + 3) l st (rI h a (va_cpy (h.1 a0) (h.1 a) sp.toNatClampNeg dp.toNatClampNeg n.toNatClampNeg)) Q) : V X M d pc l (.int n :: .int dp :: .ref a :: .int sp :: .ref a0 :: st) h Q := by
  intro hi p e s m args below meth c H locs ls C hP hS hl
  have ha := lt_of_shp hs1 (by decide)
  refine va_copyi (ty := .int) C.1.1 C.1.2.1 (C.1.2.2.1.trans hl.1.symm) C.1.2.2.2.1 (C.1.2.2.2.2 _ hlk) (C.1.2.2.2.2 (.native arraycopyName) (by decide +kernel)) (C.1.2.2.2.2 (.static arraycopyName) (by decide +kernel)) (C.1.2.2.2.2 (.initialized "java/lang/System") (by decide +kernel)) C.2.2.2.1 hP (wl_D hi h) hS a0 a 0 0 (by rw [wl_get X h (lt_of_shp hs0 (by decide)), cel_0 X h hs0]) (by rw [wl_get X h ha, cel_0 X h hs1]) rfl rfl rfl h1 h2 h3 h4 h5 (fun _ _ => rfl) hd1 ?_ hd (fun H1 locs1 hP1 _ hS1 => ?_)
  · have e : ((st.map (tr X.2.2.2)).map fun v => v.category) = st.map fun v => v.category := by
      rw [List.map_map]
      apply List.map_congr_left
      intro v _
      exact tr_cat _ _
    rw [e]
    have hw : nativeFrameWords "java/lang/System" "arraycopy" 5 + 11 ≤ 56 := by decide +kernel
    show _ ≤ 64 * d
    omega
  · rw [wl_set X h (rI h a (va_cpy (h.1 a0) (h.1 a) sp.toNatClampNeg dp.toNatClampNeg n.toNatClampNeg)) ha (by rw [cel_0 X _ hs1]; simp [rI]) (fun j hj => cel_eq X h _ j (by simp [rI, hj]) rfl rfl)] at hP1
    exact kk hi p e s m args below meth c H1 locs1 ls C hP1 hS1 hl
theorem V_copyl {ix a0 a n0 n1 : Nat} {sp dp n : Int32} (hlk : Cond.methodLink M.1.cls ix arraycopyName ∈ gw) (hd1 : 1 ≤ d) (hr : (st.map fun v => v.category).sum ≤ 8) (hs0 : shp a0 = (1, n0)) (hs1 : shp a = (1, n1)) (h1 : ¬ sp < 0) (h2 : ¬ dp < 0) (h3 : ¬ n < 0) (h4 : sp.toNatClampNeg + n.toNatClampNeg ≤ n0) (h5 : dp.toNatClampNeg + n.toNatClampNeg ≤ n1) (hd : decode M.2.1 pc = .ok (.invokestatic ix, 3))
    (kk : V X M d (pc + 3) l st (rL h a (va_cpy (h.2.1 a0) (h.2.1 a) sp.toNatClampNeg dp.toNatClampNeg n.toNatClampNeg)) Q) : V X M d pc l (.int n :: .int dp :: .ref a :: .int sp :: .ref a0 :: st) h Q := by
  intro hi p e s m args below meth c H locs ls C hP hS hl
  have ha := lt_of_shp hs1 (by decide)
  refine va_copyl (ty := .long) C.1.1 C.1.2.1 (C.1.2.2.1.trans hl.1.symm) C.1.2.2.2.1 (C.1.2.2.2.2 _ hlk) (C.1.2.2.2.2 (.native arraycopyName) (by decide +kernel)) (C.1.2.2.2.2 (.static arraycopyName) (by decide +kernel)) (C.1.2.2.2.2 (.initialized "java/lang/System") (by decide +kernel)) C.2.2.2.1 hP (wl_D hi h) hS a0 a 1 1 (by rw [wl_get X h (lt_of_shp hs0 (by decide)), cel_1 X h hs0]) (by rw [wl_get X h ha, cel_1 X h hs1]) rfl rfl rfl h1 h2 h3 h4 h5 (fun _ _ => rfl) hd1 ?_ hd (fun H1 locs1 hP1 _ hS1 => ?_)
  · have e : ((st.map (tr X.2.2.2)).map fun v => v.category) = st.map fun v => v.category := by
      rw [List.map_map]
      apply List.map_congr_left
      intro v _
      exact tr_cat _ _
    rw [e]
    have hw : nativeFrameWords "java/lang/System" "arraycopy" 5 + 11 ≤ 56 := by decide +kernel
    show _ ≤ 64 * d
    omega
  · rw [wl_set X h (rL h a (va_cpy (h.2.1 a0) (h.2.1 a) sp.toNatClampNeg dp.toNatClampNeg n.toNatClampNeg)) ha (by rw [cel_1 X _ hs1]; simp [rL]) (fun j hj => cel_eq X h _ j rfl (by simp [rL, hj]) rfl)] at hP1
    exact kk hi p e s m args below meth c H1 locs1 ls C hP1 hS1 hl
theorem V_min {ix : Nat} {x y : Int32} (hlk : Cond.methodLink M.1.cls ix Lib.Math.min.name ∈ gw) (hd1 : 1 ≤ d) (hr : (st.map fun v => v.category).sum ≤ 8) (hd : decode M.2.1 pc = .ok (.invokestatic ix, 3)) (kk : V X M d (pc + 3) l (.int (if y < x then y else x) :: st) h Q) : V X M d pc l (.int y :: .int x :: st) h Q := by
  intro hi p e s m args below meth c H locs ls C hP hS hl
  refine va_mmin C.1.1 C.1.2.1 (C.1.2.2.1.trans hl.1.symm) C.1.2.2.2.1 (C.1.2.2.2.2 _ hlk) (C.1.2.2.2.2 _ (by decide +kernel)) (C.1.2.2.2.2 _ (by decide +kernel)) (C.1.2.2.2.2 _ (by decide +kernel)) hd1 ?_ (Nat.le_refl 0) (Nat.le_refl 0) hd (kk hi p e s m args below meth c H locs ls C hP hS hl)
  have e : ((st.map (tr X.2.2.2)).map fun v => v.category) = st.map fun v => v.category := by
    rw [List.map_map]
    apply List.map_congr_left
    intro v _
    exact tr_cat _ _
  rw [e]
  show _ ≤ 64 * d
  omega
/-! answers -/
theorem V_iret {v : Int32} (hr : M.2.2.2 = some .int) (hd : decode M.2.1 pc = .ok (.ireturn, 1)) (k : Q (some (.int v)) h) : V X M d pc l [.int v] h Q :=
  fun hi p e s m args below meth c H locs ls C hP hS hl => W.iret C.1.1 C.1.2.1 (C.2.1.trans hr) (fun t ht hW => ⟨⟨some (.int v), h, rfl, k, by rw [ht]; exact hP⟩, hS.F ht⟩) hS.2.2 hd C.2.2.1
theorem V_zret {v : Int32} (hr : M.2.2.2 = some .boolean) (hv : v = 0 ∨ v = 1) (hd : decode M.2.1 pc = .ok (.ireturn, 1)) (k : Q (some (.int v)) h) : V X M d pc l [.int v] h Q :=
  fun hi p e s m args below meth c H locs ls C hP hS hl => W.zret C.1.1 C.1.2.1 (C.2.1.trans hr) (by rcases hv with rfl | rfl <;> decide) (fun t ht hW => ⟨⟨some (.int v), h, rfl, k, by rw [ht]; exact hP⟩, hS.F ht⟩) hS.2.2 hd C.2.2.1
theorem V_lret {v : Int64} (hr : M.2.2.2 = some .long) (hd : decode M.2.1 pc = .ok (.lreturn, 1)) (k : Q (some (.long v)) h) : V X M d pc l [.long v] h Q :=
  fun hi p e s m args below meth c H locs ls C hP hS hl => W.lret C.1.1 C.1.2.1 (C.2.1.trans hr) (fun t ht hW => ⟨⟨some (.long v), h, rfl, k, by rw [ht]; exact hP⟩, hS.F ht⟩) hS.2.2 hd C.2.2.1
theorem V_vret (hr : M.2.2.2 = none) (hd : decode M.2.1 pc = .ok (.return_, 1)) (k : Q none h) : V X M d pc l [] h Q :=
  fun hi p e s m args below meth c H locs ls C hP hS hl => W.vret C.1.1 C.1.2.1 (C.2.1.trans hr) (fun t ht hW => ⟨⟨none, h, rfl, k, by rw [ht]; exact hP⟩, hS.F ht⟩) hS.2.2 hd C.2.2.1
theorem V_aret {a : Nat} {C0 : String} (hr : M.2.2.2 = some (.object C0)) (hd : decode M.2.1 pc = .ok (.areturn, 1)) (k : Q (some (.ref a)) h) : V X M d pc l [.ref a] h Q :=
  fun hi p e s m args below meth c H locs ls C hP hS hl => W.aret C.1.1 C.1.2.1 (C.2.1.trans hr) (Or.inl ⟨_, rfl⟩) (Or.inr ⟨_, rfl⟩) (fun t ht hW => ⟨⟨some (.ref a), h, rfl, k, by rw [ht]; exact hP⟩, hS.F ht⟩) hS.2.2 hd C.2.2.1
/-! calls -/
theorem V_run {a : Array Value} {st0 : List Value} {Q' : Option Value → Hp → Prop} {p : Program} {e : Env} {s : State} {m : MethodId} {args : Array Value} {below : List Frame} {meth : Method} {c : Code} {H : Heap} {locs : List Loc} {ls : Array Slot} (hi : InjX X) (C : Ctx X M p s m args meth c) (hS : va_S (Fr X) s.heap H locs) (hl : lv_has ls M.2.2.1 (l.map (trp X)))
    (hr : va_Run p X.1 e (rmD d) s m args below meth c H locs 0 0 0 0 (F0 m pc ls st0) (st.map (tr X.2.2.2)) (Qx X Q' a) (Fr X)) (kk : ∀ r h', Q' r h' → V X M d (pc + 3) l (r.toList ++ st) h' Q) :
    W p X.1 e (rmD d) s m args below meth c H locs 0 0 (MQ below (Qx X Q) args s 0 0 (Fr X)) (F0 m pc ls st0) := by
  intro T hT XX
  obtain ⟨v, st₀, t, T', L, h0, X', hL, e1, e2, ⟨⟨r, h', hv, hq, hp⟩, hz, hk⟩, stp⟩ := hr T hT XX
  cases hv
  rw [h0] at hz hk
  obtain ⟨t2, a1, b1⟩ := kk r h' hq hi p e s m args below meth c T'.heap (locs ++ L) ls C (by rw [e1]; exact hp)
    ⟨Nat.le_trans hS.1 (by rw [e1]; exact hz), fun q h1 h2 => by rw [e1, hk q (Nat.lt_of_lt_of_le h1 hS.1) h2]; exact hS.2.1 q h1 h2, fun q hq => by
      rcases List.mem_append.mp hq with h | h
      · exact hS.2.2 q h
      · exact hL q h⟩ hl T' rfl X'
  refine ⟨t2, stp t2 ?_, b1⟩
  have e3 : (r.toList ++ st).map (tr X.2.2.2) = (r.map (tr X.2.2.2)).toList ++ st.map (tr X.2.2.2) := by
    rw [List.map_append]
    cases r <;> rfl
  rw [e3] at a1
  exact a1
theorem blind_Cx (X : Wx) (h : Hp) (av : List Value) : FrameBlind (va_Pc (av.map (tr X.2.2.2)) (Cx X h)) := by
  rintro a U g mk ⟨h1, h2, h3, h4⟩
  exact ⟨h1, h2, va_K.moved (u := U) (U := U.calling g mk a) (Vm.Alike.refl U.vm) h3, fun w hw => nst_same (s := U) hw rfl (h4 w hw)⟩
/-- a method's own words: an instance method's, a static one's -/
def MI (M' : Mt) (n : Nat) : Prop := Cond.instanceMethod M'.1 ∈ gw ∧ Cond.selects M'.1.cls M'.1 M'.1 ∈ gw ∧ Cond.initialized M'.1.cls ∈ gw ∧ Cond.code M'.1 M'.2.1 M'.2.2.1 M'.2.2.2 ∈ gw ∧ (M'.1.cls ≠ "java/lang/invoke/MethodHandle" ∧ M'.1.cls ≠ "java/lang/invoke/VarHandle") ∧ (parseMethodDescriptor M'.1.desc).map (fun d => d.parameters.length) = some n ∧ M'.2.2.1 ≤ 45
def MS (M' : Mt) (n : Nat) : Prop := Cond.static M'.1 ∈ gw ∧ Cond.initialized M'.1.cls ∈ gw ∧ Cond.code M'.1 M'.2.1 M'.2.2.1 M'.2.2.2 ∈ gw ∧ (M'.1.cls ≠ "java/lang/invoke/MethodHandle" ∧ M'.1.cls ≠ "java/lang/invoke/VarHandle") ∧ (parseMethodDescriptor M'.1.desc).map (fun d => d.parameters.length) = some n ∧ M'.2.2.1 ≤ 45
theorem wsM_good {M' : Mt} (hc : Cond.code M'.1 M'.2.1 M'.2.2.1 M'.2.2.2 ∈ gw) : GoodIn gw (wsM M') := by
  intro w hw
  rcases List.mem_cons.mp hw with e | e
  · subst e
    exact gw_good _ hc
  · exact gw_good _ e
theorem sum_tr (ad : Nat → Nat) (st : List Value) : ((st.map (tr ad)).map fun v => v.category).sum = (st.map fun v => v.category).sum := by
  rw [List.map_map]
  congr 1
  apply List.map_congr_left
  intro v _
  exact tr_cat _ _
theorem rev_tr (ad : Nat → Nat) (As : List Value) (r : List Value) : (As.reverse ++ r).map (tr ad) = (As.map (tr ad)).reverse ++ r.map (tr ad) := by
  rw [List.map_append, List.map_reverse]
theorem V_callV {ix n i ci n2 : Nat} {M' : Mt} {As : List Value} {st0 : List Value} {Q' : Option Value → Hp → Prop} (hm : MI M' n) (hlk : Cond.methodLink M.1.cls ix M'.1 ∈ gw) (hs : shp i = (10 + ci, n2)) (hc : ∃ T N, vwCl[ci]? = some (M'.1.cls, T, N)) (hst : st0 = As.reverse ++ .ref i :: st) (hn : As.length = n) (hr : (st.map fun v => v.category).sum ≤ 8) (hd : decode M.2.1 pc = .ok (.invokevirtual ix, 3))
    (hC : Cl X M' d (.ref i :: As) h Q') (kk : ∀ r h', Q' r h' → V X M (d + 1) (pc + 3) l (r.toList ++ st) h' Q) : V X M (d + 1) pc l st0 h Q := by
  subst hst
  intro hi p e s m args below meth c H locs ls C hP hS hl
  obtain ⟨m1, m2, m3, m4, m5, m6, m7⟩ := hm
  obtain ⟨TT, NN, hc⟩ := hc
  have ht := C.1.2.2.2.2
  have hin : i < NID := by
    apply shp_lt
    rw [hs]
    show 10 + ci ≠ 9
    omega
  have hn2 : n2 = 0 := by
    have h9 : ∀ x, (shp x).1 ≥ 10 → (shp x).2 = 0 := by
      intro x hx
      unfold shp at hx ⊢
      by_cases q : x < 70
      · rw [if_pos q] at hx ⊢
        split
        · rfl
        · rename_i q2
          rw [if_neg q2] at hx
          split at hx <;> exact absurd hx (by decide)
      · rw [if_neg q] at hx ⊢
        have h2 : ∀ x, x < shL.length → (shL.getD x (9, 0)).1 ≥ 10 → (shL.getD x (9, 0)).2 = 0 := by decide +kernel
        rcases Nat.lt_or_ge (x - 70) shL.length with q2 | q2
        · exact h2 _ q2 hx
        · rw [List.getD_eq_getElem?_getD, List.getElem?_eq_none q2]
          rfl
    have := h9 i (by rw [hs]; show 10 + ci ≥ 10; omega)
    rw [hs] at this
    exact this
  subst hn2
  rw [rev_tr]
  have hcB : ∃ cellB : Cell, H[X.2.2.2 i]? = some cellB ∧ cellB.vm.isStatics = false ∧ s.vm.findClass M'.1.cls = some cellB.cls := by
    have hh := wl_get X h hin
    rw [cel_obj X h hs] at hh
    exact va_recv C.2.2.2.1 hP (ci := ci) (q0 := i) hc hh
  refine V_run hi C hS hl (va_runV (As := As.map (tr X.2.2.2)) (n := n) (y := M'.1) (bytes := M'.2.1) (maxL := M'.2.2.1) (ret := M'.2.2.2) (C := M'.1.cls) C.1 (hC hi) ⟨callB_of n ht (wsM_good m4) rfl rfl rfl (ht _ m3) (ht _ hlk) ⟨m5.1, m5.2, m6⟩ ⟨Nat.le_refl _, ?_⟩, ht _ m1, ht _ m2⟩ ⟨blind_Cx X h _, hcB, fun U hU hW => ⟨rfl, by rw [hU]; exact hP, va_K.moved hW.alike C.2.2.2.1, fun w hw => nst_warm hw hW (C.2.2.2.2 w hw)⟩⟩ rfl (by rw [List.length_map]; exact hn) hl.1 rfl ?_ hd ⟨Nat.le_refl 0, Nat.le_refl 0⟩) kk
  · show 8 + (M'.2.2.1 + 11) + 64 * d ≤ 64 * (d + 1)
    omega
  · show 2 * 0 + _ ≤ 8
    rw [sum_tr]
    omega
theorem V_callS {ix n : Nat} {M' : Mt} {As : List Value} {st0 : List Value} {Q' : Option Value → Hp → Prop} (hm : MS M' n) (hlk : Cond.methodLink M.1.cls ix M'.1 ∈ gw) (hst : st0 = As.reverse ++ st) (hn : As.length = n) (hr : (st.map fun v => v.category).sum ≤ 8) (hd : decode M.2.1 pc = .ok (.invokestatic ix, 3))
    (hC : Cl X M' d As h Q') (kk : ∀ r h', Q' r h' → V X M (d + 1) (pc + 3) l (r.toList ++ st) h' Q) : V X M (d + 1) pc l st0 h Q := by
  subst hst
  intro hi p e s m args below meth c H locs ls C hP hS hl
  obtain ⟨m1, m3, m4, m5, m6, m7⟩ := hm
  have ht := C.1.2.2.2.2
  rw [rev_tr]
  refine V_run hi C hS hl (va_runS (As := As.map (tr X.2.2.2)) (n := n) (y := M'.1) (bytes := M'.2.1) (maxL := M'.2.2.1) (ret := M'.2.2.2) C.1 (hC hi) ⟨callB_of n ht (wsM_good m4) rfl rfl rfl (ht _ m3) (ht _ hlk) ⟨m5.1, m5.2, m6⟩ ⟨Nat.le_refl _, ?_⟩, ht _ m1⟩ ⟨blind_Cx X h _, fun U hU hW => ⟨rfl, by rw [hU]; exact hP, va_K.moved hW.alike C.2.2.2.1, fun w hw => nst_warm hw hW (C.2.2.2.2 w hw)⟩⟩ rfl (by rw [List.length_map]; exact hn) hl.1 rfl ?_ hd ⟨Nat.le_refl 0, Nat.le_refl 0⟩) kk
  · show 8 + (M'.2.2.1 + 11) + 64 * d ≤ 64 * (d + 1)
    omega
  · show 2 * 0 + _ ≤ 8
    rw [sum_tr]
    omega
theorem V_callN {ix n : Nat} {M' : Mt} {As : List Value} {st0 : List Value} {host : String} {Q' : Option Value → Hp → Prop} (hm : MS M' n) (hlk : Cond.methodLinkNest M.1.cls ix M'.1 host ∈ nst) (hst : st0 = As.reverse ++ st) (hn : As.length = n) (hr : (st.map fun v => v.category).sum ≤ 8) (hd : decode M.2.1 pc = .ok (.invokestatic ix, 3))
    (hC : Cl X M' d As h Q') (kk : ∀ r h', Q' r h' → V X M (d + 1) (pc + 3) l (r.toList ++ st) h' Q) : V X M (d + 1) pc l st0 h Q := by
  subst hst
  intro hi p e s m args below meth c H locs ls C hP hS hl
  obtain ⟨m1, m3, m4, m5, m6, m7⟩ := hm
  have ht := C.1.2.2.2.2
  rw [rev_tr]
  refine V_run hi C hS hl (va_runSN (As := As.map (tr X.2.2.2)) (n := n) (y := M'.1) (bytes := M'.2.1) (maxL := M'.2.2.1) (ret := M'.2.2.2) (host := host) C.1 (hC hi) ⟨va_cnB n ht (wsM_good m4) rfl rfl rfl (C.2.2.2.2 _ hlk) (ht _ m3) ⟨m5.1, m5.2, m6⟩ ⟨Nat.le_refl _, ?_⟩, ht _ m1, trivial⟩ ⟨blind_Cx X h _, fun U hU hW => ⟨rfl, by rw [hU]; exact hP, va_K.moved hW.alike C.2.2.2.1, fun w hw => nst_warm hw hW (C.2.2.2.2 w hw)⟩⟩ rfl (by rw [List.length_map]; exact hn) hl.1 rfl ?_ hd ⟨Nat.le_refl 0, Nat.le_refl 0⟩) kk
  · show 8 + (M'.2.2.1 + 11) + 64 * d ≤ 64 * (d + 1)
    omega
  · show 2 * 0 + _ ≤ 8
    rw [sum_tr]
    omega
end RowsV
end
