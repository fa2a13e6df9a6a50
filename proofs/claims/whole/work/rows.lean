section
-- ===== PART A: goes FIRST, ahead of the names: the tables' words, and 'selects' of the private methods out of them =====
/-- a private method of a class that the tables say can be made, by its rows of tables_1 -/
def lw_okq (q : MethodName × Nat) : Prop := (q.1.cls ≠ "java/lang/invoke/MethodHandle" ∧ q.1.cls ≠ "java/lang/invoke/VarHandle") ∧ Cond.instantiable q.1.cls q.2 ∈ tables_1 ∧ Cond.privateMethod q.1 ∈ tables_1 ∧ Cond.instanceMethod q.1 ∈ tables_1
theorem lw_p0 : lw_okq (⟨"HeaderSpaceNetwork", "isInsertable", "(IIIII)Z"⟩, 12) := ⟨⟨by decide +kernel, by decide +kernel⟩, List.mem_of_getElem? (i := 18) (by decide +kernel), List.mem_of_getElem? (i := 416) (by decide +kernel), List.mem_of_getElem? (i := 417) (by decide +kernel)⟩
theorem lw_p1 : lw_okq (⟨"HeaderSpaceNetwork", "insertRule", "(IILHeaderSpaceNetwork$Rule;)I"⟩, 12) := ⟨⟨by decide +kernel, by decide +kernel⟩, List.mem_of_getElem? (i := 18) (by decide +kernel), List.mem_of_getElem? (i := 433) (by decide +kernel), List.mem_of_getElem? (i := 434) (by decide +kernel)⟩
theorem lw_p2 : lw_okq (⟨"HeaderSpaceNetwork", "ruleError", "(II)I"⟩, 12) := ⟨⟨by decide +kernel, by decide +kernel⟩, List.mem_of_getElem? (i := 18) (by decide +kernel), List.mem_of_getElem? (i := 461) (by decide +kernel), List.mem_of_getElem? (i := 462) (by decide +kernel)⟩
theorem lw_p3 : lw_okq (⟨"HeaderSpaceNetwork", "replaceRule", "(IILHeaderSpaceNetwork$Rule;)V"⟩, 12) := ⟨⟨by decide +kernel, by decide +kernel⟩, List.mem_of_getElem? (i := 18) (by decide +kernel), List.mem_of_getElem? (i := 471) (by decide +kernel), List.mem_of_getElem? (i := 472) (by decide +kernel)⟩
theorem lw_p4 : lw_okq (⟨"HeaderSpaceNetwork$RuleList", "isHidden", "(I)Z"⟩, 2) := ⟨⟨by decide +kernel, by decide +kernel⟩, List.mem_of_getElem? (i := 90) (by decide +kernel), List.mem_of_getElem? (i := 523) (by decide +kernel), List.mem_of_getElem? (i := 524) (by decide +kernel)⟩
theorem lw_p5 : lw_okq (⟨"HeaderSpaceNetwork$Flow", "forget", "()V"⟩, 4) := ⟨⟨by decide +kernel, by decide +kernel⟩, List.mem_of_getElem? (i := 171) (by decide +kernel), List.mem_of_getElem? (i := 560) (by decide +kernel), List.mem_of_getElem? (i := 561) (by decide +kernel)⟩
theorem lw_p6 : lw_okq (⟨"HeaderSpaceNetwork$Flow", "enter", "(IJ)V"⟩, 4) := ⟨⟨by decide +kernel, by decide +kernel⟩, List.mem_of_getElem? (i := 171) (by decide +kernel), List.mem_of_getElem? (i := 567) (by decide +kernel), List.mem_of_getElem? (i := 568) (by decide +kernel)⟩
theorem lw_p7 : lw_okq (⟨"HeaderSpaceNetwork$Flow", "spread", "()V"⟩, 4) := ⟨⟨by decide +kernel, by decide +kernel⟩, List.mem_of_getElem? (i := 171) (by decide +kernel), List.mem_of_getElem? (i := 572) (by decide +kernel), List.mem_of_getElem? (i := 573) (by decide +kernel)⟩
theorem lw_p8 : lw_okq (⟨"HeaderSpaceNetwork$Flow", "goOneLink", "()Z"⟩, 4) := ⟨⟨by decide +kernel, by decide +kernel⟩, List.mem_of_getElem? (i := 171) (by decide +kernel), List.mem_of_getElem? (i := 576) (by decide +kernel), List.mem_of_getElem? (i := 577) (by decide +kernel)⟩
theorem lw_p9 : lw_okq (⟨"HeaderSpaceNetwork$Flow", "handle", "(IJ)V"⟩, 4) := ⟨⟨by decide +kernel, by decide +kernel⟩, List.mem_of_getElem? (i := 171) (by decide +kernel), List.mem_of_getElem? (i := 580) (by decide +kernel), List.mem_of_getElem? (i := 581) (by decide +kernel)⟩
theorem lw_p10 : lw_okq (⟨"HeaderSpaceNetwork$Flow", "sendOut", "(IIJ)V"⟩, 4) := ⟨⟨by decide +kernel, by decide +kernel⟩, List.mem_of_getElem? (i := 171) (by decide +kernel), List.mem_of_getElem? (i := 591) (by decide +kernel), List.mem_of_getElem? (i := 592) (by decide +kernel)⟩
theorem lw_p11 : lw_okq (⟨"HeaderSpaceNetwork$Flow", "allHandled", "(II)J"⟩, 4) := ⟨⟨by decide +kernel, by decide +kernel⟩, List.mem_of_getElem? (i := 171) (by decide +kernel), List.mem_of_getElem? (i := 607) (by decide +kernel), List.mem_of_getElem? (i := 608) (by decide +kernel)⟩
theorem lw_p12 : lw_okq (⟨"HeaderSpaceNetwork", "widestCare", "(IJ)I"⟩, 12) := ⟨⟨by decide +kernel, by decide +kernel⟩, List.mem_of_getElem? (i := 18) (by decide +kernel), List.mem_of_getElem? (i := 646) (by decide +kernel), List.mem_of_getElem? (i := 647) (by decide +kernel)⟩
theorem lw_p13 : lw_okq (⟨"HeaderSpaceNetwork", "isInjected", "(I)Z"⟩, 12) := ⟨⟨by decide +kernel, by decide +kernel⟩, List.mem_of_getElem? (i := 18) (by decide +kernel), List.mem_of_getElem? (i := 664) (by decide +kernel), List.mem_of_getElem? (i := 665) (by decide +kernel)⟩
theorem lw_p14 : lw_okq (⟨"HeaderSpaceNetwork$Walk", "goOnce", "()V"⟩, 5) := ⟨⟨by decide +kernel, by decide +kernel⟩, List.mem_of_getElem? (i := 206) (by decide +kernel), List.mem_of_getElem? (i := 682) (by decide +kernel), List.mem_of_getElem? (i := 683) (by decide +kernel)⟩
theorem lw_p15 : lw_okq (⟨"HeaderSpaceNetwork$Fates", "growOnce", "(I)Z"⟩, 2) := ⟨⟨by decide +kernel, by decide +kernel⟩, List.mem_of_getElem? (i := 192) (by decide +kernel), List.mem_of_getElem? (i := 714) (by decide +kernel), List.mem_of_getElem? (i := 715) (by decide +kernel)⟩
def lw_privs_1 : List (MethodName × Nat) := [(⟨"HeaderSpaceNetwork", "isInsertable", "(IIIII)Z"⟩, 12), (⟨"HeaderSpaceNetwork", "insertRule", "(IILHeaderSpaceNetwork$Rule;)I"⟩, 12), (⟨"HeaderSpaceNetwork", "ruleError", "(II)I"⟩, 12), (⟨"HeaderSpaceNetwork", "replaceRule", "(IILHeaderSpaceNetwork$Rule;)V"⟩, 12), (⟨"HeaderSpaceNetwork$RuleList", "isHidden", "(I)Z"⟩, 2), (⟨"HeaderSpaceNetwork$Flow", "forget", "()V"⟩, 4), (⟨"HeaderSpaceNetwork$Flow", "enter", "(IJ)V"⟩, 4), (⟨"HeaderSpaceNetwork$Flow", "spread", "()V"⟩, 4), (⟨"HeaderSpaceNetwork$Flow", "goOneLink", "()Z"⟩, 4), (⟨"HeaderSpaceNetwork$Flow", "handle", "(IJ)V"⟩, 4), (⟨"HeaderSpaceNetwork$Flow", "sendOut", "(IIJ)V"⟩, 4), (⟨"HeaderSpaceNetwork$Flow", "allHandled", "(II)J"⟩, 4), (⟨"HeaderSpaceNetwork", "widestCare", "(IJ)I"⟩, 12), (⟨"HeaderSpaceNetwork", "isInjected", "(I)Z"⟩, 12), (⟨"HeaderSpaceNetwork$Walk", "goOnce", "()V"⟩, 5), (⟨"HeaderSpaceNetwork$Fates", "growOnce", "(I)Z"⟩, 2)]
theorem lw_r1 : ∀ q ∈ lw_privs_1, lw_okq q := List.forall_mem_cons.mpr ⟨lw_p0, List.forall_mem_cons.mpr ⟨lw_p1, List.forall_mem_cons.mpr ⟨lw_p2, List.forall_mem_cons.mpr ⟨lw_p3, List.forall_mem_cons.mpr ⟨lw_p4, List.forall_mem_cons.mpr ⟨lw_p5, List.forall_mem_cons.mpr ⟨lw_p6, List.forall_mem_cons.mpr ⟨lw_p7, List.forall_mem_cons.mpr ⟨lw_p8, List.forall_mem_cons.mpr ⟨lw_p9, List.forall_mem_cons.mpr ⟨lw_p10, List.forall_mem_cons.mpr ⟨lw_p11, List.forall_mem_cons.mpr ⟨lw_p12, List.forall_mem_cons.mpr ⟨lw_p13, List.forall_mem_cons.mpr ⟨lw_p14, List.forall_mem_cons.mpr ⟨lw_p15, fun _ h => absurd h List.not_mem_nil⟩⟩⟩⟩⟩⟩⟩⟩⟩⟩⟩⟩⟩⟩⟩⟩
theorem lw_p16 : lw_okq (⟨"HeaderSpaceNetwork$Fates", "ending", "(I)J"⟩, 2) := ⟨⟨by decide +kernel, by decide +kernel⟩, List.mem_of_getElem? (i := 192) (by decide +kernel), List.mem_of_getElem? (i := 718) (by decide +kernel), List.mem_of_getElem? (i := 719) (by decide +kernel)⟩
theorem lw_p17 : lw_okq (⟨"HeaderSpaceNetwork$Fates", "endingBehindAll", "(II)J"⟩, 2) := ⟨⟨by decide +kernel, by decide +kernel⟩, List.mem_of_getElem? (i := 192) (by decide +kernel), List.mem_of_getElem? (i := 725) (by decide +kernel), List.mem_of_getElem? (i := 726) (by decide +kernel)⟩
theorem lw_p18 : lw_okq (⟨"HeaderSpaceNetwork$Fates", "delivering", "(II)J"⟩, 2) := ⟨⟨by decide +kernel, by decide +kernel⟩, List.mem_of_getElem? (i := 192) (by decide +kernel), List.mem_of_getElem? (i := 735) (by decide +kernel), List.mem_of_getElem? (i := 736) (by decide +kernel)⟩
theorem lw_p19 : lw_okq (⟨"HeaderSpaceNetwork$Fates", "deliveredBehindOne", "(III)J"⟩, 2) := ⟨⟨by decide +kernel, by decide +kernel⟩, List.mem_of_getElem? (i := 192) (by decide +kernel), List.mem_of_getElem? (i := 739) (by decide +kernel), List.mem_of_getElem? (i := 740) (by decide +kernel)⟩
theorem lw_p20 : lw_okq (⟨"HeaderSpaceNetwork$Cuts", "openWay", "(J)J"⟩, 11) := ⟨⟨by decide +kernel, by decide +kernel⟩, List.mem_of_getElem? (i := 231) (by decide +kernel), List.mem_of_getElem? (i := 751) (by decide +kernel), List.mem_of_getElem? (i := 752) (by decide +kernel)⟩
theorem lw_p21 : lw_okq (⟨"HeaderSpaceNetwork$Cuts", "enqueue", "(IIJ)V"⟩, 11) := ⟨⟨by decide +kernel, by decide +kernel⟩, List.mem_of_getElem? (i := 231) (by decide +kernel), List.mem_of_getElem? (i := 757) (by decide +kernel), List.mem_of_getElem? (i := 758) (by decide +kernel)⟩
theorem lw_p22 : lw_okq (⟨"HeaderSpaceNetwork$Cuts", "handlingSlot", "(IJ)I"⟩, 11) := ⟨⟨by decide +kernel, by decide +kernel⟩, List.mem_of_getElem? (i := 231) (by decide +kernel), List.mem_of_getElem? (i := 761) (by decide +kernel), List.mem_of_getElem? (i := 762) (by decide +kernel)⟩
theorem lw_p23 : lw_okq (⟨"HeaderSpaceNetwork$Cuts", "reachesTarget", "(II)Z"⟩, 11) := ⟨⟨by decide +kernel, by decide +kernel⟩, List.mem_of_getElem? (i := 231) (by decide +kernel), List.mem_of_getElem? (i := 766) (by decide +kernel), List.mem_of_getElem? (i := 767) (by decide +kernel)⟩
theorem lw_p24 : lw_okq (⟨"HeaderSpaceNetwork$Cuts", "cutByOne", "(J)Z"⟩, 11) := ⟨⟨by decide +kernel, by decide +kernel⟩, List.mem_of_getElem? (i := 231) (by decide +kernel), List.mem_of_getElem? (i := 773) (by decide +kernel), List.mem_of_getElem? (i := 774) (by decide +kernel)⟩
theorem lw_p25 : lw_okq (⟨"HeaderSpaceNetwork$Cuts", "cutByTwo", "()Z"⟩, 11) := ⟨⟨by decide +kernel, by decide +kernel⟩, List.mem_of_getElem? (i := 231) (by decide +kernel), List.mem_of_getElem? (i := 780) (by decide +kernel), List.mem_of_getElem? (i := 781) (by decide +kernel)⟩
theorem lw_p26 : lw_okq (⟨"HeaderSpaceNetwork$Cuts", "knownWay", "(II)J"⟩, 11) := ⟨⟨by decide +kernel, by decide +kernel⟩, List.mem_of_getElem? (i := 231) (by decide +kernel), List.mem_of_getElem? (i := 784) (by decide +kernel), List.mem_of_getElem? (i := 785) (by decide +kernel)⟩
theorem lw_p27 : lw_okq (⟨"HeaderSpaceNetwork$Cuts", "cutByThree", "()Z"⟩, 11) := ⟨⟨by decide +kernel, by decide +kernel⟩, List.mem_of_getElem? (i := 231) (by decide +kernel), List.mem_of_getElem? (i := 788) (by decide +kernel), List.mem_of_getElem? (i := 789) (by decide +kernel)⟩
theorem lw_p28 : lw_okq (⟨"HeaderSpaceNetwork$Cuts", "isWorthTrying", "(III)Z"⟩, 11) := ⟨⟨by decide +kernel, by decide +kernel⟩, List.mem_of_getElem? (i := 231) (by decide +kernel), List.mem_of_getElem? (i := 792) (by decide +kernel), List.mem_of_getElem? (i := 793) (by decide +kernel)⟩
theorem lw_p29 : lw_okq (⟨"HeaderSpaceNetwork", "isPolicy", "(I)Z"⟩, 12) := ⟨⟨by decide +kernel, by decide +kernel⟩, List.mem_of_getElem? (i := 18) (by decide +kernel), List.mem_of_getElem? (i := 808) (by decide +kernel), List.mem_of_getElem? (i := 809) (by decide +kernel)⟩
theorem lw_p30 : lw_okq (⟨"HeaderSpaceNetwork", "against", "(LHeaderSpaceNetwork$Policy;)J"⟩, 12) := ⟨⟨by decide +kernel, by decide +kernel⟩, List.mem_of_getElem? (i := 18) (by decide +kernel), List.mem_of_getElem? (i := 816) (by decide +kernel), List.mem_of_getElem? (i := 817) (by decide +kernel)⟩
theorem lw_p31 : lw_okq (⟨"HeaderSpaceNetwork$Text", "readsPorts", "()Z"⟩, 9) := ⟨⟨by decide +kernel, by decide +kernel⟩, List.mem_of_getElem? (i := 272) (by decide +kernel), List.mem_of_getElem? (i := 844) (by decide +kernel), List.mem_of_getElem? (i := 845) (by decide +kernel)⟩
def lw_privs_2 : List (MethodName × Nat) := [(⟨"HeaderSpaceNetwork$Fates", "ending", "(I)J"⟩, 2), (⟨"HeaderSpaceNetwork$Fates", "endingBehindAll", "(II)J"⟩, 2), (⟨"HeaderSpaceNetwork$Fates", "delivering", "(II)J"⟩, 2), (⟨"HeaderSpaceNetwork$Fates", "deliveredBehindOne", "(III)J"⟩, 2), (⟨"HeaderSpaceNetwork$Cuts", "openWay", "(J)J"⟩, 11), (⟨"HeaderSpaceNetwork$Cuts", "enqueue", "(IIJ)V"⟩, 11), (⟨"HeaderSpaceNetwork$Cuts", "handlingSlot", "(IJ)I"⟩, 11), (⟨"HeaderSpaceNetwork$Cuts", "reachesTarget", "(II)Z"⟩, 11), (⟨"HeaderSpaceNetwork$Cuts", "cutByOne", "(J)Z"⟩, 11), (⟨"HeaderSpaceNetwork$Cuts", "cutByTwo", "()Z"⟩, 11), (⟨"HeaderSpaceNetwork$Cuts", "knownWay", "(II)J"⟩, 11), (⟨"HeaderSpaceNetwork$Cuts", "cutByThree", "()Z"⟩, 11), (⟨"HeaderSpaceNetwork$Cuts", "isWorthTrying", "(III)Z"⟩, 11), (⟨"HeaderSpaceNetwork", "isPolicy", "(I)Z"⟩, 12), (⟨"HeaderSpaceNetwork", "against", "(LHeaderSpaceNetwork$Policy;)J"⟩, 12), (⟨"HeaderSpaceNetwork$Text", "readsPorts", "()Z"⟩, 9)]
theorem lw_r2 : ∀ q ∈ lw_privs_2, lw_okq q := List.forall_mem_cons.mpr ⟨lw_p16, List.forall_mem_cons.mpr ⟨lw_p17, List.forall_mem_cons.mpr ⟨lw_p18, List.forall_mem_cons.mpr ⟨lw_p19, List.forall_mem_cons.mpr ⟨lw_p20, List.forall_mem_cons.mpr ⟨lw_p21, List.forall_mem_cons.mpr ⟨lw_p22, List.forall_mem_cons.mpr ⟨lw_p23, List.forall_mem_cons.mpr ⟨lw_p24, List.forall_mem_cons.mpr ⟨lw_p25, List.forall_mem_cons.mpr ⟨lw_p26, List.forall_mem_cons.mpr ⟨lw_p27, List.forall_mem_cons.mpr ⟨lw_p28, List.forall_mem_cons.mpr ⟨lw_p29, List.forall_mem_cons.mpr ⟨lw_p30, List.forall_mem_cons.mpr ⟨lw_p31, fun _ h => absurd h List.not_mem_nil⟩⟩⟩⟩⟩⟩⟩⟩⟩⟩⟩⟩⟩⟩⟩⟩
theorem lw_p32 : lw_okq (⟨"HeaderSpaceNetwork$Text", "accepts", "(C)Z"⟩, 9) := ⟨⟨by decide +kernel, by decide +kernel⟩, List.mem_of_getElem? (i := 272) (by decide +kernel), List.mem_of_getElem? (i := 848) (by decide +kernel), List.mem_of_getElem? (i := 849) (by decide +kernel)⟩
theorem lw_p33 : lw_okq (⟨"HeaderSpaceNetwork$Text", "readDigits", "()I"⟩, 9) := ⟨⟨by decide +kernel, by decide +kernel⟩, List.mem_of_getElem? (i := 272) (by decide +kernel), List.mem_of_getElem? (i := 852) (by decide +kernel), List.mem_of_getElem? (i := 853) (by decide +kernel)⟩
theorem lw_p34 : lw_okq (⟨"HeaderSpaceNetwork$Text", "readsPattern", "(I)Z"⟩, 9) := ⟨⟨by decide +kernel, by decide +kernel⟩, List.mem_of_getElem? (i := 272) (by decide +kernel), List.mem_of_getElem? (i := 856) (by decide +kernel), List.mem_of_getElem? (i := 857) (by decide +kernel)⟩
theorem lw_p35 : lw_okq (⟨"HeaderSpaceNetwork$Text", "readsOutputs", "()Z"⟩, 9) := ⟨⟨by decide +kernel, by decide +kernel⟩, List.mem_of_getElem? (i := 272) (by decide +kernel), List.mem_of_getElem? (i := 860) (by decide +kernel), List.mem_of_getElem? (i := 861) (by decide +kernel)⟩
theorem lw_p36 : lw_okq (⟨"HeaderSpaceNetwork$Text", "readsRewriting", "(I)Z"⟩, 9) := ⟨⟨by decide +kernel, by decide +kernel⟩, List.mem_of_getElem? (i := 272) (by decide +kernel), List.mem_of_getElem? (i := 864) (by decide +kernel), List.mem_of_getElem? (i := 865) (by decide +kernel)⟩
theorem lw_p37 : lw_okq (⟨"HeaderSpaceNetwork$RuleWriter", "put", "(C)V"⟩, 2) := ⟨⟨by decide +kernel, by decide +kernel⟩, List.mem_of_getElem? (i := 310) (by decide +kernel), List.mem_of_getElem? (i := 882) (by decide +kernel), List.mem_of_getElem? (i := 883) (by decide +kernel)⟩
theorem lw_p38 : lw_okq (⟨"HeaderSpaceNetwork$RuleWriter", "putDigits", "(I)V"⟩, 2) := ⟨⟨by decide +kernel, by decide +kernel⟩, List.mem_of_getElem? (i := 310) (by decide +kernel), List.mem_of_getElem? (i := 886) (by decide +kernel), List.mem_of_getElem? (i := 887) (by decide +kernel)⟩
theorem lw_p39 : lw_okq (⟨"HeaderSpaceNetwork$RuleWriter", "putPattern", "(III)V"⟩, 2) := ⟨⟨by decide +kernel, by decide +kernel⟩, List.mem_of_getElem? (i := 310) (by decide +kernel), List.mem_of_getElem? (i := 891) (by decide +kernel), List.mem_of_getElem? (i := 892) (by decide +kernel)⟩
theorem lw_p40 : lw_okq (⟨"HeaderSpaceNetworkModel", "begin", "()V"⟩, 33) := ⟨⟨by decide +kernel, by decide +kernel⟩, List.mem_of_getElem? (i := 895) (by decide +kernel), List.mem_of_getElem? (i := 901) (by decide +kernel), List.mem_of_getElem? (i := 902) (by decide +kernel)⟩
theorem lw_p41 : lw_okq (⟨"HeaderSpaceNetworkModel", "insert", "(IIIIII)I"⟩, 33) := ⟨⟨by decide +kernel, by decide +kernel⟩, List.mem_of_getElem? (i := 895) (by decide +kernel), List.mem_of_getElem? (i := 1039) (by decide +kernel), List.mem_of_getElem? (i := 1040) (by decide +kernel)⟩
theorem lw_p42 : lw_okq (⟨"HeaderSpaceNetworkModel", "many", "(I)I"⟩, 33) := ⟨⟨by decide +kernel, by decide +kernel⟩, List.mem_of_getElem? (i := 895) (by decide +kernel), List.mem_of_getElem? (i := 1043) (by decide +kernel), List.mem_of_getElem? (i := 1044) (by decide +kernel)⟩
theorem lw_p43 : lw_okq (⟨"HeaderSpaceNetworkModel", "noHeader", "(I)Z"⟩, 33) := ⟨⟨by decide +kernel, by decide +kernel⟩, List.mem_of_getElem? (i := 895) (by decide +kernel), List.mem_of_getElem? (i := 1047) (by decide +kernel), List.mem_of_getElem? (i := 1048) (by decide +kernel)⟩
theorem lw_p44 : lw_okq (⟨"HeaderSpaceNetworkModel", "headers", "()I"⟩, 33) := ⟨⟨by decide +kernel, by decide +kernel⟩, List.mem_of_getElem? (i := 895) (by decide +kernel), List.mem_of_getElem? (i := 1051) (by decide +kernel), List.mem_of_getElem? (i := 1052) (by decide +kernel)⟩
theorem lw_p45 : lw_okq (⟨"HeaderSpaceNetworkModel", "keep", "()V"⟩, 33) := ⟨⟨by decide +kernel, by decide +kernel⟩, List.mem_of_getElem? (i := 895) (by decide +kernel), List.mem_of_getElem? (i := 1055) (by decide +kernel), List.mem_of_getElem? (i := 1056) (by decide +kernel)⟩
theorem lw_p46 : lw_okq (⟨"HeaderSpaceNetworkModel", "open", "(II)V"⟩, 33) := ⟨⟨by decide +kernel, by decide +kernel⟩, List.mem_of_getElem? (i := 895) (by decide +kernel), List.mem_of_getElem? (i := 1059) (by decide +kernel), List.mem_of_getElem? (i := 1060) (by decide +kernel)⟩
theorem lw_p47 : lw_okq (⟨"HeaderSpaceNetworkModel", "of", "(III)I"⟩, 33) := ⟨⟨by decide +kernel, by decide +kernel⟩, List.mem_of_getElem? (i := 895) (by decide +kernel), List.mem_of_getElem? (i := 1063) (by decide +kernel), List.mem_of_getElem? (i := 1064) (by decide +kernel)⟩
def lw_privs_3 : List (MethodName × Nat) := [(⟨"HeaderSpaceNetwork$Text", "accepts", "(C)Z"⟩, 9), (⟨"HeaderSpaceNetwork$Text", "readDigits", "()I"⟩, 9), (⟨"HeaderSpaceNetwork$Text", "readsPattern", "(I)Z"⟩, 9), (⟨"HeaderSpaceNetwork$Text", "readsOutputs", "()Z"⟩, 9), (⟨"HeaderSpaceNetwork$Text", "readsRewriting", "(I)Z"⟩, 9), (⟨"HeaderSpaceNetwork$RuleWriter", "put", "(C)V"⟩, 2), (⟨"HeaderSpaceNetwork$RuleWriter", "putDigits", "(I)V"⟩, 2), (⟨"HeaderSpaceNetwork$RuleWriter", "putPattern", "(III)V"⟩, 2), (⟨"HeaderSpaceNetworkModel", "begin", "()V"⟩, 33), (⟨"HeaderSpaceNetworkModel", "insert", "(IIIIII)I"⟩, 33), (⟨"HeaderSpaceNetworkModel", "many", "(I)I"⟩, 33), (⟨"HeaderSpaceNetworkModel", "noHeader", "(I)Z"⟩, 33), (⟨"HeaderSpaceNetworkModel", "headers", "()I"⟩, 33), (⟨"HeaderSpaceNetworkModel", "keep", "()V"⟩, 33), (⟨"HeaderSpaceNetworkModel", "open", "(II)V"⟩, 33), (⟨"HeaderSpaceNetworkModel", "of", "(III)I"⟩, 33)]
theorem lw_r3 : ∀ q ∈ lw_privs_3, lw_okq q := List.forall_mem_cons.mpr ⟨lw_p32, List.forall_mem_cons.mpr ⟨lw_p33, List.forall_mem_cons.mpr ⟨lw_p34, List.forall_mem_cons.mpr ⟨lw_p35, List.forall_mem_cons.mpr ⟨lw_p36, List.forall_mem_cons.mpr ⟨lw_p37, List.forall_mem_cons.mpr ⟨lw_p38, List.forall_mem_cons.mpr ⟨lw_p39, List.forall_mem_cons.mpr ⟨lw_p40, List.forall_mem_cons.mpr ⟨lw_p41, List.forall_mem_cons.mpr ⟨lw_p42, List.forall_mem_cons.mpr ⟨lw_p43, List.forall_mem_cons.mpr ⟨lw_p44, List.forall_mem_cons.mpr ⟨lw_p45, List.forall_mem_cons.mpr ⟨lw_p46, List.forall_mem_cons.mpr ⟨lw_p47, fun _ h => absurd h List.not_mem_nil⟩⟩⟩⟩⟩⟩⟩⟩⟩⟩⟩⟩⟩⟩⟩⟩
theorem lw_p48 : lw_okq (⟨"HeaderSpaceNetworkModel", "put", "(IIII)V"⟩, 33) := ⟨⟨by decide +kernel, by decide +kernel⟩, List.mem_of_getElem? (i := 895) (by decide +kernel), List.mem_of_getElem? (i := 1067) (by decide +kernel), List.mem_of_getElem? (i := 1068) (by decide +kernel)⟩
theorem lw_p49 : lw_okq (⟨"HeaderSpaceNetworkModel", "ruleBarred", "(II)I"⟩, 33) := ⟨⟨by decide +kernel, by decide +kernel⟩, List.mem_of_getElem? (i := 895) (by decide +kernel), List.mem_of_getElem? (i := 1079) (by decide +kernel), List.mem_of_getElem? (i := 1080) (by decide +kernel)⟩
theorem lw_p50 : lw_okq (⟨"HeaderSpaceNetworkModel", "noRule", "(II)Z"⟩, 33) := ⟨⟨by decide +kernel, by decide +kernel⟩, List.mem_of_getElem? (i := 895) (by decide +kernel), List.mem_of_getElem? (i := 1083) (by decide +kernel), List.mem_of_getElem? (i := 1084) (by decide +kernel)⟩
theorem lw_p51 : lw_okq (⟨"HeaderSpaceNetworkModel", "close", "(II)V"⟩, 33) := ⟨⟨by decide +kernel, by decide +kernel⟩, List.mem_of_getElem? (i := 895) (by decide +kernel), List.mem_of_getElem? (i := 1091) (by decide +kernel), List.mem_of_getElem? (i := 1092) (by decide +kernel)⟩
theorem lw_p52 : lw_okq (⟨"HeaderSpaceNetworkModel", "handler", "(III)I"⟩, 33) := ⟨⟨by decide +kernel, by decide +kernel⟩, List.mem_of_getElem? (i := 895) (by decide +kernel), List.mem_of_getElem? (i := 1115) (by decide +kernel), List.mem_of_getElem? (i := 1116) (by decide +kernel)⟩
theorem lw_p53 : lw_okq (⟨"HeaderSpaceNetworkModel", "matches", "(IIII)Z"⟩, 33) := ⟨⟨by decide +kernel, by decide +kernel⟩, List.mem_of_getElem? (i := 895) (by decide +kernel), List.mem_of_getElem? (i := 1119) (by decide +kernel), List.mem_of_getElem? (i := 1120) (by decide +kernel)⟩
theorem lw_p54 : lw_okq (⟨"HeaderSpaceNetworkModel", "injected", "()J"⟩, 33) := ⟨⟨by decide +kernel, by decide +kernel⟩, List.mem_of_getElem? (i := 895) (by decide +kernel), List.mem_of_getElem? (i := 1127) (by decide +kernel), List.mem_of_getElem? (i := 1128) (by decide +kernel)⟩
theorem lw_p55 : lw_okq (⟨"HeaderSpaceNetworkModel", "isInjected", "(I)Z"⟩, 33) := ⟨⟨by decide +kernel, by decide +kernel⟩, List.mem_of_getElem? (i := 895) (by decide +kernel), List.mem_of_getElem? (i := 1131) (by decide +kernel), List.mem_of_getElem? (i := 1132) (by decide +kernel)⟩
theorem lw_p56 : lw_okq (⟨"HeaderSpaceNetworkModel", "spreadAll", "()V"⟩, 33) := ⟨⟨by decide +kernel, by decide +kernel⟩, List.mem_of_getElem? (i := 895) (by decide +kernel), List.mem_of_getElem? (i := 1146) (by decide +kernel), List.mem_of_getElem? (i := 1147) (by decide +kernel)⟩
theorem lw_p57 : lw_okq (⟨"HeaderSpaceNetworkModel", "spread", "(IJ)V"⟩, 33) := ⟨⟨by decide +kernel, by decide +kernel⟩, List.mem_of_getElem? (i := 895) (by decide +kernel), List.mem_of_getElem? (i := 1150) (by decide +kernel), List.mem_of_getElem? (i := 1151) (by decide +kernel)⟩
theorem lw_p58 : lw_okq (⟨"HeaderSpaceNetworkModel", "goOn", "(II)V"⟩, 33) := ⟨⟨by decide +kernel, by decide +kernel⟩, List.mem_of_getElem? (i := 895) (by decide +kernel), List.mem_of_getElem? (i := 1155) (by decide +kernel), List.mem_of_getElem? (i := 1156) (by decide +kernel)⟩
theorem lw_p59 : lw_okq (⟨"HeaderSpaceNetworkModel", "rewritten", "(III)I"⟩, 33) := ⟨⟨by decide +kernel, by decide +kernel⟩, List.mem_of_getElem? (i := 895) (by decide +kernel), List.mem_of_getElem? (i := 1159) (by decide +kernel), List.mem_of_getElem? (i := 1160) (by decide +kernel)⟩
theorem lw_p60 : lw_okq (⟨"HeaderSpaceNetworkModel", "handledBy", "(II)I"⟩, 33) := ⟨⟨by decide +kernel, by decide +kernel⟩, List.mem_of_getElem? (i := 895) (by decide +kernel), List.mem_of_getElem? (i := 1171) (by decide +kernel), List.mem_of_getElem? (i := 1172) (by decide +kernel)⟩
theorem lw_p61 : lw_okq (⟨"HeaderSpaceNetworkModel", "cubeOf", "(II)J"⟩, 33) := ⟨⟨by decide +kernel, by decide +kernel⟩, List.mem_of_getElem? (i := 895) (by decide +kernel), List.mem_of_getElem? (i := 1183) (by decide +kernel), List.mem_of_getElem? (i := 1184) (by decide +kernel)⟩
theorem lw_p62 : lw_okq (⟨"HeaderSpaceNetworkModel", "follow", "(I)V"⟩, 33) := ⟨⟨by decide +kernel, by decide +kernel⟩, List.mem_of_getElem? (i := 895) (by decide +kernel), List.mem_of_getElem? (i := 1199) (by decide +kernel), List.mem_of_getElem? (i := 1200) (by decide +kernel)⟩
theorem lw_p63 : lw_okq (⟨"HeaderSpaceNetworkModel", "wasThere", "(I)Z"⟩, 33) := ⟨⟨by decide +kernel, by decide +kernel⟩, List.mem_of_getElem? (i := 895) (by decide +kernel), List.mem_of_getElem? (i := 1203) (by decide +kernel), List.mem_of_getElem? (i := 1204) (by decide +kernel)⟩
def lw_privs_4 : List (MethodName × Nat) := [(⟨"HeaderSpaceNetworkModel", "put", "(IIII)V"⟩, 33), (⟨"HeaderSpaceNetworkModel", "ruleBarred", "(II)I"⟩, 33), (⟨"HeaderSpaceNetworkModel", "noRule", "(II)Z"⟩, 33), (⟨"HeaderSpaceNetworkModel", "close", "(II)V"⟩, 33), (⟨"HeaderSpaceNetworkModel", "handler", "(III)I"⟩, 33), (⟨"HeaderSpaceNetworkModel", "matches", "(IIII)Z"⟩, 33), (⟨"HeaderSpaceNetworkModel", "injected", "()J"⟩, 33), (⟨"HeaderSpaceNetworkModel", "isInjected", "(I)Z"⟩, 33), (⟨"HeaderSpaceNetworkModel", "spreadAll", "()V"⟩, 33), (⟨"HeaderSpaceNetworkModel", "spread", "(IJ)V"⟩, 33), (⟨"HeaderSpaceNetworkModel", "goOn", "(II)V"⟩, 33), (⟨"HeaderSpaceNetworkModel", "rewritten", "(III)I"⟩, 33), (⟨"HeaderSpaceNetworkModel", "handledBy", "(II)I"⟩, 33), (⟨"HeaderSpaceNetworkModel", "cubeOf", "(II)J"⟩, 33), (⟨"HeaderSpaceNetworkModel", "follow", "(I)V"⟩, 33), (⟨"HeaderSpaceNetworkModel", "wasThere", "(I)Z"⟩, 33)]
theorem lw_r4 : ∀ q ∈ lw_privs_4, lw_okq q := List.forall_mem_cons.mpr ⟨lw_p48, List.forall_mem_cons.mpr ⟨lw_p49, List.forall_mem_cons.mpr ⟨lw_p50, List.forall_mem_cons.mpr ⟨lw_p51, List.forall_mem_cons.mpr ⟨lw_p52, List.forall_mem_cons.mpr ⟨lw_p53, List.forall_mem_cons.mpr ⟨lw_p54, List.forall_mem_cons.mpr ⟨lw_p55, List.forall_mem_cons.mpr ⟨lw_p56, List.forall_mem_cons.mpr ⟨lw_p57, List.forall_mem_cons.mpr ⟨lw_p58, List.forall_mem_cons.mpr ⟨lw_p59, List.forall_mem_cons.mpr ⟨lw_p60, List.forall_mem_cons.mpr ⟨lw_p61, List.forall_mem_cons.mpr ⟨lw_p62, List.forall_mem_cons.mpr ⟨lw_p63, fun _ h => absurd h List.not_mem_nil⟩⟩⟩⟩⟩⟩⟩⟩⟩⟩⟩⟩⟩⟩⟩⟩
theorem lw_p64 : lw_okq (⟨"HeaderSpaceNetworkModel", "isSafe", "(II)Z"⟩, 33) := ⟨⟨by decide +kernel, by decide +kernel⟩, List.mem_of_getElem? (i := 895) (by decide +kernel), List.mem_of_getElem? (i := 1215) (by decide +kernel), List.mem_of_getElem? (i := 1216) (by decide +kernel)⟩
theorem lw_p65 : lw_okq (⟨"HeaderSpaceNetworkModel", "findSize", "(I)I"⟩, 33) := ⟨⟨by decide +kernel, by decide +kernel⟩, List.mem_of_getElem? (i := 895) (by decide +kernel), List.mem_of_getElem? (i := 1223) (by decide +kernel), List.mem_of_getElem? (i := 1224) (by decide +kernel)⟩
theorem lw_p66 : lw_okq (⟨"HeaderSpaceNetworkModel", "findCut", "(II)Z"⟩, 33) := ⟨⟨by decide +kernel, by decide +kernel⟩, List.mem_of_getElem? (i := 895) (by decide +kernel), List.mem_of_getElem? (i := 1227) (by decide +kernel), List.mem_of_getElem? (i := 1228) (by decide +kernel)⟩
theorem lw_p67 : lw_okq (⟨"HeaderSpaceNetworkModel", "isStopped", "(I)Z"⟩, 33) := ⟨⟨by decide +kernel, by decide +kernel⟩, List.mem_of_getElem? (i := 895) (by decide +kernel), List.mem_of_getElem? (i := 1231) (by decide +kernel), List.mem_of_getElem? (i := 1232) (by decide +kernel)⟩
theorem lw_p68 : lw_okq (⟨"HeaderSpaceNetworkModel", "turn", "(II)V"⟩, 33) := ⟨⟨by decide +kernel, by decide +kernel⟩, List.mem_of_getElem? (i := 895) (by decide +kernel), List.mem_of_getElem? (i := 1235) (by decide +kernel), List.mem_of_getElem? (i := 1236) (by decide +kernel)⟩
theorem lw_p69 : lw_okq (⟨"HeaderSpaceNetworkModel", "isOn", "(I)Z"⟩, 33) := ⟨⟨by decide +kernel, by decide +kernel⟩, List.mem_of_getElem? (i := 895) (by decide +kernel), List.mem_of_getElem? (i := 1239) (by decide +kernel), List.mem_of_getElem? (i := 1240) (by decide +kernel)⟩
theorem lw_p70 : lw_okq (⟨"HeaderSpaceNetworkModel", "noPolicy", "(I)Z"⟩, 33) := ⟨⟨by decide +kernel, by decide +kernel⟩, List.mem_of_getElem? (i := 895) (by decide +kernel), List.mem_of_getElem? (i := 1255) (by decide +kernel), List.mem_of_getElem? (i := 1256) (by decide +kernel)⟩
theorem lw_p71 : lw_okq (⟨"HeaderSpaceNetworkModel", "against", "(I)J"⟩, 33) := ⟨⟨by decide +kernel, by decide +kernel⟩, List.mem_of_getElem? (i := 895) (by decide +kernel), List.mem_of_getElem? (i := 1263) (by decide +kernel), List.mem_of_getElem? (i := 1264) (by decide +kernel)⟩
theorem lw_p72 : lw_okq (⟨"HeaderSpaceNetworkModel", "isAt", "(C)Z"⟩, 33) := ⟨⟨by decide +kernel, by decide +kernel⟩, List.mem_of_getElem? (i := 895) (by decide +kernel), List.mem_of_getElem? (i := 1287) (by decide +kernel), List.mem_of_getElem? (i := 1288) (by decide +kernel)⟩
theorem lw_p73 : lw_okq (⟨"HeaderSpaceNetworkModel", "readPorts", "()I"⟩, 33) := ⟨⟨by decide +kernel, by decide +kernel⟩, List.mem_of_getElem? (i := 895) (by decide +kernel), List.mem_of_getElem? (i := 1291) (by decide +kernel), List.mem_of_getElem? (i := 1292) (by decide +kernel)⟩
theorem lw_p74 : lw_okq (⟨"HeaderSpaceNetworkModel", "expect", "(C)V"⟩, 33) := ⟨⟨by decide +kernel, by decide +kernel⟩, List.mem_of_getElem? (i := 895) (by decide +kernel), List.mem_of_getElem? (i := 1295) (by decide +kernel), List.mem_of_getElem? (i := 1296) (by decide +kernel)⟩
theorem lw_p75 : lw_okq (⟨"HeaderSpaceNetworkModel", "readPattern", "()V"⟩, 33) := ⟨⟨by decide +kernel, by decide +kernel⟩, List.mem_of_getElem? (i := 895) (by decide +kernel), List.mem_of_getElem? (i := 1299) (by decide +kernel), List.mem_of_getElem? (i := 1300) (by decide +kernel)⟩
theorem lw_p76 : lw_okq (⟨"HeaderSpaceNetworkModel", "write", "(I)V"⟩, 33) := ⟨⟨by decide +kernel, by decide +kernel⟩, List.mem_of_getElem? (i := 895) (by decide +kernel), List.mem_of_getElem? (i := 1307) (by decide +kernel), List.mem_of_getElem? (i := 1308) (by decide +kernel)⟩
theorem lw_p77 : lw_okq (⟨"HeaderSpaceNetworkModel", "writePorts", "(I)V"⟩, 33) := ⟨⟨by decide +kernel, by decide +kernel⟩, List.mem_of_getElem? (i := 895) (by decide +kernel), List.mem_of_getElem? (i := 1311) (by decide +kernel), List.mem_of_getElem? (i := 1312) (by decide +kernel)⟩
theorem lw_p78 : lw_okq (⟨"HeaderSpaceNetworkModel", "writePattern", "(II)V"⟩, 33) := ⟨⟨by decide +kernel, by decide +kernel⟩, List.mem_of_getElem? (i := 895) (by decide +kernel), List.mem_of_getElem? (i := 1315) (by decide +kernel), List.mem_of_getElem? (i := 1316) (by decide +kernel)⟩
def lw_privs_5 : List (MethodName × Nat) := [(⟨"HeaderSpaceNetworkModel", "isSafe", "(II)Z"⟩, 33), (⟨"HeaderSpaceNetworkModel", "findSize", "(I)I"⟩, 33), (⟨"HeaderSpaceNetworkModel", "findCut", "(II)Z"⟩, 33), (⟨"HeaderSpaceNetworkModel", "isStopped", "(I)Z"⟩, 33), (⟨"HeaderSpaceNetworkModel", "turn", "(II)V"⟩, 33), (⟨"HeaderSpaceNetworkModel", "isOn", "(I)Z"⟩, 33), (⟨"HeaderSpaceNetworkModel", "noPolicy", "(I)Z"⟩, 33), (⟨"HeaderSpaceNetworkModel", "against", "(I)J"⟩, 33), (⟨"HeaderSpaceNetworkModel", "isAt", "(C)Z"⟩, 33), (⟨"HeaderSpaceNetworkModel", "readPorts", "()I"⟩, 33), (⟨"HeaderSpaceNetworkModel", "expect", "(C)V"⟩, 33), (⟨"HeaderSpaceNetworkModel", "readPattern", "()V"⟩, 33), (⟨"HeaderSpaceNetworkModel", "write", "(I)V"⟩, 33), (⟨"HeaderSpaceNetworkModel", "writePorts", "(I)V"⟩, 33), (⟨"HeaderSpaceNetworkModel", "writePattern", "(II)V"⟩, 33)]
theorem lw_r5 : ∀ q ∈ lw_privs_5, lw_okq q := List.forall_mem_cons.mpr ⟨lw_p64, List.forall_mem_cons.mpr ⟨lw_p65, List.forall_mem_cons.mpr ⟨lw_p66, List.forall_mem_cons.mpr ⟨lw_p67, List.forall_mem_cons.mpr ⟨lw_p68, List.forall_mem_cons.mpr ⟨lw_p69, List.forall_mem_cons.mpr ⟨lw_p70, List.forall_mem_cons.mpr ⟨lw_p71, List.forall_mem_cons.mpr ⟨lw_p72, List.forall_mem_cons.mpr ⟨lw_p73, List.forall_mem_cons.mpr ⟨lw_p74, List.forall_mem_cons.mpr ⟨lw_p75, List.forall_mem_cons.mpr ⟨lw_p76, List.forall_mem_cons.mpr ⟨lw_p77, List.forall_mem_cons.mpr ⟨lw_p78, fun _ h => absurd h List.not_mem_nil⟩⟩⟩⟩⟩⟩⟩⟩⟩⟩⟩⟩⟩⟩⟩
def lw_privs : List (MethodName × Nat) := lw_privs_1 ++ (lw_privs_2 ++ (lw_privs_3 ++ (lw_privs_4 ++ (lw_privs_5))))
def lw_tbl : List Cond := k2_sels lw_privs ++ tables_1
theorem lw_privs_ok : ∀ q ∈ lw_privs, lw_okq q := by
  show ∀ q ∈ lw_privs_1 ++ (lw_privs_2 ++ (lw_privs_3 ++ (lw_privs_4 ++ (lw_privs_5)))), lw_okq q
  exact List.forall_mem_append.mpr ⟨lw_r1, List.forall_mem_append.mpr ⟨lw_r2, List.forall_mem_append.mpr ⟨lw_r3, List.forall_mem_append.mpr ⟨lw_r4, lw_r5⟩⟩⟩⟩
end
section
def RX0 : String := "HeaderSpaceNetwork$Cuts"
def TX0 : u_T := fun k => match k with
  | 0 => ("HeaderSpaceNetwork$Cuts", "net", "LHeaderSpaceNetwork$Net;", true)
  | 1 => ("HeaderSpaceNetwork$Cuts", "members", "[I", true)
  | 2 => ("HeaderSpaceNetwork$Cuts", "withoutOne", "[J", true)
  | 3 => ("HeaderSpaceNetwork$Cuts", "withoutTwo", "[J", true)
  | 4 => ("HeaderSpaceNetwork$Cuts", "queue", "[I", true)
  | 5 => ("HeaderSpaceNetwork$Cuts", "wayHere", "[J", true)
  | 6 => ("HeaderSpaceNetwork$Cuts", "seen", "[J", true)
  | 7 => ("HeaderSpaceNetwork$Cuts", "queued", "I", false)
  | 8 => ("HeaderSpaceNetwork$Cuts", "from", "I", false)
  | 9 => ("HeaderSpaceNetwork$Cuts", "packets", "J", false)
  | _ => ("HeaderSpaceNetwork$Cuts", "target", "I", false)
def tyX0 : Nat → FieldType := fun k => match k with
  | 0 => .object "HeaderSpaceNetwork$Net"
  | 1 => .array .int
  | 2 => .array .long
  | 3 => .array .long
  | 4 => .array .int
  | 5 => .array .long
  | 6 => .array .long
  | 7 => .int
  | 8 => .int
  | 9 => .long
  | _ => .int
abbrev wsX00 : List Cond := u_ws RX0 TX0 11
theorem nmX0 : ∀ a, a < 11 → ∀ b, b < 11 → a ≠ b → (TX0 a).2.1 ≠ (TX0 b).2.1 := by decide +kernel
theorem tyX0_ok : ∀ k, k < 11 → parseFieldDescriptor (TX0 k).2.2.1 = some (tyX0 k) := by decide +kernel
abbrev cX0_init : ByteArray := prog_2_method_1_code
def yX0_init : MethodName := ⟨RX0, "<init>", "(LHeaderSpaceNetwork$Net;)V"⟩
abbrev cX0_smallest : ByteArray := prog_2_method_2_code
def yX0_smallest : MethodName := ⟨RX0, "smallest", "(IJI)I"⟩
abbrev cX0_cutByOne : ByteArray := prog_2_method_3_code
def yX0_cutByOne : MethodName := ⟨RX0, "cutByOne", "(J)Z"⟩
abbrev cX0_cutByTwo : ByteArray := prog_2_method_4_code
def yX0_cutByTwo : MethodName := ⟨RX0, "cutByTwo", "()Z"⟩
abbrev cX0_cutByThree : ByteArray := prog_2_method_5_code
def yX0_cutByThree : MethodName := ⟨RX0, "cutByThree", "()Z"⟩
abbrev cX0_knownWay : ByteArray := prog_2_method_6_code
def yX0_knownWay : MethodName := ⟨RX0, "knownWay", "(II)J"⟩
abbrev cX0_isWorthTrying : ByteArray := prog_2_method_7_code
def yX0_isWorthTrying : MethodName := ⟨RX0, "isWorthTrying", "(III)Z"⟩
abbrev cX0_isOn : ByteArray := prog_2_method_8_code
def yX0_isOn : MethodName := ⟨RX0, "isOn", "(JI)Z"⟩
abbrev cX0_openWay : ByteArray := prog_2_method_9_code
def yX0_openWay : MethodName := ⟨RX0, "openWay", "(J)J"⟩
abbrev cX0_enqueue : ByteArray := prog_2_method_10_code
def yX0_enqueue : MethodName := ⟨RX0, "enqueue", "(IIJ)V"⟩
abbrev cX0_handlingSlot : ByteArray := prog_2_method_11_code
def yX0_handlingSlot : MethodName := ⟨RX0, "handlingSlot", "(IJ)I"⟩
abbrev cX0_reachesTarget : ByteArray := prog_2_method_12_code
def yX0_reachesTarget : MethodName := ⟨RX0, "reachesTarget", "(II)Z"⟩
def RX1 : String := "HeaderSpaceNetwork$Fates"
def TX1 : u_T := fun k => match k with
  | 0 => ("HeaderSpaceNetwork$Fates", "net", "LHeaderSpaceNetwork$Net;", true)
  | _ => ("HeaderSpaceNetwork$Fates", "found", "[J", true)
def tyX1 : Nat → FieldType := fun k => match k with
  | 0 => .object "HeaderSpaceNetwork$Net"
  | _ => .array .long
abbrev wsX10 : List Cond := u_ws RX1 TX1 2
theorem nmX1 : ∀ a, a < 2 → ∀ b, b < 2 → a ≠ b → (TX1 a).2.1 ≠ (TX1 b).2.1 := by decide +kernel
theorem tyX1_ok : ∀ k, k < 2 → parseFieldDescriptor (TX1 k).2.2.1 = some (tyX1 k) := by decide +kernel
abbrev cX1_init : ByteArray := prog_3_method_1_code
def yX1_init : MethodName := ⟨RX1, "<init>", "(LHeaderSpaceNetwork$Net;)V"⟩
abbrev cX1_find : ByteArray := prog_3_method_2_code
def yX1_find : MethodName := ⟨RX1, "find", "(I)V"⟩
abbrev cX1_growOnce : ByteArray := prog_3_method_3_code
def yX1_growOnce : MethodName := ⟨RX1, "growOnce", "(I)Z"⟩
abbrev cX1_ending : ByteArray := prog_3_method_4_code
def yX1_ending : MethodName := ⟨RX1, "ending", "(I)J"⟩
abbrev cX1_endingBehindAll : ByteArray := prog_3_method_5_code
def yX1_endingBehindAll : MethodName := ⟨RX1, "endingBehindAll", "(II)J"⟩
abbrev cX1_delivering : ByteArray := prog_3_method_6_code
def yX1_delivering : MethodName := ⟨RX1, "delivering", "(II)J"⟩
abbrev cX1_deliveredBehindOne : ByteArray := prog_3_method_7_code
def yX1_deliveredBehindOne : MethodName := ⟨RX1, "deliveredBehindOne", "(III)J"⟩
def RX2 : String := "HeaderSpaceNetwork$Flow"
def TX2 : u_T := fun k => match k with
  | 0 => ("HeaderSpaceNetwork$Flow", "net", "LHeaderSpaceNetwork$Net;", true)
  | 1 => ("HeaderSpaceNetwork$Flow", "arrived", "[J", true)
  | 2 => ("HeaderSpaceNetwork$Flow", "fresh", "[J", true)
  | _ => ("HeaderSpaceNetwork$Flow", "coming", "[J", true)
def tyX2 : Nat → FieldType := fun k => match k with
  | 0 => .object "HeaderSpaceNetwork$Net"
  | 1 => .array .long
  | 2 => .array .long
  | _ => .array .long
abbrev wsX20 : List Cond := u_ws RX2 TX2 4
theorem nmX2 : ∀ a, a < 4 → ∀ b, b < 4 → a ≠ b → (TX2 a).2.1 ≠ (TX2 b).2.1 := by decide +kernel
theorem tyX2_ok : ∀ k, k < 4 → parseFieldDescriptor (TX2 k).2.2.1 = some (tyX2 k) := by decide +kernel
abbrev cX2_init : ByteArray := prog_4_method_1_code
def yX2_init : MethodName := ⟨RX2, "<init>", "(LHeaderSpaceNetwork$Net;)V"⟩
abbrev cX2_spreadFrom : ByteArray := prog_4_method_2_code
def yX2_spreadFrom : MethodName := ⟨RX2, "spreadFrom", "(IJ)V"⟩
abbrev cX2_leastOrigin : ByteArray := prog_4_method_3_code
def yX2_leastOrigin : MethodName := ⟨RX2, "leastOrigin", "(IJII)I"⟩
abbrev cX2_leastLinks : ByteArray := prog_4_method_4_code
def yX2_leastLinks : MethodName := ⟨RX2, "leastLinks", "(III)I"⟩
abbrev cX2_countArrived : ByteArray := prog_4_method_5_code
def yX2_countArrived : MethodName := ⟨RX2, "countArrived", "(I)I"⟩
abbrev cX2_countLost : ByteArray := prog_4_method_6_code
def yX2_countLost : MethodName := ⟨RX2, "countLost", "(I)I"⟩
abbrev cX2_countDropped : ByteArray := prog_4_method_7_code
def yX2_countDropped : MethodName := ⟨RX2, "countDropped", "(I)I"⟩
abbrev cX2_countHandled : ByteArray := prog_4_method_8_code
def yX2_countHandled : MethodName := ⟨RX2, "countHandled", "(II)I"⟩
abbrev cX2_deliveredAt : ByteArray := prog_4_method_9_code
def yX2_deliveredAt : MethodName := ⟨RX2, "deliveredAt", "(II)J"⟩
abbrev cX2_allHandled : ByteArray := prog_4_method_10_code
def yX2_allHandled : MethodName := ⟨RX2, "allHandled", "(II)J"⟩
abbrev cX2_forget : ByteArray := prog_4_method_11_code
def yX2_forget : MethodName := ⟨RX2, "forget", "()V"⟩
abbrev cX2_enter : ByteArray := prog_4_method_12_code
def yX2_enter : MethodName := ⟨RX2, "enter", "(IJ)V"⟩
abbrev cX2_spread : ByteArray := prog_4_method_13_code
def yX2_spread : MethodName := ⟨RX2, "spread", "()V"⟩
abbrev cX2_goOneLink : ByteArray := prog_4_method_14_code
def yX2_goOneLink : MethodName := ⟨RX2, "goOneLink", "()Z"⟩
abbrev cX2_handle : ByteArray := prog_4_method_15_code
def yX2_handle : MethodName := ⟨RX2, "handle", "(IJ)V"⟩
abbrev cX2_sendOut : ByteArray := prog_4_method_16_code
def yX2_sendOut : MethodName := ⟨RX2, "sendOut", "(IIJ)V"⟩
def RX3 : String := "HeaderSpaceNetwork$History"
def TX3 : u_T := fun k => match k with
  | 0 => ("HeaderSpaceNetwork$History", "lists", "[LHeaderSpaceNetwork$RuleList;", true)
  | 1 => ("HeaderSpaceNetwork$History", "boxes", "[I", true)
  | 2 => ("HeaderSpaceNetwork$History", "size", "I", false)
  | _ => ("HeaderSpaceNetwork$History", "next", "I", false)
def tyX3 : Nat → FieldType := fun k => match k with
  | 0 => .array (.object "HeaderSpaceNetwork$RuleList")
  | 1 => .array .int
  | 2 => .int
  | _ => .int
abbrev wsX30 : List Cond := u_ws RX3 TX3 4
theorem nmX3 : ∀ a, a < 4 → ∀ b, b < 4 → a ≠ b → (TX3 a).2.1 ≠ (TX3 b).2.1 := by decide +kernel
theorem tyX3_ok : ∀ k, k < 4 → parseFieldDescriptor (TX3 k).2.2.1 = some (tyX3 k) := by decide +kernel
abbrev cX3_init : ByteArray := prog_5_method_1_code
def yX3_init : MethodName := ⟨RX3, "<init>", "()V"⟩
abbrev cX3_keep : ByteArray := prog_5_method_2_code
def yX3_keep : MethodName := ⟨RX3, "keep", "(ILHeaderSpaceNetwork$RuleList;)V"⟩
abbrev cX3_takeBack : ByteArray := prog_5_method_3_code
def yX3_takeBack : MethodName := ⟨RX3, "takeBack", "(LHeaderSpaceNetwork$Net;)V"⟩
def RX4 : String := "HeaderSpaceNetwork$Net"
def TX4 : u_T := fun k => match k with
  | 0 => ("HeaderSpaceNetwork$Net", "bits", "I", false)
  | 1 => ("HeaderSpaceNetwork$Net", "links", "I", false)
  | 2 => ("HeaderSpaceNetwork$Net", "far", "[I", true)
  | _ => ("HeaderSpaceNetwork$Net", "boxes", "[LHeaderSpaceNetwork$RuleList;", true)
def tyX4 : Nat → FieldType := fun k => match k with
  | 0 => .int
  | 1 => .int
  | 2 => .array .int
  | _ => .array (.object "HeaderSpaceNetwork$RuleList")
abbrev wsX40 : List Cond := u_ws RX4 TX4 4
theorem nmX4 : ∀ a, a < 4 → ∀ b, b < 4 → a ≠ b → (TX4 a).2.1 ≠ (TX4 b).2.1 := by decide +kernel
theorem tyX4_ok : ∀ k, k < 4 → parseFieldDescriptor (TX4 k).2.2.1 = some (tyX4 k) := by decide +kernel
abbrev cX4_init : ByteArray := prog_6_method_1_code
def yX4_init : MethodName := ⟨RX4, "<init>", "()V"⟩
abbrev cX4_startAnew : ByteArray := prog_6_method_2_code
def yX4_startAnew : MethodName := ⟨RX4, "startAnew", "(I)V"⟩
abbrev cX4_allHeaders : ByteArray := prog_6_method_3_code
def yX4_allHeaders : MethodName := ⟨RX4, "allHeaders", "()J"⟩
abbrev cX4_isHeader : ByteArray := prog_6_method_4_code
def yX4_isHeader : MethodName := ⟨RX4, "isHeader", "(I)Z"⟩
abbrev cX4_isCube : ByteArray := prog_6_method_5_code
def yX4_isCube : MethodName := ⟨RX4, "isCube", "(II)Z"⟩
abbrev cX4_countRules : ByteArray := prog_6_method_6_code
def yX4_countRules : MethodName := ⟨RX4, "countRules", "()I"⟩
def RX5 : String := "HeaderSpaceNetwork$Policy"
def TX5 : u_T := fun k => match k with
  | 0 => ("HeaderSpaceNetwork$Policy", "always", "Z", false)
  | 1 => ("HeaderSpaceNetwork$Policy", "from", "I", false)
  | 2 => ("HeaderSpaceNetwork$Policy", "target", "I", false)
  | _ => ("HeaderSpaceNetwork$Policy", "headers", "J", false)
def tyX5 : Nat → FieldType := fun k => match k with
  | 0 => .boolean
  | 1 => .int
  | 2 => .int
  | _ => .long
abbrev wsX50 : List Cond := u_ws RX5 TX5 4
theorem nmX5 : ∀ a, a < 4 → ∀ b, b < 4 → a ≠ b → (TX5 a).2.1 ≠ (TX5 b).2.1 := by decide +kernel
theorem tyX5_ok : ∀ k, k < 4 → parseFieldDescriptor (TX5 k).2.2.1 = some (tyX5 k) := by decide +kernel
abbrev cX5_init : ByteArray := prog_7_method_1_code
def yX5_init : MethodName := ⟨RX5, "<init>", "()V"⟩
def RX6 : String := "HeaderSpaceNetwork$Rule"
def TX6 : u_T := fun k => match k with
  | 0 => ("HeaderSpaceNetwork$Rule", "ports", "I", true)
  | 1 => ("HeaderSpaceNetwork$Rule", "care", "I", true)
  | 2 => ("HeaderSpaceNetwork$Rule", "value", "I", true)
  | 3 => ("HeaderSpaceNetwork$Rule", "outputs", "I", true)
  | 4 => ("HeaderSpaceNetwork$Rule", "change", "I", true)
  | 5 => ("HeaderSpaceNetwork$Rule", "to", "I", true)
  | 6 => ("HeaderSpaceNetwork$Rule", "on", "Z", true)
  | _ => ("HeaderSpaceNetwork$Rule", "headers", "J", true)
def tyX6 : Nat → FieldType := fun k => match k with
  | 0 => .int
  | 1 => .int
  | 2 => .int
  | 3 => .int
  | 4 => .int
  | 5 => .int
  | 6 => .boolean
  | _ => .long
abbrev wsX60 : List Cond := u_ws RX6 TX6 8
theorem nmX6 : ∀ a, a < 8 → ∀ b, b < 8 → a ≠ b → (TX6 a).2.1 ≠ (TX6 b).2.1 := by decide +kernel
theorem tyX6_ok : ∀ k, k < 8 → parseFieldDescriptor (TX6 k).2.2.1 = some (tyX6 k) := by decide +kernel
abbrev cX6_init : ByteArray := prog_8_method_1_code
def yX6_init : MethodName := ⟨RX6, "<init>", "(IIIIIIZ)V"⟩
abbrev cX6_withRewriting : ByteArray := prog_8_method_2_code
def yX6_withRewriting : MethodName := ⟨RX6, "withRewriting", "(II)LHeaderSpaceNetwork$Rule;"⟩
abbrev cX6_switched : ByteArray := prog_8_method_3_code
def yX6_switched : MethodName := ⟨RX6, "switched", "(Z)LHeaderSpaceNetwork$Rule;"⟩
abbrev cX6_taken : ByteArray := prog_8_method_4_code
def yX6_taken : MethodName := ⟨RX6, "taken", "(IJ)J"⟩
abbrev cX6_rewritten : ByteArray := prog_8_method_5_code
def yX6_rewritten : MethodName := ⟨RX6, "rewritten", "(I)I"⟩
abbrev cX6_rewrittenSet : ByteArray := prog_8_method_6_code
def yX6_rewrittenSet : MethodName := ⟨RX6, "rewrittenSet", "(J)J"⟩
abbrev cX6_leadingInto : ByteArray := prog_8_method_7_code
def yX6_leadingInto : MethodName := ⟨RX6, "leadingInto", "(J)J"⟩
abbrev cX6_lowestOutput : ByteArray := prog_8_method_8_code
def yX6_lowestOutput : MethodName := ⟨RX6, "lowestOutput", "()I"⟩
def RX7 : String := "HeaderSpaceNetwork$RuleList"
def TX7 : u_T := fun k => match k with
  | 0 => ("HeaderSpaceNetwork$RuleList", "rules", "[LHeaderSpaceNetwork$Rule;", true)
  | _ => ("HeaderSpaceNetwork$RuleList", "size", "I", false)
def tyX7 : Nat → FieldType := fun k => match k with
  | 0 => .array (.object "HeaderSpaceNetwork$Rule")
  | _ => .int
abbrev wsX70 : List Cond := u_ws RX7 TX7 2
theorem nmX7 : ∀ a, a < 2 → ∀ b, b < 2 → a ≠ b → (TX7 a).2.1 ≠ (TX7 b).2.1 := by decide +kernel
theorem tyX7_ok : ∀ k, k < 2 → parseFieldDescriptor (TX7 k).2.2.1 = some (tyX7 k) := by decide +kernel
abbrev cX7_init : ByteArray := prog_9_method_1_code
def yX7_init : MethodName := ⟨RX7, "<init>", "(LHeaderSpaceNetwork$Rule;)V"⟩
abbrev cX7_insertAt : ByteArray := prog_9_method_2_code
def yX7_insertAt : MethodName := ⟨RX7, "insertAt", "(ILHeaderSpaceNetwork$Rule;)V"⟩
abbrev cX7_removeAt : ByteArray := prog_9_method_3_code
def yX7_removeAt : MethodName := ⟨RX7, "removeAt", "(I)V"⟩
abbrev cX7_copyFrom : ByteArray := prog_9_method_4_code
def yX7_copyFrom : MethodName := ⟨RX7, "copyFrom", "(LHeaderSpaceNetwork$RuleList;)V"⟩
abbrev cX7_leftFor : ByteArray := prog_9_method_5_code
def yX7_leftFor : MethodName := ⟨RX7, "leftFor", "(IIJ)J"⟩
abbrev cX7_handled : ByteArray := prog_9_method_6_code
def yX7_handled : MethodName := ⟨RX7, "handled", "(IIJ)J"⟩
abbrev cX7_handler : ByteArray := prog_9_method_7_code
def yX7_handler : MethodName := ⟨RX7, "handler", "(III)I"⟩
abbrev cX7_hiddenRules : ByteArray := prog_9_method_8_code
def yX7_hiddenRules : MethodName := ⟨RX7, "hiddenRules", "()I"⟩
abbrev cX7_isHidden : ByteArray := prog_9_method_9_code
def yX7_isHidden : MethodName := ⟨RX7, "isHidden", "(I)Z"⟩
def RX8 : String := "HeaderSpaceNetwork$RuleWriter"
def TX8 : u_T := fun k => match k with
  | 0 => ("HeaderSpaceNetwork$RuleWriter", "characters", "[C", true)
  | _ => ("HeaderSpaceNetwork$RuleWriter", "length", "I", false)
def tyX8 : Nat → FieldType := fun k => match k with
  | 0 => .array .char
  | _ => .int
abbrev wsX80 : List Cond := u_ws RX8 TX8 2
theorem nmX8 : ∀ a, a < 2 → ∀ b, b < 2 → a ≠ b → (TX8 a).2.1 ≠ (TX8 b).2.1 := by decide +kernel
theorem tyX8_ok : ∀ k, k < 2 → parseFieldDescriptor (TX8 k).2.2.1 = some (tyX8 k) := by decide +kernel
abbrev cX8_init : ByteArray := prog_10_method_1_code
def yX8_init : MethodName := ⟨RX8, "<init>", "()V"⟩
abbrev cX8_write : ByteArray := prog_10_method_2_code
def yX8_write : MethodName := ⟨RX8, "write", "(LHeaderSpaceNetwork$Rule;I)V"⟩
abbrev cX8_put : ByteArray := prog_10_method_3_code
def yX8_put : MethodName := ⟨RX8, "put", "(C)V"⟩
abbrev cX8_putDigits : ByteArray := prog_10_method_4_code
def yX8_putDigits : MethodName := ⟨RX8, "putDigits", "(I)V"⟩
abbrev cX8_putPattern : ByteArray := prog_10_method_5_code
def yX8_putPattern : MethodName := ⟨RX8, "putPattern", "(III)V"⟩
def RX9 : String := "HeaderSpaceNetwork$Text"
def TX9 : u_T := fun k => match k with
  | 0 => ("HeaderSpaceNetwork$Text", "characters", "[C", true)
  | 1 => ("HeaderSpaceNetwork$Text", "length", "I", false)
  | 2 => ("HeaderSpaceNetwork$Text", "at", "I", false)
  | 3 => ("HeaderSpaceNetwork$Text", "ports", "I", false)
  | 4 => ("HeaderSpaceNetwork$Text", "outputs", "I", false)
  | 5 => ("HeaderSpaceNetwork$Text", "care", "I", false)
  | 6 => ("HeaderSpaceNetwork$Text", "value", "I", false)
  | 7 => ("HeaderSpaceNetwork$Text", "change", "I", false)
  | _ => ("HeaderSpaceNetwork$Text", "to", "I", false)
def tyX9 : Nat → FieldType := fun k => match k with
  | 0 => .array .char
  | 1 => .int
  | 2 => .int
  | 3 => .int
  | 4 => .int
  | 5 => .int
  | 6 => .int
  | 7 => .int
  | _ => .int
abbrev wsX90 : List Cond := u_ws RX9 TX9 9
theorem nmX9 : ∀ a, a < 9 → ∀ b, b < 9 → a ≠ b → (TX9 a).2.1 ≠ (TX9 b).2.1 := by decide +kernel
theorem tyX9_ok : ∀ k, k < 9 → parseFieldDescriptor (TX9 k).2.2.1 = some (tyX9 k) := by decide +kernel
abbrev cX9_init : ByteArray := prog_11_method_1_code
def yX9_init : MethodName := ⟨RX9, "<init>", "()V"⟩
abbrev cX9_isRule : ByteArray := prog_11_method_2_code
def yX9_isRule : MethodName := ⟨RX9, "isRule", "(I)Z"⟩
abbrev cX9_readOne : ByteArray := prog_11_method_3_code
def yX9_readOne : MethodName := ⟨RX9, "readOne", "()LHeaderSpaceNetwork$Rule;"⟩
abbrev cX9_accepts : ByteArray := prog_11_method_4_code
def yX9_accepts : MethodName := ⟨RX9, "accepts", "(C)Z"⟩
abbrev cX9_readsPorts : ByteArray := prog_11_method_5_code
def yX9_readsPorts : MethodName := ⟨RX9, "readsPorts", "()Z"⟩
abbrev cX9_readsOutputs : ByteArray := prog_11_method_6_code
def yX9_readsOutputs : MethodName := ⟨RX9, "readsOutputs", "()Z"⟩
abbrev cX9_readDigits : ByteArray := prog_11_method_7_code
def yX9_readDigits : MethodName := ⟨RX9, "readDigits", "()I"⟩
abbrev cX9_readsRewriting : ByteArray := prog_11_method_8_code
def yX9_readsRewriting : MethodName := ⟨RX9, "readsRewriting", "(I)Z"⟩
abbrev cX9_readsPattern : ByteArray := prog_11_method_9_code
def yX9_readsPattern : MethodName := ⟨RX9, "readsPattern", "(I)Z"⟩
def RX10 : String := "HeaderSpaceNetwork$Walk"
def TX10 : u_T := fun k => match k with
  | 0 => ("HeaderSpaceNetwork$Walk", "net", "LHeaderSpaceNetwork$Net;", true)
  | 1 => ("HeaderSpaceNetwork$Walk", "seen", "[J", true)
  | 2 => ("HeaderSpaceNetwork$Walk", "place", "I", false)
  | 3 => ("HeaderSpaceNetwork$Walk", "header", "I", false)
  | _ => ("HeaderSpaceNetwork$Walk", "end", "I", false)
def tyX10 : Nat → FieldType := fun k => match k with
  | 0 => .object "HeaderSpaceNetwork$Net"
  | 1 => .array .long
  | 2 => .int
  | 3 => .int
  | _ => .int
abbrev wsX100 : List Cond := u_ws RX10 TX10 5
theorem nmX10 : ∀ a, a < 5 → ∀ b, b < 5 → a ≠ b → (TX10 a).2.1 ≠ (TX10 b).2.1 := by decide +kernel
theorem tyX10_ok : ∀ k, k < 5 → parseFieldDescriptor (TX10 k).2.2.1 = some (tyX10 k) := by decide +kernel
abbrev cX10_init : ByteArray := prog_12_method_1_code
def yX10_init : MethodName := ⟨RX10, "<init>", "(LHeaderSpaceNetwork$Net;)V"⟩
abbrev cX10_go : ByteArray := prog_12_method_2_code
def yX10_go : MethodName := ⟨RX10, "go", "(III)I"⟩
abbrev cX10_goOnce : ByteArray := prog_12_method_3_code
def yX10_goOnce : MethodName := ⟨RX10, "goOnce", "()V"⟩
def RX11 : String := "HeaderSpaceNetwork"
def TX11 : u_T := fun k => match k with
  | 0 => ("HeaderSpaceNetwork", "net", "LHeaderSpaceNetwork$Net;", true)
  | 1 => ("HeaderSpaceNetwork", "history", "LHeaderSpaceNetwork$History;", true)
  | 2 => ("HeaderSpaceNetwork", "flow", "LHeaderSpaceNetwork$Flow;", true)
  | 3 => ("HeaderSpaceNetwork", "fates", "LHeaderSpaceNetwork$Fates;", true)
  | 4 => ("HeaderSpaceNetwork", "walk", "LHeaderSpaceNetwork$Walk;", true)
  | 5 => ("HeaderSpaceNetwork", "cuts", "LHeaderSpaceNetwork$Cuts;", true)
  | 6 => ("HeaderSpaceNetwork", "text", "LHeaderSpaceNetwork$Text;", true)
  | 7 => ("HeaderSpaceNetwork", "writer", "LHeaderSpaceNetwork$RuleWriter;", true)
  | 8 => ("HeaderSpaceNetwork", "policies", "[LHeaderSpaceNetwork$Policy;", true)
  | 9 => ("HeaderSpaceNetwork", "policyCount", "I", false)
  | 10 => ("HeaderSpaceNetwork", "entry", "I", false)
  | _ => ("HeaderSpaceNetwork", "entering", "J", false)
def tyX11 : Nat → FieldType := fun k => match k with
  | 0 => .object "HeaderSpaceNetwork$Net"
  | 1 => .object "HeaderSpaceNetwork$History"
  | 2 => .object "HeaderSpaceNetwork$Flow"
  | 3 => .object "HeaderSpaceNetwork$Fates"
  | 4 => .object "HeaderSpaceNetwork$Walk"
  | 5 => .object "HeaderSpaceNetwork$Cuts"
  | 6 => .object "HeaderSpaceNetwork$Text"
  | 7 => .object "HeaderSpaceNetwork$RuleWriter"
  | 8 => .array (.object "HeaderSpaceNetwork$Policy")
  | 9 => .int
  | 10 => .int
  | _ => .long
abbrev wsX110 : List Cond := u_ws RX11 TX11 12
theorem nmX11 : ∀ a, a < 12 → ∀ b, b < 12 → a ≠ b → (TX11 a).2.1 ≠ (TX11 b).2.1 := by decide +kernel
theorem tyX11_ok : ∀ k, k < 12 → parseFieldDescriptor (TX11 k).2.2.1 = some (tyX11 k) := by decide +kernel
abbrev cX11_init : ByteArray := prog_1_method_1_code
def yX11_init : MethodName := ⟨RX11, "<init>", "()V"⟩
abbrev cX11_reset : ByteArray := prog_1_method_2_code
def yX11_reset : MethodName := ⟨RX11, "reset", "(I)I"⟩
abbrev cX11_connect : ByteArray := prog_1_method_3_code
def yX11_connect : MethodName := ⟨RX11, "connect", "(IIII)I"⟩
abbrev cX11_disconnect : ByteArray := prog_1_method_4_code
def yX11_disconnect : MethodName := ⟨RX11, "disconnect", "(II)I"⟩
abbrev cX11_other : ByteArray := prog_1_method_5_code
def yX11_other : MethodName := ⟨RX11, "other", "(II)I"⟩
abbrev cX11_insertDrop : ByteArray := prog_1_method_6_code
def yX11_insertDrop : MethodName := ⟨RX11, "insertDrop", "(IIIII)I"⟩
abbrev cX11_insertForward : ByteArray := prog_1_method_7_code
def yX11_insertForward : MethodName := ⟨RX11, "insertForward", "(IIIIII)I"⟩
abbrev cX11_setRewriting : ByteArray := prog_1_method_8_code
def yX11_setRewriting : MethodName := ⟨RX11, "setRewriting", "(IIII)I"⟩
abbrev cX11_removeRule : ByteArray := prog_1_method_9_code
def yX11_removeRule : MethodName := ⟨RX11, "removeRule", "(II)I"⟩
abbrev cX11_moveRule : ByteArray := prog_1_method_10_code
def yX11_moveRule : MethodName := ⟨RX11, "moveRule", "(III)I"⟩
abbrev cX11_switchRule : ByteArray := prog_1_method_11_code
def yX11_switchRule : MethodName := ⟨RX11, "switchRule", "(IIZ)I"⟩
abbrev cX11_undo : ByteArray := prog_1_method_12_code
def yX11_undo : MethodName := ⟨RX11, "undo", "()I"⟩
abbrev cX11_rule : ByteArray := prog_1_method_13_code
def yX11_rule : MethodName := ⟨RX11, "rule", "(III)I"⟩
abbrev cX11_count : ByteArray := prog_1_method_14_code
def yX11_count : MethodName := ⟨RX11, "count", "(I)I"⟩
abbrev cX11_shadowed : ByteArray := prog_1_method_15_code
def yX11_shadowed : MethodName := ⟨RX11, "shadowed", "(I)I"⟩
abbrev cX11_inject : ByteArray := prog_1_method_16_code
def yX11_inject : MethodName := ⟨RX11, "inject", "(IIII)I"⟩
abbrev cX11_arriving : ByteArray := prog_1_method_17_code
def yX11_arriving : MethodName := ⟨RX11, "arriving", "(II)J"⟩
abbrev cX11_delivered : ByteArray := prog_1_method_18_code
def yX11_delivered : MethodName := ⟨RX11, "delivered", "(II)J"⟩
abbrev cX11_arrivals : ByteArray := prog_1_method_19_code
def yX11_arrivals : MethodName := ⟨RX11, "arrivals", "(II)I"⟩
abbrev cX11_hits : ByteArray := prog_1_method_20_code
def yX11_hits : MethodName := ⟨RX11, "hits", "(II)I"⟩
abbrev cX11_cube : ByteArray := prog_1_method_21_code
def yX11_cube : MethodName := ⟨RX11, "cube", "(IIII)I"⟩
abbrev cX11_origin : ByteArray := prog_1_method_22_code
def yX11_origin : MethodName := ⟨RX11, "origin", "(III)I"⟩
abbrev cX11_distance : ByteArray := prog_1_method_23_code
def yX11_distance : MethodName := ⟨RX11, "distance", "(III)I"⟩
abbrev cX11_trace : ByteArray := prog_1_method_24_code
def yX11_trace : MethodName := ⟨RX11, "trace", "(II)I"⟩
abbrev cX11_traceEnd : ByteArray := prog_1_method_25_code
def yX11_traceEnd : MethodName := ⟨RX11, "traceEnd", "(I)I"⟩
abbrev cX11_loops : ByteArray := prog_1_method_26_code
def yX11_loops : MethodName := ⟨RX11, "loops", "()J"⟩
abbrev cX11_cutSize : ByteArray := prog_1_method_27_code
def yX11_cutSize : MethodName := ⟨RX11, "cutSize", "(II)I"⟩
abbrev cX11_cutRule : ByteArray := prog_1_method_28_code
def yX11_cutRule : MethodName := ⟨RX11, "cutRule", "(III)I"⟩
abbrev cX11_addPolicy : ByteArray := prog_1_method_29_code
def yX11_addPolicy : MethodName := ⟨RX11, "addPolicy", "(ZIIII)I"⟩
abbrev cX11_setPolicyCube : ByteArray := prog_1_method_30_code
def yX11_setPolicyCube : MethodName := ⟨RX11, "setPolicyCube", "(III)I"⟩
abbrev cX11_counterexamples : ByteArray := prog_1_method_31_code
def yX11_counterexamples : MethodName := ⟨RX11, "counterexamples", "(I)J"⟩
abbrev cX11_violated : ByteArray := prog_1_method_32_code
def yX11_violated : MethodName := ⟨RX11, "violated", "()I"⟩
abbrev cX11_clearPolicies : ByteArray := prog_1_method_33_code
def yX11_clearPolicies : MethodName := ⟨RX11, "clearPolicies", "()I"⟩
abbrev cX11_type : ByteArray := prog_1_method_34_code
def yX11_type : MethodName := ⟨RX11, "type", "(C)I"⟩
abbrev cX11_clearText : ByteArray := prog_1_method_35_code
def yX11_clearText : MethodName := ⟨RX11, "clearText", "()I"⟩
abbrev cX11_readRule : ByteArray := prog_1_method_36_code
def yX11_readRule : MethodName := ⟨RX11, "readRule", "(I)I"⟩
abbrev cX11_ruleText : ByteArray := prog_1_method_37_code
def yX11_ruleText : MethodName := ⟨RX11, "ruleText", "(III)I"⟩
abbrev cX11_isBox : ByteArray := prog_1_method_38_code
def yX11_isBox : MethodName := ⟨RX11, "isBox", "(I)Z"⟩
abbrev cX11_isPlace : ByteArray := prog_1_method_39_code
def yX11_isPlace : MethodName := ⟨RX11, "isPlace", "(II)Z"⟩
abbrev cX11_placeOf : ByteArray := prog_1_method_40_code
def yX11_placeOf : MethodName := ⟨RX11, "placeOf", "(II)I"⟩
abbrev cX11_isPortSet : ByteArray := prog_1_method_41_code
def yX11_isPortSet : MethodName := ⟨RX11, "isPortSet", "(I)Z"⟩
abbrev cX11_hasPort : ByteArray := prog_1_method_42_code
def yX11_hasPort : MethodName := ⟨RX11, "hasPort", "(II)Z"⟩
abbrev cX11_hasHeader : ByteArray := prog_1_method_43_code
def yX11_hasHeader : MethodName := ⟨RX11, "hasHeader", "(JI)Z"⟩
abbrev cX11_cubeHeaders : ByteArray := prog_1_method_44_code
def yX11_cubeHeaders : MethodName := ⟨RX11, "cubeHeaders", "(II)J"⟩
abbrev cX11_isPolicy : ByteArray := prog_1_method_45_code
def yX11_isPolicy : MethodName := ⟨RX11, "isPolicy", "(I)Z"⟩
abbrev cX11_isInjected : ByteArray := prog_1_method_46_code
def yX11_isInjected : MethodName := ⟨RX11, "isInjected", "(I)Z"⟩
abbrev cX11_ruleError : ByteArray := prog_1_method_47_code
def yX11_ruleError : MethodName := ⟨RX11, "ruleError", "(II)I"⟩
abbrev cX11_isInsertable : ByteArray := prog_1_method_48_code
def yX11_isInsertable : MethodName := ⟨RX11, "isInsertable", "(IIIII)Z"⟩
abbrev cX11_insertRule : ByteArray := prog_1_method_49_code
def yX11_insertRule : MethodName := ⟨RX11, "insertRule", "(IILHeaderSpaceNetwork$Rule;)I"⟩
abbrev cX11_replaceRule : ByteArray := prog_1_method_50_code
def yX11_replaceRule : MethodName := ⟨RX11, "replaceRule", "(IILHeaderSpaceNetwork$Rule;)V"⟩
abbrev cX11_widestCare : ByteArray := prog_1_method_51_code
def yX11_widestCare : MethodName := ⟨RX11, "widestCare", "(IJ)I"⟩
abbrev cX11_against : ByteArray := prog_1_method_52_code
def yX11_against : MethodName := ⟨RX11, "against", "(LHeaderSpaceNetwork$Policy;)J"⟩
def RX12 : String := "HeaderSpaceNetworkModel"
def TX12 : u_T := fun k => match k with
  | 0 => ("HeaderSpaceNetworkModel", "bits", "I", false)
  | 1 => ("HeaderSpaceNetworkModel", "linked", "[I", true)
  | 2 => ("HeaderSpaceNetworkModel", "links", "I", false)
  | 3 => ("HeaderSpaceNetworkModel", "now", "[I", true)
  | 4 => ("HeaderSpaceNetworkModel", "injectedAt", "I", false)
  | 5 => ("HeaderSpaceNetworkModel", "injectedCare", "I", false)
  | 6 => ("HeaderSpaceNetworkModel", "injectedValue", "I", false)
  | 7 => ("HeaderSpaceNetworkModel", "kept", "I", false)
  | 8 => ("HeaderSpaceNetworkModel", "keptRow", "[I", true)
  | 9 => ("HeaderSpaceNetworkModel", "moved", "[I", true)
  | 10 => ("HeaderSpaceNetworkModel", "arrived", "[J", true)
  | 11 => ("HeaderSpaceNetworkModel", "gone", "[J", true)
  | 12 => ("HeaderSpaceNetworkModel", "delivered", "[J", true)
  | 13 => ("HeaderSpaceNetworkModel", "wave", "[J", true)
  | 14 => ("HeaderSpaceNetworkModel", "way", "[I", true)
  | 15 => ("HeaderSpaceNetworkModel", "ways", "I", false)
  | 16 => ("HeaderSpaceNetworkModel", "ended", "I", false)
  | 17 => ("HeaderSpaceNetworkModel", "safe", "[J", true)
  | 18 => ("HeaderSpaceNetworkModel", "cut", "[I", true)
  | 19 => ("HeaderSpaceNetworkModel", "policies", "I", false)
  | 20 => ("HeaderSpaceNetworkModel", "isAlways", "[Z", true)
  | 21 => ("HeaderSpaceNetworkModel", "policyFrom", "[I", true)
  | 22 => ("HeaderSpaceNetworkModel", "policyTo", "[I", true)
  | 23 => ("HeaderSpaceNetworkModel", "policyCare", "[I", true)
  | 24 => ("HeaderSpaceNetworkModel", "policyValue", "[I", true)
  | 25 => ("HeaderSpaceNetworkModel", "typed", "I", false)
  | 26 => ("HeaderSpaceNetworkModel", "text", "[C", true)
  | 27 => ("HeaderSpaceNetworkModel", "place", "I", false)
  | 28 => ("HeaderSpaceNetworkModel", "isGood", "Z", false)
  | 29 => ("HeaderSpaceNetworkModel", "readCare", "I", false)
  | 30 => ("HeaderSpaceNetworkModel", "readValue", "I", false)
  | 31 => ("HeaderSpaceNetworkModel", "written", "I", false)
  | _ => ("HeaderSpaceNetworkModel", "line", "[I", true)
def tyX12 : Nat → FieldType := fun k => match k with
  | 0 => .int
  | 1 => .array .int
  | 2 => .int
  | 3 => .array .int
  | 4 => .int
  | 5 => .int
  | 6 => .int
  | 7 => .int
  | 8 => .array .int
  | 9 => .array .int
  | 10 => .array .long
  | 11 => .array .long
  | 12 => .array .long
  | 13 => .array .long
  | 14 => .array .int
  | 15 => .int
  | 16 => .int
  | 17 => .array .long
  | 18 => .array .int
  | 19 => .int
  | 20 => .array .boolean
  | 21 => .array .int
  | 22 => .array .int
  | 23 => .array .int
  | 24 => .array .int
  | 25 => .int
  | 26 => .array .char
  | 27 => .int
  | 28 => .boolean
  | 29 => .int
  | 30 => .int
  | 31 => .int
  | _ => .array .int
abbrev wsX120 : List Cond := u_ws RX12 TX12 33
theorem nmX12 : ∀ a, a < 33 → ∀ b, b < 33 → a ≠ b → (TX12 a).2.1 ≠ (TX12 b).2.1 := by decide +kernel
theorem tyX12_ok : ∀ k, k < 33 → parseFieldDescriptor (TX12 k).2.2.1 = some (tyX12 k) := by decide +kernel
abbrev cX12_init : ByteArray := prog_14_method_1_code
def yX12_init : MethodName := ⟨RX12, "<init>", "()V"⟩
abbrev cX12_in : ByteArray := prog_14_method_2_code
def yX12_in : MethodName := ⟨RX12, "in", "(III)Z"⟩
abbrev cX12_lost : ByteArray := prog_14_method_3_code
def yX12_lost : MethodName := ⟨RX12, "lost", "()J"⟩
abbrev cX12_begin : ByteArray := prog_14_method_4_code
def yX12_begin : MethodName := ⟨RX12, "begin", "()V"⟩
abbrev cX12_reset : ByteArray := prog_14_method_5_code
def yX12_reset : MethodName := ⟨RX12, "reset", "(I)I"⟩
abbrev cX12_headers : ByteArray := prog_14_method_6_code
def yX12_headers : MethodName := ⟨RX12, "headers", "()I"⟩
abbrev cX12_noHeader : ByteArray := prog_14_method_7_code
def yX12_noHeader : MethodName := ⟨RX12, "noHeader", "(I)Z"⟩
abbrev cX12_noBox : ByteArray := prog_14_method_8_code
def yX12_noBox : MethodName := ⟨RX12, "noBox", "(I)Z"⟩
abbrev cX12_noPlace : ByteArray := prog_14_method_9_code
def yX12_noPlace : MethodName := ⟨RX12, "noPlace", "(II)Z"⟩
abbrev cX12_connect : ByteArray := prog_14_method_10_code
def yX12_connect : MethodName := ⟨RX12, "connect", "(IIII)I"⟩
abbrev cX12_disconnect : ByteArray := prog_14_method_11_code
def yX12_disconnect : MethodName := ⟨RX12, "disconnect", "(II)I"⟩
abbrev cX12_other : ByteArray := prog_14_method_12_code
def yX12_other : MethodName := ⟨RX12, "other", "(II)I"⟩
abbrev cX12_many : ByteArray := prog_14_method_13_code
def yX12_many : MethodName := ⟨RX12, "many", "(I)I"⟩
abbrev cX12_of : ByteArray := prog_14_method_14_code
def yX12_of : MethodName := ⟨RX12, "of", "(III)I"⟩
abbrev cX12_put : ByteArray := prog_14_method_15_code
def yX12_put : MethodName := ⟨RX12, "put", "(IIII)V"⟩
abbrev cX12_noRule : ByteArray := prog_14_method_16_code
def yX12_noRule : MethodName := ⟨RX12, "noRule", "(II)Z"⟩
abbrev cX12_keep : ByteArray := prog_14_method_17_code
def yX12_keep : MethodName := ⟨RX12, "keep", "()V"⟩
abbrev cX12_undo : ByteArray := prog_14_method_18_code
def yX12_undo : MethodName := ⟨RX12, "undo", "()I"⟩
abbrev cX12_open : ByteArray := prog_14_method_19_code
def yX12_open : MethodName := ⟨RX12, "open", "(II)V"⟩
abbrev cX12_close : ByteArray := prog_14_method_20_code
def yX12_close : MethodName := ⟨RX12, "close", "(II)V"⟩
abbrev cX12_insert : ByteArray := prog_14_method_21_code
def yX12_insert : MethodName := ⟨RX12, "insert", "(IIIIII)I"⟩
abbrev cX12_insertDrop : ByteArray := prog_14_method_22_code
def yX12_insertDrop : MethodName := ⟨RX12, "insertDrop", "(IIIII)I"⟩
abbrev cX12_insertForward : ByteArray := prog_14_method_23_code
def yX12_insertForward : MethodName := ⟨RX12, "insertForward", "(IIIIII)I"⟩
abbrev cX12_ruleBarred : ByteArray := prog_14_method_24_code
def yX12_ruleBarred : MethodName := ⟨RX12, "ruleBarred", "(II)I"⟩
abbrev cX12_setRewriting : ByteArray := prog_14_method_25_code
def yX12_setRewriting : MethodName := ⟨RX12, "setRewriting", "(IIII)I"⟩
abbrev cX12_removeRule : ByteArray := prog_14_method_26_code
def yX12_removeRule : MethodName := ⟨RX12, "removeRule", "(II)I"⟩
abbrev cX12_moveRule : ByteArray := prog_14_method_27_code
def yX12_moveRule : MethodName := ⟨RX12, "moveRule", "(III)I"⟩
abbrev cX12_switchRule : ByteArray := prog_14_method_28_code
def yX12_switchRule : MethodName := ⟨RX12, "switchRule", "(IIZ)I"⟩
abbrev cX12_rule : ByteArray := prog_14_method_29_code
def yX12_rule : MethodName := ⟨RX12, "rule", "(III)I"⟩
abbrev cX12_count : ByteArray := prog_14_method_30_code
def yX12_count : MethodName := ⟨RX12, "count", "(I)I"⟩
abbrev cX12_matches : ByteArray := prog_14_method_31_code
def yX12_matches : MethodName := ⟨RX12, "matches", "(IIII)Z"⟩
abbrev cX12_handler : ByteArray := prog_14_method_32_code
def yX12_handler : MethodName := ⟨RX12, "handler", "(III)I"⟩
abbrev cX12_shadowed : ByteArray := prog_14_method_33_code
def yX12_shadowed : MethodName := ⟨RX12, "shadowed", "(I)I"⟩
abbrev cX12_injected : ByteArray := prog_14_method_34_code
def yX12_injected : MethodName := ⟨RX12, "injected", "()J"⟩
abbrev cX12_isInjected : ByteArray := prog_14_method_35_code
def yX12_isInjected : MethodName := ⟨RX12, "isInjected", "(I)Z"⟩
abbrev cX12_rewritten : ByteArray := prog_14_method_36_code
def yX12_rewritten : MethodName := ⟨RX12, "rewritten", "(III)I"⟩
abbrev cX12_goOn : ByteArray := prog_14_method_37_code
def yX12_goOn : MethodName := ⟨RX12, "goOn", "(II)V"⟩
abbrev cX12_spread : ByteArray := prog_14_method_38_code
def yX12_spread : MethodName := ⟨RX12, "spread", "(IJ)V"⟩
abbrev cX12_spreadAll : ByteArray := prog_14_method_39_code
def yX12_spreadAll : MethodName := ⟨RX12, "spreadAll", "()V"⟩
abbrev cX12_inject : ByteArray := prog_14_method_40_code
def yX12_inject : MethodName := ⟨RX12, "inject", "(IIII)I"⟩
abbrev cX12_size : ByteArray := prog_14_method_41_code
def yX12_size : MethodName := ⟨RX12, "size", "(J)I"⟩
abbrev cX12_arriving : ByteArray := prog_14_method_42_code
def yX12_arriving : MethodName := ⟨RX12, "arriving", "(II)J"⟩
abbrev cX12_delivered : ByteArray := prog_14_method_43_code
def yX12_delivered : MethodName := ⟨RX12, "delivered", "(II)J"⟩
abbrev cX12_handledBy : ByteArray := prog_14_method_44_code
def yX12_handledBy : MethodName := ⟨RX12, "handledBy", "(II)I"⟩
abbrev cX12_arrivals : ByteArray := prog_14_method_45_code
def yX12_arrivals : MethodName := ⟨RX12, "arrivals", "(II)I"⟩
abbrev cX12_hits : ByteArray := prog_14_method_46_code
def yX12_hits : MethodName := ⟨RX12, "hits", "(II)I"⟩
abbrev cX12_cubeOf : ByteArray := prog_14_method_47_code
def yX12_cubeOf : MethodName := ⟨RX12, "cubeOf", "(II)J"⟩
abbrev cX12_cube : ByteArray := prog_14_method_48_code
def yX12_cube : MethodName := ⟨RX12, "cube", "(IIII)I"⟩
abbrev cX12_origin : ByteArray := prog_14_method_49_code
def yX12_origin : MethodName := ⟨RX12, "origin", "(III)I"⟩
abbrev cX12_distance : ByteArray := prog_14_method_50_code
def yX12_distance : MethodName := ⟨RX12, "distance", "(III)I"⟩
abbrev cX12_wasThere : ByteArray := prog_14_method_51_code
def yX12_wasThere : MethodName := ⟨RX12, "wasThere", "(I)Z"⟩
abbrev cX12_follow : ByteArray := prog_14_method_52_code
def yX12_follow : MethodName := ⟨RX12, "follow", "(I)V"⟩
abbrev cX12_trace : ByteArray := prog_14_method_53_code
def yX12_trace : MethodName := ⟨RX12, "trace", "(II)I"⟩
abbrev cX12_traceEnd : ByteArray := prog_14_method_54_code
def yX12_traceEnd : MethodName := ⟨RX12, "traceEnd", "(I)I"⟩
abbrev cX12_isSafe : ByteArray := prog_14_method_55_code
def yX12_isSafe : MethodName := ⟨RX12, "isSafe", "(II)Z"⟩
abbrev cX12_loops : ByteArray := prog_14_method_56_code
def yX12_loops : MethodName := ⟨RX12, "loops", "()J"⟩
abbrev cX12_isOn : ByteArray := prog_14_method_57_code
def yX12_isOn : MethodName := ⟨RX12, "isOn", "(I)Z"⟩
abbrev cX12_turn : ByteArray := prog_14_method_58_code
def yX12_turn : MethodName := ⟨RX12, "turn", "(II)V"⟩
abbrev cX12_isStopped : ByteArray := prog_14_method_59_code
def yX12_isStopped : MethodName := ⟨RX12, "isStopped", "(I)Z"⟩
abbrev cX12_findCut : ByteArray := prog_14_method_60_code
def yX12_findCut : MethodName := ⟨RX12, "findCut", "(II)Z"⟩
abbrev cX12_findSize : ByteArray := prog_14_method_61_code
def yX12_findSize : MethodName := ⟨RX12, "findSize", "(I)I"⟩
abbrev cX12_cutSize : ByteArray := prog_14_method_62_code
def yX12_cutSize : MethodName := ⟨RX12, "cutSize", "(II)I"⟩
abbrev cX12_cutRule : ByteArray := prog_14_method_63_code
def yX12_cutRule : MethodName := ⟨RX12, "cutRule", "(III)I"⟩
abbrev cX12_addPolicy : ByteArray := prog_14_method_64_code
def yX12_addPolicy : MethodName := ⟨RX12, "addPolicy", "(ZIIII)I"⟩
abbrev cX12_noPolicy : ByteArray := prog_14_method_65_code
def yX12_noPolicy : MethodName := ⟨RX12, "noPolicy", "(I)Z"⟩
abbrev cX12_setPolicyCube : ByteArray := prog_14_method_66_code
def yX12_setPolicyCube : MethodName := ⟨RX12, "setPolicyCube", "(III)I"⟩
abbrev cX12_against : ByteArray := prog_14_method_67_code
def yX12_against : MethodName := ⟨RX12, "against", "(I)J"⟩
abbrev cX12_counterexamples : ByteArray := prog_14_method_68_code
def yX12_counterexamples : MethodName := ⟨RX12, "counterexamples", "(I)J"⟩
abbrev cX12_violated : ByteArray := prog_14_method_69_code
def yX12_violated : MethodName := ⟨RX12, "violated", "()I"⟩
abbrev cX12_clearPolicies : ByteArray := prog_14_method_70_code
def yX12_clearPolicies : MethodName := ⟨RX12, "clearPolicies", "()I"⟩
abbrev cX12_type : ByteArray := prog_14_method_71_code
def yX12_type : MethodName := ⟨RX12, "type", "(C)I"⟩
abbrev cX12_clearText : ByteArray := prog_14_method_72_code
def yX12_clearText : MethodName := ⟨RX12, "clearText", "()I"⟩
abbrev cX12_isAt : ByteArray := prog_14_method_73_code
def yX12_isAt : MethodName := ⟨RX12, "isAt", "(C)Z"⟩
abbrev cX12_expect : ByteArray := prog_14_method_74_code
def yX12_expect : MethodName := ⟨RX12, "expect", "(C)V"⟩
abbrev cX12_readPorts : ByteArray := prog_14_method_75_code
def yX12_readPorts : MethodName := ⟨RX12, "readPorts", "()I"⟩
abbrev cX12_readPattern : ByteArray := prog_14_method_76_code
def yX12_readPattern : MethodName := ⟨RX12, "readPattern", "()V"⟩
abbrev cX12_readRule : ByteArray := prog_14_method_77_code
def yX12_readRule : MethodName := ⟨RX12, "readRule", "(I)I"⟩
abbrev cX12_write : ByteArray := prog_14_method_78_code
def yX12_write : MethodName := ⟨RX12, "write", "(I)V"⟩
abbrev cX12_writePorts : ByteArray := prog_14_method_79_code
def yX12_writePorts : MethodName := ⟨RX12, "writePorts", "(I)V"⟩
abbrev cX12_writePattern : ByteArray := prog_14_method_80_code
def yX12_writePattern : MethodName := ⟨RX12, "writePattern", "(II)V"⟩
abbrev cX12_ruleText : ByteArray := prog_14_method_81_code
def yX12_ruleText : MethodName := ⟨RX12, "ruleText", "(III)I"⟩
def RJ13 : String := "java/lang/Long"
def TJ13 : u_T := fun k => match k with
  | _ => ("", "", "", false)
def tyJ13 : Nat → FieldType := fun k => match k with
  | _ => .int
abbrev wsJ130 : List Cond := u_ws RJ13 TJ13 0
theorem nmJ13 : ∀ a, a < 0 → ∀ b, b < 0 → a ≠ b → (TJ13 a).2.1 ≠ (TJ13 b).2.1 := by decide +kernel
theorem tyJ13_ok : ∀ k, k < 0 → parseFieldDescriptor (TJ13 k).2.2.1 = some (tyJ13 k) := by decide +kernel
abbrev cJ13_bitCount_95d88 : ByteArray := prog_15_method_50_code
def yJ13_bitCount_95d88 : MethodName := ⟨RJ13, "bitCount", "(J)I"⟩
def RJ9 : String := "java/lang/Math"
def TJ9 : u_T := fun k => match k with
  | _ => ("", "", "", false)
def tyJ9 : Nat → FieldType := fun k => match k with
  | _ => .int
abbrev wsJ90 : List Cond := u_ws RJ9 TJ9 0
theorem nmJ9 : ∀ a, a < 0 → ∀ b, b < 0 → a ≠ b → (TJ9 a).2.1 ≠ (TJ9 b).2.1 := by decide +kernel
theorem tyJ9_ok : ∀ k, k < 0 → parseFieldDescriptor (TJ9 k).2.2.1 = some (tyJ9 k) := by decide +kernel
abbrev cJ9_min_7cf53 : ByteArray := prog_16_method_69_code
def yJ9_min_7cf53 : MethodName := ⟨RJ9, "min", "(II)I"⟩
def RJ7 : String := "java/util/Arrays"
def TJ7 : u_T := fun k => match k with
  | _ => ("", "", "", false)
def tyJ7 : Nat → FieldType := fun k => match k with
  | _ => .int
abbrev wsJ70 : List Cond := u_ws RJ7 TJ7 0
theorem nmJ7 : ∀ a, a < 0 → ∀ b, b < 0 → a ≠ b → (TJ7 a).2.1 ≠ (TJ7 b).2.1 := by decide +kernel
theorem tyJ7_ok : ∀ k, k < 0 → parseFieldDescriptor (TJ7 k).2.2.1 = some (tyJ7 k) := by decide +kernel
abbrev cJ7_fill_d0a16 : ByteArray := prog_17_method_101_code
def yJ7_fill_d0a16 : MethodName := ⟨RJ7, "fill", "([JJ)V"⟩
abbrev cJ7_fill_53178 : ByteArray := prog_17_method_103_code
def yJ7_fill_53178 : MethodName := ⟨RJ7, "fill", "([II)V"⟩
def RL : String := "HeaderSpaceNetworkLaw"
abbrev cL_law : ByteArray := code
def yL_law : MethodName := ⟨RL, "law", "([I)Z"⟩
abbrev vwCl : List vw_C := [(RX0, TX0, 11), (RX1, TX1, 2), (RX2, TX2, 4), (RX3, TX3, 4), (RX4, TX4, 4), (RX5, TX5, 4), (RX6, TX6, 8), (RX7, TX7, 2), (RX8, TX8, 2), (RX9, TX9, 9), (RX10, TX10, 5), (RX11, TX11, 12), (RX12, TX12, 33)]
end
section
theorem tb1 {w : Cond} (h : w ∈ tables_1_1) : w ∈ lw_tbl := List.mem_append_right _ (show w ∈ tables_1 from List.mem_append_left _ h)
theorem tb2 {w : Cond} (h : w ∈ tables_1_2) : w ∈ lw_tbl := List.mem_append_right _ (show w ∈ tables_1 from List.mem_append_right _ (List.mem_append_left _ h))
theorem tb3 {w : Cond} (h : w ∈ tables_1_3) : w ∈ lw_tbl := List.mem_append_right _ (show w ∈ tables_1 from List.mem_append_right _ (List.mem_append_right _ (List.mem_append_left _ h)))
theorem tb4 {w : Cond} (h : w ∈ tables_1_4) : w ∈ lw_tbl := List.mem_append_right _ (show w ∈ tables_1 from List.mem_append_right _ (List.mem_append_right _ (List.mem_append_right _ (List.mem_append_left _ h))))
theorem tb5 {w : Cond} (h : w ∈ tables_1_5) : w ∈ lw_tbl := List.mem_append_right _ (show w ∈ tables_1 from List.mem_append_right _ (List.mem_append_right _ (List.mem_append_right _ (List.mem_append_right _ (List.mem_append_left _ h)))))
theorem tb6 {w : Cond} (h : w ∈ tables_1_6) : w ∈ lw_tbl := List.mem_append_right _ (show w ∈ tables_1 from List.mem_append_right _ (List.mem_append_right _ (List.mem_append_right _ (List.mem_append_right _ (List.mem_append_right _ (h))))))
theorem tp1 {q : MethodName × Nat} (h : q ∈ lw_privs_1) : Cond.selects q.1.cls q.1 q.1 ∈ lw_tbl := List.mem_append_left _ (List.mem_map.mpr ⟨q, (show q ∈ lw_privs from List.mem_append_left _ h), rfl⟩)
theorem tp2 {q : MethodName × Nat} (h : q ∈ lw_privs_2) : Cond.selects q.1.cls q.1 q.1 ∈ lw_tbl := List.mem_append_left _ (List.mem_map.mpr ⟨q, (show q ∈ lw_privs from List.mem_append_right _ (List.mem_append_left _ h)), rfl⟩)
theorem tp3 {q : MethodName × Nat} (h : q ∈ lw_privs_3) : Cond.selects q.1.cls q.1 q.1 ∈ lw_tbl := List.mem_append_left _ (List.mem_map.mpr ⟨q, (show q ∈ lw_privs from List.mem_append_right _ (List.mem_append_right _ (List.mem_append_left _ h))), rfl⟩)
theorem tp4 {q : MethodName × Nat} (h : q ∈ lw_privs_4) : Cond.selects q.1.cls q.1 q.1 ∈ lw_tbl := List.mem_append_left _ (List.mem_map.mpr ⟨q, (show q ∈ lw_privs from List.mem_append_right _ (List.mem_append_right _ (List.mem_append_right _ (List.mem_append_left _ h)))), rfl⟩)
theorem tp5 {q : MethodName × Nat} (h : q ∈ lw_privs_5) : Cond.selects q.1.cls q.1 q.1 ∈ lw_tbl := List.mem_append_left _ (List.mem_map.mpr ⟨q, (show q ∈ lw_privs from List.mem_append_right _ (List.mem_append_right _ (List.mem_append_right _ (List.mem_append_right _ (h))))), rfl⟩)
theorem tw0 : Cond.initialized RL ∈ lw_tbl := tb1 (List.mem_of_getElem? (i := 0) rfl)
theorem tw1 : Cond.initialized RX11 ∈ lw_tbl := tb1 (List.mem_of_getElem? (i := 1) rfl)
theorem tw2 : Cond.initialized RX4 ∈ lw_tbl := tb1 (List.mem_of_getElem? (i := 2) rfl)
theorem tw3 : Cond.initialized RX6 ∈ lw_tbl := tb1 (List.mem_of_getElem? (i := 3) rfl)
theorem tw4 : Cond.initialized RX7 ∈ lw_tbl := tb1 (List.mem_of_getElem? (i := 4) rfl)
theorem tw5 : Cond.initialized RJ7 ∈ lw_tbl := tb1 (List.mem_of_getElem? (i := 5) rfl)
theorem tw6 : Cond.initialized RX3 ∈ lw_tbl := tb1 (List.mem_of_getElem? (i := 6) rfl)
theorem tw7 : Cond.initialized RX2 ∈ lw_tbl := tb1 (List.mem_of_getElem? (i := 7) rfl)
theorem tw8 : Cond.initialized RX1 ∈ lw_tbl := tb1 (List.mem_of_getElem? (i := 8) rfl)
theorem tw9 : Cond.initialized RX10 ∈ lw_tbl := tb1 (List.mem_of_getElem? (i := 9) rfl)
theorem tw10 : Cond.initialized RX0 ∈ lw_tbl := tb1 (List.mem_of_getElem? (i := 10) rfl)
theorem tw11 : Cond.initialized RX9 ∈ lw_tbl := tb1 (List.mem_of_getElem? (i := 11) rfl)
theorem tw12 : Cond.initialized RX8 ∈ lw_tbl := tb1 (List.mem_of_getElem? (i := 12) rfl)
theorem tw13 : Cond.initialized RX5 ∈ lw_tbl := tb1 (List.mem_of_getElem? (i := 13) rfl)
theorem tw14 : Cond.initialized RX12 ∈ lw_tbl := tb1 (List.mem_of_getElem? (i := 14) rfl)
theorem tw15 : Cond.initialized RJ9 ∈ lw_tbl := tb1 (List.mem_of_getElem? (i := 15) rfl)
theorem tw16 : Cond.initialized RJ13 ∈ lw_tbl := tb1 (List.mem_of_getElem? (i := 16) rfl)
theorem tw17 : Cond.classLink RL 7 RX11 ∈ lw_tbl := tb1 (List.mem_of_getElem? (i := 17) rfl)
theorem tw18 : Cond.instantiable RX11 12 ∈ lw_tbl := tb1 (List.mem_of_getElem? (i := 18) rfl)
theorem tw19 : Cond.methodLink RL 9 yX11_init ∈ lw_tbl := tb1 (List.mem_of_getElem? (i := 19) rfl)
theorem tw20 : Cond.instanceMethod yX11_init ∈ lw_tbl := tb1 (List.mem_of_getElem? (i := 20) rfl)
theorem tw21 : Cond.code yX11_init cX11_init 2 none ∈ lw_tbl := tb1 (List.mem_of_getElem? (i := 21) rfl)
theorem tw22 : Cond.methodLink RX11 5 objectInit ∈ lw_tbl := tb1 (List.mem_of_getElem? (i := 22) rfl)
theorem tw23 : Cond.instanceMethod objectInit ∈ lw_tbl := tb1 (List.mem_of_getElem? (i := 23) rfl)
theorem tw24 : Cond.code objectInit object_method_1_code 1 none ∈ lw_tbl := tb1 (List.mem_of_getElem? (i := 24) rfl)
theorem tw25 : Cond.classLink RX11 11 RX4 ∈ lw_tbl := tb1 (List.mem_of_getElem? (i := 25) rfl)
theorem tw26 : Cond.instantiable RX4 4 ∈ lw_tbl := tb1 (List.mem_of_getElem? (i := 26) rfl)
theorem tw27 : Cond.methodLink RX11 13 yX4_init ∈ lw_tbl := tb1 (List.mem_of_getElem? (i := 27) rfl)
theorem tw28 : Cond.instanceMethod yX4_init ∈ lw_tbl := tb1 (List.mem_of_getElem? (i := 28) rfl)
theorem tw29 : Cond.code yX4_init cX4_init 3 none ∈ lw_tbl := tb1 (List.mem_of_getElem? (i := 29) rfl)
theorem tw30 : Cond.methodLink RX4 3 objectInit ∈ lw_tbl := tb1 (List.mem_of_getElem? (i := 30) rfl)
theorem tw31 : Cond.classLink RX4 15 RX7 ∈ lw_tbl := tb1 (List.mem_of_getElem? (i := 31) rfl)
theorem tw32 : Cond.arrayOver (FieldType.object "HeaderSpaceNetwork$RuleList") ∈ lw_tbl := tb1 (List.mem_of_getElem? (i := 32) rfl)
theorem tw33 : Cond.classLink RX4 21 RX6 ∈ lw_tbl := tb1 (List.mem_of_getElem? (i := 33) rfl)
theorem tw34 : Cond.instantiable RX6 8 ∈ lw_tbl := tb1 (List.mem_of_getElem? (i := 34) rfl)
theorem tw35 : Cond.methodLink RX4 23 yX6_init ∈ lw_tbl := tb1 (List.mem_of_getElem? (i := 35) rfl)
theorem tw36 : Cond.instanceMethod yX6_init ∈ lw_tbl := tb1 (List.mem_of_getElem? (i := 36) rfl)
theorem tw37 : Cond.code yX6_init cX6_init 8 none ∈ lw_tbl := tb1 (List.mem_of_getElem? (i := 37) rfl)
theorem tw38 : Cond.methodLink RX6 3 objectInit ∈ lw_tbl := tb1 (List.mem_of_getElem? (i := 38) rfl)
theorem tw39 : Cond.methodLinkNest RX6 34 yX11_cubeHeaders RX11 ∈ lw_tbl := tb1 (List.mem_of_getElem? (i := 39) rfl)
theorem tw40 : Cond.static yX11_cubeHeaders ∈ lw_tbl := tb1 (List.mem_of_getElem? (i := 40) rfl)
theorem tw41 : Cond.code yX11_cubeHeaders cX11_cubeHeaders 5 (some FieldType.long) ∈ lw_tbl := tb1 (List.mem_of_getElem? (i := 41) rfl)
theorem tw42 : Cond.constantLong RX11 338 (4294967295) ∈ lw_tbl := tb1 (List.mem_of_getElem? (i := 42) rfl)
theorem tw43 : Cond.fieldLink RX11 340 RX11 "WITH_BIT" "[J" ∈ lw_tbl := tb1 (List.mem_of_getElem? (i := 43) rfl)
theorem tw44 : Cond.laysStatic RX11 "WITH_BIT" "[J" ∈ lw_tbl := tb1 (List.mem_of_getElem? (i := 44) rfl)
theorem tw45 : Cond.constantLong RX11 250 (-1) ∈ lw_tbl := tb1 (List.mem_of_getElem? (i := 45) rfl)
theorem tw46 : Cond.fieldLink RX6 9 RX6 "ports" "I" ∈ lw_tbl := tb1 (List.mem_of_getElem? (i := 46) rfl)
theorem tw47 : Cond.fieldLink RX8 19 RX6 "ports" "I" ∈ lw_tbl := tb1 (List.mem_of_getElem? (i := 47) rfl)
theorem tw48 : Cond.fieldLink RX11 192 RX6 "ports" "I" ∈ lw_tbl := tb1 (List.mem_of_getElem? (i := 48) rfl)
theorem tw49 : Cond.fieldLink RX6 15 RX6 "care" "I" ∈ lw_tbl := tb1 (List.mem_of_getElem? (i := 49) rfl)
theorem tw50 : Cond.fieldLink RX8 32 RX6 "care" "I" ∈ lw_tbl := tb1 (List.mem_of_getElem? (i := 50) rfl)
theorem tw51 : Cond.fieldLink RX11 195 RX6 "care" "I" ∈ lw_tbl := tb1 (List.mem_of_getElem? (i := 51) rfl)
theorem tw52 : Cond.fieldLink RX6 18 RX6 "value" "I" ∈ lw_tbl := tb1 (List.mem_of_getElem? (i := 52) rfl)
theorem tw53 : Cond.fieldLink RX8 35 RX6 "value" "I" ∈ lw_tbl := tb1 (List.mem_of_getElem? (i := 53) rfl)
theorem tw54 : Cond.fieldLink RX11 198 RX6 "value" "I" ∈ lw_tbl := tb1 (List.mem_of_getElem? (i := 54) rfl)
theorem tw55 : Cond.fieldLink RX6 21 RX6 "outputs" "I" ∈ lw_tbl := tb1 (List.mem_of_getElem? (i := 55) rfl)
theorem tw56 : Cond.fieldLink RX8 42 RX6 "outputs" "I" ∈ lw_tbl := tb1 (List.mem_of_getElem? (i := 56) rfl)
theorem tw57 : Cond.fieldLink RX1 65 RX6 "outputs" "I" ∈ lw_tbl := tb1 (List.mem_of_getElem? (i := 57) rfl)
theorem tw58 : Cond.fieldLink RX2 73 RX6 "outputs" "I" ∈ lw_tbl := tb1 (List.mem_of_getElem? (i := 58) rfl)
theorem tw59 : Cond.fieldLink RX11 152 RX6 "outputs" "I" ∈ lw_tbl := tb1 (List.mem_of_getElem? (i := 59) rfl)
theorem tw60 : Cond.fieldLink RX0 119 RX6 "outputs" "I" ∈ lw_tbl := tb1 (List.mem_of_getElem? (i := 60) rfl)
theorem tw61 : Cond.fieldLink RX6 24 RX6 "change" "I" ∈ lw_tbl := tb1 (List.mem_of_getElem? (i := 61) rfl)
theorem tw62 : Cond.fieldLink RX8 45 RX6 "change" "I" ∈ lw_tbl := tb1 (List.mem_of_getElem? (i := 62) rfl)
theorem tw63 : Cond.fieldLink RX11 163 RX6 "change" "I" ∈ lw_tbl := tb1 (List.mem_of_getElem? (i := 63) rfl)
theorem tw64 : Cond.fieldLink RX6 27 RX6 "to" "I" ∈ lw_tbl := tb1 (List.mem_of_getElem? (i := 64) rfl)
theorem tw65 : Cond.fieldLink RX8 48 RX6 "to" "I" ∈ lw_tbl := tb1 (List.mem_of_getElem? (i := 65) rfl)
theorem tw66 : Cond.fieldLink RX11 166 RX6 "to" "I" ∈ lw_tbl := tb1 (List.mem_of_getElem? (i := 66) rfl)
theorem tw67 : Cond.fieldLink RX6 30 RX6 "on" "Z" ∈ lw_tbl := tb1 (List.mem_of_getElem? (i := 67) rfl)
theorem tw68 : Cond.fieldLink RX7 37 RX6 "on" "Z" ∈ lw_tbl := tb1 (List.mem_of_getElem? (i := 68) rfl)
theorem tw69 : Cond.fieldLink RX11 185 RX6 "on" "Z" ∈ lw_tbl := tb1 (List.mem_of_getElem? (i := 69) rfl)
theorem tw70 : Cond.fieldLink RX6 38 RX6 "headers" "J" ∈ lw_tbl := tb1 (List.mem_of_getElem? (i := 70) rfl)
theorem tw71 : Cond.fieldLink RX7 45 RX6 "headers" "J" ∈ lw_tbl := tb1 (List.mem_of_getElem? (i := 71) rfl)
theorem tw89 : Cond.arrayClass FieldType.int ∈ lw_tbl := tb1 (List.mem_of_getElem? (i := 89) rfl)
theorem tw90 : Cond.instantiable RX7 2 ∈ lw_tbl := tb1 (List.mem_of_getElem? (i := 90) rfl)
theorem tw91 : Cond.methodLink RX4 26 yX7_init ∈ lw_tbl := tb1 (List.mem_of_getElem? (i := 91) rfl)
theorem tw92 : Cond.instanceMethod yX7_init ∈ lw_tbl := tb1 (List.mem_of_getElem? (i := 92) rfl)
theorem tw93 : Cond.code yX7_init cX7_init 3 none ∈ lw_tbl := tb1 (List.mem_of_getElem? (i := 93) rfl)
theorem tw94 : Cond.methodLink RX7 3 objectInit ∈ lw_tbl := tb1 (List.mem_of_getElem? (i := 94) rfl)
theorem tw95 : Cond.classLink RX7 9 RX6 ∈ lw_tbl := tb1 (List.mem_of_getElem? (i := 95) rfl)
theorem tw96 : Cond.arrayOver (FieldType.object "HeaderSpaceNetwork$Rule") ∈ lw_tbl := tb1 (List.mem_of_getElem? (i := 96) rfl)
theorem tw97 : Cond.fieldLink RX7 11 RX7 "rules" "[LHeaderSpaceNetwork$Rule;" ∈ lw_tbl := tb1 (List.mem_of_getElem? (i := 97) rfl)
theorem tw98 : Cond.fieldLink RX10 50 RX7 "rules" "[LHeaderSpaceNetwork$Rule;" ∈ lw_tbl := tb1 (List.mem_of_getElem? (i := 98) rfl)
theorem tw99 : Cond.fieldLink RX1 53 RX7 "rules" "[LHeaderSpaceNetwork$Rule;" ∈ lw_tbl := tb1 (List.mem_of_getElem? (i := 99) rfl)
theorem tw100 : Cond.fieldLink RX2 69 RX7 "rules" "[LHeaderSpaceNetwork$Rule;" ∈ lw_tbl := tb1 (List.mem_of_getElem? (i := 100) rfl)
theorem tw101 : Cond.fieldLink RX11 146 RX7 "rules" "[LHeaderSpaceNetwork$Rule;" ∈ lw_tbl := tb1 (List.mem_of_getElem? (i := 101) rfl)
theorem tw102 : Cond.fieldLink RX0 109 RX7 "rules" "[LHeaderSpaceNetwork$Rule;" ∈ lw_tbl := tb1 (List.mem_of_getElem? (i := 102) rfl)
theorem tw103 : Cond.fieldLink RX7 17 RX7 "size" "I" ∈ lw_tbl := tb1 (List.mem_of_getElem? (i := 103) rfl)
theorem tw104 : Cond.fieldLink RX4 46 RX7 "size" "I" ∈ lw_tbl := tb1 (List.mem_of_getElem? (i := 104) rfl)
theorem tw105 : Cond.fieldLink RX1 47 RX7 "size" "I" ∈ lw_tbl := tb1 (List.mem_of_getElem? (i := 105) rfl)
theorem tw106 : Cond.fieldLink RX2 59 RX7 "size" "I" ∈ lw_tbl := tb1 (List.mem_of_getElem? (i := 106) rfl)
theorem tw107 : Cond.fieldLink RX11 176 RX7 "size" "I" ∈ lw_tbl := tb1 (List.mem_of_getElem? (i := 107) rfl)
theorem tw113 : Cond.methodLink RX4 29 yX4_startAnew ∈ lw_tbl := tb1 (List.mem_of_getElem? (i := 113) rfl)
theorem tw114 : Cond.instanceMethod yX4_startAnew ∈ lw_tbl := tb1 (List.mem_of_getElem? (i := 114) rfl)
theorem tw115 : Cond.selects RX4 yX4_startAnew yX4_startAnew ∈ lw_tbl := tb1 (List.mem_of_getElem? (i := 115) rfl)
theorem tw116 : Cond.code yX4_startAnew cX4_startAnew 3 none ∈ lw_tbl := tb1 (List.mem_of_getElem? (i := 116) rfl)
theorem tw117 : Cond.methodLink RX4 40 yJ7_fill_53178 ∈ lw_tbl := tb1 (List.mem_of_getElem? (i := 117) rfl)
theorem tw118 : Cond.static yJ7_fill_53178 ∈ lw_tbl := tb1 (List.mem_of_getElem? (i := 118) rfl)
theorem tw119 : Cond.code yJ7_fill_53178 cJ7_fill_53178 4 none ∈ lw_tbl := tb1 (List.mem_of_getElem? (i := 119) rfl)
theorem tw120 : Cond.fieldLink RX4 33 RX4 "bits" "I" ∈ lw_tbl := tb1 (List.mem_of_getElem? (i := 120) rfl)
theorem tw121 : Cond.fieldLink RX11 84 RX4 "bits" "I" ∈ lw_tbl := tb1 (List.mem_of_getElem? (i := 121) rfl)
theorem tw122 : Cond.fieldLink RX4 37 RX4 "links" "I" ∈ lw_tbl := tb1 (List.mem_of_getElem? (i := 122) rfl)
theorem tw123 : Cond.fieldLink RX11 113 RX4 "links" "I" ∈ lw_tbl := tb1 (List.mem_of_getElem? (i := 123) rfl)
theorem tw124 : Cond.fieldLink RX4 9 RX4 "far" "[I" ∈ lw_tbl := tb1 (List.mem_of_getElem? (i := 124) rfl)
theorem tw125 : Cond.fieldLink RX11 109 RX4 "far" "[I" ∈ lw_tbl := tb1 (List.mem_of_getElem? (i := 125) rfl)
theorem tw126 : Cond.fieldLink RX10 60 RX4 "far" "[I" ∈ lw_tbl := tb1 (List.mem_of_getElem? (i := 126) rfl)
theorem tw127 : Cond.fieldLink RX1 75 RX4 "far" "[I" ∈ lw_tbl := tb1 (List.mem_of_getElem? (i := 127) rfl)
theorem tw128 : Cond.fieldLink RX2 84 RX4 "far" "[I" ∈ lw_tbl := tb1 (List.mem_of_getElem? (i := 128) rfl)
theorem tw129 : Cond.fieldLink RX0 125 RX4 "far" "[I" ∈ lw_tbl := tb1 (List.mem_of_getElem? (i := 129) rfl)
theorem tw130 : Cond.fieldLink RX4 17 RX4 "boxes" "[LHeaderSpaceNetwork$RuleList;" ∈ lw_tbl := tb1 (List.mem_of_getElem? (i := 130) rfl)
theorem tw131 : Cond.fieldLink RX10 38 RX4 "boxes" "[LHeaderSpaceNetwork$RuleList;" ∈ lw_tbl := tb1 (List.mem_of_getElem? (i := 131) rfl)
theorem tw132 : Cond.fieldLink RX3 46 RX4 "boxes" "[LHeaderSpaceNetwork$RuleList;" ∈ lw_tbl := tb1 (List.mem_of_getElem? (i := 132) rfl)
theorem tw133 : Cond.fieldLink RX1 37 RX4 "boxes" "[LHeaderSpaceNetwork$RuleList;" ∈ lw_tbl := tb1 (List.mem_of_getElem? (i := 133) rfl)
theorem tw134 : Cond.fieldLink RX2 53 RX4 "boxes" "[LHeaderSpaceNetwork$RuleList;" ∈ lw_tbl := tb1 (List.mem_of_getElem? (i := 134) rfl)
theorem tw135 : Cond.fieldLink RX11 142 RX4 "boxes" "[LHeaderSpaceNetwork$RuleList;" ∈ lw_tbl := tb1 (List.mem_of_getElem? (i := 135) rfl)
theorem tw136 : Cond.fieldLink RX0 97 RX4 "boxes" "[LHeaderSpaceNetwork$RuleList;" ∈ lw_tbl := tb1 (List.mem_of_getElem? (i := 136) rfl)
theorem tw146 : Cond.classLink RX11 18 RX3 ∈ lw_tbl := tb1 (List.mem_of_getElem? (i := 146) rfl)
theorem tw147 : Cond.instantiable RX3 4 ∈ lw_tbl := tb1 (List.mem_of_getElem? (i := 147) rfl)
theorem tw148 : Cond.methodLink RX11 20 yX3_init ∈ lw_tbl := tb1 (List.mem_of_getElem? (i := 148) rfl)
theorem tw149 : Cond.instanceMethod yX3_init ∈ lw_tbl := tb1 (List.mem_of_getElem? (i := 149) rfl)
theorem tw150 : Cond.code yX3_init cX3_init 3 none ∈ lw_tbl := tb1 (List.mem_of_getElem? (i := 150) rfl)
theorem tw151 : Cond.methodLink RX3 3 objectInit ∈ lw_tbl := tb1 (List.mem_of_getElem? (i := 151) rfl)
theorem tw152 : Cond.classLink RX3 9 RX7 ∈ lw_tbl := tb1 (List.mem_of_getElem? (i := 152) rfl)
theorem tw153 : Cond.classLink RX3 21 RX6 ∈ lw_tbl := tb1 (List.mem_of_getElem? (i := 153) rfl)
theorem tw154 : Cond.methodLink RX3 23 yX6_init ∈ lw_tbl := tb1 (List.mem_of_getElem? (i := 154) rfl)
theorem tw155 : Cond.methodLink RX3 26 yX7_init ∈ lw_tbl := tb1 (List.mem_of_getElem? (i := 155) rfl)
theorem tw156 : Cond.fieldLink RX3 11 RX3 "lists" "[LHeaderSpaceNetwork$RuleList;" ∈ lw_tbl := tb1 (List.mem_of_getElem? (i := 156) rfl)
theorem tw157 : Cond.fieldLink RX3 17 RX3 "boxes" "[I" ∈ lw_tbl := tb1 (List.mem_of_getElem? (i := 157) rfl)
theorem tw158 : Cond.fieldLink RX11 92 RX3 "size" "I" ∈ lw_tbl := tb1 (List.mem_of_getElem? (i := 158) rfl)
theorem tw159 : Cond.fieldLink RX3 37 RX3 "size" "I" ∈ lw_tbl := tb1 (List.mem_of_getElem? (i := 159) rfl)
theorem tw160 : Cond.fieldLink RX3 29 RX3 "next" "I" ∈ lw_tbl := tb1 (List.mem_of_getElem? (i := 160) rfl)
theorem tw170 : Cond.classLink RX11 25 RX2 ∈ lw_tbl := tb1 (List.mem_of_getElem? (i := 170) rfl)
theorem tw171 : Cond.instantiable RX2 4 ∈ lw_tbl := tb1 (List.mem_of_getElem? (i := 171) rfl)
theorem tw172 : Cond.methodLink RX11 27 yX2_init ∈ lw_tbl := tb1 (List.mem_of_getElem? (i := 172) rfl)
theorem tw173 : Cond.instanceMethod yX2_init ∈ lw_tbl := tb1 (List.mem_of_getElem? (i := 173) rfl)
theorem tw174 : Cond.code yX2_init cX2_init 2 none ∈ lw_tbl := tb1 (List.mem_of_getElem? (i := 174) rfl)
theorem tw175 : Cond.methodLink RX2 3 objectInit ∈ lw_tbl := tb1 (List.mem_of_getElem? (i := 175) rfl)
theorem tw176 : Cond.fieldLink RX2 21 RX2 "net" "LHeaderSpaceNetwork$Net;" ∈ lw_tbl := tb1 (List.mem_of_getElem? (i := 176) rfl)
theorem tw177 : Cond.fieldLink RX2 9 RX2 "arrived" "[J" ∈ lw_tbl := tb1 (List.mem_of_getElem? (i := 177) rfl)
theorem tw178 : Cond.fieldLink RX11 222 RX2 "arrived" "[J" ∈ lw_tbl := tb1 (List.mem_of_getElem? (i := 178) rfl)
theorem tw179 : Cond.fieldLink RX2 15 RX2 "fresh" "[J" ∈ lw_tbl := tb1 (List.mem_of_getElem? (i := 179) rfl)
theorem tw180 : Cond.fieldLink RX2 18 RX2 "coming" "[J" ∈ lw_tbl := tb1 (List.mem_of_getElem? (i := 180) rfl)
theorem tw190 : Cond.arrayClass FieldType.long ∈ lw_tbl := tb1 (List.mem_of_getElem? (i := 190) rfl)
theorem tw191 : Cond.classLink RX11 34 RX1 ∈ lw_tbl := tb1 (List.mem_of_getElem? (i := 191) rfl)
theorem tw192 : Cond.instantiable RX1 2 ∈ lw_tbl := tb1 (List.mem_of_getElem? (i := 192) rfl)
theorem tw193 : Cond.methodLink RX11 36 yX1_init ∈ lw_tbl := tb1 (List.mem_of_getElem? (i := 193) rfl)
theorem tw194 : Cond.instanceMethod yX1_init ∈ lw_tbl := tb1 (List.mem_of_getElem? (i := 194) rfl)
theorem tw195 : Cond.code yX1_init cX1_init 2 none ∈ lw_tbl := tb1 (List.mem_of_getElem? (i := 195) rfl)
theorem tw196 : Cond.methodLink RX1 3 objectInit ∈ lw_tbl := tb1 (List.mem_of_getElem? (i := 196) rfl)
theorem tw197 : Cond.fieldLink RX1 15 RX1 "net" "LHeaderSpaceNetwork$Net;" ∈ lw_tbl := tb1 (List.mem_of_getElem? (i := 197) rfl)
theorem tw198 : Cond.fieldLink RX1 9 RX1 "found" "[J" ∈ lw_tbl := tb1 (List.mem_of_getElem? (i := 198) rfl)
theorem tw199 : Cond.fieldLink RX11 286 RX1 "found" "[J" ∈ lw_tbl := tb1 (List.mem_of_getElem? (i := 199) rfl)
theorem tw205 : Cond.classLink RX11 41 RX10 ∈ lw_tbl := tb1 (List.mem_of_getElem? (i := 205) rfl)
theorem tw206 : Cond.instantiable RX10 5 ∈ lw_tbl := tb1 (List.mem_of_getElem? (i := 206) rfl)
theorem tw207 : Cond.methodLink RX11 43 yX10_init ∈ lw_tbl := tb1 (List.mem_of_getElem? (i := 207) rfl)
theorem tw208 : Cond.instanceMethod yX10_init ∈ lw_tbl := tb1 (List.mem_of_getElem? (i := 208) rfl)
theorem tw209 : Cond.code yX10_init cX10_init 2 none ∈ lw_tbl := tb1 (List.mem_of_getElem? (i := 209) rfl)
theorem tw210 : Cond.methodLink RX10 3 objectInit ∈ lw_tbl := tb1 (List.mem_of_getElem? (i := 210) rfl)
theorem tw211 : Cond.fieldLink RX10 15 RX10 "net" "LHeaderSpaceNetwork$Net;" ∈ lw_tbl := tb1 (List.mem_of_getElem? (i := 211) rfl)
theorem tw212 : Cond.fieldLink RX10 9 RX10 "seen" "[J" ∈ lw_tbl := tb1 (List.mem_of_getElem? (i := 212) rfl)
theorem tw213 : Cond.fieldLink RX10 25 RX10 "place" "I" ∈ lw_tbl := tb1 (List.mem_of_getElem? (i := 213) rfl)
theorem tw214 : Cond.fieldLink RX11 274 RX10 "place" "I" ∈ lw_tbl := tb1 (List.mem_of_getElem? (i := 214) rfl)
theorem tw215 : Cond.fieldLink RX10 29 RX10 "header" "I" ∈ lw_tbl := tb1 (List.mem_of_getElem? (i := 215) rfl)
theorem tw216 : Cond.fieldLink RX11 277 RX10 "header" "I" ∈ lw_tbl := tb1 (List.mem_of_getElem? (i := 216) rfl)
theorem tw217 : Cond.fieldLink RX10 32 RX10 "end" "I" ∈ lw_tbl := tb1 (List.mem_of_getElem? (i := 217) rfl)
theorem tw218 : Cond.fieldLink RX11 280 RX10 "end" "I" ∈ lw_tbl := tb1 (List.mem_of_getElem? (i := 218) rfl)
theorem tw230 : Cond.classLink RX11 48 RX0 ∈ lw_tbl := tb1 (List.mem_of_getElem? (i := 230) rfl)
theorem tw231 : Cond.instantiable RX0 11 ∈ lw_tbl := tb1 (List.mem_of_getElem? (i := 231) rfl)
theorem tw232 : Cond.methodLink RX11 50 yX0_init ∈ lw_tbl := tb1 (List.mem_of_getElem? (i := 232) rfl)
theorem tw233 : Cond.instanceMethod yX0_init ∈ lw_tbl := tb1 (List.mem_of_getElem? (i := 233) rfl)
theorem tw234 : Cond.code yX0_init cX0_init 2 none ∈ lw_tbl := tb1 (List.mem_of_getElem? (i := 234) rfl)
theorem tw235 : Cond.methodLink RX0 3 objectInit ∈ lw_tbl := tb1 (List.mem_of_getElem? (i := 235) rfl)
theorem tw236 : Cond.fieldLink RX0 31 RX0 "net" "LHeaderSpaceNetwork$Net;" ∈ lw_tbl := tb1 (List.mem_of_getElem? (i := 236) rfl)
theorem tw237 : Cond.fieldLink RX0 9 RX0 "members" "[I" ∈ lw_tbl := tb1 (List.mem_of_getElem? (i := 237) rfl)
theorem tw238 : Cond.fieldLink RX11 293 RX0 "members" "[I" ∈ lw_tbl := tb1 (List.mem_of_getElem? (i := 238) rfl)
theorem tw239 : Cond.fieldLink RX0 15 RX0 "withoutOne" "[J" ∈ lw_tbl := tb1 (List.mem_of_getElem? (i := 239) rfl)
theorem tw240 : Cond.fieldLink RX0 19 RX0 "withoutTwo" "[J" ∈ lw_tbl := tb2 (List.mem_of_getElem? (i := 0) rfl)
theorem tw241 : Cond.fieldLink RX0 22 RX0 "queue" "[I" ∈ lw_tbl := tb2 (List.mem_of_getElem? (i := 1) rfl)
theorem tw242 : Cond.fieldLink RX0 25 RX0 "wayHere" "[J" ∈ lw_tbl := tb2 (List.mem_of_getElem? (i := 2) rfl)
theorem tw243 : Cond.fieldLink RX0 28 RX0 "seen" "[J" ∈ lw_tbl := tb2 (List.mem_of_getElem? (i := 3) rfl)
theorem tw244 : Cond.fieldLink RX0 79 RX0 "queued" "I" ∈ lw_tbl := tb2 (List.mem_of_getElem? (i := 4) rfl)
theorem tw245 : Cond.fieldLink RX0 35 RX0 "from" "I" ∈ lw_tbl := tb2 (List.mem_of_getElem? (i := 5) rfl)
theorem tw246 : Cond.fieldLink RX0 39 RX0 "packets" "J" ∈ lw_tbl := tb2 (List.mem_of_getElem? (i := 6) rfl)
theorem tw247 : Cond.fieldLink RX0 43 RX0 "target" "I" ∈ lw_tbl := tb2 (List.mem_of_getElem? (i := 7) rfl)
theorem tw271 : Cond.classLink RX11 55 RX9 ∈ lw_tbl := tb2 (List.mem_of_getElem? (i := 31) rfl)
theorem tw272 : Cond.instantiable RX9 9 ∈ lw_tbl := tb2 (List.mem_of_getElem? (i := 32) rfl)
theorem tw273 : Cond.methodLinkNest RX11 57 yX9_init RX11 ∈ lw_tbl := tb2 (List.mem_of_getElem? (i := 33) rfl)
theorem tw274 : Cond.instanceMethod yX9_init ∈ lw_tbl := tb2 (List.mem_of_getElem? (i := 34) rfl)
theorem tw275 : Cond.code yX9_init cX9_init 1 none ∈ lw_tbl := tb2 (List.mem_of_getElem? (i := 35) rfl)
theorem tw276 : Cond.methodLink RX9 3 objectInit ∈ lw_tbl := tb2 (List.mem_of_getElem? (i := 36) rfl)
theorem tw277 : Cond.fieldLink RX9 9 RX9 "characters" "[C" ∈ lw_tbl := tb2 (List.mem_of_getElem? (i := 37) rfl)
theorem tw278 : Cond.fieldLink RX11 318 RX9 "characters" "[C" ∈ lw_tbl := tb2 (List.mem_of_getElem? (i := 38) rfl)
theorem tw279 : Cond.fieldLink RX9 40 RX9 "length" "I" ∈ lw_tbl := tb2 (List.mem_of_getElem? (i := 39) rfl)
theorem tw280 : Cond.fieldLink RX11 315 RX9 "length" "I" ∈ lw_tbl := tb2 (List.mem_of_getElem? (i := 40) rfl)
theorem tw281 : Cond.fieldLink RX9 15 RX9 "at" "I" ∈ lw_tbl := tb2 (List.mem_of_getElem? (i := 41) rfl)
theorem tw282 : Cond.fieldLink RX11 325 RX9 "at" "I" ∈ lw_tbl := tb2 (List.mem_of_getElem? (i := 42) rfl)
theorem tw283 : Cond.fieldLink RX9 51 RX9 "ports" "I" ∈ lw_tbl := tb2 (List.mem_of_getElem? (i := 43) rfl)
theorem tw284 : Cond.fieldLink RX9 19 RX9 "outputs" "I" ∈ lw_tbl := tb2 (List.mem_of_getElem? (i := 44) rfl)
theorem tw285 : Cond.fieldLink RX9 54 RX9 "care" "I" ∈ lw_tbl := tb2 (List.mem_of_getElem? (i := 45) rfl)
theorem tw286 : Cond.fieldLink RX9 57 RX9 "value" "I" ∈ lw_tbl := tb2 (List.mem_of_getElem? (i := 46) rfl)
theorem tw287 : Cond.fieldLink RX9 22 RX9 "change" "I" ∈ lw_tbl := tb2 (List.mem_of_getElem? (i := 47) rfl)
theorem tw288 : Cond.fieldLink RX9 25 RX9 "to" "I" ∈ lw_tbl := tb2 (List.mem_of_getElem? (i := 48) rfl)
theorem tw308 : Cond.arrayClass FieldType.char ∈ lw_tbl := tb2 (List.mem_of_getElem? (i := 68) rfl)
theorem tw309 : Cond.classLink RX11 62 RX8 ∈ lw_tbl := tb2 (List.mem_of_getElem? (i := 69) rfl)
theorem tw310 : Cond.instantiable RX8 2 ∈ lw_tbl := tb2 (List.mem_of_getElem? (i := 70) rfl)
theorem tw311 : Cond.methodLinkNest RX11 64 yX8_init RX11 ∈ lw_tbl := tb2 (List.mem_of_getElem? (i := 71) rfl)
theorem tw312 : Cond.instanceMethod yX8_init ∈ lw_tbl := tb2 (List.mem_of_getElem? (i := 72) rfl)
theorem tw313 : Cond.code yX8_init cX8_init 1 none ∈ lw_tbl := tb2 (List.mem_of_getElem? (i := 73) rfl)
theorem tw314 : Cond.methodLink RX8 3 objectInit ∈ lw_tbl := tb2 (List.mem_of_getElem? (i := 74) rfl)
theorem tw315 : Cond.fieldLink RX8 9 RX8 "characters" "[C" ∈ lw_tbl := tb2 (List.mem_of_getElem? (i := 75) rfl)
theorem tw316 : Cond.fieldLink RX11 337 RX8 "characters" "[C" ∈ lw_tbl := tb2 (List.mem_of_getElem? (i := 76) rfl)
theorem tw317 : Cond.fieldLink RX8 15 RX8 "length" "I" ∈ lw_tbl := tb2 (List.mem_of_getElem? (i := 77) rfl)
theorem tw318 : Cond.fieldLink RX11 336 RX8 "length" "I" ∈ lw_tbl := tb2 (List.mem_of_getElem? (i := 78) rfl)
theorem tw324 : Cond.classLink RX11 69 RX5 ∈ lw_tbl := tb2 (List.mem_of_getElem? (i := 84) rfl)
theorem tw325 : Cond.arrayOver (FieldType.object "HeaderSpaceNetwork$Policy") ∈ lw_tbl := tb2 (List.mem_of_getElem? (i := 85) rfl)
theorem tw326 : Cond.instantiable RX5 4 ∈ lw_tbl := tb2 (List.mem_of_getElem? (i := 86) rfl)
theorem tw327 : Cond.methodLinkNest RX11 75 yX5_init RX11 ∈ lw_tbl := tb2 (List.mem_of_getElem? (i := 87) rfl)
theorem tw328 : Cond.instanceMethod yX5_init ∈ lw_tbl := tb2 (List.mem_of_getElem? (i := 88) rfl)
theorem tw329 : Cond.code yX5_init cX5_init 1 none ∈ lw_tbl := tb2 (List.mem_of_getElem? (i := 89) rfl)
theorem tw330 : Cond.methodLink RX5 1 objectInit ∈ lw_tbl := tb2 (List.mem_of_getElem? (i := 90) rfl)
theorem tw331 : Cond.fieldLink RX11 296 RX5 "always" "Z" ∈ lw_tbl := tb2 (List.mem_of_getElem? (i := 91) rfl)
theorem tw332 : Cond.fieldLink RX11 299 RX5 "from" "I" ∈ lw_tbl := tb2 (List.mem_of_getElem? (i := 92) rfl)
theorem tw333 : Cond.fieldLink RX11 302 RX5 "target" "I" ∈ lw_tbl := tb2 (List.mem_of_getElem? (i := 93) rfl)
theorem tw334 : Cond.fieldLink RX11 305 RX5 "headers" "J" ∈ lw_tbl := tb2 (List.mem_of_getElem? (i := 94) rfl)
theorem tw344 : Cond.methodLink RX11 76 yX4_allHeaders ∈ lw_tbl := tb2 (List.mem_of_getElem? (i := 104) rfl)
theorem tw345 : Cond.instanceMethod yX4_allHeaders ∈ lw_tbl := tb2 (List.mem_of_getElem? (i := 105) rfl)
theorem tw346 : Cond.selects RX4 yX4_allHeaders yX4_allHeaders ∈ lw_tbl := tb2 (List.mem_of_getElem? (i := 106) rfl)
theorem tw347 : Cond.code yX4_allHeaders cX4_allHeaders 1 (some FieldType.long) ∈ lw_tbl := tb2 (List.mem_of_getElem? (i := 107) rfl)
theorem tw348 : Cond.fieldLink RX11 14 RX11 "net" "LHeaderSpaceNetwork$Net;" ∈ lw_tbl := tb2 (List.mem_of_getElem? (i := 108) rfl)
theorem tw349 : Cond.fieldLink RX11 21 RX11 "history" "LHeaderSpaceNetwork$History;" ∈ lw_tbl := tb2 (List.mem_of_getElem? (i := 109) rfl)
theorem tw350 : Cond.fieldLink RX11 30 RX11 "flow" "LHeaderSpaceNetwork$Flow;" ∈ lw_tbl := tb2 (List.mem_of_getElem? (i := 110) rfl)
theorem tw351 : Cond.fieldLink RX11 37 RX11 "fates" "LHeaderSpaceNetwork$Fates;" ∈ lw_tbl := tb2 (List.mem_of_getElem? (i := 111) rfl)
theorem tw352 : Cond.fieldLink RX11 44 RX11 "walk" "LHeaderSpaceNetwork$Walk;" ∈ lw_tbl := tb2 (List.mem_of_getElem? (i := 112) rfl)
theorem tw353 : Cond.fieldLink RX11 51 RX11 "cuts" "LHeaderSpaceNetwork$Cuts;" ∈ lw_tbl := tb2 (List.mem_of_getElem? (i := 113) rfl)
theorem tw354 : Cond.fieldLink RX11 58 RX11 "text" "LHeaderSpaceNetwork$Text;" ∈ lw_tbl := tb2 (List.mem_of_getElem? (i := 114) rfl)
theorem tw355 : Cond.fieldLink RX11 65 RX11 "writer" "LHeaderSpaceNetwork$RuleWriter;" ∈ lw_tbl := tb2 (List.mem_of_getElem? (i := 115) rfl)
theorem tw356 : Cond.fieldLink RX11 71 RX11 "policies" "[LHeaderSpaceNetwork$Policy;" ∈ lw_tbl := tb2 (List.mem_of_getElem? (i := 116) rfl)
theorem tw357 : Cond.fieldLink RX11 95 RX11 "policyCount" "I" ∈ lw_tbl := tb2 (List.mem_of_getElem? (i := 117) rfl)
theorem tw358 : Cond.fieldLink RX11 98 RX11 "entry" "I" ∈ lw_tbl := tb2 (List.mem_of_getElem? (i := 118) rfl)
theorem tw359 : Cond.fieldLink RX11 80 RX11 "entering" "J" ∈ lw_tbl := tb2 (List.mem_of_getElem? (i := 119) rfl)
theorem tw385 : Cond.methodLink RL 13 yX11_reset ∈ lw_tbl := tb2 (List.mem_of_getElem? (i := 145) rfl)
theorem tw386 : Cond.instanceMethod yX11_reset ∈ lw_tbl := tb2 (List.mem_of_getElem? (i := 146) rfl)
theorem tw387 : Cond.selects RX11 yX11_reset yX11_reset ∈ lw_tbl := tb2 (List.mem_of_getElem? (i := 147) rfl)
theorem tw388 : Cond.code yX11_reset cX11_reset 3 (some FieldType.int) ∈ lw_tbl := tb2 (List.mem_of_getElem? (i := 148) rfl)
theorem tw389 : Cond.methodLink RX11 88 yX4_startAnew ∈ lw_tbl := tb2 (List.mem_of_getElem? (i := 149) rfl)
theorem tw390 : Cond.methodLink RL 18 yX11_connect ∈ lw_tbl := tb2 (List.mem_of_getElem? (i := 150) rfl)
theorem tw391 : Cond.instanceMethod yX11_connect ∈ lw_tbl := tb2 (List.mem_of_getElem? (i := 151) rfl)
theorem tw392 : Cond.selects RX11 yX11_connect yX11_connect ∈ lw_tbl := tb2 (List.mem_of_getElem? (i := 152) rfl)
theorem tw393 : Cond.code yX11_connect cX11_connect 7 (some FieldType.int) ∈ lw_tbl := tb2 (List.mem_of_getElem? (i := 153) rfl)
theorem tw394 : Cond.methodLink RX11 101 yX11_isPlace ∈ lw_tbl := tb2 (List.mem_of_getElem? (i := 154) rfl)
theorem tw395 : Cond.static yX11_isPlace ∈ lw_tbl := tb2 (List.mem_of_getElem? (i := 155) rfl)
theorem tw396 : Cond.code yX11_isPlace cX11_isPlace 2 (some FieldType.boolean) ∈ lw_tbl := tb2 (List.mem_of_getElem? (i := 156) rfl)
theorem tw397 : Cond.methodLink RX11 116 yX11_isBox ∈ lw_tbl := tb2 (List.mem_of_getElem? (i := 157) rfl)
theorem tw398 : Cond.static yX11_isBox ∈ lw_tbl := tb2 (List.mem_of_getElem? (i := 158) rfl)
theorem tw399 : Cond.code yX11_isBox cX11_isBox 1 (some FieldType.boolean) ∈ lw_tbl := tb2 (List.mem_of_getElem? (i := 159) rfl)
theorem tw400 : Cond.methodLink RX11 105 yX11_placeOf ∈ lw_tbl := tb2 (List.mem_of_getElem? (i := 160) rfl)
theorem tw401 : Cond.static yX11_placeOf ∈ lw_tbl := tb2 (List.mem_of_getElem? (i := 161) rfl)
theorem tw402 : Cond.code yX11_placeOf cX11_placeOf 2 (some FieldType.int) ∈ lw_tbl := tb2 (List.mem_of_getElem? (i := 162) rfl)
theorem tw403 : Cond.methodLink RL 23 yX11_disconnect ∈ lw_tbl := tb2 (List.mem_of_getElem? (i := 163) rfl)
theorem tw404 : Cond.instanceMethod yX11_disconnect ∈ lw_tbl := tb2 (List.mem_of_getElem? (i := 164) rfl)
theorem tw405 : Cond.selects RX11 yX11_disconnect yX11_disconnect ∈ lw_tbl := tb2 (List.mem_of_getElem? (i := 165) rfl)
theorem tw406 : Cond.code yX11_disconnect cX11_disconnect 5 (some FieldType.int) ∈ lw_tbl := tb2 (List.mem_of_getElem? (i := 166) rfl)
theorem tw407 : Cond.methodLink RL 28 yX11_other ∈ lw_tbl := tb2 (List.mem_of_getElem? (i := 167) rfl)
theorem tw408 : Cond.instanceMethod yX11_other ∈ lw_tbl := tb2 (List.mem_of_getElem? (i := 168) rfl)
theorem tw409 : Cond.selects RX11 yX11_other yX11_other ∈ lw_tbl := tb2 (List.mem_of_getElem? (i := 169) rfl)
theorem tw410 : Cond.code yX11_other cX11_other 4 (some FieldType.int) ∈ lw_tbl := tb2 (List.mem_of_getElem? (i := 170) rfl)
theorem tw411 : Cond.methodLink RL 32 yX11_insertDrop ∈ lw_tbl := tb2 (List.mem_of_getElem? (i := 171) rfl)
theorem tw412 : Cond.instanceMethod yX11_insertDrop ∈ lw_tbl := tb2 (List.mem_of_getElem? (i := 172) rfl)
theorem tw413 : Cond.selects RX11 yX11_insertDrop yX11_insertDrop ∈ lw_tbl := tb2 (List.mem_of_getElem? (i := 173) rfl)
theorem tw414 : Cond.code yX11_insertDrop cX11_insertDrop 6 (some FieldType.int) ∈ lw_tbl := tb2 (List.mem_of_getElem? (i := 174) rfl)
theorem tw415 : Cond.methodLink RX11 120 yX11_isInsertable ∈ lw_tbl := tb2 (List.mem_of_getElem? (i := 175) rfl)
theorem tw417 : Cond.instanceMethod yX11_isInsertable ∈ lw_tbl := tb2 (List.mem_of_getElem? (i := 177) rfl)
theorem tw418 : Cond.code yX11_isInsertable cX11_isInsertable 6 (some FieldType.boolean) ∈ lw_tbl := tb2 (List.mem_of_getElem? (i := 178) rfl)
theorem tw419 : Cond.methodLink RX11 133 yX11_isPortSet ∈ lw_tbl := tb2 (List.mem_of_getElem? (i := 179) rfl)
theorem tw420 : Cond.static yX11_isPortSet ∈ lw_tbl := tb2 (List.mem_of_getElem? (i := 180) rfl)
theorem tw421 : Cond.code yX11_isPortSet cX11_isPortSet 1 (some FieldType.boolean) ∈ lw_tbl := tb2 (List.mem_of_getElem? (i := 181) rfl)
theorem tw422 : Cond.methodLink RX11 139 yX4_isCube ∈ lw_tbl := tb2 (List.mem_of_getElem? (i := 182) rfl)
theorem tw423 : Cond.instanceMethod yX4_isCube ∈ lw_tbl := tb2 (List.mem_of_getElem? (i := 183) rfl)
theorem tw424 : Cond.selects RX4 yX4_isCube yX4_isCube ∈ lw_tbl := tb2 (List.mem_of_getElem? (i := 184) rfl)
theorem tw425 : Cond.code yX4_isCube cX4_isCube 3 (some FieldType.boolean) ∈ lw_tbl := tb2 (List.mem_of_getElem? (i := 185) rfl)
theorem tw426 : Cond.methodLink RX4 49 yX4_isHeader ∈ lw_tbl := tb2 (List.mem_of_getElem? (i := 186) rfl)
theorem tw427 : Cond.instanceMethod yX4_isHeader ∈ lw_tbl := tb2 (List.mem_of_getElem? (i := 187) rfl)
theorem tw428 : Cond.selects RX4 yX4_isHeader yX4_isHeader ∈ lw_tbl := tb2 (List.mem_of_getElem? (i := 188) rfl)
theorem tw429 : Cond.code yX4_isHeader cX4_isHeader 2 (some FieldType.boolean) ∈ lw_tbl := tb2 (List.mem_of_getElem? (i := 189) rfl)
theorem tw430 : Cond.classLink RX11 124 RX6 ∈ lw_tbl := tb2 (List.mem_of_getElem? (i := 190) rfl)
theorem tw431 : Cond.methodLink RX11 126 yX6_init ∈ lw_tbl := tb2 (List.mem_of_getElem? (i := 191) rfl)
theorem tw432 : Cond.methodLink RX11 129 yX11_insertRule ∈ lw_tbl := tb2 (List.mem_of_getElem? (i := 192) rfl)
theorem tw434 : Cond.instanceMethod yX11_insertRule ∈ lw_tbl := tb2 (List.mem_of_getElem? (i := 194) rfl)
theorem tw435 : Cond.code yX11_insertRule cX11_insertRule 5 (some FieldType.int) ∈ lw_tbl := tb2 (List.mem_of_getElem? (i := 195) rfl)
theorem tw436 : Cond.methodLink RX11 169 yX3_keep ∈ lw_tbl := tb2 (List.mem_of_getElem? (i := 196) rfl)
theorem tw437 : Cond.instanceMethod yX3_keep ∈ lw_tbl := tb2 (List.mem_of_getElem? (i := 197) rfl)
theorem tw438 : Cond.selects RX3 yX3_keep yX3_keep ∈ lw_tbl := tb2 (List.mem_of_getElem? (i := 198) rfl)
theorem tw439 : Cond.code yX3_keep cX3_keep 3 none ∈ lw_tbl := tb2 (List.mem_of_getElem? (i := 199) rfl)
theorem tw440 : Cond.methodLink RX3 33 yX7_copyFrom ∈ lw_tbl := tb2 (List.mem_of_getElem? (i := 200) rfl)
theorem tw441 : Cond.instanceMethod yX7_copyFrom ∈ lw_tbl := tb2 (List.mem_of_getElem? (i := 201) rfl)
theorem tw442 : Cond.selects RX7 yX7_copyFrom yX7_copyFrom ∈ lw_tbl := tb2 (List.mem_of_getElem? (i := 202) rfl)
theorem tw443 : Cond.code yX7_copyFrom cX7_copyFrom 3 none ∈ lw_tbl := tb2 (List.mem_of_getElem? (i := 203) rfl)
theorem tw444 : Cond.methodLink RX3 40 yJ9_min_7cf53 ∈ lw_tbl := tb2 (List.mem_of_getElem? (i := 204) rfl)
theorem tw445 : Cond.static yJ9_min_7cf53 ∈ lw_tbl := tb2 (List.mem_of_getElem? (i := 205) rfl)
theorem tw446 : Cond.code yJ9_min_7cf53 cJ9_min_7cf53 2 (some FieldType.int) ∈ lw_tbl := tb2 (List.mem_of_getElem? (i := 206) rfl)
theorem tw447 : Cond.methodLink RX11 177 yX7_insertAt ∈ lw_tbl := tb2 (List.mem_of_getElem? (i := 207) rfl)
theorem tw448 : Cond.instanceMethod yX7_insertAt ∈ lw_tbl := tb2 (List.mem_of_getElem? (i := 208) rfl)
theorem tw449 : Cond.selects RX7 yX7_insertAt yX7_insertAt ∈ lw_tbl := tb2 (List.mem_of_getElem? (i := 209) rfl)
theorem tw450 : Cond.code yX7_insertAt cX7_insertAt 4 none ∈ lw_tbl := tb2 (List.mem_of_getElem? (i := 210) rfl)
theorem tw451 : Cond.methodLink RX7 21 yJ9_min_7cf53 ∈ lw_tbl := tb2 (List.mem_of_getElem? (i := 211) rfl)
theorem tw452 : Cond.methodLink RL 37 yX11_insertForward ∈ lw_tbl := tb2 (List.mem_of_getElem? (i := 212) rfl)
theorem tw453 : Cond.instanceMethod yX11_insertForward ∈ lw_tbl := tb2 (List.mem_of_getElem? (i := 213) rfl)
theorem tw454 : Cond.selects RX11 yX11_insertForward yX11_insertForward ∈ lw_tbl := tb2 (List.mem_of_getElem? (i := 214) rfl)
theorem tw455 : Cond.code yX11_insertForward cX11_insertForward 7 (some FieldType.int) ∈ lw_tbl := tb2 (List.mem_of_getElem? (i := 215) rfl)
theorem tw456 : Cond.methodLink RL 42 yX11_setRewriting ∈ lw_tbl := tb2 (List.mem_of_getElem? (i := 216) rfl)
theorem tw457 : Cond.instanceMethod yX11_setRewriting ∈ lw_tbl := tb2 (List.mem_of_getElem? (i := 217) rfl)
theorem tw458 : Cond.selects RX11 yX11_setRewriting yX11_setRewriting ∈ lw_tbl := tb2 (List.mem_of_getElem? (i := 218) rfl)
theorem tw459 : Cond.code yX11_setRewriting cX11_setRewriting 8 (some FieldType.int) ∈ lw_tbl := tb2 (List.mem_of_getElem? (i := 219) rfl)
theorem tw460 : Cond.methodLink RX11 136 yX11_ruleError ∈ lw_tbl := tb2 (List.mem_of_getElem? (i := 220) rfl)
theorem tw462 : Cond.instanceMethod yX11_ruleError ∈ lw_tbl := tb2 (List.mem_of_getElem? (i := 222) rfl)
theorem tw463 : Cond.code yX11_ruleError cX11_ruleError 3 (some FieldType.int) ∈ lw_tbl := tb2 (List.mem_of_getElem? (i := 223) rfl)
theorem tw464 : Cond.methodLink RX11 155 yX6_withRewriting ∈ lw_tbl := tb2 (List.mem_of_getElem? (i := 224) rfl)
theorem tw465 : Cond.instanceMethod yX6_withRewriting ∈ lw_tbl := tb2 (List.mem_of_getElem? (i := 225) rfl)
theorem tw466 : Cond.selects RX6 yX6_withRewriting yX6_withRewriting ∈ lw_tbl := tb2 (List.mem_of_getElem? (i := 226) rfl)
theorem tw467 : Cond.code yX6_withRewriting cX6_withRewriting 3 (some (FieldType.object "HeaderSpaceNetwork$Rule")) ∈ lw_tbl := tb2 (List.mem_of_getElem? (i := 227) rfl)
theorem tw468 : Cond.classLink RX6 10 RX6 ∈ lw_tbl := tb2 (List.mem_of_getElem? (i := 228) rfl)
theorem tw469 : Cond.methodLink RX6 42 yX6_init ∈ lw_tbl := tb2 (List.mem_of_getElem? (i := 229) rfl)
theorem tw470 : Cond.methodLink RX11 159 yX11_replaceRule ∈ lw_tbl := tb2 (List.mem_of_getElem? (i := 230) rfl)
theorem tw472 : Cond.instanceMethod yX11_replaceRule ∈ lw_tbl := tb2 (List.mem_of_getElem? (i := 232) rfl)
theorem tw473 : Cond.code yX11_replaceRule cX11_replaceRule 5 none ∈ lw_tbl := tb2 (List.mem_of_getElem? (i := 233) rfl)
theorem tw474 : Cond.methodLink RL 46 yX11_removeRule ∈ lw_tbl := tb2 (List.mem_of_getElem? (i := 234) rfl)
theorem tw475 : Cond.instanceMethod yX11_removeRule ∈ lw_tbl := tb2 (List.mem_of_getElem? (i := 235) rfl)
theorem tw476 : Cond.selects RX11 yX11_removeRule yX11_removeRule ∈ lw_tbl := tb2 (List.mem_of_getElem? (i := 236) rfl)
theorem tw477 : Cond.code yX11_removeRule cX11_removeRule 5 (some FieldType.int) ∈ lw_tbl := tb2 (List.mem_of_getElem? (i := 237) rfl)
theorem tw478 : Cond.methodLink RX11 173 yX7_removeAt ∈ lw_tbl := tb2 (List.mem_of_getElem? (i := 238) rfl)
theorem tw479 : Cond.instanceMethod yX7_removeAt ∈ lw_tbl := tb2 (List.mem_of_getElem? (i := 239) rfl)
theorem tw480 : Cond.selects RX7 yX7_removeAt yX7_removeAt ∈ lw_tbl := tb3 (List.mem_of_getElem? (i := 0) rfl)
theorem tw481 : Cond.code yX7_removeAt cX7_removeAt 3 none ∈ lw_tbl := tb3 (List.mem_of_getElem? (i := 1) rfl)
theorem tw482 : Cond.methodLink RL 50 yX11_moveRule ∈ lw_tbl := tb3 (List.mem_of_getElem? (i := 2) rfl)
theorem tw483 : Cond.instanceMethod yX11_moveRule ∈ lw_tbl := tb3 (List.mem_of_getElem? (i := 3) rfl)
theorem tw484 : Cond.selects RX11 yX11_moveRule yX11_moveRule ∈ lw_tbl := tb3 (List.mem_of_getElem? (i := 4) rfl)
theorem tw485 : Cond.code yX11_moveRule cX11_moveRule 7 (some FieldType.int) ∈ lw_tbl := tb3 (List.mem_of_getElem? (i := 5) rfl)
theorem tw486 : Cond.methodLink RL 55 yX11_switchRule ∈ lw_tbl := tb3 (List.mem_of_getElem? (i := 6) rfl)
theorem tw487 : Cond.instanceMethod yX11_switchRule ∈ lw_tbl := tb3 (List.mem_of_getElem? (i := 7) rfl)
theorem tw488 : Cond.selects RX11 yX11_switchRule yX11_switchRule ∈ lw_tbl := tb3 (List.mem_of_getElem? (i := 8) rfl)
theorem tw489 : Cond.code yX11_switchRule cX11_switchRule 6 (some FieldType.int) ∈ lw_tbl := tb3 (List.mem_of_getElem? (i := 9) rfl)
theorem tw490 : Cond.methodLink RX11 181 yX6_switched ∈ lw_tbl := tb3 (List.mem_of_getElem? (i := 10) rfl)
theorem tw491 : Cond.instanceMethod yX6_switched ∈ lw_tbl := tb3 (List.mem_of_getElem? (i := 11) rfl)
theorem tw492 : Cond.selects RX6 yX6_switched yX6_switched ∈ lw_tbl := tb3 (List.mem_of_getElem? (i := 12) rfl)
theorem tw493 : Cond.code yX6_switched cX6_switched 2 (some (FieldType.object "HeaderSpaceNetwork$Rule")) ∈ lw_tbl := tb3 (List.mem_of_getElem? (i := 13) rfl)
theorem tw494 : Cond.methodLink RL 60 yX11_undo ∈ lw_tbl := tb3 (List.mem_of_getElem? (i := 14) rfl)
theorem tw495 : Cond.instanceMethod yX11_undo ∈ lw_tbl := tb3 (List.mem_of_getElem? (i := 15) rfl)
theorem tw496 : Cond.selects RX11 yX11_undo yX11_undo ∈ lw_tbl := tb3 (List.mem_of_getElem? (i := 16) rfl)
theorem tw497 : Cond.code yX11_undo cX11_undo 1 (some FieldType.int) ∈ lw_tbl := tb3 (List.mem_of_getElem? (i := 17) rfl)
theorem tw498 : Cond.methodLink RX11 189 yX3_takeBack ∈ lw_tbl := tb3 (List.mem_of_getElem? (i := 18) rfl)
theorem tw499 : Cond.instanceMethod yX3_takeBack ∈ lw_tbl := tb3 (List.mem_of_getElem? (i := 19) rfl)
theorem tw500 : Cond.selects RX3 yX3_takeBack yX3_takeBack ∈ lw_tbl := tb3 (List.mem_of_getElem? (i := 20) rfl)
theorem tw501 : Cond.code yX3_takeBack cX3_takeBack 2 none ∈ lw_tbl := tb3 (List.mem_of_getElem? (i := 21) rfl)
theorem tw502 : Cond.methodLink RL 65 yX11_rule ∈ lw_tbl := tb3 (List.mem_of_getElem? (i := 22) rfl)
theorem tw503 : Cond.instanceMethod yX11_rule ∈ lw_tbl := tb3 (List.mem_of_getElem? (i := 23) rfl)
theorem tw504 : Cond.selects RX11 yX11_rule yX11_rule ∈ lw_tbl := tb3 (List.mem_of_getElem? (i := 24) rfl)
theorem tw505 : Cond.code yX11_rule cX11_rule 6 (some FieldType.int) ∈ lw_tbl := tb3 (List.mem_of_getElem? (i := 25) rfl)
theorem tw506 : Cond.methodLink RL 69 yX11_count ∈ lw_tbl := tb3 (List.mem_of_getElem? (i := 26) rfl)
theorem tw507 : Cond.instanceMethod yX11_count ∈ lw_tbl := tb3 (List.mem_of_getElem? (i := 27) rfl)
theorem tw508 : Cond.selects RX11 yX11_count yX11_count ∈ lw_tbl := tb3 (List.mem_of_getElem? (i := 28) rfl)
theorem tw509 : Cond.code yX11_count cX11_count 2 (some FieldType.int) ∈ lw_tbl := tb3 (List.mem_of_getElem? (i := 29) rfl)
theorem tw510 : Cond.methodLink RX11 201 yX4_countRules ∈ lw_tbl := tb3 (List.mem_of_getElem? (i := 30) rfl)
theorem tw511 : Cond.instanceMethod yX4_countRules ∈ lw_tbl := tb3 (List.mem_of_getElem? (i := 31) rfl)
theorem tw512 : Cond.selects RX4 yX4_countRules yX4_countRules ∈ lw_tbl := tb3 (List.mem_of_getElem? (i := 32) rfl)
theorem tw513 : Cond.code yX4_countRules cX4_countRules 3 (some FieldType.int) ∈ lw_tbl := tb3 (List.mem_of_getElem? (i := 33) rfl)
theorem tw514 : Cond.methodLink RL 73 yX11_shadowed ∈ lw_tbl := tb3 (List.mem_of_getElem? (i := 34) rfl)
theorem tw515 : Cond.instanceMethod yX11_shadowed ∈ lw_tbl := tb3 (List.mem_of_getElem? (i := 35) rfl)
theorem tw516 : Cond.selects RX11 yX11_shadowed yX11_shadowed ∈ lw_tbl := tb3 (List.mem_of_getElem? (i := 36) rfl)
theorem tw517 : Cond.code yX11_shadowed cX11_shadowed 2 (some FieldType.int) ∈ lw_tbl := tb3 (List.mem_of_getElem? (i := 37) rfl)
theorem tw518 : Cond.methodLink RX11 205 yX7_hiddenRules ∈ lw_tbl := tb3 (List.mem_of_getElem? (i := 38) rfl)
theorem tw519 : Cond.instanceMethod yX7_hiddenRules ∈ lw_tbl := tb3 (List.mem_of_getElem? (i := 39) rfl)
theorem tw520 : Cond.selects RX7 yX7_hiddenRules yX7_hiddenRules ∈ lw_tbl := tb3 (List.mem_of_getElem? (i := 40) rfl)
theorem tw521 : Cond.code yX7_hiddenRules cX7_hiddenRules 3 (some FieldType.int) ∈ lw_tbl := tb3 (List.mem_of_getElem? (i := 41) rfl)
theorem tw522 : Cond.methodLink RX7 41 yX7_isHidden ∈ lw_tbl := tb3 (List.mem_of_getElem? (i := 42) rfl)
theorem tw524 : Cond.instanceMethod yX7_isHidden ∈ lw_tbl := tb3 (List.mem_of_getElem? (i := 44) rfl)
theorem tw525 : Cond.code yX7_isHidden cX7_isHidden 3 (some FieldType.boolean) ∈ lw_tbl := tb3 (List.mem_of_getElem? (i := 45) rfl)
theorem tw526 : Cond.methodLink RX7 49 yX7_handled ∈ lw_tbl := tb3 (List.mem_of_getElem? (i := 46) rfl)
theorem tw527 : Cond.instanceMethod yX7_handled ∈ lw_tbl := tb3 (List.mem_of_getElem? (i := 47) rfl)
theorem tw528 : Cond.selects RX7 yX7_handled yX7_handled ∈ lw_tbl := tb3 (List.mem_of_getElem? (i := 48) rfl)
theorem tw529 : Cond.code yX7_handled cX7_handled 5 (some FieldType.long) ∈ lw_tbl := tb3 (List.mem_of_getElem? (i := 49) rfl)
theorem tw530 : Cond.methodLink RX7 33 yX7_leftFor ∈ lw_tbl := tb3 (List.mem_of_getElem? (i := 50) rfl)
theorem tw531 : Cond.instanceMethod yX7_leftFor ∈ lw_tbl := tb3 (List.mem_of_getElem? (i := 51) rfl)
theorem tw532 : Cond.selects RX7 yX7_leftFor yX7_leftFor ∈ lw_tbl := tb3 (List.mem_of_getElem? (i := 52) rfl)
theorem tw533 : Cond.code yX7_leftFor cX7_leftFor 8 (some FieldType.long) ∈ lw_tbl := tb3 (List.mem_of_getElem? (i := 53) rfl)
theorem tw534 : Cond.methodLink RX7 27 yX6_taken ∈ lw_tbl := tb3 (List.mem_of_getElem? (i := 54) rfl)
theorem tw535 : Cond.instanceMethod yX6_taken ∈ lw_tbl := tb3 (List.mem_of_getElem? (i := 55) rfl)
theorem tw536 : Cond.selects RX6 yX6_taken yX6_taken ∈ lw_tbl := tb3 (List.mem_of_getElem? (i := 56) rfl)
theorem tw537 : Cond.code yX6_taken cX6_taken 4 (some FieldType.long) ∈ lw_tbl := tb3 (List.mem_of_getElem? (i := 57) rfl)
theorem tw538 : Cond.constantLong RX7 31 (-1) ∈ lw_tbl := tb3 (List.mem_of_getElem? (i := 58) rfl)
theorem tw539 : Cond.methodLink RL 77 yX11_inject ∈ lw_tbl := tb3 (List.mem_of_getElem? (i := 59) rfl)
theorem tw540 : Cond.instanceMethod yX11_inject ∈ lw_tbl := tb3 (List.mem_of_getElem? (i := 60) rfl)
theorem tw541 : Cond.selects RX11 yX11_inject yX11_inject ∈ lw_tbl := tb3 (List.mem_of_getElem? (i := 61) rfl)
theorem tw542 : Cond.code yX11_inject cX11_inject 5 (some FieldType.int) ∈ lw_tbl := tb3 (List.mem_of_getElem? (i := 62) rfl)
theorem tw543 : Cond.methodLink RX11 208 yX11_cubeHeaders ∈ lw_tbl := tb3 (List.mem_of_getElem? (i := 63) rfl)
theorem tw544 : Cond.methodLink RX11 212 yJ13_bitCount_95d88 ∈ lw_tbl := tb3 (List.mem_of_getElem? (i := 64) rfl)
theorem tw545 : Cond.static yJ13_bitCount_95d88 ∈ lw_tbl := tb3 (List.mem_of_getElem? (i := 65) rfl)
theorem tw546 : Cond.code yJ13_bitCount_95d88 cJ13_bitCount_95d88 2 (some FieldType.int) ∈ lw_tbl := tb3 (List.mem_of_getElem? (i := 66) rfl)
theorem tw547 : Cond.constantLong RJ13 314 (6148914691236517205) ∈ lw_tbl := tb3 (List.mem_of_getElem? (i := 67) rfl)
theorem tw548 : Cond.constantLong RJ13 316 (3689348814741910323) ∈ lw_tbl := tb3 (List.mem_of_getElem? (i := 68) rfl)
theorem tw549 : Cond.constantLong RJ13 318 (1085102592571150095) ∈ lw_tbl := tb3 (List.mem_of_getElem? (i := 69) rfl)
theorem tw550 : Cond.methodLink RL 81 yX11_arriving ∈ lw_tbl := tb3 (List.mem_of_getElem? (i := 70) rfl)
theorem tw551 : Cond.instanceMethod yX11_arriving ∈ lw_tbl := tb3 (List.mem_of_getElem? (i := 71) rfl)
theorem tw552 : Cond.selects RX11 yX11_arriving yX11_arriving ∈ lw_tbl := tb3 (List.mem_of_getElem? (i := 72) rfl)
theorem tw553 : Cond.code yX11_arriving cX11_arriving 3 (some FieldType.long) ∈ lw_tbl := tb3 (List.mem_of_getElem? (i := 73) rfl)
theorem tw554 : Cond.constantLong RX11 216 (-9223372036854775808) ∈ lw_tbl := tb3 (List.mem_of_getElem? (i := 74) rfl)
theorem tw555 : Cond.methodLink RX11 218 yX2_spreadFrom ∈ lw_tbl := tb3 (List.mem_of_getElem? (i := 75) rfl)
theorem tw556 : Cond.instanceMethod yX2_spreadFrom ∈ lw_tbl := tb3 (List.mem_of_getElem? (i := 76) rfl)
theorem tw557 : Cond.selects RX2 yX2_spreadFrom yX2_spreadFrom ∈ lw_tbl := tb3 (List.mem_of_getElem? (i := 77) rfl)
theorem tw558 : Cond.code yX2_spreadFrom cX2_spreadFrom 4 none ∈ lw_tbl := tb3 (List.mem_of_getElem? (i := 78) rfl)
theorem tw559 : Cond.methodLink RX2 25 yX2_forget ∈ lw_tbl := tb3 (List.mem_of_getElem? (i := 79) rfl)
theorem tw561 : Cond.instanceMethod yX2_forget ∈ lw_tbl := tb3 (List.mem_of_getElem? (i := 81) rfl)
theorem tw562 : Cond.code yX2_forget cX2_forget 1 none ∈ lw_tbl := tb3 (List.mem_of_getElem? (i := 82) rfl)
theorem tw563 : Cond.methodLink RX2 100 yJ7_fill_d0a16 ∈ lw_tbl := tb3 (List.mem_of_getElem? (i := 83) rfl)
theorem tw564 : Cond.static yJ7_fill_d0a16 ∈ lw_tbl := tb3 (List.mem_of_getElem? (i := 84) rfl)
theorem tw565 : Cond.code yJ7_fill_d0a16 cJ7_fill_d0a16 5 none ∈ lw_tbl := tb3 (List.mem_of_getElem? (i := 85) rfl)
theorem tw566 : Cond.methodLink RX2 28 yX2_enter ∈ lw_tbl := tb3 (List.mem_of_getElem? (i := 86) rfl)
theorem tw568 : Cond.instanceMethod yX2_enter ∈ lw_tbl := tb3 (List.mem_of_getElem? (i := 88) rfl)
theorem tw569 : Cond.code yX2_enter cX2_enter 4 none ∈ lw_tbl := tb3 (List.mem_of_getElem? (i := 89) rfl)
theorem tw570 : Cond.constantLong RX2 106 (-1) ∈ lw_tbl := tb3 (List.mem_of_getElem? (i := 90) rfl)
theorem tw571 : Cond.methodLink RX2 32 yX2_spread ∈ lw_tbl := tb3 (List.mem_of_getElem? (i := 91) rfl)
theorem tw573 : Cond.instanceMethod yX2_spread ∈ lw_tbl := tb3 (List.mem_of_getElem? (i := 93) rfl)
theorem tw574 : Cond.code yX2_spread cX2_spread 3 none ∈ lw_tbl := tb3 (List.mem_of_getElem? (i := 94) rfl)
theorem tw575 : Cond.methodLink RX2 39 yX2_goOneLink ∈ lw_tbl := tb3 (List.mem_of_getElem? (i := 95) rfl)
theorem tw577 : Cond.instanceMethod yX2_goOneLink ∈ lw_tbl := tb3 (List.mem_of_getElem? (i := 97) rfl)
theorem tw578 : Cond.code yX2_goOneLink cX2_goOneLink 3 (some FieldType.boolean) ∈ lw_tbl := tb3 (List.mem_of_getElem? (i := 98) rfl)
theorem tw579 : Cond.methodLink RX2 108 yX2_handle ∈ lw_tbl := tb3 (List.mem_of_getElem? (i := 99) rfl)
theorem tw581 : Cond.instanceMethod yX2_handle ∈ lw_tbl := tb3 (List.mem_of_getElem? (i := 101) rfl)
theorem tw582 : Cond.code yX2_handle cX2_handle 12 none ∈ lw_tbl := tb3 (List.mem_of_getElem? (i := 102) rfl)
theorem tw583 : Cond.methodLink RX2 111 yX6_taken ∈ lw_tbl := tb3 (List.mem_of_getElem? (i := 103) rfl)
theorem tw584 : Cond.methodLink RX2 96 yX6_rewrittenSet ∈ lw_tbl := tb3 (List.mem_of_getElem? (i := 104) rfl)
theorem tw585 : Cond.instanceMethod yX6_rewrittenSet ∈ lw_tbl := tb3 (List.mem_of_getElem? (i := 105) rfl)
theorem tw586 : Cond.selects RX6 yX6_rewrittenSet yX6_rewrittenSet ∈ lw_tbl := tb3 (List.mem_of_getElem? (i := 106) rfl)
theorem tw587 : Cond.code yX6_rewrittenSet cX6_rewrittenSet 11 (some FieldType.long) ∈ lw_tbl := tb3 (List.mem_of_getElem? (i := 107) rfl)
theorem tw588 : Cond.fieldLinkNest RX6 45 RX11 "WITH_BIT" "[J" RX11 ∈ lw_tbl := tb3 (List.mem_of_getElem? (i := 108) rfl)
theorem tw589 : Cond.constantLong RX6 49 (-1) ∈ lw_tbl := tb3 (List.mem_of_getElem? (i := 109) rfl)
theorem tw590 : Cond.methodLink RX2 115 yX2_sendOut ∈ lw_tbl := tb3 (List.mem_of_getElem? (i := 110) rfl)
theorem tw592 : Cond.instanceMethod yX2_sendOut ∈ lw_tbl := tb3 (List.mem_of_getElem? (i := 112) rfl)
theorem tw593 : Cond.code yX2_sendOut cX2_sendOut 7 none ∈ lw_tbl := tb3 (List.mem_of_getElem? (i := 113) rfl)
theorem tw594 : Cond.methodLinkNest RX2 43 yX11_placeOf RX11 ∈ lw_tbl := tb3 (List.mem_of_getElem? (i := 114) rfl)
theorem tw595 : Cond.methodLinkNest RX2 88 yX11_hasPort RX11 ∈ lw_tbl := tb3 (List.mem_of_getElem? (i := 115) rfl)
theorem tw596 : Cond.static yX11_hasPort ∈ lw_tbl := tb3 (List.mem_of_getElem? (i := 116) rfl)
theorem tw597 : Cond.code yX11_hasPort cX11_hasPort 2 (some FieldType.boolean) ∈ lw_tbl := tb3 (List.mem_of_getElem? (i := 117) rfl)
theorem tw598 : Cond.methodLink RL 86 yX11_delivered ∈ lw_tbl := tb3 (List.mem_of_getElem? (i := 118) rfl)
theorem tw599 : Cond.instanceMethod yX11_delivered ∈ lw_tbl := tb3 (List.mem_of_getElem? (i := 119) rfl)
theorem tw600 : Cond.selects RX11 yX11_delivered yX11_delivered ∈ lw_tbl := tb3 (List.mem_of_getElem? (i := 120) rfl)
theorem tw601 : Cond.code yX11_delivered cX11_delivered 3 (some FieldType.long) ∈ lw_tbl := tb3 (List.mem_of_getElem? (i := 121) rfl)
theorem tw602 : Cond.methodLink RX11 226 yX2_deliveredAt ∈ lw_tbl := tb3 (List.mem_of_getElem? (i := 122) rfl)
theorem tw603 : Cond.instanceMethod yX2_deliveredAt ∈ lw_tbl := tb3 (List.mem_of_getElem? (i := 123) rfl)
theorem tw604 : Cond.selects RX2 yX2_deliveredAt yX2_deliveredAt ∈ lw_tbl := tb3 (List.mem_of_getElem? (i := 124) rfl)
theorem tw605 : Cond.code yX2_deliveredAt cX2_deliveredAt 8 (some FieldType.long) ∈ lw_tbl := tb3 (List.mem_of_getElem? (i := 125) rfl)
theorem tw606 : Cond.methodLink RX2 92 yX2_allHandled ∈ lw_tbl := tb3 (List.mem_of_getElem? (i := 126) rfl)
theorem tw608 : Cond.instanceMethod yX2_allHandled ∈ lw_tbl := tb3 (List.mem_of_getElem? (i := 128) rfl)
theorem tw609 : Cond.code yX2_allHandled cX2_allHandled 7 (some FieldType.long) ∈ lw_tbl := tb3 (List.mem_of_getElem? (i := 129) rfl)
theorem tw610 : Cond.methodLink RX2 81 yX7_handled ∈ lw_tbl := tb3 (List.mem_of_getElem? (i := 130) rfl)
theorem tw611 : Cond.methodLink RL 90 yX11_arrivals ∈ lw_tbl := tb3 (List.mem_of_getElem? (i := 131) rfl)
theorem tw612 : Cond.instanceMethod yX11_arrivals ∈ lw_tbl := tb3 (List.mem_of_getElem? (i := 132) rfl)
theorem tw613 : Cond.selects RX11 yX11_arrivals yX11_arrivals ∈ lw_tbl := tb3 (List.mem_of_getElem? (i := 133) rfl)
theorem tw614 : Cond.code yX11_arrivals cX11_arrivals 3 (some FieldType.int) ∈ lw_tbl := tb3 (List.mem_of_getElem? (i := 134) rfl)
theorem tw615 : Cond.methodLink RX11 229 yX2_countArrived ∈ lw_tbl := tb3 (List.mem_of_getElem? (i := 135) rfl)
theorem tw616 : Cond.instanceMethod yX2_countArrived ∈ lw_tbl := tb3 (List.mem_of_getElem? (i := 136) rfl)
theorem tw617 : Cond.selects RX2 yX2_countArrived yX2_countArrived ∈ lw_tbl := tb3 (List.mem_of_getElem? (i := 137) rfl)
theorem tw618 : Cond.code yX2_countArrived cX2_countArrived 4 (some FieldType.int) ∈ lw_tbl := tb3 (List.mem_of_getElem? (i := 138) rfl)
theorem tw619 : Cond.methodLink RX2 47 yJ13_bitCount_95d88 ∈ lw_tbl := tb3 (List.mem_of_getElem? (i := 139) rfl)
theorem tw620 : Cond.methodLink RX11 233 yX2_countDropped ∈ lw_tbl := tb3 (List.mem_of_getElem? (i := 140) rfl)
theorem tw621 : Cond.instanceMethod yX2_countDropped ∈ lw_tbl := tb3 (List.mem_of_getElem? (i := 141) rfl)
theorem tw622 : Cond.selects RX2 yX2_countDropped yX2_countDropped ∈ lw_tbl := tb3 (List.mem_of_getElem? (i := 142) rfl)
theorem tw623 : Cond.code yX2_countDropped cX2_countDropped 5 (some FieldType.int) ∈ lw_tbl := tb3 (List.mem_of_getElem? (i := 143) rfl)
theorem tw624 : Cond.methodLink RX2 78 yX2_countHandled ∈ lw_tbl := tb3 (List.mem_of_getElem? (i := 144) rfl)
theorem tw625 : Cond.instanceMethod yX2_countHandled ∈ lw_tbl := tb3 (List.mem_of_getElem? (i := 145) rfl)
theorem tw626 : Cond.selects RX2 yX2_countHandled yX2_countHandled ∈ lw_tbl := tb3 (List.mem_of_getElem? (i := 146) rfl)
theorem tw627 : Cond.code yX2_countHandled cX2_countHandled 6 (some FieldType.int) ∈ lw_tbl := tb3 (List.mem_of_getElem? (i := 147) rfl)
theorem tw628 : Cond.methodLink RX11 236 yX2_countLost ∈ lw_tbl := tb3 (List.mem_of_getElem? (i := 148) rfl)
theorem tw629 : Cond.instanceMethod yX2_countLost ∈ lw_tbl := tb3 (List.mem_of_getElem? (i := 149) rfl)
theorem tw630 : Cond.selects RX2 yX2_countLost yX2_countLost ∈ lw_tbl := tb3 (List.mem_of_getElem? (i := 150) rfl)
theorem tw631 : Cond.code yX2_countLost cX2_countLost 5 (some FieldType.int) ∈ lw_tbl := tb3 (List.mem_of_getElem? (i := 151) rfl)
theorem tw632 : Cond.methodLink RX2 65 yX7_leftFor ∈ lw_tbl := tb3 (List.mem_of_getElem? (i := 152) rfl)
theorem tw633 : Cond.methodLink RL 94 yX11_hits ∈ lw_tbl := tb3 (List.mem_of_getElem? (i := 153) rfl)
theorem tw634 : Cond.instanceMethod yX11_hits ∈ lw_tbl := tb3 (List.mem_of_getElem? (i := 154) rfl)
theorem tw635 : Cond.selects RX11 yX11_hits yX11_hits ∈ lw_tbl := tb3 (List.mem_of_getElem? (i := 155) rfl)
theorem tw636 : Cond.code yX11_hits cX11_hits 4 (some FieldType.int) ∈ lw_tbl := tb3 (List.mem_of_getElem? (i := 156) rfl)
theorem tw637 : Cond.methodLink RX11 239 yX2_countHandled ∈ lw_tbl := tb3 (List.mem_of_getElem? (i := 157) rfl)
theorem tw638 : Cond.methodLink RL 98 yX11_cube ∈ lw_tbl := tb3 (List.mem_of_getElem? (i := 158) rfl)
theorem tw639 : Cond.instanceMethod yX11_cube ∈ lw_tbl := tb3 (List.mem_of_getElem? (i := 159) rfl)
theorem tw640 : Cond.selects RX11 yX11_cube yX11_cube ∈ lw_tbl := tb3 (List.mem_of_getElem? (i := 160) rfl)
theorem tw641 : Cond.code yX11_cube cX11_cube 12 (some FieldType.int) ∈ lw_tbl := tb3 (List.mem_of_getElem? (i := 161) rfl)
theorem tw642 : Cond.methodLink RX11 242 yX11_hasHeader ∈ lw_tbl := tb3 (List.mem_of_getElem? (i := 162) rfl)
theorem tw643 : Cond.static yX11_hasHeader ∈ lw_tbl := tb3 (List.mem_of_getElem? (i := 163) rfl)
theorem tw644 : Cond.code yX11_hasHeader cX11_hasHeader 3 (some FieldType.boolean) ∈ lw_tbl := tb3 (List.mem_of_getElem? (i := 164) rfl)
theorem tw645 : Cond.methodLink RX11 246 yX11_widestCare ∈ lw_tbl := tb3 (List.mem_of_getElem? (i := 165) rfl)
theorem tw647 : Cond.instanceMethod yX11_widestCare ∈ lw_tbl := tb3 (List.mem_of_getElem? (i := 167) rfl)
theorem tw648 : Cond.code yX11_widestCare cX11_widestCare 9 (some FieldType.int) ∈ lw_tbl := tb3 (List.mem_of_getElem? (i := 168) rfl)
theorem tw649 : Cond.methodLink RL 102 yX11_origin ∈ lw_tbl := tb3 (List.mem_of_getElem? (i := 169) rfl)
theorem tw650 : Cond.instanceMethod yX11_origin ∈ lw_tbl := tb3 (List.mem_of_getElem? (i := 170) rfl)
theorem tw651 : Cond.selects RX11 yX11_origin yX11_origin ∈ lw_tbl := tb3 (List.mem_of_getElem? (i := 171) rfl)
theorem tw652 : Cond.code yX11_origin cX11_origin 4 (some FieldType.int) ∈ lw_tbl := tb3 (List.mem_of_getElem? (i := 172) rfl)
theorem tw653 : Cond.methodLink RX11 252 yX4_isHeader ∈ lw_tbl := tb3 (List.mem_of_getElem? (i := 173) rfl)
theorem tw654 : Cond.methodLink RX11 255 yX2_leastOrigin ∈ lw_tbl := tb3 (List.mem_of_getElem? (i := 174) rfl)
theorem tw655 : Cond.instanceMethod yX2_leastOrigin ∈ lw_tbl := tb3 (List.mem_of_getElem? (i := 175) rfl)
theorem tw656 : Cond.selects RX2 yX2_leastOrigin yX2_leastOrigin ∈ lw_tbl := tb3 (List.mem_of_getElem? (i := 176) rfl)
theorem tw657 : Cond.code yX2_leastOrigin cX2_leastOrigin 7 (some FieldType.int) ∈ lw_tbl := tb3 (List.mem_of_getElem? (i := 177) rfl)
theorem tw658 : Cond.methodLinkNest RX2 35 yX11_hasHeader RX11 ∈ lw_tbl := tb3 (List.mem_of_getElem? (i := 178) rfl)
theorem tw659 : Cond.methodLink RL 106 yX11_distance ∈ lw_tbl := tb3 (List.mem_of_getElem? (i := 179) rfl)
theorem tw660 : Cond.instanceMethod yX11_distance ∈ lw_tbl := tb3 (List.mem_of_getElem? (i := 180) rfl)
theorem tw661 : Cond.selects RX11 yX11_distance yX11_distance ∈ lw_tbl := tb3 (List.mem_of_getElem? (i := 181) rfl)
theorem tw662 : Cond.code yX11_distance cX11_distance 4 (some FieldType.int) ∈ lw_tbl := tb3 (List.mem_of_getElem? (i := 182) rfl)
theorem tw663 : Cond.methodLink RX11 259 yX11_isInjected ∈ lw_tbl := tb3 (List.mem_of_getElem? (i := 183) rfl)
theorem tw665 : Cond.instanceMethod yX11_isInjected ∈ lw_tbl := tb3 (List.mem_of_getElem? (i := 185) rfl)
theorem tw666 : Cond.code yX11_isInjected cX11_isInjected 2 (some FieldType.boolean) ∈ lw_tbl := tb3 (List.mem_of_getElem? (i := 186) rfl)
theorem tw667 : Cond.methodLink RX11 262 yX2_leastLinks ∈ lw_tbl := tb3 (List.mem_of_getElem? (i := 187) rfl)
theorem tw668 : Cond.instanceMethod yX2_leastLinks ∈ lw_tbl := tb3 (List.mem_of_getElem? (i := 188) rfl)
theorem tw669 : Cond.selects RX2 yX2_leastLinks yX2_leastLinks ∈ lw_tbl := tb3 (List.mem_of_getElem? (i := 189) rfl)
theorem tw670 : Cond.code yX2_leastLinks cX2_leastLinks 5 (some FieldType.int) ∈ lw_tbl := tb3 (List.mem_of_getElem? (i := 190) rfl)
theorem tw671 : Cond.methodLink RL 110 yX11_trace ∈ lw_tbl := tb3 (List.mem_of_getElem? (i := 191) rfl)
theorem tw672 : Cond.instanceMethod yX11_trace ∈ lw_tbl := tb3 (List.mem_of_getElem? (i := 192) rfl)
theorem tw673 : Cond.selects RX11 yX11_trace yX11_trace ∈ lw_tbl := tb3 (List.mem_of_getElem? (i := 193) rfl)
theorem tw674 : Cond.code yX11_trace cX11_trace 4 (some FieldType.int) ∈ lw_tbl := tb3 (List.mem_of_getElem? (i := 194) rfl)
theorem tw675 : Cond.methodLink RX11 266 yJ9_min_7cf53 ∈ lw_tbl := tb3 (List.mem_of_getElem? (i := 195) rfl)
theorem tw676 : Cond.methodLink RX11 271 yX10_go ∈ lw_tbl := tb3 (List.mem_of_getElem? (i := 196) rfl)
theorem tw677 : Cond.instanceMethod yX10_go ∈ lw_tbl := tb3 (List.mem_of_getElem? (i := 197) rfl)
theorem tw678 : Cond.selects RX10 yX10_go yX10_go ∈ lw_tbl := tb3 (List.mem_of_getElem? (i := 198) rfl)
theorem tw679 : Cond.code yX10_go cX10_go 5 (some FieldType.int) ∈ lw_tbl := tb3 (List.mem_of_getElem? (i := 199) rfl)
theorem tw680 : Cond.methodLink RX10 19 yJ7_fill_d0a16 ∈ lw_tbl := tb3 (List.mem_of_getElem? (i := 200) rfl)
theorem tw681 : Cond.methodLink RX10 35 yX10_goOnce ∈ lw_tbl := tb3 (List.mem_of_getElem? (i := 201) rfl)
theorem tw683 : Cond.instanceMethod yX10_goOnce ∈ lw_tbl := tb3 (List.mem_of_getElem? (i := 203) rfl)
theorem tw684 : Cond.code yX10_goOnce cX10_goOnce 7 none ∈ lw_tbl := tb3 (List.mem_of_getElem? (i := 204) rfl)
theorem tw685 : Cond.methodLink RX10 44 yX7_handler ∈ lw_tbl := tb3 (List.mem_of_getElem? (i := 205) rfl)
theorem tw686 : Cond.instanceMethod yX7_handler ∈ lw_tbl := tb3 (List.mem_of_getElem? (i := 206) rfl)
theorem tw687 : Cond.selects RX7 yX7_handler yX7_handler ∈ lw_tbl := tb3 (List.mem_of_getElem? (i := 207) rfl)
theorem tw688 : Cond.code yX7_handler cX7_handler 7 (some FieldType.int) ∈ lw_tbl := tb3 (List.mem_of_getElem? (i := 208) rfl)
theorem tw689 : Cond.methodLink RX10 54 yX6_lowestOutput ∈ lw_tbl := tb3 (List.mem_of_getElem? (i := 209) rfl)
theorem tw690 : Cond.instanceMethod yX6_lowestOutput ∈ lw_tbl := tb3 (List.mem_of_getElem? (i := 210) rfl)
theorem tw691 : Cond.selects RX6 yX6_lowestOutput yX6_lowestOutput ∈ lw_tbl := tb3 (List.mem_of_getElem? (i := 211) rfl)
theorem tw692 : Cond.code yX6_lowestOutput cX6_lowestOutput 2 (some FieldType.int) ∈ lw_tbl := tb3 (List.mem_of_getElem? (i := 212) rfl)
theorem tw693 : Cond.methodLinkNest RX6 51 yX11_hasPort RX11 ∈ lw_tbl := tb3 (List.mem_of_getElem? (i := 213) rfl)
theorem tw694 : Cond.methodLinkNest RX10 64 yX11_placeOf RX11 ∈ lw_tbl := tb3 (List.mem_of_getElem? (i := 214) rfl)
theorem tw695 : Cond.methodLink RX10 68 yX6_rewritten ∈ lw_tbl := tb3 (List.mem_of_getElem? (i := 215) rfl)
theorem tw696 : Cond.instanceMethod yX6_rewritten ∈ lw_tbl := tb3 (List.mem_of_getElem? (i := 216) rfl)
theorem tw697 : Cond.selects RX6 yX6_rewritten yX6_rewritten ∈ lw_tbl := tb3 (List.mem_of_getElem? (i := 217) rfl)
theorem tw698 : Cond.code yX6_rewritten cX6_rewritten 2 (some FieldType.int) ∈ lw_tbl := tb3 (List.mem_of_getElem? (i := 218) rfl)
theorem tw699 : Cond.methodLinkNest RX10 72 yX11_hasHeader RX11 ∈ lw_tbl := tb3 (List.mem_of_getElem? (i := 219) rfl)
theorem tw700 : Cond.methodLink RL 114 yX11_traceEnd ∈ lw_tbl := tb3 (List.mem_of_getElem? (i := 220) rfl)
theorem tw701 : Cond.instanceMethod yX11_traceEnd ∈ lw_tbl := tb3 (List.mem_of_getElem? (i := 221) rfl)
theorem tw702 : Cond.selects RX11 yX11_traceEnd yX11_traceEnd ∈ lw_tbl := tb3 (List.mem_of_getElem? (i := 222) rfl)
theorem tw703 : Cond.code yX11_traceEnd cX11_traceEnd 2 (some FieldType.int) ∈ lw_tbl := tb3 (List.mem_of_getElem? (i := 223) rfl)
theorem tw704 : Cond.methodLink RL 118 yX11_loops ∈ lw_tbl := tb3 (List.mem_of_getElem? (i := 224) rfl)
theorem tw705 : Cond.instanceMethod yX11_loops ∈ lw_tbl := tb3 (List.mem_of_getElem? (i := 225) rfl)
theorem tw706 : Cond.selects RX11 yX11_loops yX11_loops ∈ lw_tbl := tb3 (List.mem_of_getElem? (i := 226) rfl)
theorem tw707 : Cond.code yX11_loops cX11_loops 1 (some FieldType.long) ∈ lw_tbl := tb3 (List.mem_of_getElem? (i := 227) rfl)
theorem tw708 : Cond.methodLink RX11 283 yX1_find ∈ lw_tbl := tb3 (List.mem_of_getElem? (i := 228) rfl)
theorem tw709 : Cond.instanceMethod yX1_find ∈ lw_tbl := tb3 (List.mem_of_getElem? (i := 229) rfl)
theorem tw710 : Cond.selects RX1 yX1_find yX1_find ∈ lw_tbl := tb3 (List.mem_of_getElem? (i := 230) rfl)
theorem tw711 : Cond.code yX1_find cX1_find 4 none ∈ lw_tbl := tb3 (List.mem_of_getElem? (i := 231) rfl)
theorem tw712 : Cond.methodLink RX1 19 yJ7_fill_d0a16 ∈ lw_tbl := tb3 (List.mem_of_getElem? (i := 232) rfl)
theorem tw713 : Cond.methodLink RX1 25 yX1_growOnce ∈ lw_tbl := tb3 (List.mem_of_getElem? (i := 233) rfl)
theorem tw715 : Cond.instanceMethod yX1_growOnce ∈ lw_tbl := tb3 (List.mem_of_getElem? (i := 235) rfl)
theorem tw716 : Cond.code yX1_growOnce cX1_growOnce 6 (some FieldType.boolean) ∈ lw_tbl := tb3 (List.mem_of_getElem? (i := 236) rfl)
theorem tw717 : Cond.methodLink RX1 29 yX1_ending ∈ lw_tbl := tb3 (List.mem_of_getElem? (i := 237) rfl)
theorem tw719 : Cond.instanceMethod yX1_ending ∈ lw_tbl := tb3 (List.mem_of_getElem? (i := 239) rfl)
theorem tw720 : Cond.code yX1_ending cX1_ending 12 (some FieldType.long) ∈ lw_tbl := tb4 (List.mem_of_getElem? (i := 0) rfl)
theorem tw721 : Cond.methodLink RX1 43 yX4_allHeaders ∈ lw_tbl := tb4 (List.mem_of_getElem? (i := 1) rfl)
theorem tw722 : Cond.methodLink RX1 57 yX6_taken ∈ lw_tbl := tb4 (List.mem_of_getElem? (i := 2) rfl)
theorem tw723 : Cond.constantLong RX1 63 (-1) ∈ lw_tbl := tb4 (List.mem_of_getElem? (i := 3) rfl)
theorem tw724 : Cond.methodLink RX1 68 yX1_endingBehindAll ∈ lw_tbl := tb4 (List.mem_of_getElem? (i := 4) rfl)
theorem tw726 : Cond.instanceMethod yX1_endingBehindAll ∈ lw_tbl := tb4 (List.mem_of_getElem? (i := 6) rfl)
theorem tw727 : Cond.code yX1_endingBehindAll cX1_endingBehindAll 7 (some FieldType.long) ∈ lw_tbl := tb4 (List.mem_of_getElem? (i := 7) rfl)
theorem tw728 : Cond.methodLinkNest RX1 79 yX11_placeOf RX11 ∈ lw_tbl := tb4 (List.mem_of_getElem? (i := 8) rfl)
theorem tw729 : Cond.methodLinkNest RX1 83 yX11_hasPort RX11 ∈ lw_tbl := tb4 (List.mem_of_getElem? (i := 9) rfl)
theorem tw730 : Cond.methodLink RX1 71 yX6_leadingInto ∈ lw_tbl := tb4 (List.mem_of_getElem? (i := 10) rfl)
theorem tw731 : Cond.instanceMethod yX6_leadingInto ∈ lw_tbl := tb4 (List.mem_of_getElem? (i := 11) rfl)
theorem tw732 : Cond.selects RX6 yX6_leadingInto yX6_leadingInto ∈ lw_tbl := tb4 (List.mem_of_getElem? (i := 12) rfl)
theorem tw733 : Cond.code yX6_leadingInto cX6_leadingInto 11 (some FieldType.long) ∈ lw_tbl := tb4 (List.mem_of_getElem? (i := 13) rfl)
theorem tw734 : Cond.methodLink RX1 33 yX1_delivering ∈ lw_tbl := tb4 (List.mem_of_getElem? (i := 14) rfl)
theorem tw736 : Cond.instanceMethod yX1_delivering ∈ lw_tbl := tb4 (List.mem_of_getElem? (i := 16) rfl)
theorem tw737 : Cond.code yX1_delivering cX1_delivering 13 (some FieldType.long) ∈ lw_tbl := tb4 (List.mem_of_getElem? (i := 17) rfl)
theorem tw738 : Cond.methodLink RX1 87 yX1_deliveredBehindOne ∈ lw_tbl := tb4 (List.mem_of_getElem? (i := 18) rfl)
theorem tw740 : Cond.instanceMethod yX1_deliveredBehindOne ∈ lw_tbl := tb4 (List.mem_of_getElem? (i := 20) rfl)
theorem tw741 : Cond.code yX1_deliveredBehindOne cX1_deliveredBehindOne 8 (some FieldType.long) ∈ lw_tbl := tb4 (List.mem_of_getElem? (i := 21) rfl)
theorem tw742 : Cond.methodLink RL 123 yX11_cutSize ∈ lw_tbl := tb4 (List.mem_of_getElem? (i := 22) rfl)
theorem tw743 : Cond.instanceMethod yX11_cutSize ∈ lw_tbl := tb4 (List.mem_of_getElem? (i := 23) rfl)
theorem tw744 : Cond.selects RX11 yX11_cutSize yX11_cutSize ∈ lw_tbl := tb4 (List.mem_of_getElem? (i := 24) rfl)
theorem tw745 : Cond.code yX11_cutSize cX11_cutSize 3 (some FieldType.int) ∈ lw_tbl := tb4 (List.mem_of_getElem? (i := 25) rfl)
theorem tw746 : Cond.methodLink RX11 289 yX0_smallest ∈ lw_tbl := tb4 (List.mem_of_getElem? (i := 26) rfl)
theorem tw747 : Cond.instanceMethod yX0_smallest ∈ lw_tbl := tb4 (List.mem_of_getElem? (i := 27) rfl)
theorem tw748 : Cond.selects RX0 yX0_smallest yX0_smallest ∈ lw_tbl := tb4 (List.mem_of_getElem? (i := 28) rfl)
theorem tw749 : Cond.code yX0_smallest cX0_smallest 7 (some FieldType.int) ∈ lw_tbl := tb4 (List.mem_of_getElem? (i := 29) rfl)
theorem tw750 : Cond.methodLink RX0 46 yX0_openWay ∈ lw_tbl := tb4 (List.mem_of_getElem? (i := 30) rfl)
theorem tw752 : Cond.instanceMethod yX0_openWay ∈ lw_tbl := tb4 (List.mem_of_getElem? (i := 32) rfl)
theorem tw753 : Cond.code yX0_openWay cX0_openWay 5 (some FieldType.long) ∈ lw_tbl := tb4 (List.mem_of_getElem? (i := 33) rfl)
theorem tw754 : Cond.methodLink RX0 73 yJ7_fill_d0a16 ∈ lw_tbl := tb4 (List.mem_of_getElem? (i := 34) rfl)
theorem tw755 : Cond.methodLinkNest RX0 82 yX11_hasHeader RX11 ∈ lw_tbl := tb4 (List.mem_of_getElem? (i := 35) rfl)
theorem tw756 : Cond.methodLink RX0 85 yX0_enqueue ∈ lw_tbl := tb4 (List.mem_of_getElem? (i := 36) rfl)
theorem tw758 : Cond.instanceMethod yX0_enqueue ∈ lw_tbl := tb4 (List.mem_of_getElem? (i := 38) rfl)
theorem tw759 : Cond.code yX0_enqueue cX0_enqueue 5 none ∈ lw_tbl := tb4 (List.mem_of_getElem? (i := 39) rfl)
theorem tw760 : Cond.methodLink RX0 89 yX0_handlingSlot ∈ lw_tbl := tb4 (List.mem_of_getElem? (i := 40) rfl)
theorem tw762 : Cond.instanceMethod yX0_handlingSlot ∈ lw_tbl := tb4 (List.mem_of_getElem? (i := 42) rfl)
theorem tw763 : Cond.code yX0_handlingSlot cX0_handlingSlot 9 (some FieldType.int) ∈ lw_tbl := tb4 (List.mem_of_getElem? (i := 43) rfl)
theorem tw764 : Cond.methodLink RX0 103 yX7_handler ∈ lw_tbl := tb4 (List.mem_of_getElem? (i := 44) rfl)
theorem tw765 : Cond.methodLink RX0 93 yX0_reachesTarget ∈ lw_tbl := tb4 (List.mem_of_getElem? (i := 45) rfl)
theorem tw767 : Cond.instanceMethod yX0_reachesTarget ∈ lw_tbl := tb4 (List.mem_of_getElem? (i := 47) rfl)
theorem tw768 : Cond.code yX0_reachesTarget cX0_reachesTarget 10 (some FieldType.boolean) ∈ lw_tbl := tb4 (List.mem_of_getElem? (i := 48) rfl)
theorem tw769 : Cond.methodLink RX0 113 yX6_rewritten ∈ lw_tbl := tb4 (List.mem_of_getElem? (i := 49) rfl)
theorem tw770 : Cond.methodLinkNest RX0 122 yX11_hasPort RX11 ∈ lw_tbl := tb4 (List.mem_of_getElem? (i := 50) rfl)
theorem tw771 : Cond.methodLinkNest RX0 128 yX11_placeOf RX11 ∈ lw_tbl := tb4 (List.mem_of_getElem? (i := 51) rfl)
theorem tw772 : Cond.methodLink RX0 50 yX0_cutByOne ∈ lw_tbl := tb4 (List.mem_of_getElem? (i := 52) rfl)
theorem tw774 : Cond.instanceMethod yX0_cutByOne ∈ lw_tbl := tb4 (List.mem_of_getElem? (i := 54) rfl)
theorem tw775 : Cond.code yX0_cutByOne cX0_cutByOne 4 (some FieldType.boolean) ∈ lw_tbl := tb4 (List.mem_of_getElem? (i := 55) rfl)
theorem tw776 : Cond.methodLink RX0 61 yX0_isOn ∈ lw_tbl := tb4 (List.mem_of_getElem? (i := 56) rfl)
theorem tw777 : Cond.static yX0_isOn ∈ lw_tbl := tb4 (List.mem_of_getElem? (i := 57) rfl)
theorem tw778 : Cond.code yX0_isOn cX0_isOn 3 (some FieldType.boolean) ∈ lw_tbl := tb4 (List.mem_of_getElem? (i := 58) rfl)
theorem tw779 : Cond.methodLink RX0 54 yX0_cutByTwo ∈ lw_tbl := tb4 (List.mem_of_getElem? (i := 59) rfl)
theorem tw781 : Cond.instanceMethod yX0_cutByTwo ∈ lw_tbl := tb4 (List.mem_of_getElem? (i := 61) rfl)
theorem tw782 : Cond.code yX0_cutByTwo cX0_cutByTwo 5 (some FieldType.boolean) ∈ lw_tbl := tb4 (List.mem_of_getElem? (i := 62) rfl)
theorem tw783 : Cond.methodLink RX0 65 yX0_knownWay ∈ lw_tbl := tb4 (List.mem_of_getElem? (i := 63) rfl)
theorem tw785 : Cond.instanceMethod yX0_knownWay ∈ lw_tbl := tb4 (List.mem_of_getElem? (i := 65) rfl)
theorem tw786 : Cond.code yX0_knownWay cX0_knownWay 3 (some FieldType.long) ∈ lw_tbl := tb4 (List.mem_of_getElem? (i := 66) rfl)
theorem tw787 : Cond.methodLink RX0 58 yX0_cutByThree ∈ lw_tbl := tb4 (List.mem_of_getElem? (i := 67) rfl)
theorem tw789 : Cond.instanceMethod yX0_cutByThree ∈ lw_tbl := tb4 (List.mem_of_getElem? (i := 69) rfl)
theorem tw790 : Cond.code yX0_cutByThree cX0_cutByThree 6 (some FieldType.boolean) ∈ lw_tbl := tb4 (List.mem_of_getElem? (i := 70) rfl)
theorem tw791 : Cond.methodLink RX0 69 yX0_isWorthTrying ∈ lw_tbl := tb4 (List.mem_of_getElem? (i := 71) rfl)
theorem tw793 : Cond.instanceMethod yX0_isWorthTrying ∈ lw_tbl := tb4 (List.mem_of_getElem? (i := 73) rfl)
theorem tw794 : Cond.code yX0_isWorthTrying cX0_isWorthTrying 4 (some FieldType.boolean) ∈ lw_tbl := tb4 (List.mem_of_getElem? (i := 74) rfl)
theorem tw795 : Cond.methodLink RL 127 yX11_cutRule ∈ lw_tbl := tb4 (List.mem_of_getElem? (i := 75) rfl)
theorem tw796 : Cond.instanceMethod yX11_cutRule ∈ lw_tbl := tb4 (List.mem_of_getElem? (i := 76) rfl)
theorem tw797 : Cond.selects RX11 yX11_cutRule yX11_cutRule ∈ lw_tbl := tb4 (List.mem_of_getElem? (i := 77) rfl)
theorem tw798 : Cond.code yX11_cutRule cX11_cutRule 6 (some FieldType.int) ∈ lw_tbl := tb4 (List.mem_of_getElem? (i := 78) rfl)
theorem tw799 : Cond.methodLink RL 131 yX11_addPolicy ∈ lw_tbl := tb4 (List.mem_of_getElem? (i := 79) rfl)
theorem tw800 : Cond.instanceMethod yX11_addPolicy ∈ lw_tbl := tb4 (List.mem_of_getElem? (i := 80) rfl)
theorem tw801 : Cond.selects RX11 yX11_addPolicy yX11_addPolicy ∈ lw_tbl := tb4 (List.mem_of_getElem? (i := 81) rfl)
theorem tw802 : Cond.code yX11_addPolicy cX11_addPolicy 7 (some FieldType.int) ∈ lw_tbl := tb4 (List.mem_of_getElem? (i := 82) rfl)
theorem tw803 : Cond.methodLink RL 136 yX11_setPolicyCube ∈ lw_tbl := tb4 (List.mem_of_getElem? (i := 83) rfl)
theorem tw804 : Cond.instanceMethod yX11_setPolicyCube ∈ lw_tbl := tb4 (List.mem_of_getElem? (i := 84) rfl)
theorem tw805 : Cond.selects RX11 yX11_setPolicyCube yX11_setPolicyCube ∈ lw_tbl := tb4 (List.mem_of_getElem? (i := 85) rfl)
theorem tw806 : Cond.code yX11_setPolicyCube cX11_setPolicyCube 6 (some FieldType.int) ∈ lw_tbl := tb4 (List.mem_of_getElem? (i := 86) rfl)
theorem tw807 : Cond.methodLink RX11 308 yX11_isPolicy ∈ lw_tbl := tb4 (List.mem_of_getElem? (i := 87) rfl)
theorem tw809 : Cond.instanceMethod yX11_isPolicy ∈ lw_tbl := tb4 (List.mem_of_getElem? (i := 89) rfl)
theorem tw810 : Cond.code yX11_isPolicy cX11_isPolicy 2 (some FieldType.boolean) ∈ lw_tbl := tb4 (List.mem_of_getElem? (i := 90) rfl)
theorem tw811 : Cond.methodLink RL 140 yX11_counterexamples ∈ lw_tbl := tb4 (List.mem_of_getElem? (i := 91) rfl)
theorem tw812 : Cond.instanceMethod yX11_counterexamples ∈ lw_tbl := tb4 (List.mem_of_getElem? (i := 92) rfl)
theorem tw813 : Cond.selects RX11 yX11_counterexamples yX11_counterexamples ∈ lw_tbl := tb4 (List.mem_of_getElem? (i := 93) rfl)
theorem tw814 : Cond.code yX11_counterexamples cX11_counterexamples 2 (some FieldType.long) ∈ lw_tbl := tb4 (List.mem_of_getElem? (i := 94) rfl)
theorem tw815 : Cond.methodLink RX11 311 yX11_against ∈ lw_tbl := tb4 (List.mem_of_getElem? (i := 95) rfl)
theorem tw817 : Cond.instanceMethod yX11_against ∈ lw_tbl := tb4 (List.mem_of_getElem? (i := 97) rfl)
theorem tw818 : Cond.code yX11_against cX11_against 4 (some FieldType.long) ∈ lw_tbl := tb4 (List.mem_of_getElem? (i := 98) rfl)
theorem tw819 : Cond.methodLink RL 145 yX11_violated ∈ lw_tbl := tb4 (List.mem_of_getElem? (i := 99) rfl)
theorem tw820 : Cond.instanceMethod yX11_violated ∈ lw_tbl := tb4 (List.mem_of_getElem? (i := 100) rfl)
theorem tw821 : Cond.selects RX11 yX11_violated yX11_violated ∈ lw_tbl := tb4 (List.mem_of_getElem? (i := 101) rfl)
theorem tw822 : Cond.code yX11_violated cX11_violated 3 (some FieldType.int) ∈ lw_tbl := tb4 (List.mem_of_getElem? (i := 102) rfl)
theorem tw823 : Cond.methodLink RL 149 yX11_clearPolicies ∈ lw_tbl := tb4 (List.mem_of_getElem? (i := 103) rfl)
theorem tw824 : Cond.instanceMethod yX11_clearPolicies ∈ lw_tbl := tb4 (List.mem_of_getElem? (i := 104) rfl)
theorem tw825 : Cond.selects RX11 yX11_clearPolicies yX11_clearPolicies ∈ lw_tbl := tb4 (List.mem_of_getElem? (i := 105) rfl)
theorem tw826 : Cond.code yX11_clearPolicies cX11_clearPolicies 2 (some FieldType.int) ∈ lw_tbl := tb4 (List.mem_of_getElem? (i := 106) rfl)
theorem tw827 : Cond.methodLink RL 153 yX11_type ∈ lw_tbl := tb4 (List.mem_of_getElem? (i := 107) rfl)
theorem tw828 : Cond.instanceMethod yX11_type ∈ lw_tbl := tb4 (List.mem_of_getElem? (i := 108) rfl)
theorem tw829 : Cond.selects RX11 yX11_type yX11_type ∈ lw_tbl := tb4 (List.mem_of_getElem? (i := 109) rfl)
theorem tw830 : Cond.code yX11_type cX11_type 2 (some FieldType.int) ∈ lw_tbl := tb4 (List.mem_of_getElem? (i := 110) rfl)
theorem tw831 : Cond.methodLink RL 158 yX11_clearText ∈ lw_tbl := tb4 (List.mem_of_getElem? (i := 111) rfl)
theorem tw832 : Cond.instanceMethod yX11_clearText ∈ lw_tbl := tb4 (List.mem_of_getElem? (i := 112) rfl)
theorem tw833 : Cond.selects RX11 yX11_clearText yX11_clearText ∈ lw_tbl := tb4 (List.mem_of_getElem? (i := 113) rfl)
theorem tw834 : Cond.code yX11_clearText cX11_clearText 2 (some FieldType.int) ∈ lw_tbl := tb4 (List.mem_of_getElem? (i := 114) rfl)
theorem tw835 : Cond.methodLink RL 162 yX11_readRule ∈ lw_tbl := tb4 (List.mem_of_getElem? (i := 115) rfl)
theorem tw836 : Cond.instanceMethod yX11_readRule ∈ lw_tbl := tb4 (List.mem_of_getElem? (i := 116) rfl)
theorem tw837 : Cond.selects RX11 yX11_readRule yX11_readRule ∈ lw_tbl := tb4 (List.mem_of_getElem? (i := 117) rfl)
theorem tw838 : Cond.code yX11_readRule cX11_readRule 2 (some FieldType.int) ∈ lw_tbl := tb4 (List.mem_of_getElem? (i := 118) rfl)
theorem tw839 : Cond.methodLink RX11 322 yX9_isRule ∈ lw_tbl := tb4 (List.mem_of_getElem? (i := 119) rfl)
theorem tw840 : Cond.instanceMethod yX9_isRule ∈ lw_tbl := tb4 (List.mem_of_getElem? (i := 120) rfl)
theorem tw841 : Cond.selects RX9 yX9_isRule yX9_isRule ∈ lw_tbl := tb4 (List.mem_of_getElem? (i := 121) rfl)
theorem tw842 : Cond.code yX9_isRule cX9_isRule 2 (some FieldType.boolean) ∈ lw_tbl := tb4 (List.mem_of_getElem? (i := 122) rfl)
theorem tw843 : Cond.methodLink RX9 28 yX9_readsPorts ∈ lw_tbl := tb4 (List.mem_of_getElem? (i := 123) rfl)
theorem tw845 : Cond.instanceMethod yX9_readsPorts ∈ lw_tbl := tb4 (List.mem_of_getElem? (i := 125) rfl)
theorem tw846 : Cond.code yX9_readsPorts cX9_readsPorts 1 (some FieldType.boolean) ∈ lw_tbl := tb4 (List.mem_of_getElem? (i := 126) rfl)
theorem tw847 : Cond.methodLink RX9 32 yX9_accepts ∈ lw_tbl := tb4 (List.mem_of_getElem? (i := 127) rfl)
theorem tw849 : Cond.instanceMethod yX9_accepts ∈ lw_tbl := tb4 (List.mem_of_getElem? (i := 129) rfl)
theorem tw850 : Cond.code yX9_accepts cX9_accepts 2 (some FieldType.boolean) ∈ lw_tbl := tb4 (List.mem_of_getElem? (i := 130) rfl)
theorem tw851 : Cond.methodLink RX9 63 yX9_readDigits ∈ lw_tbl := tb4 (List.mem_of_getElem? (i := 131) rfl)
theorem tw853 : Cond.instanceMethod yX9_readDigits ∈ lw_tbl := tb4 (List.mem_of_getElem? (i := 133) rfl)
theorem tw854 : Cond.code yX9_readDigits cX9_readDigits 3 (some FieldType.int) ∈ lw_tbl := tb4 (List.mem_of_getElem? (i := 134) rfl)
theorem tw855 : Cond.methodLink RX9 36 yX9_readsPattern ∈ lw_tbl := tb4 (List.mem_of_getElem? (i := 135) rfl)
theorem tw857 : Cond.instanceMethod yX9_readsPattern ∈ lw_tbl := tb4 (List.mem_of_getElem? (i := 137) rfl)
theorem tw858 : Cond.code yX9_readsPattern cX9_readsPattern 3 (some FieldType.boolean) ∈ lw_tbl := tb4 (List.mem_of_getElem? (i := 138) rfl)
theorem tw859 : Cond.methodLink RX9 43 yX9_readsOutputs ∈ lw_tbl := tb4 (List.mem_of_getElem? (i := 139) rfl)
theorem tw861 : Cond.instanceMethod yX9_readsOutputs ∈ lw_tbl := tb4 (List.mem_of_getElem? (i := 141) rfl)
theorem tw862 : Cond.code yX9_readsOutputs cX9_readsOutputs 1 (some FieldType.boolean) ∈ lw_tbl := tb4 (List.mem_of_getElem? (i := 142) rfl)
theorem tw863 : Cond.methodLink RX9 46 yX9_readsRewriting ∈ lw_tbl := tb4 (List.mem_of_getElem? (i := 143) rfl)
theorem tw865 : Cond.instanceMethod yX9_readsRewriting ∈ lw_tbl := tb4 (List.mem_of_getElem? (i := 145) rfl)
theorem tw866 : Cond.code yX9_readsRewriting cX9_readsRewriting 5 (some FieldType.boolean) ∈ lw_tbl := tb4 (List.mem_of_getElem? (i := 146) rfl)
theorem tw867 : Cond.methodLink RX11 328 yX9_readOne ∈ lw_tbl := tb4 (List.mem_of_getElem? (i := 147) rfl)
theorem tw868 : Cond.instanceMethod yX9_readOne ∈ lw_tbl := tb4 (List.mem_of_getElem? (i := 148) rfl)
theorem tw869 : Cond.selects RX9 yX9_readOne yX9_readOne ∈ lw_tbl := tb4 (List.mem_of_getElem? (i := 149) rfl)
theorem tw870 : Cond.code yX9_readOne cX9_readOne 1 (some (FieldType.object "HeaderSpaceNetwork$Rule")) ∈ lw_tbl := tb4 (List.mem_of_getElem? (i := 150) rfl)
theorem tw871 : Cond.classLink RX9 49 RX6 ∈ lw_tbl := tb4 (List.mem_of_getElem? (i := 151) rfl)
theorem tw872 : Cond.methodLink RX9 60 yX6_init ∈ lw_tbl := tb4 (List.mem_of_getElem? (i := 152) rfl)
theorem tw873 : Cond.methodLink RL 166 yX11_ruleText ∈ lw_tbl := tb4 (List.mem_of_getElem? (i := 153) rfl)
theorem tw874 : Cond.instanceMethod yX11_ruleText ∈ lw_tbl := tb4 (List.mem_of_getElem? (i := 154) rfl)
theorem tw875 : Cond.selects RX11 yX11_ruleText yX11_ruleText ∈ lw_tbl := tb4 (List.mem_of_getElem? (i := 155) rfl)
theorem tw876 : Cond.code yX11_ruleText cX11_ruleText 5 (some FieldType.int) ∈ lw_tbl := tb4 (List.mem_of_getElem? (i := 156) rfl)
theorem tw877 : Cond.methodLink RX11 332 yX8_write ∈ lw_tbl := tb4 (List.mem_of_getElem? (i := 157) rfl)
theorem tw878 : Cond.instanceMethod yX8_write ∈ lw_tbl := tb4 (List.mem_of_getElem? (i := 158) rfl)
theorem tw879 : Cond.selects RX8 yX8_write yX8_write ∈ lw_tbl := tb4 (List.mem_of_getElem? (i := 159) rfl)
theorem tw880 : Cond.code yX8_write cX8_write 3 none ∈ lw_tbl := tb4 (List.mem_of_getElem? (i := 160) rfl)
theorem tw881 : Cond.methodLink RX8 24 yX8_put ∈ lw_tbl := tb4 (List.mem_of_getElem? (i := 161) rfl)
theorem tw883 : Cond.instanceMethod yX8_put ∈ lw_tbl := tb4 (List.mem_of_getElem? (i := 163) rfl)
theorem tw884 : Cond.code yX8_put cX8_put 2 none ∈ lw_tbl := tb4 (List.mem_of_getElem? (i := 164) rfl)
theorem tw885 : Cond.methodLink RX8 28 yX8_putDigits ∈ lw_tbl := tb4 (List.mem_of_getElem? (i := 165) rfl)
theorem tw887 : Cond.instanceMethod yX8_putDigits ∈ lw_tbl := tb4 (List.mem_of_getElem? (i := 167) rfl)
theorem tw888 : Cond.code yX8_putDigits cX8_putDigits 3 none ∈ lw_tbl := tb4 (List.mem_of_getElem? (i := 168) rfl)
theorem tw889 : Cond.methodLinkNest RX8 51 yX11_hasPort RX11 ∈ lw_tbl := tb4 (List.mem_of_getElem? (i := 169) rfl)
theorem tw890 : Cond.methodLink RX8 38 yX8_putPattern ∈ lw_tbl := tb4 (List.mem_of_getElem? (i := 170) rfl)
theorem tw892 : Cond.instanceMethod yX8_putPattern ∈ lw_tbl := tb4 (List.mem_of_getElem? (i := 172) rfl)
theorem tw893 : Cond.code yX8_putPattern cX8_putPattern 5 none ∈ lw_tbl := tb4 (List.mem_of_getElem? (i := 173) rfl)
theorem tw894 : Cond.classLink RL 10 RX12 ∈ lw_tbl := tb4 (List.mem_of_getElem? (i := 174) rfl)
theorem tw895 : Cond.instantiable RX12 33 ∈ lw_tbl := tb4 (List.mem_of_getElem? (i := 175) rfl)
theorem tw896 : Cond.methodLink RL 12 yX12_init ∈ lw_tbl := tb4 (List.mem_of_getElem? (i := 176) rfl)
theorem tw897 : Cond.instanceMethod yX12_init ∈ lw_tbl := tb4 (List.mem_of_getElem? (i := 177) rfl)
theorem tw898 : Cond.code yX12_init cX12_init 1 none ∈ lw_tbl := tb4 (List.mem_of_getElem? (i := 178) rfl)
theorem tw899 : Cond.methodLink RX12 1 objectInit ∈ lw_tbl := tb4 (List.mem_of_getElem? (i := 179) rfl)
theorem tw900 : Cond.methodLink RX12 71 yX12_begin ∈ lw_tbl := tb4 (List.mem_of_getElem? (i := 180) rfl)
theorem tw902 : Cond.instanceMethod yX12_begin ∈ lw_tbl := tb4 (List.mem_of_getElem? (i := 182) rfl)
theorem tw903 : Cond.code yX12_begin cX12_begin 2 none ∈ lw_tbl := tb4 (List.mem_of_getElem? (i := 183) rfl)
theorem tw904 : Cond.fieldLink RX12 67 RX12 "bits" "I" ∈ lw_tbl := tb4 (List.mem_of_getElem? (i := 184) rfl)
theorem tw905 : Cond.fieldLink RX12 7 RX12 "linked" "[I" ∈ lw_tbl := tb4 (List.mem_of_getElem? (i := 185) rfl)
theorem tw906 : Cond.fieldLink RX12 76 RX12 "links" "I" ∈ lw_tbl := tb4 (List.mem_of_getElem? (i := 186) rfl)
theorem tw907 : Cond.fieldLink RX12 13 RX12 "now" "[I" ∈ lw_tbl := tb4 (List.mem_of_getElem? (i := 187) rfl)
theorem tw908 : Cond.fieldLink RX12 79 RX12 "injectedAt" "I" ∈ lw_tbl := tb4 (List.mem_of_getElem? (i := 188) rfl)
theorem tw909 : Cond.fieldLink RX12 82 RX12 "injectedCare" "I" ∈ lw_tbl := tb4 (List.mem_of_getElem? (i := 189) rfl)
theorem tw910 : Cond.fieldLink RX12 85 RX12 "injectedValue" "I" ∈ lw_tbl := tb4 (List.mem_of_getElem? (i := 190) rfl)
theorem tw911 : Cond.fieldLink RX12 91 RX12 "kept" "I" ∈ lw_tbl := tb4 (List.mem_of_getElem? (i := 191) rfl)
theorem tw912 : Cond.fieldLink RX12 16 RX12 "keptRow" "[I" ∈ lw_tbl := tb4 (List.mem_of_getElem? (i := 192) rfl)
theorem tw913 : Cond.fieldLink RX12 19 RX12 "moved" "[I" ∈ lw_tbl := tb4 (List.mem_of_getElem? (i := 193) rfl)
theorem tw914 : Cond.fieldLink RX12 22 RX12 "arrived" "[J" ∈ lw_tbl := tb4 (List.mem_of_getElem? (i := 194) rfl)
theorem tw915 : Cond.fieldLink RX12 26 RX12 "gone" "[J" ∈ lw_tbl := tb4 (List.mem_of_getElem? (i := 195) rfl)
theorem tw916 : Cond.fieldLink RX12 29 RX12 "delivered" "[J" ∈ lw_tbl := tb4 (List.mem_of_getElem? (i := 196) rfl)
theorem tw917 : Cond.fieldLink RX12 32 RX12 "wave" "[J" ∈ lw_tbl := tb4 (List.mem_of_getElem? (i := 197) rfl)
theorem tw918 : Cond.fieldLink RX12 35 RX12 "way" "[I" ∈ lw_tbl := tb4 (List.mem_of_getElem? (i := 198) rfl)
theorem tw919 : Cond.fieldLink RX12 189 RX12 "ways" "I" ∈ lw_tbl := tb4 (List.mem_of_getElem? (i := 199) rfl)
theorem tw920 : Cond.fieldLink RX12 192 RX12 "ended" "I" ∈ lw_tbl := tb4 (List.mem_of_getElem? (i := 200) rfl)
theorem tw921 : Cond.fieldLink RX12 38 RX12 "safe" "[J" ∈ lw_tbl := tb4 (List.mem_of_getElem? (i := 201) rfl)
theorem tw922 : Cond.fieldLink RX12 41 RX12 "cut" "[I" ∈ lw_tbl := tb4 (List.mem_of_getElem? (i := 202) rfl)
theorem tw923 : Cond.fieldLink RX12 88 RX12 "policies" "I" ∈ lw_tbl := tb4 (List.mem_of_getElem? (i := 203) rfl)
theorem tw924 : Cond.fieldLink RX12 44 RX12 "isAlways" "[Z" ∈ lw_tbl := tb4 (List.mem_of_getElem? (i := 204) rfl)
theorem tw925 : Cond.fieldLink RX12 48 RX12 "policyFrom" "[I" ∈ lw_tbl := tb4 (List.mem_of_getElem? (i := 205) rfl)
theorem tw926 : Cond.fieldLink RX12 51 RX12 "policyTo" "[I" ∈ lw_tbl := tb4 (List.mem_of_getElem? (i := 206) rfl)
theorem tw927 : Cond.fieldLink RX12 54 RX12 "policyCare" "[I" ∈ lw_tbl := tb4 (List.mem_of_getElem? (i := 207) rfl)
theorem tw928 : Cond.fieldLink RX12 57 RX12 "policyValue" "[I" ∈ lw_tbl := tb4 (List.mem_of_getElem? (i := 208) rfl)
theorem tw929 : Cond.fieldLink RX12 227 RX12 "typed" "I" ∈ lw_tbl := tb4 (List.mem_of_getElem? (i := 209) rfl)
theorem tw930 : Cond.fieldLink RX12 60 RX12 "text" "[C" ∈ lw_tbl := tb4 (List.mem_of_getElem? (i := 210) rfl)
theorem tw931 : Cond.fieldLink RX12 230 RX12 "place" "I" ∈ lw_tbl := tb4 (List.mem_of_getElem? (i := 211) rfl)
theorem tw932 : Cond.fieldLink RX12 233 RX12 "isGood" "Z" ∈ lw_tbl := tb4 (List.mem_of_getElem? (i := 212) rfl)
theorem tw933 : Cond.fieldLink RX12 241 RX12 "readCare" "I" ∈ lw_tbl := tb4 (List.mem_of_getElem? (i := 213) rfl)
theorem tw934 : Cond.fieldLink RX12 244 RX12 "readValue" "I" ∈ lw_tbl := tb4 (List.mem_of_getElem? (i := 214) rfl)
theorem tw935 : Cond.fieldLink RX12 257 RX12 "written" "I" ∈ lw_tbl := tb4 (List.mem_of_getElem? (i := 215) rfl)
theorem tw936 : Cond.fieldLink RX12 64 RX12 "line" "[I" ∈ lw_tbl := tb4 (List.mem_of_getElem? (i := 216) rfl)
theorem tw1004 : Cond.arrayClass FieldType.boolean ∈ lw_tbl := tb5 (List.mem_of_getElem? (i := 44) rfl)
theorem tw1005 : Cond.methodLink RL 17 yX12_reset ∈ lw_tbl := tb5 (List.mem_of_getElem? (i := 45) rfl)
theorem tw1006 : Cond.instanceMethod yX12_reset ∈ lw_tbl := tb5 (List.mem_of_getElem? (i := 46) rfl)
theorem tw1007 : Cond.selects RX12 yX12_reset yX12_reset ∈ lw_tbl := tb5 (List.mem_of_getElem? (i := 47) rfl)
theorem tw1008 : Cond.code yX12_reset cX12_reset 3 (some FieldType.int) ∈ lw_tbl := tb5 (List.mem_of_getElem? (i := 48) rfl)
theorem tw1009 : Cond.methodLink RX12 94 yX12_in ∈ lw_tbl := tb5 (List.mem_of_getElem? (i := 49) rfl)
theorem tw1010 : Cond.static yX12_in ∈ lw_tbl := tb5 (List.mem_of_getElem? (i := 50) rfl)
theorem tw1011 : Cond.code yX12_in cX12_in 3 (some FieldType.boolean) ∈ lw_tbl := tb5 (List.mem_of_getElem? (i := 51) rfl)
theorem tw1012 : Cond.methodLink RL 22 yX12_connect ∈ lw_tbl := tb5 (List.mem_of_getElem? (i := 52) rfl)
theorem tw1013 : Cond.instanceMethod yX12_connect ∈ lw_tbl := tb5 (List.mem_of_getElem? (i := 53) rfl)
theorem tw1014 : Cond.selects RX12 yX12_connect yX12_connect ∈ lw_tbl := tb5 (List.mem_of_getElem? (i := 54) rfl)
theorem tw1015 : Cond.code yX12_connect cX12_connect 7 (some FieldType.int) ∈ lw_tbl := tb5 (List.mem_of_getElem? (i := 55) rfl)
theorem tw1016 : Cond.methodLink RX12 106 yX12_noPlace ∈ lw_tbl := tb5 (List.mem_of_getElem? (i := 56) rfl)
theorem tw1017 : Cond.static yX12_noPlace ∈ lw_tbl := tb5 (List.mem_of_getElem? (i := 57) rfl)
theorem tw1018 : Cond.code yX12_noPlace cX12_noPlace 2 (some FieldType.boolean) ∈ lw_tbl := tb5 (List.mem_of_getElem? (i := 58) rfl)
theorem tw1019 : Cond.methodLink RX12 102 yX12_noBox ∈ lw_tbl := tb5 (List.mem_of_getElem? (i := 59) rfl)
theorem tw1020 : Cond.static yX12_noBox ∈ lw_tbl := tb5 (List.mem_of_getElem? (i := 60) rfl)
theorem tw1021 : Cond.code yX12_noBox cX12_noBox 1 (some FieldType.boolean) ∈ lw_tbl := tb5 (List.mem_of_getElem? (i := 61) rfl)
theorem tw1022 : Cond.methodLink RL 27 yX12_disconnect ∈ lw_tbl := tb5 (List.mem_of_getElem? (i := 62) rfl)
theorem tw1023 : Cond.instanceMethod yX12_disconnect ∈ lw_tbl := tb5 (List.mem_of_getElem? (i := 63) rfl)
theorem tw1024 : Cond.selects RX12 yX12_disconnect yX12_disconnect ∈ lw_tbl := tb5 (List.mem_of_getElem? (i := 64) rfl)
theorem tw1025 : Cond.code yX12_disconnect cX12_disconnect 4 (some FieldType.int) ∈ lw_tbl := tb5 (List.mem_of_getElem? (i := 65) rfl)
theorem tw1026 : Cond.methodLink RL 31 yX12_other ∈ lw_tbl := tb5 (List.mem_of_getElem? (i := 66) rfl)
theorem tw1027 : Cond.instanceMethod yX12_other ∈ lw_tbl := tb5 (List.mem_of_getElem? (i := 67) rfl)
theorem tw1028 : Cond.selects RX12 yX12_other yX12_other ∈ lw_tbl := tb5 (List.mem_of_getElem? (i := 68) rfl)
theorem tw1029 : Cond.code yX12_other cX12_other 4 (some FieldType.int) ∈ lw_tbl := tb5 (List.mem_of_getElem? (i := 69) rfl)
theorem tw1030 : Cond.methodLink RL 64 yX12_undo ∈ lw_tbl := tb5 (List.mem_of_getElem? (i := 70) rfl)
theorem tw1031 : Cond.instanceMethod yX12_undo ∈ lw_tbl := tb5 (List.mem_of_getElem? (i := 71) rfl)
theorem tw1032 : Cond.selects RX12 yX12_undo yX12_undo ∈ lw_tbl := tb5 (List.mem_of_getElem? (i := 72) rfl)
theorem tw1033 : Cond.code yX12_undo cX12_undo 2 (some FieldType.int) ∈ lw_tbl := tb5 (List.mem_of_getElem? (i := 73) rfl)
theorem tw1034 : Cond.methodLink RL 36 yX12_insertDrop ∈ lw_tbl := tb5 (List.mem_of_getElem? (i := 74) rfl)
theorem tw1035 : Cond.instanceMethod yX12_insertDrop ∈ lw_tbl := tb5 (List.mem_of_getElem? (i := 75) rfl)
theorem tw1036 : Cond.selects RX12 yX12_insertDrop yX12_insertDrop ∈ lw_tbl := tb5 (List.mem_of_getElem? (i := 76) rfl)
theorem tw1037 : Cond.code yX12_insertDrop cX12_insertDrop 6 (some FieldType.int) ∈ lw_tbl := tb5 (List.mem_of_getElem? (i := 77) rfl)
theorem tw1038 : Cond.methodLink RX12 132 yX12_insert ∈ lw_tbl := tb5 (List.mem_of_getElem? (i := 78) rfl)
theorem tw1040 : Cond.instanceMethod yX12_insert ∈ lw_tbl := tb5 (List.mem_of_getElem? (i := 80) rfl)
theorem tw1041 : Cond.code yX12_insert cX12_insert 7 (some FieldType.int) ∈ lw_tbl := tb5 (List.mem_of_getElem? (i := 81) rfl)
theorem tw1042 : Cond.methodLink RX12 110 yX12_many ∈ lw_tbl := tb5 (List.mem_of_getElem? (i := 82) rfl)
theorem tw1044 : Cond.instanceMethod yX12_many ∈ lw_tbl := tb5 (List.mem_of_getElem? (i := 84) rfl)
theorem tw1045 : Cond.code yX12_many cX12_many 2 (some FieldType.int) ∈ lw_tbl := tb5 (List.mem_of_getElem? (i := 85) rfl)
theorem tw1046 : Cond.methodLink RX12 122 yX12_noHeader ∈ lw_tbl := tb5 (List.mem_of_getElem? (i := 86) rfl)
theorem tw1048 : Cond.instanceMethod yX12_noHeader ∈ lw_tbl := tb5 (List.mem_of_getElem? (i := 88) rfl)
theorem tw1049 : Cond.code yX12_noHeader cX12_noHeader 2 (some FieldType.boolean) ∈ lw_tbl := tb5 (List.mem_of_getElem? (i := 89) rfl)
theorem tw1050 : Cond.methodLink RX12 98 yX12_headers ∈ lw_tbl := tb5 (List.mem_of_getElem? (i := 90) rfl)
theorem tw1052 : Cond.instanceMethod yX12_headers ∈ lw_tbl := tb5 (List.mem_of_getElem? (i := 92) rfl)
theorem tw1053 : Cond.code yX12_headers cX12_headers 1 (some FieldType.int) ∈ lw_tbl := tb5 (List.mem_of_getElem? (i := 93) rfl)
theorem tw1054 : Cond.methodLink RX12 125 yX12_keep ∈ lw_tbl := tb5 (List.mem_of_getElem? (i := 94) rfl)
theorem tw1056 : Cond.instanceMethod yX12_keep ∈ lw_tbl := tb5 (List.mem_of_getElem? (i := 96) rfl)
theorem tw1057 : Cond.code yX12_keep cX12_keep 2 none ∈ lw_tbl := tb5 (List.mem_of_getElem? (i := 97) rfl)
theorem tw1058 : Cond.methodLink RX12 128 yX12_open ∈ lw_tbl := tb5 (List.mem_of_getElem? (i := 98) rfl)
theorem tw1060 : Cond.instanceMethod yX12_open ∈ lw_tbl := tb5 (List.mem_of_getElem? (i := 100) rfl)
theorem tw1061 : Cond.code yX12_open cX12_open 5 none ∈ lw_tbl := tb5 (List.mem_of_getElem? (i := 101) rfl)
theorem tw1062 : Cond.methodLink RX12 114 yX12_of ∈ lw_tbl := tb5 (List.mem_of_getElem? (i := 102) rfl)
theorem tw1064 : Cond.instanceMethod yX12_of ∈ lw_tbl := tb5 (List.mem_of_getElem? (i := 104) rfl)
theorem tw1065 : Cond.code yX12_of cX12_of 4 (some FieldType.int) ∈ lw_tbl := tb5 (List.mem_of_getElem? (i := 105) rfl)
theorem tw1066 : Cond.methodLink RX12 118 yX12_put ∈ lw_tbl := tb5 (List.mem_of_getElem? (i := 106) rfl)
theorem tw1068 : Cond.instanceMethod yX12_put ∈ lw_tbl := tb5 (List.mem_of_getElem? (i := 108) rfl)
theorem tw1069 : Cond.code yX12_put cX12_put 5 none ∈ lw_tbl := tb5 (List.mem_of_getElem? (i := 109) rfl)
theorem tw1070 : Cond.methodLink RL 41 yX12_insertForward ∈ lw_tbl := tb5 (List.mem_of_getElem? (i := 110) rfl)
theorem tw1071 : Cond.instanceMethod yX12_insertForward ∈ lw_tbl := tb5 (List.mem_of_getElem? (i := 111) rfl)
theorem tw1072 : Cond.selects RX12 yX12_insertForward yX12_insertForward ∈ lw_tbl := tb5 (List.mem_of_getElem? (i := 112) rfl)
theorem tw1073 : Cond.code yX12_insertForward cX12_insertForward 7 (some FieldType.int) ∈ lw_tbl := tb5 (List.mem_of_getElem? (i := 113) rfl)
theorem tw1074 : Cond.methodLink RL 45 yX12_setRewriting ∈ lw_tbl := tb5 (List.mem_of_getElem? (i := 114) rfl)
theorem tw1075 : Cond.instanceMethod yX12_setRewriting ∈ lw_tbl := tb5 (List.mem_of_getElem? (i := 115) rfl)
theorem tw1076 : Cond.selects RX12 yX12_setRewriting yX12_setRewriting ∈ lw_tbl := tb5 (List.mem_of_getElem? (i := 116) rfl)
theorem tw1077 : Cond.code yX12_setRewriting cX12_setRewriting 7 (some FieldType.int) ∈ lw_tbl := tb5 (List.mem_of_getElem? (i := 117) rfl)
theorem tw1078 : Cond.methodLink RX12 139 yX12_ruleBarred ∈ lw_tbl := tb5 (List.mem_of_getElem? (i := 118) rfl)
theorem tw1080 : Cond.instanceMethod yX12_ruleBarred ∈ lw_tbl := tb5 (List.mem_of_getElem? (i := 120) rfl)
theorem tw1081 : Cond.code yX12_ruleBarred cX12_ruleBarred 3 (some FieldType.int) ∈ lw_tbl := tb5 (List.mem_of_getElem? (i := 121) rfl)
theorem tw1082 : Cond.methodLink RX12 136 yX12_noRule ∈ lw_tbl := tb5 (List.mem_of_getElem? (i := 122) rfl)
theorem tw1084 : Cond.instanceMethod yX12_noRule ∈ lw_tbl := tb5 (List.mem_of_getElem? (i := 124) rfl)
theorem tw1085 : Cond.code yX12_noRule cX12_noRule 3 (some FieldType.boolean) ∈ lw_tbl := tb5 (List.mem_of_getElem? (i := 125) rfl)
theorem tw1086 : Cond.methodLink RL 49 yX12_removeRule ∈ lw_tbl := tb5 (List.mem_of_getElem? (i := 126) rfl)
theorem tw1087 : Cond.instanceMethod yX12_removeRule ∈ lw_tbl := tb5 (List.mem_of_getElem? (i := 127) rfl)
theorem tw1088 : Cond.selects RX12 yX12_removeRule yX12_removeRule ∈ lw_tbl := tb5 (List.mem_of_getElem? (i := 128) rfl)
theorem tw1089 : Cond.code yX12_removeRule cX12_removeRule 4 (some FieldType.int) ∈ lw_tbl := tb5 (List.mem_of_getElem? (i := 129) rfl)
theorem tw1090 : Cond.methodLink RX12 143 yX12_close ∈ lw_tbl := tb5 (List.mem_of_getElem? (i := 130) rfl)
theorem tw1092 : Cond.instanceMethod yX12_close ∈ lw_tbl := tb5 (List.mem_of_getElem? (i := 132) rfl)
theorem tw1093 : Cond.code yX12_close cX12_close 5 none ∈ lw_tbl := tb5 (List.mem_of_getElem? (i := 133) rfl)
theorem tw1094 : Cond.methodLink RL 54 yX12_moveRule ∈ lw_tbl := tb5 (List.mem_of_getElem? (i := 134) rfl)
theorem tw1095 : Cond.instanceMethod yX12_moveRule ∈ lw_tbl := tb5 (List.mem_of_getElem? (i := 135) rfl)
theorem tw1096 : Cond.selects RX12 yX12_moveRule yX12_moveRule ∈ lw_tbl := tb5 (List.mem_of_getElem? (i := 136) rfl)
theorem tw1097 : Cond.code yX12_moveRule cX12_moveRule 6 (some FieldType.int) ∈ lw_tbl := tb5 (List.mem_of_getElem? (i := 137) rfl)
theorem tw1098 : Cond.methodLink RL 59 yX12_switchRule ∈ lw_tbl := tb5 (List.mem_of_getElem? (i := 138) rfl)
theorem tw1099 : Cond.instanceMethod yX12_switchRule ∈ lw_tbl := tb5 (List.mem_of_getElem? (i := 139) rfl)
theorem tw1100 : Cond.selects RX12 yX12_switchRule yX12_switchRule ∈ lw_tbl := tb5 (List.mem_of_getElem? (i := 140) rfl)
theorem tw1101 : Cond.code yX12_switchRule cX12_switchRule 7 (some FieldType.int) ∈ lw_tbl := tb5 (List.mem_of_getElem? (i := 141) rfl)
theorem tw1102 : Cond.methodLink RL 68 yX12_rule ∈ lw_tbl := tb5 (List.mem_of_getElem? (i := 142) rfl)
theorem tw1103 : Cond.instanceMethod yX12_rule ∈ lw_tbl := tb5 (List.mem_of_getElem? (i := 143) rfl)
theorem tw1104 : Cond.selects RX12 yX12_rule yX12_rule ∈ lw_tbl := tb5 (List.mem_of_getElem? (i := 144) rfl)
theorem tw1105 : Cond.code yX12_rule cX12_rule 5 (some FieldType.int) ∈ lw_tbl := tb5 (List.mem_of_getElem? (i := 145) rfl)
theorem tw1106 : Cond.methodLink RL 72 yX12_count ∈ lw_tbl := tb5 (List.mem_of_getElem? (i := 146) rfl)
theorem tw1107 : Cond.instanceMethod yX12_count ∈ lw_tbl := tb5 (List.mem_of_getElem? (i := 147) rfl)
theorem tw1108 : Cond.selects RX12 yX12_count yX12_count ∈ lw_tbl := tb5 (List.mem_of_getElem? (i := 148) rfl)
theorem tw1109 : Cond.code yX12_count cX12_count 4 (some FieldType.int) ∈ lw_tbl := tb5 (List.mem_of_getElem? (i := 149) rfl)
theorem tw1110 : Cond.methodLink RL 76 yX12_shadowed ∈ lw_tbl := tb5 (List.mem_of_getElem? (i := 150) rfl)
theorem tw1111 : Cond.instanceMethod yX12_shadowed ∈ lw_tbl := tb5 (List.mem_of_getElem? (i := 151) rfl)
theorem tw1112 : Cond.selects RX12 yX12_shadowed yX12_shadowed ∈ lw_tbl := tb5 (List.mem_of_getElem? (i := 152) rfl)
theorem tw1113 : Cond.code yX12_shadowed cX12_shadowed 6 (some FieldType.int) ∈ lw_tbl := tb5 (List.mem_of_getElem? (i := 153) rfl)
theorem tw1114 : Cond.methodLink RX12 150 yX12_handler ∈ lw_tbl := tb5 (List.mem_of_getElem? (i := 154) rfl)
theorem tw1116 : Cond.instanceMethod yX12_handler ∈ lw_tbl := tb5 (List.mem_of_getElem? (i := 156) rfl)
theorem tw1117 : Cond.code yX12_handler cX12_handler 5 (some FieldType.int) ∈ lw_tbl := tb5 (List.mem_of_getElem? (i := 157) rfl)
theorem tw1118 : Cond.methodLink RX12 146 yX12_matches ∈ lw_tbl := tb5 (List.mem_of_getElem? (i := 158) rfl)
theorem tw1120 : Cond.instanceMethod yX12_matches ∈ lw_tbl := tb5 (List.mem_of_getElem? (i := 160) rfl)
theorem tw1121 : Cond.code yX12_matches cX12_matches 5 (some FieldType.boolean) ∈ lw_tbl := tb5 (List.mem_of_getElem? (i := 161) rfl)
theorem tw1122 : Cond.methodLink RL 80 yX12_inject ∈ lw_tbl := tb5 (List.mem_of_getElem? (i := 162) rfl)
theorem tw1123 : Cond.instanceMethod yX12_inject ∈ lw_tbl := tb5 (List.mem_of_getElem? (i := 163) rfl)
theorem tw1124 : Cond.selects RX12 yX12_inject yX12_inject ∈ lw_tbl := tb5 (List.mem_of_getElem? (i := 164) rfl)
theorem tw1125 : Cond.code yX12_inject cX12_inject 5 (some FieldType.int) ∈ lw_tbl := tb5 (List.mem_of_getElem? (i := 165) rfl)
theorem tw1126 : Cond.methodLink RX12 164 yX12_injected ∈ lw_tbl := tb5 (List.mem_of_getElem? (i := 166) rfl)
theorem tw1128 : Cond.instanceMethod yX12_injected ∈ lw_tbl := tb5 (List.mem_of_getElem? (i := 168) rfl)
theorem tw1129 : Cond.code yX12_injected cX12_injected 4 (some FieldType.long) ∈ lw_tbl := tb5 (List.mem_of_getElem? (i := 169) rfl)
theorem tw1130 : Cond.methodLink RX12 153 yX12_isInjected ∈ lw_tbl := tb5 (List.mem_of_getElem? (i := 170) rfl)
theorem tw1132 : Cond.instanceMethod yX12_isInjected ∈ lw_tbl := tb5 (List.mem_of_getElem? (i := 172) rfl)
theorem tw1133 : Cond.code yX12_isInjected cX12_isInjected 2 (some FieldType.boolean) ∈ lw_tbl := tb5 (List.mem_of_getElem? (i := 173) rfl)
theorem tw1134 : Cond.methodLink RX12 172 yX12_size ∈ lw_tbl := tb5 (List.mem_of_getElem? (i := 174) rfl)
theorem tw1135 : Cond.static yX12_size ∈ lw_tbl := tb5 (List.mem_of_getElem? (i := 175) rfl)
theorem tw1136 : Cond.code yX12_size cX12_size 5 (some FieldType.int) ∈ lw_tbl := tb5 (List.mem_of_getElem? (i := 176) rfl)
theorem tw1137 : Cond.methodLink RL 85 yX12_arriving ∈ lw_tbl := tb5 (List.mem_of_getElem? (i := 177) rfl)
theorem tw1138 : Cond.instanceMethod yX12_arriving ∈ lw_tbl := tb5 (List.mem_of_getElem? (i := 178) rfl)
theorem tw1139 : Cond.selects RX12 yX12_arriving yX12_arriving ∈ lw_tbl := tb5 (List.mem_of_getElem? (i := 179) rfl)
theorem tw1140 : Cond.code yX12_arriving cX12_arriving 3 (some FieldType.long) ∈ lw_tbl := tb5 (List.mem_of_getElem? (i := 180) rfl)
theorem tw1141 : Cond.methodLink RX12 176 yX12_lost ∈ lw_tbl := tb5 (List.mem_of_getElem? (i := 181) rfl)
theorem tw1142 : Cond.static yX12_lost ∈ lw_tbl := tb5 (List.mem_of_getElem? (i := 182) rfl)
theorem tw1143 : Cond.code yX12_lost cX12_lost 0 (some FieldType.long) ∈ lw_tbl := tb5 (List.mem_of_getElem? (i := 183) rfl)
theorem tw1144 : Cond.constantLong RX12 74 (-9223372036854775808) ∈ lw_tbl := tb5 (List.mem_of_getElem? (i := 184) rfl)
theorem tw1145 : Cond.methodLink RX12 179 yX12_spreadAll ∈ lw_tbl := tb5 (List.mem_of_getElem? (i := 185) rfl)
theorem tw1147 : Cond.instanceMethod yX12_spreadAll ∈ lw_tbl := tb5 (List.mem_of_getElem? (i := 187) rfl)
theorem tw1148 : Cond.code yX12_spreadAll cX12_spreadAll 1 none ∈ lw_tbl := tb5 (List.mem_of_getElem? (i := 188) rfl)
theorem tw1149 : Cond.methodLink RX12 168 yX12_spread ∈ lw_tbl := tb5 (List.mem_of_getElem? (i := 189) rfl)
theorem tw1151 : Cond.instanceMethod yX12_spread ∈ lw_tbl := tb5 (List.mem_of_getElem? (i := 191) rfl)
theorem tw1152 : Cond.code yX12_spread cX12_spread 9 none ∈ lw_tbl := tb5 (List.mem_of_getElem? (i := 192) rfl)
theorem tw1153 : Cond.constantLong RX12 159 (-1) ∈ lw_tbl := tb5 (List.mem_of_getElem? (i := 193) rfl)
theorem tw1154 : Cond.methodLink RX12 161 yX12_goOn ∈ lw_tbl := tb5 (List.mem_of_getElem? (i := 194) rfl)
theorem tw1156 : Cond.instanceMethod yX12_goOn ∈ lw_tbl := tb5 (List.mem_of_getElem? (i := 196) rfl)
theorem tw1157 : Cond.code yX12_goOn cX12_goOn 9 none ∈ lw_tbl := tb5 (List.mem_of_getElem? (i := 197) rfl)
theorem tw1158 : Cond.methodLink RX12 156 yX12_rewritten ∈ lw_tbl := tb5 (List.mem_of_getElem? (i := 198) rfl)
theorem tw1160 : Cond.instanceMethod yX12_rewritten ∈ lw_tbl := tb5 (List.mem_of_getElem? (i := 200) rfl)
theorem tw1161 : Cond.code yX12_rewritten cX12_rewritten 4 (some FieldType.int) ∈ lw_tbl := tb5 (List.mem_of_getElem? (i := 201) rfl)
theorem tw1162 : Cond.methodLink RL 89 yX12_delivered ∈ lw_tbl := tb5 (List.mem_of_getElem? (i := 202) rfl)
theorem tw1163 : Cond.instanceMethod yX12_delivered ∈ lw_tbl := tb5 (List.mem_of_getElem? (i := 203) rfl)
theorem tw1164 : Cond.selects RX12 yX12_delivered yX12_delivered ∈ lw_tbl := tb5 (List.mem_of_getElem? (i := 204) rfl)
theorem tw1165 : Cond.code yX12_delivered cX12_delivered 3 (some FieldType.long) ∈ lw_tbl := tb5 (List.mem_of_getElem? (i := 205) rfl)
theorem tw1166 : Cond.methodLink RL 93 yX12_arrivals ∈ lw_tbl := tb5 (List.mem_of_getElem? (i := 206) rfl)
theorem tw1167 : Cond.instanceMethod yX12_arrivals ∈ lw_tbl := tb5 (List.mem_of_getElem? (i := 207) rfl)
theorem tw1168 : Cond.selects RX12 yX12_arrivals yX12_arrivals ∈ lw_tbl := tb5 (List.mem_of_getElem? (i := 208) rfl)
theorem tw1169 : Cond.code yX12_arrivals cX12_arrivals 6 (some FieldType.int) ∈ lw_tbl := tb5 (List.mem_of_getElem? (i := 209) rfl)
theorem tw1170 : Cond.methodLink RX12 182 yX12_handledBy ∈ lw_tbl := tb5 (List.mem_of_getElem? (i := 210) rfl)
theorem tw1172 : Cond.instanceMethod yX12_handledBy ∈ lw_tbl := tb5 (List.mem_of_getElem? (i := 212) rfl)
theorem tw1173 : Cond.code yX12_handledBy cX12_handledBy 6 (some FieldType.int) ∈ lw_tbl := tb5 (List.mem_of_getElem? (i := 213) rfl)
theorem tw1174 : Cond.methodLink RL 97 yX12_hits ∈ lw_tbl := tb5 (List.mem_of_getElem? (i := 214) rfl)
theorem tw1175 : Cond.instanceMethod yX12_hits ∈ lw_tbl := tb5 (List.mem_of_getElem? (i := 215) rfl)
theorem tw1176 : Cond.selects RX12 yX12_hits yX12_hits ∈ lw_tbl := tb5 (List.mem_of_getElem? (i := 216) rfl)
theorem tw1177 : Cond.code yX12_hits cX12_hits 4 (some FieldType.int) ∈ lw_tbl := tb5 (List.mem_of_getElem? (i := 217) rfl)
theorem tw1178 : Cond.methodLink RL 101 yX12_cube ∈ lw_tbl := tb5 (List.mem_of_getElem? (i := 218) rfl)
theorem tw1179 : Cond.instanceMethod yX12_cube ∈ lw_tbl := tb5 (List.mem_of_getElem? (i := 219) rfl)
theorem tw1180 : Cond.selects RX12 yX12_cube yX12_cube ∈ lw_tbl := tb5 (List.mem_of_getElem? (i := 220) rfl)
theorem tw1181 : Cond.code yX12_cube cX12_cube 13 (some FieldType.int) ∈ lw_tbl := tb5 (List.mem_of_getElem? (i := 221) rfl)
theorem tw1182 : Cond.methodLink RX12 185 yX12_cubeOf ∈ lw_tbl := tb5 (List.mem_of_getElem? (i := 222) rfl)
theorem tw1184 : Cond.instanceMethod yX12_cubeOf ∈ lw_tbl := tb5 (List.mem_of_getElem? (i := 224) rfl)
theorem tw1185 : Cond.code yX12_cubeOf cX12_cubeOf 6 (some FieldType.long) ∈ lw_tbl := tb5 (List.mem_of_getElem? (i := 225) rfl)
theorem tw1186 : Cond.methodLink RL 105 yX12_origin ∈ lw_tbl := tb5 (List.mem_of_getElem? (i := 226) rfl)
theorem tw1187 : Cond.instanceMethod yX12_origin ∈ lw_tbl := tb5 (List.mem_of_getElem? (i := 227) rfl)
theorem tw1188 : Cond.selects RX12 yX12_origin yX12_origin ∈ lw_tbl := tb5 (List.mem_of_getElem? (i := 228) rfl)
theorem tw1189 : Cond.code yX12_origin cX12_origin 5 (some FieldType.int) ∈ lw_tbl := tb5 (List.mem_of_getElem? (i := 229) rfl)
theorem tw1190 : Cond.methodLink RL 109 yX12_distance ∈ lw_tbl := tb5 (List.mem_of_getElem? (i := 230) rfl)
theorem tw1191 : Cond.instanceMethod yX12_distance ∈ lw_tbl := tb5 (List.mem_of_getElem? (i := 231) rfl)
theorem tw1192 : Cond.selects RX12 yX12_distance yX12_distance ∈ lw_tbl := tb5 (List.mem_of_getElem? (i := 232) rfl)
theorem tw1193 : Cond.code yX12_distance cX12_distance 8 (some FieldType.int) ∈ lw_tbl := tb5 (List.mem_of_getElem? (i := 233) rfl)
theorem tw1194 : Cond.methodLink RL 113 yX12_trace ∈ lw_tbl := tb5 (List.mem_of_getElem? (i := 234) rfl)
theorem tw1195 : Cond.instanceMethod yX12_trace ∈ lw_tbl := tb5 (List.mem_of_getElem? (i := 235) rfl)
theorem tw1196 : Cond.selects RX12 yX12_trace yX12_trace ∈ lw_tbl := tb5 (List.mem_of_getElem? (i := 236) rfl)
theorem tw1197 : Cond.code yX12_trace cX12_trace 4 (some FieldType.int) ∈ lw_tbl := tb5 (List.mem_of_getElem? (i := 237) rfl)
theorem tw1198 : Cond.methodLink RX12 198 yX12_follow ∈ lw_tbl := tb5 (List.mem_of_getElem? (i := 238) rfl)
theorem tw1200 : Cond.instanceMethod yX12_follow ∈ lw_tbl := tb6 (List.mem_of_getElem? (i := 0) rfl)
theorem tw1201 : Cond.code yX12_follow cX12_follow 9 none ∈ lw_tbl := tb6 (List.mem_of_getElem? (i := 1) rfl)
theorem tw1202 : Cond.methodLink RX12 195 yX12_wasThere ∈ lw_tbl := tb6 (List.mem_of_getElem? (i := 2) rfl)
theorem tw1204 : Cond.instanceMethod yX12_wasThere ∈ lw_tbl := tb6 (List.mem_of_getElem? (i := 4) rfl)
theorem tw1205 : Cond.code yX12_wasThere cX12_wasThere 3 (some FieldType.boolean) ∈ lw_tbl := tb6 (List.mem_of_getElem? (i := 5) rfl)
theorem tw1206 : Cond.methodLink RL 117 yX12_traceEnd ∈ lw_tbl := tb6 (List.mem_of_getElem? (i := 6) rfl)
theorem tw1207 : Cond.instanceMethod yX12_traceEnd ∈ lw_tbl := tb6 (List.mem_of_getElem? (i := 7) rfl)
theorem tw1208 : Cond.selects RX12 yX12_traceEnd yX12_traceEnd ∈ lw_tbl := tb6 (List.mem_of_getElem? (i := 8) rfl)
theorem tw1209 : Cond.code yX12_traceEnd cX12_traceEnd 2 (some FieldType.int) ∈ lw_tbl := tb6 (List.mem_of_getElem? (i := 9) rfl)
theorem tw1210 : Cond.methodLink RL 122 yX12_loops ∈ lw_tbl := tb6 (List.mem_of_getElem? (i := 10) rfl)
theorem tw1211 : Cond.instanceMethod yX12_loops ∈ lw_tbl := tb6 (List.mem_of_getElem? (i := 11) rfl)
theorem tw1212 : Cond.selects RX12 yX12_loops yX12_loops ∈ lw_tbl := tb6 (List.mem_of_getElem? (i := 12) rfl)
theorem tw1213 : Cond.code yX12_loops cX12_loops 4 (some FieldType.long) ∈ lw_tbl := tb6 (List.mem_of_getElem? (i := 13) rfl)
theorem tw1214 : Cond.methodLink RX12 202 yX12_isSafe ∈ lw_tbl := tb6 (List.mem_of_getElem? (i := 14) rfl)
theorem tw1216 : Cond.instanceMethod yX12_isSafe ∈ lw_tbl := tb6 (List.mem_of_getElem? (i := 16) rfl)
theorem tw1217 : Cond.code yX12_isSafe cX12_isSafe 9 (some FieldType.boolean) ∈ lw_tbl := tb6 (List.mem_of_getElem? (i := 17) rfl)
theorem tw1218 : Cond.methodLink RL 126 yX12_cutSize ∈ lw_tbl := tb6 (List.mem_of_getElem? (i := 18) rfl)
theorem tw1219 : Cond.instanceMethod yX12_cutSize ∈ lw_tbl := tb6 (List.mem_of_getElem? (i := 19) rfl)
theorem tw1220 : Cond.selects RX12 yX12_cutSize yX12_cutSize ∈ lw_tbl := tb6 (List.mem_of_getElem? (i := 20) rfl)
theorem tw1221 : Cond.code yX12_cutSize cX12_cutSize 3 (some FieldType.int) ∈ lw_tbl := tb6 (List.mem_of_getElem? (i := 21) rfl)
theorem tw1222 : Cond.methodLink RX12 217 yX12_findSize ∈ lw_tbl := tb6 (List.mem_of_getElem? (i := 22) rfl)
theorem tw1224 : Cond.instanceMethod yX12_findSize ∈ lw_tbl := tb6 (List.mem_of_getElem? (i := 24) rfl)
theorem tw1225 : Cond.code yX12_findSize cX12_findSize 3 (some FieldType.int) ∈ lw_tbl := tb6 (List.mem_of_getElem? (i := 25) rfl)
theorem tw1226 : Cond.methodLink RX12 214 yX12_findCut ∈ lw_tbl := tb6 (List.mem_of_getElem? (i := 26) rfl)
theorem tw1228 : Cond.instanceMethod yX12_findCut ∈ lw_tbl := tb6 (List.mem_of_getElem? (i := 28) rfl)
theorem tw1229 : Cond.code yX12_findCut cX12_findCut 6 (some FieldType.boolean) ∈ lw_tbl := tb6 (List.mem_of_getElem? (i := 29) rfl)
theorem tw1230 : Cond.methodLink RX12 205 yX12_isStopped ∈ lw_tbl := tb6 (List.mem_of_getElem? (i := 30) rfl)
theorem tw1232 : Cond.instanceMethod yX12_isStopped ∈ lw_tbl := tb6 (List.mem_of_getElem? (i := 32) rfl)
theorem tw1233 : Cond.code yX12_isStopped cX12_isStopped 2 (some FieldType.boolean) ∈ lw_tbl := tb6 (List.mem_of_getElem? (i := 33) rfl)
theorem tw1234 : Cond.methodLink RX12 208 yX12_turn ∈ lw_tbl := tb6 (List.mem_of_getElem? (i := 34) rfl)
theorem tw1236 : Cond.instanceMethod yX12_turn ∈ lw_tbl := tb6 (List.mem_of_getElem? (i := 36) rfl)
theorem tw1237 : Cond.code yX12_turn cX12_turn 3 none ∈ lw_tbl := tb6 (List.mem_of_getElem? (i := 37) rfl)
theorem tw1238 : Cond.methodLink RX12 211 yX12_isOn ∈ lw_tbl := tb6 (List.mem_of_getElem? (i := 38) rfl)
theorem tw1240 : Cond.instanceMethod yX12_isOn ∈ lw_tbl := tb6 (List.mem_of_getElem? (i := 40) rfl)
theorem tw1241 : Cond.code yX12_isOn cX12_isOn 2 (some FieldType.boolean) ∈ lw_tbl := tb6 (List.mem_of_getElem? (i := 41) rfl)
theorem tw1242 : Cond.methodLink RL 130 yX12_cutRule ∈ lw_tbl := tb6 (List.mem_of_getElem? (i := 42) rfl)
theorem tw1243 : Cond.instanceMethod yX12_cutRule ∈ lw_tbl := tb6 (List.mem_of_getElem? (i := 43) rfl)
theorem tw1244 : Cond.selects RX12 yX12_cutRule yX12_cutRule ∈ lw_tbl := tb6 (List.mem_of_getElem? (i := 44) rfl)
theorem tw1245 : Cond.code yX12_cutRule cX12_cutRule 5 (some FieldType.int) ∈ lw_tbl := tb6 (List.mem_of_getElem? (i := 45) rfl)
theorem tw1246 : Cond.methodLink RL 135 yX12_addPolicy ∈ lw_tbl := tb6 (List.mem_of_getElem? (i := 46) rfl)
theorem tw1247 : Cond.instanceMethod yX12_addPolicy ∈ lw_tbl := tb6 (List.mem_of_getElem? (i := 47) rfl)
theorem tw1248 : Cond.selects RX12 yX12_addPolicy yX12_addPolicy ∈ lw_tbl := tb6 (List.mem_of_getElem? (i := 48) rfl)
theorem tw1249 : Cond.code yX12_addPolicy cX12_addPolicy 6 (some FieldType.int) ∈ lw_tbl := tb6 (List.mem_of_getElem? (i := 49) rfl)
theorem tw1250 : Cond.methodLink RL 139 yX12_setPolicyCube ∈ lw_tbl := tb6 (List.mem_of_getElem? (i := 50) rfl)
theorem tw1251 : Cond.instanceMethod yX12_setPolicyCube ∈ lw_tbl := tb6 (List.mem_of_getElem? (i := 51) rfl)
theorem tw1252 : Cond.selects RX12 yX12_setPolicyCube yX12_setPolicyCube ∈ lw_tbl := tb6 (List.mem_of_getElem? (i := 52) rfl)
theorem tw1253 : Cond.code yX12_setPolicyCube cX12_setPolicyCube 4 (some FieldType.int) ∈ lw_tbl := tb6 (List.mem_of_getElem? (i := 53) rfl)
theorem tw1254 : Cond.methodLink RX12 220 yX12_noPolicy ∈ lw_tbl := tb6 (List.mem_of_getElem? (i := 54) rfl)
theorem tw1256 : Cond.instanceMethod yX12_noPolicy ∈ lw_tbl := tb6 (List.mem_of_getElem? (i := 56) rfl)
theorem tw1257 : Cond.code yX12_noPolicy cX12_noPolicy 2 (some FieldType.boolean) ∈ lw_tbl := tb6 (List.mem_of_getElem? (i := 57) rfl)
theorem tw1258 : Cond.methodLink RL 144 yX12_counterexamples ∈ lw_tbl := tb6 (List.mem_of_getElem? (i := 58) rfl)
theorem tw1259 : Cond.instanceMethod yX12_counterexamples ∈ lw_tbl := tb6 (List.mem_of_getElem? (i := 59) rfl)
theorem tw1260 : Cond.selects RX12 yX12_counterexamples yX12_counterexamples ∈ lw_tbl := tb6 (List.mem_of_getElem? (i := 60) rfl)
theorem tw1261 : Cond.code yX12_counterexamples cX12_counterexamples 2 (some FieldType.long) ∈ lw_tbl := tb6 (List.mem_of_getElem? (i := 61) rfl)
theorem tw1262 : Cond.methodLink RX12 223 yX12_against ∈ lw_tbl := tb6 (List.mem_of_getElem? (i := 62) rfl)
theorem tw1264 : Cond.instanceMethod yX12_against ∈ lw_tbl := tb6 (List.mem_of_getElem? (i := 64) rfl)
theorem tw1265 : Cond.code yX12_against cX12_against 6 (some FieldType.long) ∈ lw_tbl := tb6 (List.mem_of_getElem? (i := 65) rfl)
theorem tw1266 : Cond.methodLink RL 148 yX12_violated ∈ lw_tbl := tb6 (List.mem_of_getElem? (i := 66) rfl)
theorem tw1267 : Cond.instanceMethod yX12_violated ∈ lw_tbl := tb6 (List.mem_of_getElem? (i := 67) rfl)
theorem tw1268 : Cond.selects RX12 yX12_violated yX12_violated ∈ lw_tbl := tb6 (List.mem_of_getElem? (i := 68) rfl)
theorem tw1269 : Cond.code yX12_violated cX12_violated 3 (some FieldType.int) ∈ lw_tbl := tb6 (List.mem_of_getElem? (i := 69) rfl)
theorem tw1270 : Cond.methodLink RL 152 yX12_clearPolicies ∈ lw_tbl := tb6 (List.mem_of_getElem? (i := 70) rfl)
theorem tw1271 : Cond.instanceMethod yX12_clearPolicies ∈ lw_tbl := tb6 (List.mem_of_getElem? (i := 71) rfl)
theorem tw1272 : Cond.selects RX12 yX12_clearPolicies yX12_clearPolicies ∈ lw_tbl := tb6 (List.mem_of_getElem? (i := 72) rfl)
theorem tw1273 : Cond.code yX12_clearPolicies cX12_clearPolicies 2 (some FieldType.int) ∈ lw_tbl := tb6 (List.mem_of_getElem? (i := 73) rfl)
theorem tw1274 : Cond.methodLink RL 157 yX12_type ∈ lw_tbl := tb6 (List.mem_of_getElem? (i := 74) rfl)
theorem tw1275 : Cond.instanceMethod yX12_type ∈ lw_tbl := tb6 (List.mem_of_getElem? (i := 75) rfl)
theorem tw1276 : Cond.selects RX12 yX12_type yX12_type ∈ lw_tbl := tb6 (List.mem_of_getElem? (i := 76) rfl)
theorem tw1277 : Cond.code yX12_type cX12_type 2 (some FieldType.int) ∈ lw_tbl := tb6 (List.mem_of_getElem? (i := 77) rfl)
theorem tw1278 : Cond.methodLink RL 161 yX12_clearText ∈ lw_tbl := tb6 (List.mem_of_getElem? (i := 78) rfl)
theorem tw1279 : Cond.instanceMethod yX12_clearText ∈ lw_tbl := tb6 (List.mem_of_getElem? (i := 79) rfl)
theorem tw1280 : Cond.selects RX12 yX12_clearText yX12_clearText ∈ lw_tbl := tb6 (List.mem_of_getElem? (i := 80) rfl)
theorem tw1281 : Cond.code yX12_clearText cX12_clearText 2 (some FieldType.int) ∈ lw_tbl := tb6 (List.mem_of_getElem? (i := 81) rfl)
theorem tw1282 : Cond.methodLink RL 165 yX12_readRule ∈ lw_tbl := tb6 (List.mem_of_getElem? (i := 82) rfl)
theorem tw1283 : Cond.instanceMethod yX12_readRule ∈ lw_tbl := tb6 (List.mem_of_getElem? (i := 83) rfl)
theorem tw1284 : Cond.selects RX12 yX12_readRule yX12_readRule ∈ lw_tbl := tb6 (List.mem_of_getElem? (i := 84) rfl)
theorem tw1285 : Cond.code yX12_readRule cX12_readRule 9 (some FieldType.int) ∈ lw_tbl := tb6 (List.mem_of_getElem? (i := 85) rfl)
theorem tw1286 : Cond.methodLink RX12 237 yX12_isAt ∈ lw_tbl := tb6 (List.mem_of_getElem? (i := 86) rfl)
theorem tw1288 : Cond.instanceMethod yX12_isAt ∈ lw_tbl := tb6 (List.mem_of_getElem? (i := 88) rfl)
theorem tw1289 : Cond.code yX12_isAt cX12_isAt 2 (some FieldType.boolean) ∈ lw_tbl := tb6 (List.mem_of_getElem? (i := 89) rfl)
theorem tw1290 : Cond.methodLink RX12 247 yX12_readPorts ∈ lw_tbl := tb6 (List.mem_of_getElem? (i := 90) rfl)
theorem tw1292 : Cond.instanceMethod yX12_readPorts ∈ lw_tbl := tb6 (List.mem_of_getElem? (i := 92) rfl)
theorem tw1293 : Cond.code yX12_readPorts cX12_readPorts 2 (some FieldType.int) ∈ lw_tbl := tb6 (List.mem_of_getElem? (i := 93) rfl)
theorem tw1294 : Cond.methodLink RX12 250 yX12_expect ∈ lw_tbl := tb6 (List.mem_of_getElem? (i := 94) rfl)
theorem tw1296 : Cond.instanceMethod yX12_expect ∈ lw_tbl := tb6 (List.mem_of_getElem? (i := 96) rfl)
theorem tw1297 : Cond.code yX12_expect cX12_expect 2 none ∈ lw_tbl := tb6 (List.mem_of_getElem? (i := 97) rfl)
theorem tw1298 : Cond.methodLink RX12 254 yX12_readPattern ∈ lw_tbl := tb6 (List.mem_of_getElem? (i := 98) rfl)
theorem tw1300 : Cond.instanceMethod yX12_readPattern ∈ lw_tbl := tb6 (List.mem_of_getElem? (i := 100) rfl)
theorem tw1301 : Cond.code yX12_readPattern cX12_readPattern 2 none ∈ lw_tbl := tb6 (List.mem_of_getElem? (i := 101) rfl)
theorem tw1302 : Cond.methodLink RL 169 yX12_ruleText ∈ lw_tbl := tb6 (List.mem_of_getElem? (i := 102) rfl)
theorem tw1303 : Cond.instanceMethod yX12_ruleText ∈ lw_tbl := tb6 (List.mem_of_getElem? (i := 103) rfl)
theorem tw1304 : Cond.selects RX12 yX12_ruleText yX12_ruleText ∈ lw_tbl := tb6 (List.mem_of_getElem? (i := 104) rfl)
theorem tw1305 : Cond.code yX12_ruleText cX12_ruleText 5 (some FieldType.int) ∈ lw_tbl := tb6 (List.mem_of_getElem? (i := 105) rfl)
theorem tw1306 : Cond.methodLink RX12 260 yX12_write ∈ lw_tbl := tb6 (List.mem_of_getElem? (i := 106) rfl)
theorem tw1308 : Cond.instanceMethod yX12_write ∈ lw_tbl := tb6 (List.mem_of_getElem? (i := 108) rfl)
theorem tw1309 : Cond.code yX12_write cX12_write 2 none ∈ lw_tbl := tb6 (List.mem_of_getElem? (i := 109) rfl)
theorem tw1310 : Cond.methodLink RX12 263 yX12_writePorts ∈ lw_tbl := tb6 (List.mem_of_getElem? (i := 110) rfl)
theorem tw1312 : Cond.instanceMethod yX12_writePorts ∈ lw_tbl := tb6 (List.mem_of_getElem? (i := 112) rfl)
theorem tw1313 : Cond.code yX12_writePorts cX12_writePorts 3 none ∈ lw_tbl := tb6 (List.mem_of_getElem? (i := 113) rfl)
theorem tw1314 : Cond.methodLink RX12 266 yX12_writePattern ∈ lw_tbl := tb6 (List.mem_of_getElem? (i := 114) rfl)
theorem tw1316 : Cond.instanceMethod yX12_writePattern ∈ lw_tbl := tb6 (List.mem_of_getElem? (i := 116) rfl)
theorem tw1317 : Cond.code yX12_writePattern cX12_writePattern 4 none ∈ lw_tbl := tb6 (List.mem_of_getElem? (i := 117) rfl)
theorem ts1_0 : Cond.selects RX11 yX11_isInsertable yX11_isInsertable ∈ lw_tbl := tp1 (q := (yX11_isInsertable, 12)) (List.mem_of_getElem? (i := 0) rfl)
theorem ts1_1 : Cond.selects RX11 yX11_insertRule yX11_insertRule ∈ lw_tbl := tp1 (q := (yX11_insertRule, 12)) (List.mem_of_getElem? (i := 1) rfl)
theorem ts1_2 : Cond.selects RX11 yX11_ruleError yX11_ruleError ∈ lw_tbl := tp1 (q := (yX11_ruleError, 12)) (List.mem_of_getElem? (i := 2) rfl)
theorem ts1_3 : Cond.selects RX11 yX11_replaceRule yX11_replaceRule ∈ lw_tbl := tp1 (q := (yX11_replaceRule, 12)) (List.mem_of_getElem? (i := 3) rfl)
theorem ts1_4 : Cond.selects RX7 yX7_isHidden yX7_isHidden ∈ lw_tbl := tp1 (q := (yX7_isHidden, 2)) (List.mem_of_getElem? (i := 4) rfl)
theorem ts1_5 : Cond.selects RX2 yX2_forget yX2_forget ∈ lw_tbl := tp1 (q := (yX2_forget, 4)) (List.mem_of_getElem? (i := 5) rfl)
theorem ts1_6 : Cond.selects RX2 yX2_enter yX2_enter ∈ lw_tbl := tp1 (q := (yX2_enter, 4)) (List.mem_of_getElem? (i := 6) rfl)
theorem ts1_7 : Cond.selects RX2 yX2_spread yX2_spread ∈ lw_tbl := tp1 (q := (yX2_spread, 4)) (List.mem_of_getElem? (i := 7) rfl)
theorem ts1_8 : Cond.selects RX2 yX2_goOneLink yX2_goOneLink ∈ lw_tbl := tp1 (q := (yX2_goOneLink, 4)) (List.mem_of_getElem? (i := 8) rfl)
theorem ts1_9 : Cond.selects RX2 yX2_handle yX2_handle ∈ lw_tbl := tp1 (q := (yX2_handle, 4)) (List.mem_of_getElem? (i := 9) rfl)
theorem ts1_10 : Cond.selects RX2 yX2_sendOut yX2_sendOut ∈ lw_tbl := tp1 (q := (yX2_sendOut, 4)) (List.mem_of_getElem? (i := 10) rfl)
theorem ts1_11 : Cond.selects RX2 yX2_allHandled yX2_allHandled ∈ lw_tbl := tp1 (q := (yX2_allHandled, 4)) (List.mem_of_getElem? (i := 11) rfl)
theorem ts1_12 : Cond.selects RX11 yX11_widestCare yX11_widestCare ∈ lw_tbl := tp1 (q := (yX11_widestCare, 12)) (List.mem_of_getElem? (i := 12) rfl)
theorem ts1_13 : Cond.selects RX11 yX11_isInjected yX11_isInjected ∈ lw_tbl := tp1 (q := (yX11_isInjected, 12)) (List.mem_of_getElem? (i := 13) rfl)
theorem ts1_14 : Cond.selects RX10 yX10_goOnce yX10_goOnce ∈ lw_tbl := tp1 (q := (yX10_goOnce, 5)) (List.mem_of_getElem? (i := 14) rfl)
theorem ts1_15 : Cond.selects RX1 yX1_growOnce yX1_growOnce ∈ lw_tbl := tp1 (q := (yX1_growOnce, 2)) (List.mem_of_getElem? (i := 15) rfl)
theorem ts2_0 : Cond.selects RX1 yX1_ending yX1_ending ∈ lw_tbl := tp2 (q := (yX1_ending, 2)) (List.mem_of_getElem? (i := 0) rfl)
theorem ts2_1 : Cond.selects RX1 yX1_endingBehindAll yX1_endingBehindAll ∈ lw_tbl := tp2 (q := (yX1_endingBehindAll, 2)) (List.mem_of_getElem? (i := 1) rfl)
theorem ts2_2 : Cond.selects RX1 yX1_delivering yX1_delivering ∈ lw_tbl := tp2 (q := (yX1_delivering, 2)) (List.mem_of_getElem? (i := 2) rfl)
theorem ts2_3 : Cond.selects RX1 yX1_deliveredBehindOne yX1_deliveredBehindOne ∈ lw_tbl := tp2 (q := (yX1_deliveredBehindOne, 2)) (List.mem_of_getElem? (i := 3) rfl)
theorem ts2_4 : Cond.selects RX0 yX0_openWay yX0_openWay ∈ lw_tbl := tp2 (q := (yX0_openWay, 11)) (List.mem_of_getElem? (i := 4) rfl)
theorem ts2_5 : Cond.selects RX0 yX0_enqueue yX0_enqueue ∈ lw_tbl := tp2 (q := (yX0_enqueue, 11)) (List.mem_of_getElem? (i := 5) rfl)
theorem ts2_6 : Cond.selects RX0 yX0_handlingSlot yX0_handlingSlot ∈ lw_tbl := tp2 (q := (yX0_handlingSlot, 11)) (List.mem_of_getElem? (i := 6) rfl)
theorem ts2_7 : Cond.selects RX0 yX0_reachesTarget yX0_reachesTarget ∈ lw_tbl := tp2 (q := (yX0_reachesTarget, 11)) (List.mem_of_getElem? (i := 7) rfl)
theorem ts2_8 : Cond.selects RX0 yX0_cutByOne yX0_cutByOne ∈ lw_tbl := tp2 (q := (yX0_cutByOne, 11)) (List.mem_of_getElem? (i := 8) rfl)
theorem ts2_9 : Cond.selects RX0 yX0_cutByTwo yX0_cutByTwo ∈ lw_tbl := tp2 (q := (yX0_cutByTwo, 11)) (List.mem_of_getElem? (i := 9) rfl)
theorem ts2_10 : Cond.selects RX0 yX0_knownWay yX0_knownWay ∈ lw_tbl := tp2 (q := (yX0_knownWay, 11)) (List.mem_of_getElem? (i := 10) rfl)
theorem ts2_11 : Cond.selects RX0 yX0_cutByThree yX0_cutByThree ∈ lw_tbl := tp2 (q := (yX0_cutByThree, 11)) (List.mem_of_getElem? (i := 11) rfl)
theorem ts2_12 : Cond.selects RX0 yX0_isWorthTrying yX0_isWorthTrying ∈ lw_tbl := tp2 (q := (yX0_isWorthTrying, 11)) (List.mem_of_getElem? (i := 12) rfl)
theorem ts2_13 : Cond.selects RX11 yX11_isPolicy yX11_isPolicy ∈ lw_tbl := tp2 (q := (yX11_isPolicy, 12)) (List.mem_of_getElem? (i := 13) rfl)
theorem ts2_14 : Cond.selects RX11 yX11_against yX11_against ∈ lw_tbl := tp2 (q := (yX11_against, 12)) (List.mem_of_getElem? (i := 14) rfl)
theorem ts2_15 : Cond.selects RX9 yX9_readsPorts yX9_readsPorts ∈ lw_tbl := tp2 (q := (yX9_readsPorts, 9)) (List.mem_of_getElem? (i := 15) rfl)
theorem ts3_0 : Cond.selects RX9 yX9_accepts yX9_accepts ∈ lw_tbl := tp3 (q := (yX9_accepts, 9)) (List.mem_of_getElem? (i := 0) rfl)
theorem ts3_1 : Cond.selects RX9 yX9_readDigits yX9_readDigits ∈ lw_tbl := tp3 (q := (yX9_readDigits, 9)) (List.mem_of_getElem? (i := 1) rfl)
theorem ts3_2 : Cond.selects RX9 yX9_readsPattern yX9_readsPattern ∈ lw_tbl := tp3 (q := (yX9_readsPattern, 9)) (List.mem_of_getElem? (i := 2) rfl)
theorem ts3_3 : Cond.selects RX9 yX9_readsOutputs yX9_readsOutputs ∈ lw_tbl := tp3 (q := (yX9_readsOutputs, 9)) (List.mem_of_getElem? (i := 3) rfl)
theorem ts3_4 : Cond.selects RX9 yX9_readsRewriting yX9_readsRewriting ∈ lw_tbl := tp3 (q := (yX9_readsRewriting, 9)) (List.mem_of_getElem? (i := 4) rfl)
theorem ts3_5 : Cond.selects RX8 yX8_put yX8_put ∈ lw_tbl := tp3 (q := (yX8_put, 2)) (List.mem_of_getElem? (i := 5) rfl)
theorem ts3_6 : Cond.selects RX8 yX8_putDigits yX8_putDigits ∈ lw_tbl := tp3 (q := (yX8_putDigits, 2)) (List.mem_of_getElem? (i := 6) rfl)
theorem ts3_7 : Cond.selects RX8 yX8_putPattern yX8_putPattern ∈ lw_tbl := tp3 (q := (yX8_putPattern, 2)) (List.mem_of_getElem? (i := 7) rfl)
theorem ts3_8 : Cond.selects RX12 yX12_begin yX12_begin ∈ lw_tbl := tp3 (q := (yX12_begin, 33)) (List.mem_of_getElem? (i := 8) rfl)
theorem ts3_9 : Cond.selects RX12 yX12_insert yX12_insert ∈ lw_tbl := tp3 (q := (yX12_insert, 33)) (List.mem_of_getElem? (i := 9) rfl)
theorem ts3_10 : Cond.selects RX12 yX12_many yX12_many ∈ lw_tbl := tp3 (q := (yX12_many, 33)) (List.mem_of_getElem? (i := 10) rfl)
theorem ts3_11 : Cond.selects RX12 yX12_noHeader yX12_noHeader ∈ lw_tbl := tp3 (q := (yX12_noHeader, 33)) (List.mem_of_getElem? (i := 11) rfl)
theorem ts3_12 : Cond.selects RX12 yX12_headers yX12_headers ∈ lw_tbl := tp3 (q := (yX12_headers, 33)) (List.mem_of_getElem? (i := 12) rfl)
theorem ts3_13 : Cond.selects RX12 yX12_keep yX12_keep ∈ lw_tbl := tp3 (q := (yX12_keep, 33)) (List.mem_of_getElem? (i := 13) rfl)
theorem ts3_14 : Cond.selects RX12 yX12_open yX12_open ∈ lw_tbl := tp3 (q := (yX12_open, 33)) (List.mem_of_getElem? (i := 14) rfl)
theorem ts3_15 : Cond.selects RX12 yX12_of yX12_of ∈ lw_tbl := tp3 (q := (yX12_of, 33)) (List.mem_of_getElem? (i := 15) rfl)
theorem ts4_0 : Cond.selects RX12 yX12_put yX12_put ∈ lw_tbl := tp4 (q := (yX12_put, 33)) (List.mem_of_getElem? (i := 0) rfl)
theorem ts4_1 : Cond.selects RX12 yX12_ruleBarred yX12_ruleBarred ∈ lw_tbl := tp4 (q := (yX12_ruleBarred, 33)) (List.mem_of_getElem? (i := 1) rfl)
theorem ts4_2 : Cond.selects RX12 yX12_noRule yX12_noRule ∈ lw_tbl := tp4 (q := (yX12_noRule, 33)) (List.mem_of_getElem? (i := 2) rfl)
theorem ts4_3 : Cond.selects RX12 yX12_close yX12_close ∈ lw_tbl := tp4 (q := (yX12_close, 33)) (List.mem_of_getElem? (i := 3) rfl)
theorem ts4_4 : Cond.selects RX12 yX12_handler yX12_handler ∈ lw_tbl := tp4 (q := (yX12_handler, 33)) (List.mem_of_getElem? (i := 4) rfl)
theorem ts4_5 : Cond.selects RX12 yX12_matches yX12_matches ∈ lw_tbl := tp4 (q := (yX12_matches, 33)) (List.mem_of_getElem? (i := 5) rfl)
theorem ts4_6 : Cond.selects RX12 yX12_injected yX12_injected ∈ lw_tbl := tp4 (q := (yX12_injected, 33)) (List.mem_of_getElem? (i := 6) rfl)
theorem ts4_7 : Cond.selects RX12 yX12_isInjected yX12_isInjected ∈ lw_tbl := tp4 (q := (yX12_isInjected, 33)) (List.mem_of_getElem? (i := 7) rfl)
theorem ts4_8 : Cond.selects RX12 yX12_spreadAll yX12_spreadAll ∈ lw_tbl := tp4 (q := (yX12_spreadAll, 33)) (List.mem_of_getElem? (i := 8) rfl)
theorem ts4_9 : Cond.selects RX12 yX12_spread yX12_spread ∈ lw_tbl := tp4 (q := (yX12_spread, 33)) (List.mem_of_getElem? (i := 9) rfl)
theorem ts4_10 : Cond.selects RX12 yX12_goOn yX12_goOn ∈ lw_tbl := tp4 (q := (yX12_goOn, 33)) (List.mem_of_getElem? (i := 10) rfl)
theorem ts4_11 : Cond.selects RX12 yX12_rewritten yX12_rewritten ∈ lw_tbl := tp4 (q := (yX12_rewritten, 33)) (List.mem_of_getElem? (i := 11) rfl)
theorem ts4_12 : Cond.selects RX12 yX12_handledBy yX12_handledBy ∈ lw_tbl := tp4 (q := (yX12_handledBy, 33)) (List.mem_of_getElem? (i := 12) rfl)
theorem ts4_13 : Cond.selects RX12 yX12_cubeOf yX12_cubeOf ∈ lw_tbl := tp4 (q := (yX12_cubeOf, 33)) (List.mem_of_getElem? (i := 13) rfl)
theorem ts4_14 : Cond.selects RX12 yX12_follow yX12_follow ∈ lw_tbl := tp4 (q := (yX12_follow, 33)) (List.mem_of_getElem? (i := 14) rfl)
theorem ts4_15 : Cond.selects RX12 yX12_wasThere yX12_wasThere ∈ lw_tbl := tp4 (q := (yX12_wasThere, 33)) (List.mem_of_getElem? (i := 15) rfl)
theorem ts5_0 : Cond.selects RX12 yX12_isSafe yX12_isSafe ∈ lw_tbl := tp5 (q := (yX12_isSafe, 33)) (List.mem_of_getElem? (i := 0) rfl)
theorem ts5_1 : Cond.selects RX12 yX12_findSize yX12_findSize ∈ lw_tbl := tp5 (q := (yX12_findSize, 33)) (List.mem_of_getElem? (i := 1) rfl)
theorem ts5_2 : Cond.selects RX12 yX12_findCut yX12_findCut ∈ lw_tbl := tp5 (q := (yX12_findCut, 33)) (List.mem_of_getElem? (i := 2) rfl)
theorem ts5_3 : Cond.selects RX12 yX12_isStopped yX12_isStopped ∈ lw_tbl := tp5 (q := (yX12_isStopped, 33)) (List.mem_of_getElem? (i := 3) rfl)
theorem ts5_4 : Cond.selects RX12 yX12_turn yX12_turn ∈ lw_tbl := tp5 (q := (yX12_turn, 33)) (List.mem_of_getElem? (i := 4) rfl)
theorem ts5_5 : Cond.selects RX12 yX12_isOn yX12_isOn ∈ lw_tbl := tp5 (q := (yX12_isOn, 33)) (List.mem_of_getElem? (i := 5) rfl)
theorem ts5_6 : Cond.selects RX12 yX12_noPolicy yX12_noPolicy ∈ lw_tbl := tp5 (q := (yX12_noPolicy, 33)) (List.mem_of_getElem? (i := 6) rfl)
theorem ts5_7 : Cond.selects RX12 yX12_against yX12_against ∈ lw_tbl := tp5 (q := (yX12_against, 33)) (List.mem_of_getElem? (i := 7) rfl)
theorem ts5_8 : Cond.selects RX12 yX12_isAt yX12_isAt ∈ lw_tbl := tp5 (q := (yX12_isAt, 33)) (List.mem_of_getElem? (i := 8) rfl)
theorem ts5_9 : Cond.selects RX12 yX12_readPorts yX12_readPorts ∈ lw_tbl := tp5 (q := (yX12_readPorts, 33)) (List.mem_of_getElem? (i := 9) rfl)
theorem ts5_10 : Cond.selects RX12 yX12_expect yX12_expect ∈ lw_tbl := tp5 (q := (yX12_expect, 33)) (List.mem_of_getElem? (i := 10) rfl)
theorem ts5_11 : Cond.selects RX12 yX12_readPattern yX12_readPattern ∈ lw_tbl := tp5 (q := (yX12_readPattern, 33)) (List.mem_of_getElem? (i := 11) rfl)
theorem ts5_12 : Cond.selects RX12 yX12_write yX12_write ∈ lw_tbl := tp5 (q := (yX12_write, 33)) (List.mem_of_getElem? (i := 12) rfl)
theorem ts5_13 : Cond.selects RX12 yX12_writePorts yX12_writePorts ∈ lw_tbl := tp5 (q := (yX12_writePorts, 33)) (List.mem_of_getElem? (i := 13) rfl)
theorem ts5_14 : Cond.selects RX12 yX12_writePattern yX12_writePattern ∈ lw_tbl := tp5 (q := (yX12_writePattern, 33)) (List.mem_of_getElem? (i := 14) rfl)
end
section
theorem dX0_init_0 : decode cX0_init 0 = .ok (.aload_n 0, 1) := by decide +kernel
theorem dX0_init_1 : decode cX0_init 1 = .ok (.invokespecial 3, 3) := by decide +kernel
theorem dX0_init_4 : decode cX0_init 4 = .ok (.aload_n 0, 1) := by decide +kernel
theorem dX0_init_5 : decode cX0_init 5 = .ok (.iconst 3, 1) := by decide +kernel
theorem dX0_init_6 : decode cX0_init 6 = .ok (.newarray .int, 2) := by decide +kernel
theorem dX0_init_8 : decode cX0_init 8 = .ok (.putfield 9, 3) := by decide +kernel
theorem dX0_init_11 : decode cX0_init 11 = .ok (.aload_n 0, 1) := by decide +kernel
theorem dX0_init_12 : decode cX0_init 12 = .ok (.bipush 36, 2) := by decide +kernel
theorem dX0_init_14 : decode cX0_init 14 = .ok (.newarray .long, 2) := by decide +kernel
theorem dX0_init_16 : decode cX0_init 16 = .ok (.putfield 15, 3) := by decide +kernel
theorem dX0_init_19 : decode cX0_init 19 = .ok (.aload_n 0, 1) := by decide +kernel
theorem dX0_init_20 : decode cX0_init 20 = .ok (.sipush 1296, 3) := by decide +kernel
theorem dX0_init_23 : decode cX0_init 23 = .ok (.newarray .long, 2) := by decide +kernel
theorem dX0_init_25 : decode cX0_init 25 = .ok (.putfield 19, 3) := by decide +kernel
theorem dX0_init_28 : decode cX0_init 28 = .ok (.aload_n 0, 1) := by decide +kernel
theorem dX0_init_29 : decode cX0_init 29 = .ok (.sipush 768, 3) := by decide +kernel
theorem dX0_init_32 : decode cX0_init 32 = .ok (.newarray .int, 2) := by decide +kernel
theorem dX0_init_34 : decode cX0_init 34 = .ok (.putfield 22, 3) := by decide +kernel
theorem dX0_init_37 : decode cX0_init 37 = .ok (.aload_n 0, 1) := by decide +kernel
theorem dX0_init_38 : decode cX0_init 38 = .ok (.sipush 768, 3) := by decide +kernel
theorem dX0_init_41 : decode cX0_init 41 = .ok (.newarray .long, 2) := by decide +kernel
theorem dX0_init_43 : decode cX0_init 43 = .ok (.putfield 25, 3) := by decide +kernel
theorem dX0_init_46 : decode cX0_init 46 = .ok (.aload_n 0, 1) := by decide +kernel
theorem dX0_init_47 : decode cX0_init 47 = .ok (.bipush 24, 2) := by decide +kernel
theorem dX0_init_49 : decode cX0_init 49 = .ok (.newarray .long, 2) := by decide +kernel
theorem dX0_init_51 : decode cX0_init 51 = .ok (.putfield 28, 3) := by decide +kernel
theorem dX0_init_54 : decode cX0_init 54 = .ok (.aload_n 0, 1) := by decide +kernel
theorem dX0_init_55 : decode cX0_init 55 = .ok (.aload_n 1, 1) := by decide +kernel
theorem dX0_init_56 : decode cX0_init 56 = .ok (.putfield 31, 3) := by decide +kernel
theorem dX0_init_59 : decode cX0_init 59 = .ok (.return_, 1) := by decide +kernel
theorem dX0_smallest_0 : decode cX0_smallest 0 = .ok (.aload_n 0, 1) := by decide +kernel
theorem dX0_smallest_1 : decode cX0_smallest 1 = .ok (.iload_n 1, 1) := by decide +kernel
theorem dX0_smallest_2 : decode cX0_smallest 2 = .ok (.putfield 35, 3) := by decide +kernel
theorem dX0_smallest_5 : decode cX0_smallest 5 = .ok (.aload_n 0, 1) := by decide +kernel
theorem dX0_smallest_6 : decode cX0_smallest 6 = .ok (.lload_n 2, 1) := by decide +kernel
theorem dX0_smallest_7 : decode cX0_smallest 7 = .ok (.putfield 39, 3) := by decide +kernel
theorem dX0_smallest_10 : decode cX0_smallest 10 = .ok (.aload_n 0, 1) := by decide +kernel
theorem dX0_smallest_11 : decode cX0_smallest 11 = .ok (.iload 4, 2) := by decide +kernel
theorem dX0_smallest_13 : decode cX0_smallest 13 = .ok (.putfield 43, 3) := by decide +kernel
theorem dX0_smallest_16 : decode cX0_smallest 16 = .ok (.aload_n 0, 1) := by decide +kernel
theorem dX0_smallest_17 : decode cX0_smallest 17 = .ok (.lconst 0, 1) := by decide +kernel
theorem dX0_smallest_18 : decode cX0_smallest 18 = .ok (.invokevirtual 46, 3) := by decide +kernel
theorem dX0_smallest_21 : decode cX0_smallest 21 = .ok (.lstore 5, 2) := by decide +kernel
theorem dX0_smallest_23 : decode cX0_smallest 23 = .ok (.lload 5, 2) := by decide +kernel
theorem dX0_smallest_25 : decode cX0_smallest 25 = .ok (.lconst 0, 1) := by decide +kernel
theorem dX0_smallest_26 : decode cX0_smallest 26 = .ok (.lcmp, 1) := by decide +kernel
theorem dX0_smallest_27 : decode cX0_smallest 27 = .ok (.ifCond .ne 5, 3) := by decide +kernel
theorem dX0_smallest_30 : decode cX0_smallest 30 = .ok (.iconst 0, 1) := by decide +kernel
theorem dX0_smallest_31 : decode cX0_smallest 31 = .ok (.ireturn, 1) := by decide +kernel
theorem dX0_smallest_32 : decode cX0_smallest 32 = .ok (.aload_n 0, 1) := by decide +kernel
theorem dX0_smallest_33 : decode cX0_smallest 33 = .ok (.lload 5, 2) := by decide +kernel
theorem dX0_smallest_35 : decode cX0_smallest 35 = .ok (.invokevirtual 50, 3) := by decide +kernel
theorem dX0_smallest_38 : decode cX0_smallest 38 = .ok (.ifCond .eq 5, 3) := by decide +kernel
theorem dX0_smallest_41 : decode cX0_smallest 41 = .ok (.iconst 1, 1) := by decide +kernel
theorem dX0_smallest_42 : decode cX0_smallest 42 = .ok (.ireturn, 1) := by decide +kernel
theorem dX0_smallest_43 : decode cX0_smallest 43 = .ok (.aload_n 0, 1) := by decide +kernel
theorem dX0_smallest_44 : decode cX0_smallest 44 = .ok (.invokevirtual 54, 3) := by decide +kernel
theorem dX0_smallest_47 : decode cX0_smallest 47 = .ok (.ifCond .eq 5, 3) := by decide +kernel
theorem dX0_smallest_50 : decode cX0_smallest 50 = .ok (.iconst 2, 1) := by decide +kernel
theorem dX0_smallest_51 : decode cX0_smallest 51 = .ok (.ireturn, 1) := by decide +kernel
theorem dX0_smallest_52 : decode cX0_smallest 52 = .ok (.aload_n 0, 1) := by decide +kernel
theorem dX0_smallest_53 : decode cX0_smallest 53 = .ok (.invokevirtual 58, 3) := by decide +kernel
theorem dX0_smallest_56 : decode cX0_smallest 56 = .ok (.ifCond .eq 7, 3) := by decide +kernel
theorem dX0_smallest_59 : decode cX0_smallest 59 = .ok (.iconst 3, 1) := by decide +kernel
theorem dX0_smallest_60 : decode cX0_smallest 60 = .ok (.goto 5, 3) := by decide +kernel
theorem dX0_smallest_63 : decode cX0_smallest 63 = .ok (.bipush (-6), 2) := by decide +kernel
theorem dX0_smallest_65 : decode cX0_smallest 65 = .ok (.ireturn, 1) := by decide +kernel
theorem dX0_cutByOne_0 : decode cX0_cutByOne 0 = .ok (.iconst 0, 1) := by decide +kernel
theorem dX0_cutByOne_1 : decode cX0_cutByOne 1 = .ok (.istore_n 3, 1) := by decide +kernel
theorem dX0_cutByOne_2 : decode cX0_cutByOne 2 = .ok (.iload_n 3, 1) := by decide +kernel
theorem dX0_cutByOne_3 : decode cX0_cutByOne 3 = .ok (.bipush 36, 2) := by decide +kernel
theorem dX0_cutByOne_5 : decode cX0_cutByOne 5 = .ok (.if_icmp .ge 54, 3) := by decide +kernel
theorem dX0_cutByOne_8 : decode cX0_cutByOne 8 = .ok (.aload_n 0, 1) := by decide +kernel
theorem dX0_cutByOne_9 : decode cX0_cutByOne 9 = .ok (.getfield 15, 3) := by decide +kernel
theorem dX0_cutByOne_12 : decode cX0_cutByOne 12 = .ok (.iload_n 3, 1) := by decide +kernel
theorem dX0_cutByOne_13 : decode cX0_cutByOne 13 = .ok (.lload_n 1, 1) := by decide +kernel
theorem dX0_cutByOne_14 : decode cX0_cutByOne 14 = .ok (.iload_n 3, 1) := by decide +kernel
theorem dX0_cutByOne_15 : decode cX0_cutByOne 15 = .ok (.invokestatic 61, 3) := by decide +kernel
theorem dX0_cutByOne_18 : decode cX0_cutByOne 18 = .ok (.ifCond .eq 13, 3) := by decide +kernel
theorem dX0_cutByOne_21 : decode cX0_cutByOne 21 = .ok (.aload_n 0, 1) := by decide +kernel
theorem dX0_cutByOne_22 : decode cX0_cutByOne 22 = .ok (.lconst 1, 1) := by decide +kernel
theorem dX0_cutByOne_23 : decode cX0_cutByOne 23 = .ok (.iload_n 3, 1) := by decide +kernel
theorem dX0_cutByOne_24 : decode cX0_cutByOne 24 = .ok (.lshl, 1) := by decide +kernel
theorem dX0_cutByOne_25 : decode cX0_cutByOne 25 = .ok (.invokevirtual 46, 3) := by decide +kernel
theorem dX0_cutByOne_28 : decode cX0_cutByOne 28 = .ok (.goto 4, 3) := by decide +kernel
theorem dX0_cutByOne_31 : decode cX0_cutByOne 31 = .ok (.lload_n 1, 1) := by decide +kernel
theorem dX0_cutByOne_32 : decode cX0_cutByOne 32 = .ok (.lastore, 1) := by decide +kernel
theorem dX0_cutByOne_33 : decode cX0_cutByOne 33 = .ok (.aload_n 0, 1) := by decide +kernel
theorem dX0_cutByOne_34 : decode cX0_cutByOne 34 = .ok (.getfield 15, 3) := by decide +kernel
theorem dX0_cutByOne_37 : decode cX0_cutByOne 37 = .ok (.iload_n 3, 1) := by decide +kernel
theorem dX0_cutByOne_38 : decode cX0_cutByOne 38 = .ok (.laload, 1) := by decide +kernel
theorem dX0_cutByOne_39 : decode cX0_cutByOne 39 = .ok (.lconst 0, 1) := by decide +kernel
theorem dX0_cutByOne_40 : decode cX0_cutByOne 40 = .ok (.lcmp, 1) := by decide +kernel
theorem dX0_cutByOne_41 : decode cX0_cutByOne 41 = .ok (.ifCond .ne 12, 3) := by decide +kernel
theorem dX0_cutByOne_44 : decode cX0_cutByOne 44 = .ok (.aload_n 0, 1) := by decide +kernel
theorem dX0_cutByOne_45 : decode cX0_cutByOne 45 = .ok (.getfield 9, 3) := by decide +kernel
theorem dX0_cutByOne_48 : decode cX0_cutByOne 48 = .ok (.iconst 0, 1) := by decide +kernel
theorem dX0_cutByOne_49 : decode cX0_cutByOne 49 = .ok (.iload_n 3, 1) := by decide +kernel
theorem dX0_cutByOne_50 : decode cX0_cutByOne 50 = .ok (.iastore, 1) := by decide +kernel
theorem dX0_cutByOne_51 : decode cX0_cutByOne 51 = .ok (.iconst 1, 1) := by decide +kernel
theorem dX0_cutByOne_52 : decode cX0_cutByOne 52 = .ok (.ireturn, 1) := by decide +kernel
theorem dX0_cutByOne_53 : decode cX0_cutByOne 53 = .ok (.iinc 3 1, 3) := by decide +kernel
theorem dX0_cutByOne_56 : decode cX0_cutByOne 56 = .ok (.goto (-54), 3) := by decide +kernel
theorem dX0_cutByOne_59 : decode cX0_cutByOne 59 = .ok (.iconst 0, 1) := by decide +kernel
theorem dX0_cutByOne_60 : decode cX0_cutByOne 60 = .ok (.ireturn, 1) := by decide +kernel
theorem dX0_cutByTwo_0 : decode cX0_cutByTwo 0 = .ok (.iconst 0, 1) := by decide +kernel
theorem dX0_cutByTwo_1 : decode cX0_cutByTwo 1 = .ok (.istore_n 1, 1) := by decide +kernel
theorem dX0_cutByTwo_2 : decode cX0_cutByTwo 2 = .ok (.iload_n 1, 1) := by decide +kernel
theorem dX0_cutByTwo_3 : decode cX0_cutByTwo 3 = .ok (.bipush 36, 2) := by decide +kernel
theorem dX0_cutByTwo_5 : decode cX0_cutByTwo 5 = .ok (.if_icmp .ge 84, 3) := by decide +kernel
theorem dX0_cutByTwo_8 : decode cX0_cutByTwo 8 = .ok (.iload_n 1, 1) := by decide +kernel
theorem dX0_cutByTwo_9 : decode cX0_cutByTwo 9 = .ok (.iconst 1, 1) := by decide +kernel
theorem dX0_cutByTwo_10 : decode cX0_cutByTwo 10 = .ok (.iadd, 1) := by decide +kernel
theorem dX0_cutByTwo_11 : decode cX0_cutByTwo 11 = .ok (.istore_n 2, 1) := by decide +kernel
theorem dX0_cutByTwo_12 : decode cX0_cutByTwo 12 = .ok (.iload_n 2, 1) := by decide +kernel
theorem dX0_cutByTwo_13 : decode cX0_cutByTwo 13 = .ok (.bipush 36, 2) := by decide +kernel
theorem dX0_cutByTwo_15 : decode cX0_cutByTwo 15 = .ok (.if_icmp .ge 68, 3) := by decide +kernel
theorem dX0_cutByTwo_18 : decode cX0_cutByTwo 18 = .ok (.aload_n 0, 1) := by decide +kernel
theorem dX0_cutByTwo_19 : decode cX0_cutByTwo 19 = .ok (.iload_n 1, 1) := by decide +kernel
theorem dX0_cutByTwo_20 : decode cX0_cutByTwo 20 = .ok (.iload_n 2, 1) := by decide +kernel
theorem dX0_cutByTwo_21 : decode cX0_cutByTwo 21 = .ok (.invokevirtual 65, 3) := by decide +kernel
theorem dX0_cutByTwo_24 : decode cX0_cutByTwo 24 = .ok (.lstore_n 3, 1) := by decide +kernel
theorem dX0_cutByTwo_25 : decode cX0_cutByTwo 25 = .ok (.lload_n 3, 1) := by decide +kernel
theorem dX0_cutByTwo_26 : decode cX0_cutByTwo 26 = .ok (.lconst 0, 1) := by decide +kernel
theorem dX0_cutByTwo_27 : decode cX0_cutByTwo 27 = .ok (.lcmp, 1) := by decide +kernel
theorem dX0_cutByTwo_28 : decode cX0_cutByTwo 28 = .ok (.ifCond .ne 15, 3) := by decide +kernel
theorem dX0_cutByTwo_31 : decode cX0_cutByTwo 31 = .ok (.aload_n 0, 1) := by decide +kernel
theorem dX0_cutByTwo_32 : decode cX0_cutByTwo 32 = .ok (.lconst 1, 1) := by decide +kernel
theorem dX0_cutByTwo_33 : decode cX0_cutByTwo 33 = .ok (.iload_n 1, 1) := by decide +kernel
theorem dX0_cutByTwo_34 : decode cX0_cutByTwo 34 = .ok (.lshl, 1) := by decide +kernel
theorem dX0_cutByTwo_35 : decode cX0_cutByTwo 35 = .ok (.lconst 1, 1) := by decide +kernel
theorem dX0_cutByTwo_36 : decode cX0_cutByTwo 36 = .ok (.iload_n 2, 1) := by decide +kernel
theorem dX0_cutByTwo_37 : decode cX0_cutByTwo 37 = .ok (.lshl, 1) := by decide +kernel
theorem dX0_cutByTwo_38 : decode cX0_cutByTwo 38 = .ok (.lor, 1) := by decide +kernel
theorem dX0_cutByTwo_39 : decode cX0_cutByTwo 39 = .ok (.invokevirtual 46, 3) := by decide +kernel
theorem dX0_cutByTwo_42 : decode cX0_cutByTwo 42 = .ok (.lstore_n 3, 1) := by decide +kernel
theorem dX0_cutByTwo_43 : decode cX0_cutByTwo 43 = .ok (.lload_n 3, 1) := by decide +kernel
theorem dX0_cutByTwo_44 : decode cX0_cutByTwo 44 = .ok (.lconst 0, 1) := by decide +kernel
theorem dX0_cutByTwo_45 : decode cX0_cutByTwo 45 = .ok (.lcmp, 1) := by decide +kernel
theorem dX0_cutByTwo_46 : decode cX0_cutByTwo 46 = .ok (.ifCond .ne 19, 3) := by decide +kernel
theorem dX0_cutByTwo_49 : decode cX0_cutByTwo 49 = .ok (.aload_n 0, 1) := by decide +kernel
theorem dX0_cutByTwo_50 : decode cX0_cutByTwo 50 = .ok (.getfield 9, 3) := by decide +kernel
theorem dX0_cutByTwo_53 : decode cX0_cutByTwo 53 = .ok (.iconst 0, 1) := by decide +kernel
theorem dX0_cutByTwo_54 : decode cX0_cutByTwo 54 = .ok (.iload_n 1, 1) := by decide +kernel
theorem dX0_cutByTwo_55 : decode cX0_cutByTwo 55 = .ok (.iastore, 1) := by decide +kernel
theorem dX0_cutByTwo_56 : decode cX0_cutByTwo 56 = .ok (.aload_n 0, 1) := by decide +kernel
theorem dX0_cutByTwo_57 : decode cX0_cutByTwo 57 = .ok (.getfield 9, 3) := by decide +kernel
theorem dX0_cutByTwo_60 : decode cX0_cutByTwo 60 = .ok (.iconst 1, 1) := by decide +kernel
theorem dX0_cutByTwo_61 : decode cX0_cutByTwo 61 = .ok (.iload_n 2, 1) := by decide +kernel
theorem dX0_cutByTwo_62 : decode cX0_cutByTwo 62 = .ok (.iastore, 1) := by decide +kernel
theorem dX0_cutByTwo_63 : decode cX0_cutByTwo 63 = .ok (.iconst 1, 1) := by decide +kernel
theorem dX0_cutByTwo_64 : decode cX0_cutByTwo 64 = .ok (.ireturn, 1) := by decide +kernel
theorem dX0_cutByTwo_65 : decode cX0_cutByTwo 65 = .ok (.aload_n 0, 1) := by decide +kernel
theorem dX0_cutByTwo_66 : decode cX0_cutByTwo 66 = .ok (.getfield 19, 3) := by decide +kernel
theorem dX0_cutByTwo_69 : decode cX0_cutByTwo 69 = .ok (.iload_n 1, 1) := by decide +kernel
theorem dX0_cutByTwo_70 : decode cX0_cutByTwo 70 = .ok (.bipush 36, 2) := by decide +kernel
theorem dX0_cutByTwo_72 : decode cX0_cutByTwo 72 = .ok (.imul, 1) := by decide +kernel
theorem dX0_cutByTwo_73 : decode cX0_cutByTwo 73 = .ok (.iload_n 2, 1) := by decide +kernel
theorem dX0_cutByTwo_74 : decode cX0_cutByTwo 74 = .ok (.iadd, 1) := by decide +kernel
theorem dX0_cutByTwo_75 : decode cX0_cutByTwo 75 = .ok (.lload_n 3, 1) := by decide +kernel
theorem dX0_cutByTwo_76 : decode cX0_cutByTwo 76 = .ok (.lastore, 1) := by decide +kernel
theorem dX0_cutByTwo_77 : decode cX0_cutByTwo 77 = .ok (.iinc 2 1, 3) := by decide +kernel
theorem dX0_cutByTwo_80 : decode cX0_cutByTwo 80 = .ok (.goto (-68), 3) := by decide +kernel
theorem dX0_cutByTwo_83 : decode cX0_cutByTwo 83 = .ok (.iinc 1 1, 3) := by decide +kernel
theorem dX0_cutByTwo_86 : decode cX0_cutByTwo 86 = .ok (.goto (-84), 3) := by decide +kernel
theorem dX0_cutByTwo_89 : decode cX0_cutByTwo 89 = .ok (.iconst 0, 1) := by decide +kernel
theorem dX0_cutByTwo_90 : decode cX0_cutByTwo 90 = .ok (.ireturn, 1) := by decide +kernel
theorem dX0_cutByThree_0 : decode cX0_cutByThree 0 = .ok (.iconst 0, 1) := by decide +kernel
theorem dX0_cutByThree_1 : decode cX0_cutByThree 1 = .ok (.istore_n 1, 1) := by decide +kernel
theorem dX0_cutByThree_2 : decode cX0_cutByThree 2 = .ok (.iload_n 1, 1) := by decide +kernel
theorem dX0_cutByThree_3 : decode cX0_cutByThree 3 = .ok (.bipush 36, 2) := by decide +kernel
theorem dX0_cutByThree_5 : decode cX0_cutByThree 5 = .ok (.if_icmp .ge 120, 3) := by decide +kernel
theorem dX0_cutByThree_8 : decode cX0_cutByThree 8 = .ok (.iload_n 1, 1) := by decide +kernel
theorem dX0_cutByThree_9 : decode cX0_cutByThree 9 = .ok (.iconst 1, 1) := by decide +kernel
theorem dX0_cutByThree_10 : decode cX0_cutByThree 10 = .ok (.iadd, 1) := by decide +kernel
theorem dX0_cutByThree_11 : decode cX0_cutByThree 11 = .ok (.istore_n 2, 1) := by decide +kernel
theorem dX0_cutByThree_12 : decode cX0_cutByThree 12 = .ok (.iload_n 2, 1) := by decide +kernel
theorem dX0_cutByThree_13 : decode cX0_cutByThree 13 = .ok (.bipush 36, 2) := by decide +kernel
theorem dX0_cutByThree_15 : decode cX0_cutByThree 15 = .ok (.if_icmp .ge 104, 3) := by decide +kernel
theorem dX0_cutByThree_18 : decode cX0_cutByThree 18 = .ok (.aload_n 0, 1) := by decide +kernel
theorem dX0_cutByThree_19 : decode cX0_cutByThree 19 = .ok (.getfield 19, 3) := by decide +kernel
theorem dX0_cutByThree_22 : decode cX0_cutByThree 22 = .ok (.iload_n 1, 1) := by decide +kernel
theorem dX0_cutByThree_23 : decode cX0_cutByThree 23 = .ok (.bipush 36, 2) := by decide +kernel
theorem dX0_cutByThree_25 : decode cX0_cutByThree 25 = .ok (.imul, 1) := by decide +kernel
theorem dX0_cutByThree_26 : decode cX0_cutByThree 26 = .ok (.iload_n 2, 1) := by decide +kernel
theorem dX0_cutByThree_27 : decode cX0_cutByThree 27 = .ok (.iadd, 1) := by decide +kernel
theorem dX0_cutByThree_28 : decode cX0_cutByThree 28 = .ok (.laload, 1) := by decide +kernel
theorem dX0_cutByThree_29 : decode cX0_cutByThree 29 = .ok (.lstore_n 3, 1) := by decide +kernel
theorem dX0_cutByThree_30 : decode cX0_cutByThree 30 = .ok (.iload_n 2, 1) := by decide +kernel
theorem dX0_cutByThree_31 : decode cX0_cutByThree 31 = .ok (.iconst 1, 1) := by decide +kernel
theorem dX0_cutByThree_32 : decode cX0_cutByThree 32 = .ok (.iadd, 1) := by decide +kernel
theorem dX0_cutByThree_33 : decode cX0_cutByThree 33 = .ok (.istore 5, 2) := by decide +kernel
theorem dX0_cutByThree_35 : decode cX0_cutByThree 35 = .ok (.iload 5, 2) := by decide +kernel
theorem dX0_cutByThree_37 : decode cX0_cutByThree 37 = .ok (.bipush 36, 2) := by decide +kernel
theorem dX0_cutByThree_39 : decode cX0_cutByThree 39 = .ok (.if_icmp .ge 74, 3) := by decide +kernel
theorem dX0_cutByThree_42 : decode cX0_cutByThree 42 = .ok (.lload_n 3, 1) := by decide +kernel
theorem dX0_cutByThree_43 : decode cX0_cutByThree 43 = .ok (.iload 5, 2) := by decide +kernel
theorem dX0_cutByThree_45 : decode cX0_cutByThree 45 = .ok (.lushr, 1) := by decide +kernel
theorem dX0_cutByThree_46 : decode cX0_cutByThree 46 = .ok (.lconst 0, 1) := by decide +kernel
theorem dX0_cutByThree_47 : decode cX0_cutByThree 47 = .ok (.lcmp, 1) := by decide +kernel
theorem dX0_cutByThree_48 : decode cX0_cutByThree 48 = .ok (.ifCond .eq 65, 3) := by decide +kernel
theorem dX0_cutByThree_51 : decode cX0_cutByThree 51 = .ok (.aload_n 0, 1) := by decide +kernel
theorem dX0_cutByThree_52 : decode cX0_cutByThree 52 = .ok (.iload_n 1, 1) := by decide +kernel
theorem dX0_cutByThree_53 : decode cX0_cutByThree 53 = .ok (.iload_n 2, 1) := by decide +kernel
theorem dX0_cutByThree_54 : decode cX0_cutByThree 54 = .ok (.iload 5, 2) := by decide +kernel
theorem dX0_cutByThree_56 : decode cX0_cutByThree 56 = .ok (.invokevirtual 69, 3) := by decide +kernel
theorem dX0_cutByThree_59 : decode cX0_cutByThree 59 = .ok (.ifCond .eq 48, 3) := by decide +kernel
theorem dX0_cutByThree_62 : decode cX0_cutByThree 62 = .ok (.aload_n 0, 1) := by decide +kernel
theorem dX0_cutByThree_63 : decode cX0_cutByThree 63 = .ok (.lconst 1, 1) := by decide +kernel
theorem dX0_cutByThree_64 : decode cX0_cutByThree 64 = .ok (.iload_n 1, 1) := by decide +kernel
theorem dX0_cutByThree_65 : decode cX0_cutByThree 65 = .ok (.lshl, 1) := by decide +kernel
theorem dX0_cutByThree_66 : decode cX0_cutByThree 66 = .ok (.lconst 1, 1) := by decide +kernel
theorem dX0_cutByThree_67 : decode cX0_cutByThree 67 = .ok (.iload_n 2, 1) := by decide +kernel
theorem dX0_cutByThree_68 : decode cX0_cutByThree 68 = .ok (.lshl, 1) := by decide +kernel
theorem dX0_cutByThree_69 : decode cX0_cutByThree 69 = .ok (.lor, 1) := by decide +kernel
theorem dX0_cutByThree_70 : decode cX0_cutByThree 70 = .ok (.lconst 1, 1) := by decide +kernel
theorem dX0_cutByThree_71 : decode cX0_cutByThree 71 = .ok (.iload 5, 2) := by decide +kernel
theorem dX0_cutByThree_73 : decode cX0_cutByThree 73 = .ok (.lshl, 1) := by decide +kernel
theorem dX0_cutByThree_74 : decode cX0_cutByThree 74 = .ok (.lor, 1) := by decide +kernel
theorem dX0_cutByThree_75 : decode cX0_cutByThree 75 = .ok (.invokevirtual 46, 3) := by decide +kernel
theorem dX0_cutByThree_78 : decode cX0_cutByThree 78 = .ok (.lconst 0, 1) := by decide +kernel
theorem dX0_cutByThree_79 : decode cX0_cutByThree 79 = .ok (.lcmp, 1) := by decide +kernel
theorem dX0_cutByThree_80 : decode cX0_cutByThree 80 = .ok (.ifCond .ne 27, 3) := by decide +kernel
theorem dX0_cutByThree_83 : decode cX0_cutByThree 83 = .ok (.aload_n 0, 1) := by decide +kernel
theorem dX0_cutByThree_84 : decode cX0_cutByThree 84 = .ok (.getfield 9, 3) := by decide +kernel
theorem dX0_cutByThree_87 : decode cX0_cutByThree 87 = .ok (.iconst 0, 1) := by decide +kernel
theorem dX0_cutByThree_88 : decode cX0_cutByThree 88 = .ok (.iload_n 1, 1) := by decide +kernel
theorem dX0_cutByThree_89 : decode cX0_cutByThree 89 = .ok (.iastore, 1) := by decide +kernel
theorem dX0_cutByThree_90 : decode cX0_cutByThree 90 = .ok (.aload_n 0, 1) := by decide +kernel
theorem dX0_cutByThree_91 : decode cX0_cutByThree 91 = .ok (.getfield 9, 3) := by decide +kernel
theorem dX0_cutByThree_94 : decode cX0_cutByThree 94 = .ok (.iconst 1, 1) := by decide +kernel
theorem dX0_cutByThree_95 : decode cX0_cutByThree 95 = .ok (.iload_n 2, 1) := by decide +kernel
theorem dX0_cutByThree_96 : decode cX0_cutByThree 96 = .ok (.iastore, 1) := by decide +kernel
theorem dX0_cutByThree_97 : decode cX0_cutByThree 97 = .ok (.aload_n 0, 1) := by decide +kernel
theorem dX0_cutByThree_98 : decode cX0_cutByThree 98 = .ok (.getfield 9, 3) := by decide +kernel
theorem dX0_cutByThree_101 : decode cX0_cutByThree 101 = .ok (.iconst 2, 1) := by decide +kernel
theorem dX0_cutByThree_102 : decode cX0_cutByThree 102 = .ok (.iload 5, 2) := by decide +kernel
theorem dX0_cutByThree_104 : decode cX0_cutByThree 104 = .ok (.iastore, 1) := by decide +kernel
theorem dX0_cutByThree_105 : decode cX0_cutByThree 105 = .ok (.iconst 1, 1) := by decide +kernel
theorem dX0_cutByThree_106 : decode cX0_cutByThree 106 = .ok (.ireturn, 1) := by decide +kernel
theorem dX0_cutByThree_107 : decode cX0_cutByThree 107 = .ok (.iinc 5 1, 3) := by decide +kernel
theorem dX0_cutByThree_110 : decode cX0_cutByThree 110 = .ok (.goto (-75), 3) := by decide +kernel
theorem dX0_cutByThree_113 : decode cX0_cutByThree 113 = .ok (.iinc 2 1, 3) := by decide +kernel
theorem dX0_cutByThree_116 : decode cX0_cutByThree 116 = .ok (.goto (-104), 3) := by decide +kernel
theorem dX0_cutByThree_119 : decode cX0_cutByThree 119 = .ok (.iinc 1 1, 3) := by decide +kernel
theorem dX0_cutByThree_122 : decode cX0_cutByThree 122 = .ok (.goto (-120), 3) := by decide +kernel
theorem dX0_cutByThree_125 : decode cX0_cutByThree 125 = .ok (.iconst 0, 1) := by decide +kernel
theorem dX0_cutByThree_126 : decode cX0_cutByThree 126 = .ok (.ireturn, 1) := by decide +kernel
theorem dX0_knownWay_0 : decode cX0_knownWay 0 = .ok (.aload_n 0, 1) := by decide +kernel
theorem dX0_knownWay_1 : decode cX0_knownWay 1 = .ok (.getfield 15, 3) := by decide +kernel
theorem dX0_knownWay_4 : decode cX0_knownWay 4 = .ok (.iload_n 1, 1) := by decide +kernel
theorem dX0_knownWay_5 : decode cX0_knownWay 5 = .ok (.laload, 1) := by decide +kernel
theorem dX0_knownWay_6 : decode cX0_knownWay 6 = .ok (.iload_n 2, 1) := by decide +kernel
theorem dX0_knownWay_7 : decode cX0_knownWay 7 = .ok (.invokestatic 61, 3) := by decide +kernel
theorem dX0_knownWay_10 : decode cX0_knownWay 10 = .ok (.ifCond .ne 10, 3) := by decide +kernel
theorem dX0_knownWay_13 : decode cX0_knownWay 13 = .ok (.aload_n 0, 1) := by decide +kernel
theorem dX0_knownWay_14 : decode cX0_knownWay 14 = .ok (.getfield 15, 3) := by decide +kernel
theorem dX0_knownWay_17 : decode cX0_knownWay 17 = .ok (.iload_n 1, 1) := by decide +kernel
theorem dX0_knownWay_18 : decode cX0_knownWay 18 = .ok (.laload, 1) := by decide +kernel
theorem dX0_knownWay_19 : decode cX0_knownWay 19 = .ok (.lreturn, 1) := by decide +kernel
theorem dX0_knownWay_20 : decode cX0_knownWay 20 = .ok (.aload_n 0, 1) := by decide +kernel
theorem dX0_knownWay_21 : decode cX0_knownWay 21 = .ok (.getfield 15, 3) := by decide +kernel
theorem dX0_knownWay_24 : decode cX0_knownWay 24 = .ok (.iload_n 2, 1) := by decide +kernel
theorem dX0_knownWay_25 : decode cX0_knownWay 25 = .ok (.laload, 1) := by decide +kernel
theorem dX0_knownWay_26 : decode cX0_knownWay 26 = .ok (.iload_n 1, 1) := by decide +kernel
theorem dX0_knownWay_27 : decode cX0_knownWay 27 = .ok (.invokestatic 61, 3) := by decide +kernel
theorem dX0_knownWay_30 : decode cX0_knownWay 30 = .ok (.ifCond .eq 7, 3) := by decide +kernel
theorem dX0_knownWay_33 : decode cX0_knownWay 33 = .ok (.lconst 0, 1) := by decide +kernel
theorem dX0_knownWay_34 : decode cX0_knownWay 34 = .ok (.goto 9, 3) := by decide +kernel
theorem dX0_knownWay_37 : decode cX0_knownWay 37 = .ok (.aload_n 0, 1) := by decide +kernel
theorem dX0_knownWay_38 : decode cX0_knownWay 38 = .ok (.getfield 15, 3) := by decide +kernel
theorem dX0_knownWay_41 : decode cX0_knownWay 41 = .ok (.iload_n 2, 1) := by decide +kernel
theorem dX0_knownWay_42 : decode cX0_knownWay 42 = .ok (.laload, 1) := by decide +kernel
theorem dX0_knownWay_43 : decode cX0_knownWay 43 = .ok (.lreturn, 1) := by decide +kernel
theorem dX0_isWorthTrying_0 : decode cX0_isWorthTrying 0 = .ok (.aload_n 0, 1) := by decide +kernel
theorem dX0_isWorthTrying_1 : decode cX0_isWorthTrying 1 = .ok (.getfield 19, 3) := by decide +kernel
theorem dX0_isWorthTrying_4 : decode cX0_isWorthTrying 4 = .ok (.iload_n 1, 1) := by decide +kernel
theorem dX0_isWorthTrying_5 : decode cX0_isWorthTrying 5 = .ok (.bipush 36, 2) := by decide +kernel
theorem dX0_isWorthTrying_7 : decode cX0_isWorthTrying 7 = .ok (.imul, 1) := by decide +kernel
theorem dX0_isWorthTrying_8 : decode cX0_isWorthTrying 8 = .ok (.iload_n 2, 1) := by decide +kernel
theorem dX0_isWorthTrying_9 : decode cX0_isWorthTrying 9 = .ok (.iadd, 1) := by decide +kernel
theorem dX0_isWorthTrying_10 : decode cX0_isWorthTrying 10 = .ok (.laload, 1) := by decide +kernel
theorem dX0_isWorthTrying_11 : decode cX0_isWorthTrying 11 = .ok (.iload_n 3, 1) := by decide +kernel
theorem dX0_isWorthTrying_12 : decode cX0_isWorthTrying 12 = .ok (.invokestatic 61, 3) := by decide +kernel
theorem dX0_isWorthTrying_15 : decode cX0_isWorthTrying 15 = .ok (.ifCond .eq 43, 3) := by decide +kernel
theorem dX0_isWorthTrying_18 : decode cX0_isWorthTrying 18 = .ok (.aload_n 0, 1) := by decide +kernel
theorem dX0_isWorthTrying_19 : decode cX0_isWorthTrying 19 = .ok (.getfield 19, 3) := by decide +kernel
theorem dX0_isWorthTrying_22 : decode cX0_isWorthTrying 22 = .ok (.iload_n 1, 1) := by decide +kernel
theorem dX0_isWorthTrying_23 : decode cX0_isWorthTrying 23 = .ok (.bipush 36, 2) := by decide +kernel
theorem dX0_isWorthTrying_25 : decode cX0_isWorthTrying 25 = .ok (.imul, 1) := by decide +kernel
theorem dX0_isWorthTrying_26 : decode cX0_isWorthTrying 26 = .ok (.iload_n 3, 1) := by decide +kernel
theorem dX0_isWorthTrying_27 : decode cX0_isWorthTrying 27 = .ok (.iadd, 1) := by decide +kernel
theorem dX0_isWorthTrying_28 : decode cX0_isWorthTrying 28 = .ok (.laload, 1) := by decide +kernel
theorem dX0_isWorthTrying_29 : decode cX0_isWorthTrying 29 = .ok (.iload_n 2, 1) := by decide +kernel
theorem dX0_isWorthTrying_30 : decode cX0_isWorthTrying 30 = .ok (.invokestatic 61, 3) := by decide +kernel
theorem dX0_isWorthTrying_33 : decode cX0_isWorthTrying 33 = .ok (.ifCond .eq 25, 3) := by decide +kernel
theorem dX0_isWorthTrying_36 : decode cX0_isWorthTrying 36 = .ok (.aload_n 0, 1) := by decide +kernel
theorem dX0_isWorthTrying_37 : decode cX0_isWorthTrying 37 = .ok (.getfield 19, 3) := by decide +kernel
theorem dX0_isWorthTrying_40 : decode cX0_isWorthTrying 40 = .ok (.iload_n 2, 1) := by decide +kernel
theorem dX0_isWorthTrying_41 : decode cX0_isWorthTrying 41 = .ok (.bipush 36, 2) := by decide +kernel
theorem dX0_isWorthTrying_43 : decode cX0_isWorthTrying 43 = .ok (.imul, 1) := by decide +kernel
theorem dX0_isWorthTrying_44 : decode cX0_isWorthTrying 44 = .ok (.iload_n 3, 1) := by decide +kernel
theorem dX0_isWorthTrying_45 : decode cX0_isWorthTrying 45 = .ok (.iadd, 1) := by decide +kernel
theorem dX0_isWorthTrying_46 : decode cX0_isWorthTrying 46 = .ok (.laload, 1) := by decide +kernel
theorem dX0_isWorthTrying_47 : decode cX0_isWorthTrying 47 = .ok (.iload_n 1, 1) := by decide +kernel
theorem dX0_isWorthTrying_48 : decode cX0_isWorthTrying 48 = .ok (.invokestatic 61, 3) := by decide +kernel
theorem dX0_isWorthTrying_51 : decode cX0_isWorthTrying 51 = .ok (.ifCond .eq 7, 3) := by decide +kernel
theorem dX0_isWorthTrying_54 : decode cX0_isWorthTrying 54 = .ok (.iconst 1, 1) := by decide +kernel
theorem dX0_isWorthTrying_55 : decode cX0_isWorthTrying 55 = .ok (.goto 4, 3) := by decide +kernel
theorem dX0_isWorthTrying_58 : decode cX0_isWorthTrying 58 = .ok (.iconst 0, 1) := by decide +kernel
theorem dX0_isWorthTrying_59 : decode cX0_isWorthTrying 59 = .ok (.ireturn, 1) := by decide +kernel
theorem dX0_isOn_0 : decode cX0_isOn 0 = .ok (.lload_n 0, 1) := by decide +kernel
theorem dX0_isOn_1 : decode cX0_isOn 1 = .ok (.iload_n 2, 1) := by decide +kernel
theorem dX0_isOn_2 : decode cX0_isOn 2 = .ok (.lushr, 1) := by decide +kernel
theorem dX0_isOn_3 : decode cX0_isOn 3 = .ok (.lconst 1, 1) := by decide +kernel
theorem dX0_isOn_4 : decode cX0_isOn 4 = .ok (.land, 1) := by decide +kernel
theorem dX0_isOn_5 : decode cX0_isOn 5 = .ok (.lconst 0, 1) := by decide +kernel
theorem dX0_isOn_6 : decode cX0_isOn 6 = .ok (.lcmp, 1) := by decide +kernel
theorem dX0_isOn_7 : decode cX0_isOn 7 = .ok (.ifCond .eq 7, 3) := by decide +kernel
theorem dX0_isOn_10 : decode cX0_isOn 10 = .ok (.iconst 1, 1) := by decide +kernel
theorem dX0_isOn_11 : decode cX0_isOn 11 = .ok (.goto 4, 3) := by decide +kernel
theorem dX0_isOn_14 : decode cX0_isOn 14 = .ok (.iconst 0, 1) := by decide +kernel
theorem dX0_isOn_15 : decode cX0_isOn 15 = .ok (.ireturn, 1) := by decide +kernel
theorem dX0_openWay_0 : decode cX0_openWay 0 = .ok (.aload_n 0, 1) := by decide +kernel
theorem dX0_openWay_1 : decode cX0_openWay 1 = .ok (.getfield 28, 3) := by decide +kernel
theorem dX0_openWay_4 : decode cX0_openWay 4 = .ok (.lconst 0, 1) := by decide +kernel
theorem dX0_openWay_5 : decode cX0_openWay 5 = .ok (.invokestatic 73, 3) := by decide +kernel
theorem dX0_openWay_8 : decode cX0_openWay 8 = .ok (.aload_n 0, 1) := by decide +kernel
theorem dX0_openWay_9 : decode cX0_openWay 9 = .ok (.iconst 0, 1) := by decide +kernel
theorem dX0_openWay_10 : decode cX0_openWay 10 = .ok (.putfield 79, 3) := by decide +kernel
theorem dX0_openWay_13 : decode cX0_openWay 13 = .ok (.iconst 0, 1) := by decide +kernel
theorem dX0_openWay_14 : decode cX0_openWay 14 = .ok (.istore_n 3, 1) := by decide +kernel
theorem dX0_openWay_15 : decode cX0_openWay 15 = .ok (.iload_n 3, 1) := by decide +kernel
theorem dX0_openWay_16 : decode cX0_openWay 16 = .ok (.bipush 32, 2) := by decide +kernel
theorem dX0_openWay_18 : decode cX0_openWay 18 = .ok (.if_icmp .ge 30, 3) := by decide +kernel
theorem dX0_openWay_21 : decode cX0_openWay 21 = .ok (.aload_n 0, 1) := by decide +kernel
theorem dX0_openWay_22 : decode cX0_openWay 22 = .ok (.getfield 39, 3) := by decide +kernel
theorem dX0_openWay_25 : decode cX0_openWay 25 = .ok (.iload_n 3, 1) := by decide +kernel
theorem dX0_openWay_26 : decode cX0_openWay 26 = .ok (.invokestatic 82, 3) := by decide +kernel
theorem dX0_openWay_29 : decode cX0_openWay 29 = .ok (.ifCond .eq 13, 3) := by decide +kernel
theorem dX0_openWay_32 : decode cX0_openWay 32 = .ok (.aload_n 0, 1) := by decide +kernel
theorem dX0_openWay_33 : decode cX0_openWay 33 = .ok (.aload_n 0, 1) := by decide +kernel
theorem dX0_openWay_34 : decode cX0_openWay 34 = .ok (.getfield 35, 3) := by decide +kernel
theorem dX0_openWay_37 : decode cX0_openWay 37 = .ok (.iload_n 3, 1) := by decide +kernel
theorem dX0_openWay_38 : decode cX0_openWay 38 = .ok (.lconst 0, 1) := by decide +kernel
theorem dX0_openWay_39 : decode cX0_openWay 39 = .ok (.invokevirtual 85, 3) := by decide +kernel
theorem dX0_openWay_42 : decode cX0_openWay 42 = .ok (.iinc 3 1, 3) := by decide +kernel
theorem dX0_openWay_45 : decode cX0_openWay 45 = .ok (.goto (-30), 3) := by decide +kernel
theorem dX0_openWay_48 : decode cX0_openWay 48 = .ok (.iconst 0, 1) := by decide +kernel
theorem dX0_openWay_49 : decode cX0_openWay 49 = .ok (.istore_n 3, 1) := by decide +kernel
theorem dX0_openWay_50 : decode cX0_openWay 50 = .ok (.iload_n 3, 1) := by decide +kernel
theorem dX0_openWay_51 : decode cX0_openWay 51 = .ok (.aload_n 0, 1) := by decide +kernel
theorem dX0_openWay_52 : decode cX0_openWay 52 = .ok (.getfield 79, 3) := by decide +kernel
theorem dX0_openWay_55 : decode cX0_openWay 55 = .ok (.if_icmp .ge 52, 3) := by decide +kernel
theorem dX0_openWay_58 : decode cX0_openWay 58 = .ok (.iload_n 3, 1) := by decide +kernel
theorem dX0_openWay_59 : decode cX0_openWay 59 = .ok (.sipush 768, 3) := by decide +kernel
theorem dX0_openWay_62 : decode cX0_openWay 62 = .ok (.if_icmp .ge 45, 3) := by decide +kernel
theorem dX0_openWay_65 : decode cX0_openWay 65 = .ok (.aload_n 0, 1) := by decide +kernel
theorem dX0_openWay_66 : decode cX0_openWay 66 = .ok (.iload_n 3, 1) := by decide +kernel
theorem dX0_openWay_67 : decode cX0_openWay 67 = .ok (.lload_n 1, 1) := by decide +kernel
theorem dX0_openWay_68 : decode cX0_openWay 68 = .ok (.invokevirtual 89, 3) := by decide +kernel
theorem dX0_openWay_71 : decode cX0_openWay 71 = .ok (.istore 4, 2) := by decide +kernel
theorem dX0_openWay_73 : decode cX0_openWay 73 = .ok (.iload 4, 2) := by decide +kernel
theorem dX0_openWay_75 : decode cX0_openWay 75 = .ok (.iconst (-1), 1) := by decide +kernel
theorem dX0_openWay_76 : decode cX0_openWay 76 = .ok (.if_icmp .eq 25, 3) := by decide +kernel
theorem dX0_openWay_79 : decode cX0_openWay 79 = .ok (.aload_n 0, 1) := by decide +kernel
theorem dX0_openWay_80 : decode cX0_openWay 80 = .ok (.iload_n 3, 1) := by decide +kernel
theorem dX0_openWay_81 : decode cX0_openWay 81 = .ok (.iload 4, 2) := by decide +kernel
theorem dX0_openWay_83 : decode cX0_openWay 83 = .ok (.invokevirtual 93, 3) := by decide +kernel
theorem dX0_openWay_86 : decode cX0_openWay 86 = .ok (.ifCond .eq 15, 3) := by decide +kernel
theorem dX0_openWay_89 : decode cX0_openWay 89 = .ok (.aload_n 0, 1) := by decide +kernel
theorem dX0_openWay_90 : decode cX0_openWay 90 = .ok (.getfield 25, 3) := by decide +kernel
theorem dX0_openWay_93 : decode cX0_openWay 93 = .ok (.iload_n 3, 1) := by decide +kernel
theorem dX0_openWay_94 : decode cX0_openWay 94 = .ok (.laload, 1) := by decide +kernel
theorem dX0_openWay_95 : decode cX0_openWay 95 = .ok (.lconst 1, 1) := by decide +kernel
theorem dX0_openWay_96 : decode cX0_openWay 96 = .ok (.iload 4, 2) := by decide +kernel
theorem dX0_openWay_98 : decode cX0_openWay 98 = .ok (.lshl, 1) := by decide +kernel
theorem dX0_openWay_99 : decode cX0_openWay 99 = .ok (.lor, 1) := by decide +kernel
theorem dX0_openWay_100 : decode cX0_openWay 100 = .ok (.lreturn, 1) := by decide +kernel
theorem dX0_openWay_101 : decode cX0_openWay 101 = .ok (.iinc 3 1, 3) := by decide +kernel
theorem dX0_openWay_104 : decode cX0_openWay 104 = .ok (.goto (-54), 3) := by decide +kernel
theorem dX0_openWay_107 : decode cX0_openWay 107 = .ok (.lconst 0, 1) := by decide +kernel
theorem dX0_openWay_108 : decode cX0_openWay 108 = .ok (.lreturn, 1) := by decide +kernel
theorem dX0_enqueue_0 : decode cX0_enqueue 0 = .ok (.aload_n 0, 1) := by decide +kernel
theorem dX0_enqueue_1 : decode cX0_enqueue 1 = .ok (.getfield 28, 3) := by decide +kernel
theorem dX0_enqueue_4 : decode cX0_enqueue 4 = .ok (.iload_n 1, 1) := by decide +kernel
theorem dX0_enqueue_5 : decode cX0_enqueue 5 = .ok (.laload, 1) := by decide +kernel
theorem dX0_enqueue_6 : decode cX0_enqueue 6 = .ok (.iload_n 2, 1) := by decide +kernel
theorem dX0_enqueue_7 : decode cX0_enqueue 7 = .ok (.invokestatic 82, 3) := by decide +kernel
theorem dX0_enqueue_10 : decode cX0_enqueue 10 = .ok (.ifCond .ne 60, 3) := by decide +kernel
theorem dX0_enqueue_13 : decode cX0_enqueue 13 = .ok (.aload_n 0, 1) := by decide +kernel
theorem dX0_enqueue_14 : decode cX0_enqueue 14 = .ok (.getfield 79, 3) := by decide +kernel
theorem dX0_enqueue_17 : decode cX0_enqueue 17 = .ok (.sipush 768, 3) := by decide +kernel
theorem dX0_enqueue_20 : decode cX0_enqueue 20 = .ok (.if_icmp .ge 50, 3) := by decide +kernel
theorem dX0_enqueue_23 : decode cX0_enqueue 23 = .ok (.aload_n 0, 1) := by decide +kernel
theorem dX0_enqueue_24 : decode cX0_enqueue 24 = .ok (.getfield 28, 3) := by decide +kernel
theorem dX0_enqueue_27 : decode cX0_enqueue 27 = .ok (.iload_n 1, 1) := by decide +kernel
theorem dX0_enqueue_28 : decode cX0_enqueue 28 = .ok (.dup2, 1) := by decide +kernel
theorem dX0_enqueue_29 : decode cX0_enqueue 29 = .ok (.laload, 1) := by decide +kernel
theorem dX0_enqueue_30 : decode cX0_enqueue 30 = .ok (.lconst 1, 1) := by decide +kernel
theorem dX0_enqueue_31 : decode cX0_enqueue 31 = .ok (.iload_n 2, 1) := by decide +kernel
theorem dX0_enqueue_32 : decode cX0_enqueue 32 = .ok (.lshl, 1) := by decide +kernel
theorem dX0_enqueue_33 : decode cX0_enqueue 33 = .ok (.lor, 1) := by decide +kernel
theorem dX0_enqueue_34 : decode cX0_enqueue 34 = .ok (.lastore, 1) := by decide +kernel
theorem dX0_enqueue_35 : decode cX0_enqueue 35 = .ok (.aload_n 0, 1) := by decide +kernel
theorem dX0_enqueue_36 : decode cX0_enqueue 36 = .ok (.getfield 22, 3) := by decide +kernel
theorem dX0_enqueue_39 : decode cX0_enqueue 39 = .ok (.aload_n 0, 1) := by decide +kernel
theorem dX0_enqueue_40 : decode cX0_enqueue 40 = .ok (.getfield 79, 3) := by decide +kernel
theorem dX0_enqueue_43 : decode cX0_enqueue 43 = .ok (.iload_n 1, 1) := by decide +kernel
theorem dX0_enqueue_44 : decode cX0_enqueue 44 = .ok (.bipush 32, 2) := by decide +kernel
theorem dX0_enqueue_46 : decode cX0_enqueue 46 = .ok (.imul, 1) := by decide +kernel
theorem dX0_enqueue_47 : decode cX0_enqueue 47 = .ok (.iload_n 2, 1) := by decide +kernel
theorem dX0_enqueue_48 : decode cX0_enqueue 48 = .ok (.iadd, 1) := by decide +kernel
theorem dX0_enqueue_49 : decode cX0_enqueue 49 = .ok (.iastore, 1) := by decide +kernel
theorem dX0_enqueue_50 : decode cX0_enqueue 50 = .ok (.aload_n 0, 1) := by decide +kernel
theorem dX0_enqueue_51 : decode cX0_enqueue 51 = .ok (.getfield 25, 3) := by decide +kernel
theorem dX0_enqueue_54 : decode cX0_enqueue 54 = .ok (.aload_n 0, 1) := by decide +kernel
theorem dX0_enqueue_55 : decode cX0_enqueue 55 = .ok (.getfield 79, 3) := by decide +kernel
theorem dX0_enqueue_58 : decode cX0_enqueue 58 = .ok (.lload_n 3, 1) := by decide +kernel
theorem dX0_enqueue_59 : decode cX0_enqueue 59 = .ok (.lastore, 1) := by decide +kernel
theorem dX0_enqueue_60 : decode cX0_enqueue 60 = .ok (.aload_n 0, 1) := by decide +kernel
theorem dX0_enqueue_61 : decode cX0_enqueue 61 = .ok (.dup, 1) := by decide +kernel
theorem dX0_enqueue_62 : decode cX0_enqueue 62 = .ok (.getfield 79, 3) := by decide +kernel
theorem dX0_enqueue_65 : decode cX0_enqueue 65 = .ok (.iconst 1, 1) := by decide +kernel
theorem dX0_enqueue_66 : decode cX0_enqueue 66 = .ok (.iadd, 1) := by decide +kernel
theorem dX0_enqueue_67 : decode cX0_enqueue 67 = .ok (.putfield 79, 3) := by decide +kernel
theorem dX0_enqueue_70 : decode cX0_enqueue 70 = .ok (.return_, 1) := by decide +kernel
theorem dX0_handlingSlot_0 : decode cX0_handlingSlot 0 = .ok (.aload_n 0, 1) := by decide +kernel
theorem dX0_handlingSlot_1 : decode cX0_handlingSlot 1 = .ok (.getfield 22, 3) := by decide +kernel
theorem dX0_handlingSlot_4 : decode cX0_handlingSlot 4 = .ok (.iload_n 1, 1) := by decide +kernel
theorem dX0_handlingSlot_5 : decode cX0_handlingSlot 5 = .ok (.iaload, 1) := by decide +kernel
theorem dX0_handlingSlot_6 : decode cX0_handlingSlot 6 = .ok (.bipush 32, 2) := by decide +kernel
theorem dX0_handlingSlot_8 : decode cX0_handlingSlot 8 = .ok (.idiv, 1) := by decide +kernel
theorem dX0_handlingSlot_9 : decode cX0_handlingSlot 9 = .ok (.istore 4, 2) := by decide +kernel
theorem dX0_handlingSlot_11 : decode cX0_handlingSlot 11 = .ok (.iload 4, 2) := by decide +kernel
theorem dX0_handlingSlot_13 : decode cX0_handlingSlot 13 = .ok (.iconst 4, 1) := by decide +kernel
theorem dX0_handlingSlot_14 : decode cX0_handlingSlot 14 = .ok (.idiv, 1) := by decide +kernel
theorem dX0_handlingSlot_15 : decode cX0_handlingSlot 15 = .ok (.bipush 6, 2) := by decide +kernel
theorem dX0_handlingSlot_17 : decode cX0_handlingSlot 17 = .ok (.imul, 1) := by decide +kernel
theorem dX0_handlingSlot_18 : decode cX0_handlingSlot 18 = .ok (.istore 5, 2) := by decide +kernel
theorem dX0_handlingSlot_20 : decode cX0_handlingSlot 20 = .ok (.lload_n 2, 1) := by decide +kernel
theorem dX0_handlingSlot_21 : decode cX0_handlingSlot 21 = .ok (.iload 5, 2) := by decide +kernel
theorem dX0_handlingSlot_23 : decode cX0_handlingSlot 23 = .ok (.lushr, 1) := by decide +kernel
theorem dX0_handlingSlot_24 : decode cX0_handlingSlot 24 = .ok (.l2i, 1) := by decide +kernel
theorem dX0_handlingSlot_25 : decode cX0_handlingSlot 25 = .ok (.istore 6, 2) := by decide +kernel
theorem dX0_handlingSlot_27 : decode cX0_handlingSlot 27 = .ok (.aload_n 0, 1) := by decide +kernel
theorem dX0_handlingSlot_28 : decode cX0_handlingSlot 28 = .ok (.getfield 31, 3) := by decide +kernel
theorem dX0_handlingSlot_31 : decode cX0_handlingSlot 31 = .ok (.getfield 97, 3) := by decide +kernel
theorem dX0_handlingSlot_34 : decode cX0_handlingSlot 34 = .ok (.iload 4, 2) := by decide +kernel
theorem dX0_handlingSlot_36 : decode cX0_handlingSlot 36 = .ok (.iconst 4, 1) := by decide +kernel
theorem dX0_handlingSlot_37 : decode cX0_handlingSlot 37 = .ok (.idiv, 1) := by decide +kernel
theorem dX0_handlingSlot_38 : decode cX0_handlingSlot 38 = .ok (.aaload, 1) := by decide +kernel
theorem dX0_handlingSlot_39 : decode cX0_handlingSlot 39 = .ok (.astore 7, 2) := by decide +kernel
theorem dX0_handlingSlot_41 : decode cX0_handlingSlot 41 = .ok (.aload 7, 2) := by decide +kernel
theorem dX0_handlingSlot_43 : decode cX0_handlingSlot 43 = .ok (.iload 4, 2) := by decide +kernel
theorem dX0_handlingSlot_45 : decode cX0_handlingSlot 45 = .ok (.iconst 4, 1) := by decide +kernel
theorem dX0_handlingSlot_46 : decode cX0_handlingSlot 46 = .ok (.irem, 1) := by decide +kernel
theorem dX0_handlingSlot_47 : decode cX0_handlingSlot 47 = .ok (.aload_n 0, 1) := by decide +kernel
theorem dX0_handlingSlot_48 : decode cX0_handlingSlot 48 = .ok (.getfield 22, 3) := by decide +kernel
theorem dX0_handlingSlot_51 : decode cX0_handlingSlot 51 = .ok (.iload_n 1, 1) := by decide +kernel
theorem dX0_handlingSlot_52 : decode cX0_handlingSlot 52 = .ok (.iaload, 1) := by decide +kernel
theorem dX0_handlingSlot_53 : decode cX0_handlingSlot 53 = .ok (.bipush 32, 2) := by decide +kernel
theorem dX0_handlingSlot_55 : decode cX0_handlingSlot 55 = .ok (.irem, 1) := by decide +kernel
theorem dX0_handlingSlot_56 : decode cX0_handlingSlot 56 = .ok (.iload 6, 2) := by decide +kernel
theorem dX0_handlingSlot_58 : decode cX0_handlingSlot 58 = .ok (.invokevirtual 103, 3) := by decide +kernel
theorem dX0_handlingSlot_61 : decode cX0_handlingSlot 61 = .ok (.istore 8, 2) := by decide +kernel
theorem dX0_handlingSlot_63 : decode cX0_handlingSlot 63 = .ok (.iload 8, 2) := by decide +kernel
theorem dX0_handlingSlot_65 : decode cX0_handlingSlot 65 = .ok (.iconst (-1), 1) := by decide +kernel
theorem dX0_handlingSlot_66 : decode cX0_handlingSlot 66 = .ok (.if_icmp .ne 7, 3) := by decide +kernel
theorem dX0_handlingSlot_69 : decode cX0_handlingSlot 69 = .ok (.iconst (-1), 1) := by decide +kernel
theorem dX0_handlingSlot_70 : decode cX0_handlingSlot 70 = .ok (.goto 8, 3) := by decide +kernel
theorem dX0_handlingSlot_73 : decode cX0_handlingSlot 73 = .ok (.iload 5, 2) := by decide +kernel
theorem dX0_handlingSlot_75 : decode cX0_handlingSlot 75 = .ok (.iload 8, 2) := by decide +kernel
theorem dX0_handlingSlot_77 : decode cX0_handlingSlot 77 = .ok (.iadd, 1) := by decide +kernel
theorem dX0_handlingSlot_78 : decode cX0_handlingSlot 78 = .ok (.ireturn, 1) := by decide +kernel
theorem dX0_reachesTarget_0 : decode cX0_reachesTarget 0 = .ok (.iload_n 2, 1) := by decide +kernel
theorem dX0_reachesTarget_1 : decode cX0_reachesTarget 1 = .ok (.bipush 6, 2) := by decide +kernel
theorem dX0_reachesTarget_3 : decode cX0_reachesTarget 3 = .ok (.idiv, 1) := by decide +kernel
theorem dX0_reachesTarget_4 : decode cX0_reachesTarget 4 = .ok (.istore_n 3, 1) := by decide +kernel
theorem dX0_reachesTarget_5 : decode cX0_reachesTarget 5 = .ok (.aload_n 0, 1) := by decide +kernel
theorem dX0_reachesTarget_6 : decode cX0_reachesTarget 6 = .ok (.getfield 31, 3) := by decide +kernel
theorem dX0_reachesTarget_9 : decode cX0_reachesTarget 9 = .ok (.getfield 97, 3) := by decide +kernel
theorem dX0_reachesTarget_12 : decode cX0_reachesTarget 12 = .ok (.iload_n 3, 1) := by decide +kernel
theorem dX0_reachesTarget_13 : decode cX0_reachesTarget 13 = .ok (.aaload, 1) := by decide +kernel
theorem dX0_reachesTarget_14 : decode cX0_reachesTarget 14 = .ok (.getfield 109, 3) := by decide +kernel
theorem dX0_reachesTarget_17 : decode cX0_reachesTarget 17 = .ok (.iload_n 2, 1) := by decide +kernel
theorem dX0_reachesTarget_18 : decode cX0_reachesTarget 18 = .ok (.bipush 6, 2) := by decide +kernel
theorem dX0_reachesTarget_20 : decode cX0_reachesTarget 20 = .ok (.irem, 1) := by decide +kernel
theorem dX0_reachesTarget_21 : decode cX0_reachesTarget 21 = .ok (.aaload, 1) := by decide +kernel
theorem dX0_reachesTarget_22 : decode cX0_reachesTarget 22 = .ok (.astore 4, 2) := by decide +kernel
theorem dX0_reachesTarget_24 : decode cX0_reachesTarget 24 = .ok (.aload 4, 2) := by decide +kernel
theorem dX0_reachesTarget_26 : decode cX0_reachesTarget 26 = .ok (.aload_n 0, 1) := by decide +kernel
theorem dX0_reachesTarget_27 : decode cX0_reachesTarget 27 = .ok (.getfield 22, 3) := by decide +kernel
theorem dX0_reachesTarget_30 : decode cX0_reachesTarget 30 = .ok (.iload_n 1, 1) := by decide +kernel
theorem dX0_reachesTarget_31 : decode cX0_reachesTarget 31 = .ok (.iaload, 1) := by decide +kernel
theorem dX0_reachesTarget_32 : decode cX0_reachesTarget 32 = .ok (.bipush 32, 2) := by decide +kernel
theorem dX0_reachesTarget_34 : decode cX0_reachesTarget 34 = .ok (.irem, 1) := by decide +kernel
theorem dX0_reachesTarget_35 : decode cX0_reachesTarget 35 = .ok (.invokevirtual 113, 3) := by decide +kernel
theorem dX0_reachesTarget_38 : decode cX0_reachesTarget 38 = .ok (.istore 5, 2) := by decide +kernel
theorem dX0_reachesTarget_40 : decode cX0_reachesTarget 40 = .ok (.aload_n 0, 1) := by decide +kernel
theorem dX0_reachesTarget_41 : decode cX0_reachesTarget 41 = .ok (.getfield 25, 3) := by decide +kernel
theorem dX0_reachesTarget_44 : decode cX0_reachesTarget 44 = .ok (.iload_n 1, 1) := by decide +kernel
theorem dX0_reachesTarget_45 : decode cX0_reachesTarget 45 = .ok (.laload, 1) := by decide +kernel
theorem dX0_reachesTarget_46 : decode cX0_reachesTarget 46 = .ok (.lconst 1, 1) := by decide +kernel
theorem dX0_reachesTarget_47 : decode cX0_reachesTarget 47 = .ok (.iload_n 2, 1) := by decide +kernel
theorem dX0_reachesTarget_48 : decode cX0_reachesTarget 48 = .ok (.lshl, 1) := by decide +kernel
theorem dX0_reachesTarget_49 : decode cX0_reachesTarget 49 = .ok (.lor, 1) := by decide +kernel
theorem dX0_reachesTarget_50 : decode cX0_reachesTarget 50 = .ok (.lstore 6, 2) := by decide +kernel
theorem dX0_reachesTarget_52 : decode cX0_reachesTarget 52 = .ok (.iconst 0, 1) := by decide +kernel
theorem dX0_reachesTarget_53 : decode cX0_reachesTarget 53 = .ok (.istore 8, 2) := by decide +kernel
theorem dX0_reachesTarget_55 : decode cX0_reachesTarget 55 = .ok (.iload 8, 2) := by decide +kernel
theorem dX0_reachesTarget_57 : decode cX0_reachesTarget 57 = .ok (.iconst 4, 1) := by decide +kernel
theorem dX0_reachesTarget_58 : decode cX0_reachesTarget 58 = .ok (.if_icmp .ge 72, 3) := by decide +kernel
theorem dX0_reachesTarget_61 : decode cX0_reachesTarget 61 = .ok (.aload 4, 2) := by decide +kernel
theorem dX0_reachesTarget_63 : decode cX0_reachesTarget 63 = .ok (.getfield 119, 3) := by decide +kernel
theorem dX0_reachesTarget_66 : decode cX0_reachesTarget 66 = .ok (.iload 8, 2) := by decide +kernel
theorem dX0_reachesTarget_68 : decode cX0_reachesTarget 68 = .ok (.invokestatic 122, 3) := by decide +kernel
theorem dX0_reachesTarget_71 : decode cX0_reachesTarget 71 = .ok (.ifCond .eq 53, 3) := by decide +kernel
theorem dX0_reachesTarget_74 : decode cX0_reachesTarget 74 = .ok (.aload_n 0, 1) := by decide +kernel
theorem dX0_reachesTarget_75 : decode cX0_reachesTarget 75 = .ok (.getfield 31, 3) := by decide +kernel
theorem dX0_reachesTarget_78 : decode cX0_reachesTarget 78 = .ok (.getfield 125, 3) := by decide +kernel
theorem dX0_reachesTarget_81 : decode cX0_reachesTarget 81 = .ok (.iload_n 3, 1) := by decide +kernel
theorem dX0_reachesTarget_82 : decode cX0_reachesTarget 82 = .ok (.iload 8, 2) := by decide +kernel
theorem dX0_reachesTarget_84 : decode cX0_reachesTarget 84 = .ok (.invokestatic 128, 3) := by decide +kernel
theorem dX0_reachesTarget_87 : decode cX0_reachesTarget 87 = .ok (.iaload, 1) := by decide +kernel
theorem dX0_reachesTarget_88 : decode cX0_reachesTarget 88 = .ok (.istore 9, 2) := by decide +kernel
theorem dX0_reachesTarget_90 : decode cX0_reachesTarget 90 = .ok (.iload 9, 2) := by decide +kernel
theorem dX0_reachesTarget_92 : decode cX0_reachesTarget 92 = .ok (.iconst (-1), 1) := by decide +kernel
theorem dX0_reachesTarget_93 : decode cX0_reachesTarget 93 = .ok (.if_icmp .eq 16, 3) := by decide +kernel
theorem dX0_reachesTarget_96 : decode cX0_reachesTarget 96 = .ok (.aload_n 0, 1) := by decide +kernel
theorem dX0_reachesTarget_97 : decode cX0_reachesTarget 97 = .ok (.iload 9, 2) := by decide +kernel
theorem dX0_reachesTarget_99 : decode cX0_reachesTarget 99 = .ok (.iload 5, 2) := by decide +kernel
theorem dX0_reachesTarget_101 : decode cX0_reachesTarget 101 = .ok (.lload 6, 2) := by decide +kernel
theorem dX0_reachesTarget_103 : decode cX0_reachesTarget 103 = .ok (.invokevirtual 85, 3) := by decide +kernel
theorem dX0_reachesTarget_106 : decode cX0_reachesTarget 106 = .ok (.goto 18, 3) := by decide +kernel
theorem dX0_reachesTarget_109 : decode cX0_reachesTarget 109 = .ok (.iload_n 3, 1) := by decide +kernel
theorem dX0_reachesTarget_110 : decode cX0_reachesTarget 110 = .ok (.iload 8, 2) := by decide +kernel
theorem dX0_reachesTarget_112 : decode cX0_reachesTarget 112 = .ok (.invokestatic 128, 3) := by decide +kernel
theorem dX0_reachesTarget_115 : decode cX0_reachesTarget 115 = .ok (.aload_n 0, 1) := by decide +kernel
theorem dX0_reachesTarget_116 : decode cX0_reachesTarget 116 = .ok (.getfield 43, 3) := by decide +kernel
theorem dX0_reachesTarget_119 : decode cX0_reachesTarget 119 = .ok (.if_icmp .ne 5, 3) := by decide +kernel
theorem dX0_reachesTarget_122 : decode cX0_reachesTarget 122 = .ok (.iconst 1, 1) := by decide +kernel
theorem dX0_reachesTarget_123 : decode cX0_reachesTarget 123 = .ok (.ireturn, 1) := by decide +kernel
theorem dX0_reachesTarget_124 : decode cX0_reachesTarget 124 = .ok (.iinc 8 1, 3) := by decide +kernel
theorem dX0_reachesTarget_127 : decode cX0_reachesTarget 127 = .ok (.goto (-72), 3) := by decide +kernel
theorem dX0_reachesTarget_130 : decode cX0_reachesTarget 130 = .ok (.iconst 0, 1) := by decide +kernel
theorem dX0_reachesTarget_131 : decode cX0_reachesTarget 131 = .ok (.ireturn, 1) := by decide +kernel
theorem dX1_init_0 : decode cX1_init 0 = .ok (.aload_n 0, 1) := by decide +kernel
theorem dX1_init_1 : decode cX1_init 1 = .ok (.invokespecial 3, 3) := by decide +kernel
theorem dX1_init_4 : decode cX1_init 4 = .ok (.aload_n 0, 1) := by decide +kernel
theorem dX1_init_5 : decode cX1_init 5 = .ok (.bipush 24, 2) := by decide +kernel
theorem dX1_init_7 : decode cX1_init 7 = .ok (.newarray .long, 2) := by decide +kernel
theorem dX1_init_9 : decode cX1_init 9 = .ok (.putfield 9, 3) := by decide +kernel
theorem dX1_init_12 : decode cX1_init 12 = .ok (.aload_n 0, 1) := by decide +kernel
theorem dX1_init_13 : decode cX1_init 13 = .ok (.aload_n 1, 1) := by decide +kernel
theorem dX1_init_14 : decode cX1_init 14 = .ok (.putfield 15, 3) := by decide +kernel
theorem dX1_init_17 : decode cX1_init 17 = .ok (.return_, 1) := by decide +kernel
theorem dX1_find_0 : decode cX1_find 0 = .ok (.aload_n 0, 1) := by decide +kernel
theorem dX1_find_1 : decode cX1_find 1 = .ok (.getfield 9, 3) := by decide +kernel
theorem dX1_find_4 : decode cX1_find 4 = .ok (.lconst 0, 1) := by decide +kernel
theorem dX1_find_5 : decode cX1_find 5 = .ok (.invokestatic 19, 3) := by decide +kernel
theorem dX1_find_8 : decode cX1_find 8 = .ok (.iconst 1, 1) := by decide +kernel
theorem dX1_find_9 : decode cX1_find 9 = .ok (.istore_n 2, 1) := by decide +kernel
theorem dX1_find_10 : decode cX1_find 10 = .ok (.iconst 0, 1) := by decide +kernel
theorem dX1_find_11 : decode cX1_find 11 = .ok (.istore_n 3, 1) := by decide +kernel
theorem dX1_find_12 : decode cX1_find 12 = .ok (.iload_n 2, 1) := by decide +kernel
theorem dX1_find_13 : decode cX1_find 13 = .ok (.ifCond .eq 22, 3) := by decide +kernel
theorem dX1_find_16 : decode cX1_find 16 = .ok (.iload_n 3, 1) := by decide +kernel
theorem dX1_find_17 : decode cX1_find 17 = .ok (.sipush 768, 3) := by decide +kernel
theorem dX1_find_20 : decode cX1_find 20 = .ok (.if_icmp .gt 15, 3) := by decide +kernel
theorem dX1_find_23 : decode cX1_find 23 = .ok (.aload_n 0, 1) := by decide +kernel
theorem dX1_find_24 : decode cX1_find 24 = .ok (.iload_n 1, 1) := by decide +kernel
theorem dX1_find_25 : decode cX1_find 25 = .ok (.invokevirtual 25, 3) := by decide +kernel
theorem dX1_find_28 : decode cX1_find 28 = .ok (.istore_n 2, 1) := by decide +kernel
theorem dX1_find_29 : decode cX1_find 29 = .ok (.iinc 3 1, 3) := by decide +kernel
theorem dX1_find_32 : decode cX1_find 32 = .ok (.goto (-20), 3) := by decide +kernel
theorem dX1_find_35 : decode cX1_find 35 = .ok (.return_, 1) := by decide +kernel
theorem dX1_growOnce_0 : decode cX1_growOnce 0 = .ok (.iconst 0, 1) := by decide +kernel
theorem dX1_growOnce_1 : decode cX1_growOnce 1 = .ok (.istore_n 2, 1) := by decide +kernel
theorem dX1_growOnce_2 : decode cX1_growOnce 2 = .ok (.iconst 0, 1) := by decide +kernel
theorem dX1_growOnce_3 : decode cX1_growOnce 3 = .ok (.istore_n 3, 1) := by decide +kernel
theorem dX1_growOnce_4 : decode cX1_growOnce 4 = .ok (.iload_n 3, 1) := by decide +kernel
theorem dX1_growOnce_5 : decode cX1_growOnce 5 = .ok (.bipush 24, 2) := by decide +kernel
theorem dX1_growOnce_7 : decode cX1_growOnce 7 = .ok (.if_icmp .ge 60, 3) := by decide +kernel
theorem dX1_growOnce_10 : decode cX1_growOnce 10 = .ok (.iload_n 1, 1) := by decide +kernel
theorem dX1_growOnce_11 : decode cX1_growOnce 11 = .ok (.iconst (-1), 1) := by decide +kernel
theorem dX1_growOnce_12 : decode cX1_growOnce 12 = .ok (.if_icmp .ne 11, 3) := by decide +kernel
theorem dX1_growOnce_15 : decode cX1_growOnce 15 = .ok (.aload_n 0, 1) := by decide +kernel
theorem dX1_growOnce_16 : decode cX1_growOnce 16 = .ok (.iload_n 3, 1) := by decide +kernel
theorem dX1_growOnce_17 : decode cX1_growOnce 17 = .ok (.invokevirtual 29, 3) := by decide +kernel
theorem dX1_growOnce_20 : decode cX1_growOnce 20 = .ok (.goto 9, 3) := by decide +kernel
theorem dX1_growOnce_23 : decode cX1_growOnce 23 = .ok (.aload_n 0, 1) := by decide +kernel
theorem dX1_growOnce_24 : decode cX1_growOnce 24 = .ok (.iload_n 3, 1) := by decide +kernel
theorem dX1_growOnce_25 : decode cX1_growOnce 25 = .ok (.iload_n 1, 1) := by decide +kernel
theorem dX1_growOnce_26 : decode cX1_growOnce 26 = .ok (.invokevirtual 33, 3) := by decide +kernel
theorem dX1_growOnce_29 : decode cX1_growOnce 29 = .ok (.lstore 4, 2) := by decide +kernel
theorem dX1_growOnce_31 : decode cX1_growOnce 31 = .ok (.iload_n 2, 1) := by decide +kernel
theorem dX1_growOnce_32 : decode cX1_growOnce 32 = .ok (.ifCond .ne 15, 3) := by decide +kernel
theorem dX1_growOnce_35 : decode cX1_growOnce 35 = .ok (.lload 4, 2) := by decide +kernel
theorem dX1_growOnce_37 : decode cX1_growOnce 37 = .ok (.aload_n 0, 1) := by decide +kernel
theorem dX1_growOnce_38 : decode cX1_growOnce 38 = .ok (.getfield 9, 3) := by decide +kernel
theorem dX1_growOnce_41 : decode cX1_growOnce 41 = .ok (.iload_n 3, 1) := by decide +kernel
theorem dX1_growOnce_42 : decode cX1_growOnce 42 = .ok (.laload, 1) := by decide +kernel
theorem dX1_growOnce_43 : decode cX1_growOnce 43 = .ok (.lcmp, 1) := by decide +kernel
theorem dX1_growOnce_44 : decode cX1_growOnce 44 = .ok (.ifCond .eq 7, 3) := by decide +kernel
theorem dX1_growOnce_47 : decode cX1_growOnce 47 = .ok (.iconst 1, 1) := by decide +kernel
theorem dX1_growOnce_48 : decode cX1_growOnce 48 = .ok (.goto 4, 3) := by decide +kernel
theorem dX1_growOnce_51 : decode cX1_growOnce 51 = .ok (.iconst 0, 1) := by decide +kernel
theorem dX1_growOnce_52 : decode cX1_growOnce 52 = .ok (.istore_n 2, 1) := by decide +kernel
theorem dX1_growOnce_53 : decode cX1_growOnce 53 = .ok (.aload_n 0, 1) := by decide +kernel
theorem dX1_growOnce_54 : decode cX1_growOnce 54 = .ok (.getfield 9, 3) := by decide +kernel
theorem dX1_growOnce_57 : decode cX1_growOnce 57 = .ok (.iload_n 3, 1) := by decide +kernel
theorem dX1_growOnce_58 : decode cX1_growOnce 58 = .ok (.lload 4, 2) := by decide +kernel
theorem dX1_growOnce_60 : decode cX1_growOnce 60 = .ok (.lastore, 1) := by decide +kernel
theorem dX1_growOnce_61 : decode cX1_growOnce 61 = .ok (.iinc 3 1, 3) := by decide +kernel
theorem dX1_growOnce_64 : decode cX1_growOnce 64 = .ok (.goto (-60), 3) := by decide +kernel
theorem dX1_growOnce_67 : decode cX1_growOnce 67 = .ok (.iload_n 2, 1) := by decide +kernel
theorem dX1_growOnce_68 : decode cX1_growOnce 68 = .ok (.ireturn, 1) := by decide +kernel
theorem dX1_ending_0 : decode cX1_ending 0 = .ok (.iload_n 1, 1) := by decide +kernel
theorem dX1_ending_1 : decode cX1_ending 1 = .ok (.iconst 4, 1) := by decide +kernel
theorem dX1_ending_2 : decode cX1_ending 2 = .ok (.idiv, 1) := by decide +kernel
theorem dX1_ending_3 : decode cX1_ending 3 = .ok (.istore_n 2, 1) := by decide +kernel
theorem dX1_ending_4 : decode cX1_ending 4 = .ok (.aload_n 0, 1) := by decide +kernel
theorem dX1_ending_5 : decode cX1_ending 5 = .ok (.getfield 15, 3) := by decide +kernel
theorem dX1_ending_8 : decode cX1_ending 8 = .ok (.getfield 37, 3) := by decide +kernel
theorem dX1_ending_11 : decode cX1_ending 11 = .ok (.iload_n 2, 1) := by decide +kernel
theorem dX1_ending_12 : decode cX1_ending 12 = .ok (.aaload, 1) := by decide +kernel
theorem dX1_ending_13 : decode cX1_ending 13 = .ok (.astore_n 3, 1) := by decide +kernel
theorem dX1_ending_14 : decode cX1_ending 14 = .ok (.aload_n 0, 1) := by decide +kernel
theorem dX1_ending_15 : decode cX1_ending 15 = .ok (.getfield 15, 3) := by decide +kernel
theorem dX1_ending_18 : decode cX1_ending 18 = .ok (.invokevirtual 43, 3) := by decide +kernel
theorem dX1_ending_21 : decode cX1_ending 21 = .ok (.lstore 4, 2) := by decide +kernel
theorem dX1_ending_23 : decode cX1_ending 23 = .ok (.lconst 0, 1) := by decide +kernel
theorem dX1_ending_24 : decode cX1_ending 24 = .ok (.lstore 6, 2) := by decide +kernel
theorem dX1_ending_26 : decode cX1_ending 26 = .ok (.iconst 0, 1) := by decide +kernel
theorem dX1_ending_27 : decode cX1_ending 27 = .ok (.istore 8, 2) := by decide +kernel
theorem dX1_ending_29 : decode cX1_ending 29 = .ok (.iload 8, 2) := by decide +kernel
theorem dX1_ending_31 : decode cX1_ending 31 = .ok (.aload_n 3, 1) := by decide +kernel
theorem dX1_ending_32 : decode cX1_ending 32 = .ok (.getfield 47, 3) := by decide +kernel
theorem dX1_ending_35 : decode cX1_ending 35 = .ok (.if_icmp .ge 64, 3) := by decide +kernel
theorem dX1_ending_38 : decode cX1_ending 38 = .ok (.aload_n 3, 1) := by decide +kernel
theorem dX1_ending_39 : decode cX1_ending 39 = .ok (.getfield 53, 3) := by decide +kernel
theorem dX1_ending_42 : decode cX1_ending 42 = .ok (.iload 8, 2) := by decide +kernel
theorem dX1_ending_44 : decode cX1_ending 44 = .ok (.aaload, 1) := by decide +kernel
theorem dX1_ending_45 : decode cX1_ending 45 = .ok (.astore 9, 2) := by decide +kernel
theorem dX1_ending_47 : decode cX1_ending 47 = .ok (.aload 9, 2) := by decide +kernel
theorem dX1_ending_49 : decode cX1_ending 49 = .ok (.iload_n 1, 1) := by decide +kernel
theorem dX1_ending_50 : decode cX1_ending 50 = .ok (.iconst 4, 1) := by decide +kernel
theorem dX1_ending_51 : decode cX1_ending 51 = .ok (.irem, 1) := by decide +kernel
theorem dX1_ending_52 : decode cX1_ending 52 = .ok (.lload 4, 2) := by decide +kernel
theorem dX1_ending_54 : decode cX1_ending 54 = .ok (.invokevirtual 57, 3) := by decide +kernel
theorem dX1_ending_57 : decode cX1_ending 57 = .ok (.lstore 10, 2) := by decide +kernel
theorem dX1_ending_59 : decode cX1_ending 59 = .ok (.lload 4, 2) := by decide +kernel
theorem dX1_ending_61 : decode cX1_ending 61 = .ok (.lload 10, 2) := by decide +kernel
theorem dX1_ending_63 : decode cX1_ending 63 = .ok (.ldc2_w 63, 3) := by decide +kernel
theorem dX1_ending_66 : decode cX1_ending 66 = .ok (.lxor, 1) := by decide +kernel
theorem dX1_ending_67 : decode cX1_ending 67 = .ok (.land, 1) := by decide +kernel
theorem dX1_ending_68 : decode cX1_ending 68 = .ok (.lstore 4, 2) := by decide +kernel
theorem dX1_ending_70 : decode cX1_ending 70 = .ok (.lload 6, 2) := by decide +kernel
theorem dX1_ending_72 : decode cX1_ending 72 = .ok (.lload 10, 2) := by decide +kernel
theorem dX1_ending_74 : decode cX1_ending 74 = .ok (.aload 9, 2) := by decide +kernel
theorem dX1_ending_76 : decode cX1_ending 76 = .ok (.aload_n 0, 1) := by decide +kernel
theorem dX1_ending_77 : decode cX1_ending 77 = .ok (.iload_n 2, 1) := by decide +kernel
theorem dX1_ending_78 : decode cX1_ending 78 = .ok (.aload 9, 2) := by decide +kernel
theorem dX1_ending_80 : decode cX1_ending 80 = .ok (.getfield 65, 3) := by decide +kernel
theorem dX1_ending_83 : decode cX1_ending 83 = .ok (.invokevirtual 68, 3) := by decide +kernel
theorem dX1_ending_86 : decode cX1_ending 86 = .ok (.invokevirtual 71, 3) := by decide +kernel
theorem dX1_ending_89 : decode cX1_ending 89 = .ok (.land, 1) := by decide +kernel
theorem dX1_ending_90 : decode cX1_ending 90 = .ok (.lor, 1) := by decide +kernel
theorem dX1_ending_91 : decode cX1_ending 91 = .ok (.lstore 6, 2) := by decide +kernel
theorem dX1_ending_93 : decode cX1_ending 93 = .ok (.iinc 8 1, 3) := by decide +kernel
theorem dX1_ending_96 : decode cX1_ending 96 = .ok (.goto (-67), 3) := by decide +kernel
theorem dX1_ending_99 : decode cX1_ending 99 = .ok (.lload 6, 2) := by decide +kernel
theorem dX1_ending_101 : decode cX1_ending 101 = .ok (.lload 4, 2) := by decide +kernel
theorem dX1_ending_103 : decode cX1_ending 103 = .ok (.lor, 1) := by decide +kernel
theorem dX1_ending_104 : decode cX1_ending 104 = .ok (.lreturn, 1) := by decide +kernel
theorem dX1_endingBehindAll_0 : decode cX1_endingBehindAll 0 = .ok (.aload_n 0, 1) := by decide +kernel
theorem dX1_endingBehindAll_1 : decode cX1_endingBehindAll 1 = .ok (.getfield 15, 3) := by decide +kernel
theorem dX1_endingBehindAll_4 : decode cX1_endingBehindAll 4 = .ok (.invokevirtual 43, 3) := by decide +kernel
theorem dX1_endingBehindAll_7 : decode cX1_endingBehindAll 7 = .ok (.lstore_n 3, 1) := by decide +kernel
theorem dX1_endingBehindAll_8 : decode cX1_endingBehindAll 8 = .ok (.iconst 0, 1) := by decide +kernel
theorem dX1_endingBehindAll_9 : decode cX1_endingBehindAll 9 = .ok (.istore 5, 2) := by decide +kernel
theorem dX1_endingBehindAll_11 : decode cX1_endingBehindAll 11 = .ok (.iload 5, 2) := by decide +kernel
theorem dX1_endingBehindAll_13 : decode cX1_endingBehindAll 13 = .ok (.iconst 4, 1) := by decide +kernel
theorem dX1_endingBehindAll_14 : decode cX1_endingBehindAll 14 = .ok (.if_icmp .ge 50, 3) := by decide +kernel
theorem dX1_endingBehindAll_17 : decode cX1_endingBehindAll 17 = .ok (.aload_n 0, 1) := by decide +kernel
theorem dX1_endingBehindAll_18 : decode cX1_endingBehindAll 18 = .ok (.getfield 15, 3) := by decide +kernel
theorem dX1_endingBehindAll_21 : decode cX1_endingBehindAll 21 = .ok (.getfield 75, 3) := by decide +kernel
theorem dX1_endingBehindAll_24 : decode cX1_endingBehindAll 24 = .ok (.iload_n 1, 1) := by decide +kernel
theorem dX1_endingBehindAll_25 : decode cX1_endingBehindAll 25 = .ok (.iload 5, 2) := by decide +kernel
theorem dX1_endingBehindAll_27 : decode cX1_endingBehindAll 27 = .ok (.invokestatic 79, 3) := by decide +kernel
theorem dX1_endingBehindAll_30 : decode cX1_endingBehindAll 30 = .ok (.iaload, 1) := by decide +kernel
theorem dX1_endingBehindAll_31 : decode cX1_endingBehindAll 31 = .ok (.istore 6, 2) := by decide +kernel
theorem dX1_endingBehindAll_33 : decode cX1_endingBehindAll 33 = .ok (.iload_n 2, 1) := by decide +kernel
theorem dX1_endingBehindAll_34 : decode cX1_endingBehindAll 34 = .ok (.iload 5, 2) := by decide +kernel
theorem dX1_endingBehindAll_36 : decode cX1_endingBehindAll 36 = .ok (.invokestatic 83, 3) := by decide +kernel
theorem dX1_endingBehindAll_39 : decode cX1_endingBehindAll 39 = .ok (.ifCond .eq 19, 3) := by decide +kernel
theorem dX1_endingBehindAll_42 : decode cX1_endingBehindAll 42 = .ok (.iload 6, 2) := by decide +kernel
theorem dX1_endingBehindAll_44 : decode cX1_endingBehindAll 44 = .ok (.iconst (-1), 1) := by decide +kernel
theorem dX1_endingBehindAll_45 : decode cX1_endingBehindAll 45 = .ok (.if_icmp .eq 13, 3) := by decide +kernel
theorem dX1_endingBehindAll_48 : decode cX1_endingBehindAll 48 = .ok (.lload_n 3, 1) := by decide +kernel
theorem dX1_endingBehindAll_49 : decode cX1_endingBehindAll 49 = .ok (.aload_n 0, 1) := by decide +kernel
theorem dX1_endingBehindAll_50 : decode cX1_endingBehindAll 50 = .ok (.getfield 9, 3) := by decide +kernel
theorem dX1_endingBehindAll_53 : decode cX1_endingBehindAll 53 = .ok (.iload 6, 2) := by decide +kernel
theorem dX1_endingBehindAll_55 : decode cX1_endingBehindAll 55 = .ok (.laload, 1) := by decide +kernel
theorem dX1_endingBehindAll_56 : decode cX1_endingBehindAll 56 = .ok (.land, 1) := by decide +kernel
theorem dX1_endingBehindAll_57 : decode cX1_endingBehindAll 57 = .ok (.lstore_n 3, 1) := by decide +kernel
theorem dX1_endingBehindAll_58 : decode cX1_endingBehindAll 58 = .ok (.iinc 5 1, 3) := by decide +kernel
theorem dX1_endingBehindAll_61 : decode cX1_endingBehindAll 61 = .ok (.goto (-50), 3) := by decide +kernel
theorem dX1_endingBehindAll_64 : decode cX1_endingBehindAll 64 = .ok (.lload_n 3, 1) := by decide +kernel
theorem dX1_endingBehindAll_65 : decode cX1_endingBehindAll 65 = .ok (.lreturn, 1) := by decide +kernel
theorem dX1_delivering_0 : decode cX1_delivering 0 = .ok (.iload_n 1, 1) := by decide +kernel
theorem dX1_delivering_1 : decode cX1_delivering 1 = .ok (.iconst 4, 1) := by decide +kernel
theorem dX1_delivering_2 : decode cX1_delivering 2 = .ok (.idiv, 1) := by decide +kernel
theorem dX1_delivering_3 : decode cX1_delivering 3 = .ok (.istore_n 3, 1) := by decide +kernel
theorem dX1_delivering_4 : decode cX1_delivering 4 = .ok (.aload_n 0, 1) := by decide +kernel
theorem dX1_delivering_5 : decode cX1_delivering 5 = .ok (.getfield 15, 3) := by decide +kernel
theorem dX1_delivering_8 : decode cX1_delivering 8 = .ok (.getfield 37, 3) := by decide +kernel
theorem dX1_delivering_11 : decode cX1_delivering 11 = .ok (.iload_n 3, 1) := by decide +kernel
theorem dX1_delivering_12 : decode cX1_delivering 12 = .ok (.aaload, 1) := by decide +kernel
theorem dX1_delivering_13 : decode cX1_delivering 13 = .ok (.astore 4, 2) := by decide +kernel
theorem dX1_delivering_15 : decode cX1_delivering 15 = .ok (.aload_n 0, 1) := by decide +kernel
theorem dX1_delivering_16 : decode cX1_delivering 16 = .ok (.getfield 15, 3) := by decide +kernel
theorem dX1_delivering_19 : decode cX1_delivering 19 = .ok (.invokevirtual 43, 3) := by decide +kernel
theorem dX1_delivering_22 : decode cX1_delivering 22 = .ok (.lstore 5, 2) := by decide +kernel
theorem dX1_delivering_24 : decode cX1_delivering 24 = .ok (.lconst 0, 1) := by decide +kernel
theorem dX1_delivering_25 : decode cX1_delivering 25 = .ok (.lstore 7, 2) := by decide +kernel
theorem dX1_delivering_27 : decode cX1_delivering 27 = .ok (.iconst 0, 1) := by decide +kernel
theorem dX1_delivering_28 : decode cX1_delivering 28 = .ok (.istore 9, 2) := by decide +kernel
theorem dX1_delivering_30 : decode cX1_delivering 30 = .ok (.iload 9, 2) := by decide +kernel
theorem dX1_delivering_32 : decode cX1_delivering 32 = .ok (.aload 4, 2) := by decide +kernel
theorem dX1_delivering_34 : decode cX1_delivering 34 = .ok (.getfield 47, 3) := by decide +kernel
theorem dX1_delivering_37 : decode cX1_delivering 37 = .ok (.if_icmp .ge 66, 3) := by decide +kernel
theorem dX1_delivering_40 : decode cX1_delivering 40 = .ok (.aload 4, 2) := by decide +kernel
theorem dX1_delivering_42 : decode cX1_delivering 42 = .ok (.getfield 53, 3) := by decide +kernel
theorem dX1_delivering_45 : decode cX1_delivering 45 = .ok (.iload 9, 2) := by decide +kernel
theorem dX1_delivering_47 : decode cX1_delivering 47 = .ok (.aaload, 1) := by decide +kernel
theorem dX1_delivering_48 : decode cX1_delivering 48 = .ok (.astore 10, 2) := by decide +kernel
theorem dX1_delivering_50 : decode cX1_delivering 50 = .ok (.aload 10, 2) := by decide +kernel
theorem dX1_delivering_52 : decode cX1_delivering 52 = .ok (.iload_n 1, 1) := by decide +kernel
theorem dX1_delivering_53 : decode cX1_delivering 53 = .ok (.iconst 4, 1) := by decide +kernel
theorem dX1_delivering_54 : decode cX1_delivering 54 = .ok (.irem, 1) := by decide +kernel
theorem dX1_delivering_55 : decode cX1_delivering 55 = .ok (.lload 5, 2) := by decide +kernel
theorem dX1_delivering_57 : decode cX1_delivering 57 = .ok (.invokevirtual 57, 3) := by decide +kernel
theorem dX1_delivering_60 : decode cX1_delivering 60 = .ok (.lstore 11, 2) := by decide +kernel
theorem dX1_delivering_62 : decode cX1_delivering 62 = .ok (.lload 5, 2) := by decide +kernel
theorem dX1_delivering_64 : decode cX1_delivering 64 = .ok (.lload 11, 2) := by decide +kernel
theorem dX1_delivering_66 : decode cX1_delivering 66 = .ok (.ldc2_w 63, 3) := by decide +kernel
theorem dX1_delivering_69 : decode cX1_delivering 69 = .ok (.lxor, 1) := by decide +kernel
theorem dX1_delivering_70 : decode cX1_delivering 70 = .ok (.land, 1) := by decide +kernel
theorem dX1_delivering_71 : decode cX1_delivering 71 = .ok (.lstore 5, 2) := by decide +kernel
theorem dX1_delivering_73 : decode cX1_delivering 73 = .ok (.lload 7, 2) := by decide +kernel
theorem dX1_delivering_75 : decode cX1_delivering 75 = .ok (.lload 11, 2) := by decide +kernel
theorem dX1_delivering_77 : decode cX1_delivering 77 = .ok (.aload 10, 2) := by decide +kernel
theorem dX1_delivering_79 : decode cX1_delivering 79 = .ok (.aload_n 0, 1) := by decide +kernel
theorem dX1_delivering_80 : decode cX1_delivering 80 = .ok (.iload_n 3, 1) := by decide +kernel
theorem dX1_delivering_81 : decode cX1_delivering 81 = .ok (.aload 10, 2) := by decide +kernel
theorem dX1_delivering_83 : decode cX1_delivering 83 = .ok (.getfield 65, 3) := by decide +kernel
theorem dX1_delivering_86 : decode cX1_delivering 86 = .ok (.iload_n 2, 1) := by decide +kernel
theorem dX1_delivering_87 : decode cX1_delivering 87 = .ok (.invokevirtual 87, 3) := by decide +kernel
theorem dX1_delivering_90 : decode cX1_delivering 90 = .ok (.invokevirtual 71, 3) := by decide +kernel
theorem dX1_delivering_93 : decode cX1_delivering 93 = .ok (.land, 1) := by decide +kernel
theorem dX1_delivering_94 : decode cX1_delivering 94 = .ok (.lor, 1) := by decide +kernel
theorem dX1_delivering_95 : decode cX1_delivering 95 = .ok (.lstore 7, 2) := by decide +kernel
theorem dX1_delivering_97 : decode cX1_delivering 97 = .ok (.iinc 9 1, 3) := by decide +kernel
theorem dX1_delivering_100 : decode cX1_delivering 100 = .ok (.goto (-70), 3) := by decide +kernel
theorem dX1_delivering_103 : decode cX1_delivering 103 = .ok (.lload 7, 2) := by decide +kernel
theorem dX1_delivering_105 : decode cX1_delivering 105 = .ok (.lreturn, 1) := by decide +kernel
theorem dX1_deliveredBehindOne_0 : decode cX1_deliveredBehindOne 0 = .ok (.lconst 0, 1) := by decide +kernel
theorem dX1_deliveredBehindOne_1 : decode cX1_deliveredBehindOne 1 = .ok (.lstore 4, 2) := by decide +kernel
theorem dX1_deliveredBehindOne_3 : decode cX1_deliveredBehindOne 3 = .ok (.iconst 0, 1) := by decide +kernel
theorem dX1_deliveredBehindOne_4 : decode cX1_deliveredBehindOne 4 = .ok (.istore 6, 2) := by decide +kernel
theorem dX1_deliveredBehindOne_6 : decode cX1_deliveredBehindOne 6 = .ok (.iload 6, 2) := by decide +kernel
theorem dX1_deliveredBehindOne_8 : decode cX1_deliveredBehindOne 8 = .ok (.iconst 4, 1) := by decide +kernel
theorem dX1_deliveredBehindOne_9 : decode cX1_deliveredBehindOne 9 = .ok (.if_icmp .ge 74, 3) := by decide +kernel
theorem dX1_deliveredBehindOne_12 : decode cX1_deliveredBehindOne 12 = .ok (.iload_n 2, 1) := by decide +kernel
theorem dX1_deliveredBehindOne_13 : decode cX1_deliveredBehindOne 13 = .ok (.iload 6, 2) := by decide +kernel
theorem dX1_deliveredBehindOne_15 : decode cX1_deliveredBehindOne 15 = .ok (.invokestatic 83, 3) := by decide +kernel
theorem dX1_deliveredBehindOne_18 : decode cX1_deliveredBehindOne 18 = .ok (.ifCond .eq 59, 3) := by decide +kernel
theorem dX1_deliveredBehindOne_21 : decode cX1_deliveredBehindOne 21 = .ok (.aload_n 0, 1) := by decide +kernel
theorem dX1_deliveredBehindOne_22 : decode cX1_deliveredBehindOne 22 = .ok (.getfield 15, 3) := by decide +kernel
theorem dX1_deliveredBehindOne_25 : decode cX1_deliveredBehindOne 25 = .ok (.getfield 75, 3) := by decide +kernel
theorem dX1_deliveredBehindOne_28 : decode cX1_deliveredBehindOne 28 = .ok (.iload_n 1, 1) := by decide +kernel
theorem dX1_deliveredBehindOne_29 : decode cX1_deliveredBehindOne 29 = .ok (.iload 6, 2) := by decide +kernel
theorem dX1_deliveredBehindOne_31 : decode cX1_deliveredBehindOne 31 = .ok (.invokestatic 79, 3) := by decide +kernel
theorem dX1_deliveredBehindOne_34 : decode cX1_deliveredBehindOne 34 = .ok (.iaload, 1) := by decide +kernel
theorem dX1_deliveredBehindOne_35 : decode cX1_deliveredBehindOne 35 = .ok (.istore 7, 2) := by decide +kernel
theorem dX1_deliveredBehindOne_37 : decode cX1_deliveredBehindOne 37 = .ok (.iload 7, 2) := by decide +kernel
theorem dX1_deliveredBehindOne_39 : decode cX1_deliveredBehindOne 39 = .ok (.iconst (-1), 1) := by decide +kernel
theorem dX1_deliveredBehindOne_40 : decode cX1_deliveredBehindOne 40 = .ok (.if_icmp .eq 18, 3) := by decide +kernel
theorem dX1_deliveredBehindOne_43 : decode cX1_deliveredBehindOne 43 = .ok (.lload 4, 2) := by decide +kernel
theorem dX1_deliveredBehindOne_45 : decode cX1_deliveredBehindOne 45 = .ok (.aload_n 0, 1) := by decide +kernel
theorem dX1_deliveredBehindOne_46 : decode cX1_deliveredBehindOne 46 = .ok (.getfield 9, 3) := by decide +kernel
theorem dX1_deliveredBehindOne_49 : decode cX1_deliveredBehindOne 49 = .ok (.iload 7, 2) := by decide +kernel
theorem dX1_deliveredBehindOne_51 : decode cX1_deliveredBehindOne 51 = .ok (.laload, 1) := by decide +kernel
theorem dX1_deliveredBehindOne_52 : decode cX1_deliveredBehindOne 52 = .ok (.lor, 1) := by decide +kernel
theorem dX1_deliveredBehindOne_53 : decode cX1_deliveredBehindOne 53 = .ok (.lstore 4, 2) := by decide +kernel
theorem dX1_deliveredBehindOne_55 : decode cX1_deliveredBehindOne 55 = .ok (.goto 22, 3) := by decide +kernel
theorem dX1_deliveredBehindOne_58 : decode cX1_deliveredBehindOne 58 = .ok (.iload_n 1, 1) := by decide +kernel
theorem dX1_deliveredBehindOne_59 : decode cX1_deliveredBehindOne 59 = .ok (.iload 6, 2) := by decide +kernel
theorem dX1_deliveredBehindOne_61 : decode cX1_deliveredBehindOne 61 = .ok (.invokestatic 79, 3) := by decide +kernel
theorem dX1_deliveredBehindOne_64 : decode cX1_deliveredBehindOne 64 = .ok (.iload_n 3, 1) := by decide +kernel
theorem dX1_deliveredBehindOne_65 : decode cX1_deliveredBehindOne 65 = .ok (.if_icmp .ne 12, 3) := by decide +kernel
theorem dX1_deliveredBehindOne_68 : decode cX1_deliveredBehindOne 68 = .ok (.aload_n 0, 1) := by decide +kernel
theorem dX1_deliveredBehindOne_69 : decode cX1_deliveredBehindOne 69 = .ok (.getfield 15, 3) := by decide +kernel
theorem dX1_deliveredBehindOne_72 : decode cX1_deliveredBehindOne 72 = .ok (.invokevirtual 43, 3) := by decide +kernel
theorem dX1_deliveredBehindOne_75 : decode cX1_deliveredBehindOne 75 = .ok (.lstore 4, 2) := by decide +kernel
theorem dX1_deliveredBehindOne_77 : decode cX1_deliveredBehindOne 77 = .ok (.iinc 6 1, 3) := by decide +kernel
theorem dX1_deliveredBehindOne_80 : decode cX1_deliveredBehindOne 80 = .ok (.goto (-74), 3) := by decide +kernel
theorem dX1_deliveredBehindOne_83 : decode cX1_deliveredBehindOne 83 = .ok (.lload 4, 2) := by decide +kernel
theorem dX1_deliveredBehindOne_85 : decode cX1_deliveredBehindOne 85 = .ok (.lreturn, 1) := by decide +kernel
theorem dX2_init_0 : decode cX2_init 0 = .ok (.aload_n 0, 1) := by decide +kernel
theorem dX2_init_1 : decode cX2_init 1 = .ok (.invokespecial 3, 3) := by decide +kernel
theorem dX2_init_4 : decode cX2_init 4 = .ok (.aload_n 0, 1) := by decide +kernel
theorem dX2_init_5 : decode cX2_init 5 = .ok (.bipush 24, 2) := by decide +kernel
theorem dX2_init_7 : decode cX2_init 7 = .ok (.newarray .long, 2) := by decide +kernel
theorem dX2_init_9 : decode cX2_init 9 = .ok (.putfield 9, 3) := by decide +kernel
theorem dX2_init_12 : decode cX2_init 12 = .ok (.aload_n 0, 1) := by decide +kernel
theorem dX2_init_13 : decode cX2_init 13 = .ok (.bipush 24, 2) := by decide +kernel
theorem dX2_init_15 : decode cX2_init 15 = .ok (.newarray .long, 2) := by decide +kernel
theorem dX2_init_17 : decode cX2_init 17 = .ok (.putfield 15, 3) := by decide +kernel
theorem dX2_init_20 : decode cX2_init 20 = .ok (.aload_n 0, 1) := by decide +kernel
theorem dX2_init_21 : decode cX2_init 21 = .ok (.bipush 24, 2) := by decide +kernel
theorem dX2_init_23 : decode cX2_init 23 = .ok (.newarray .long, 2) := by decide +kernel
theorem dX2_init_25 : decode cX2_init 25 = .ok (.putfield 18, 3) := by decide +kernel
theorem dX2_init_28 : decode cX2_init 28 = .ok (.aload_n 0, 1) := by decide +kernel
theorem dX2_init_29 : decode cX2_init 29 = .ok (.aload_n 1, 1) := by decide +kernel
theorem dX2_init_30 : decode cX2_init 30 = .ok (.putfield 21, 3) := by decide +kernel
theorem dX2_init_33 : decode cX2_init 33 = .ok (.return_, 1) := by decide +kernel
theorem dX2_spreadFrom_0 : decode cX2_spreadFrom 0 = .ok (.aload_n 0, 1) := by decide +kernel
theorem dX2_spreadFrom_1 : decode cX2_spreadFrom 1 = .ok (.invokevirtual 25, 3) := by decide +kernel
theorem dX2_spreadFrom_4 : decode cX2_spreadFrom 4 = .ok (.aload_n 0, 1) := by decide +kernel
theorem dX2_spreadFrom_5 : decode cX2_spreadFrom 5 = .ok (.iload_n 1, 1) := by decide +kernel
theorem dX2_spreadFrom_6 : decode cX2_spreadFrom 6 = .ok (.lload_n 2, 1) := by decide +kernel
theorem dX2_spreadFrom_7 : decode cX2_spreadFrom 7 = .ok (.invokevirtual 28, 3) := by decide +kernel
theorem dX2_spreadFrom_10 : decode cX2_spreadFrom 10 = .ok (.aload_n 0, 1) := by decide +kernel
theorem dX2_spreadFrom_11 : decode cX2_spreadFrom 11 = .ok (.invokevirtual 32, 3) := by decide +kernel
theorem dX2_spreadFrom_14 : decode cX2_spreadFrom 14 = .ok (.return_, 1) := by decide +kernel
theorem dX2_leastOrigin_0 : decode cX2_leastOrigin 0 = .ok (.aload_n 0, 1) := by decide +kernel
theorem dX2_leastOrigin_1 : decode cX2_leastOrigin 1 = .ok (.invokevirtual 25, 3) := by decide +kernel
theorem dX2_leastOrigin_4 : decode cX2_leastOrigin 4 = .ok (.iconst 0, 1) := by decide +kernel
theorem dX2_leastOrigin_5 : decode cX2_leastOrigin 5 = .ok (.istore 6, 2) := by decide +kernel
theorem dX2_leastOrigin_7 : decode cX2_leastOrigin 7 = .ok (.iload 6, 2) := by decide +kernel
theorem dX2_leastOrigin_9 : decode cX2_leastOrigin 9 = .ok (.bipush 32, 2) := by decide +kernel
theorem dX2_leastOrigin_11 : decode cX2_leastOrigin 11 = .ok (.if_icmp .ge 49, 3) := by decide +kernel
theorem dX2_leastOrigin_14 : decode cX2_leastOrigin 14 = .ok (.lload_n 2, 1) := by decide +kernel
theorem dX2_leastOrigin_15 : decode cX2_leastOrigin 15 = .ok (.iload 6, 2) := by decide +kernel
theorem dX2_leastOrigin_17 : decode cX2_leastOrigin 17 = .ok (.invokestatic 35, 3) := by decide +kernel
theorem dX2_leastOrigin_20 : decode cX2_leastOrigin 20 = .ok (.ifCond .eq 34, 3) := by decide +kernel
theorem dX2_leastOrigin_23 : decode cX2_leastOrigin 23 = .ok (.aload_n 0, 1) := by decide +kernel
theorem dX2_leastOrigin_24 : decode cX2_leastOrigin 24 = .ok (.iload_n 1, 1) := by decide +kernel
theorem dX2_leastOrigin_25 : decode cX2_leastOrigin 25 = .ok (.lconst 1, 1) := by decide +kernel
theorem dX2_leastOrigin_26 : decode cX2_leastOrigin 26 = .ok (.iload 6, 2) := by decide +kernel
theorem dX2_leastOrigin_28 : decode cX2_leastOrigin 28 = .ok (.lshl, 1) := by decide +kernel
theorem dX2_leastOrigin_29 : decode cX2_leastOrigin 29 = .ok (.invokevirtual 28, 3) := by decide +kernel
theorem dX2_leastOrigin_32 : decode cX2_leastOrigin 32 = .ok (.aload_n 0, 1) := by decide +kernel
theorem dX2_leastOrigin_33 : decode cX2_leastOrigin 33 = .ok (.invokevirtual 32, 3) := by decide +kernel
theorem dX2_leastOrigin_36 : decode cX2_leastOrigin 36 = .ok (.aload_n 0, 1) := by decide +kernel
theorem dX2_leastOrigin_37 : decode cX2_leastOrigin 37 = .ok (.getfield 9, 3) := by decide +kernel
theorem dX2_leastOrigin_40 : decode cX2_leastOrigin 40 = .ok (.iload 4, 2) := by decide +kernel
theorem dX2_leastOrigin_42 : decode cX2_leastOrigin 42 = .ok (.laload, 1) := by decide +kernel
theorem dX2_leastOrigin_43 : decode cX2_leastOrigin 43 = .ok (.iload 5, 2) := by decide +kernel
theorem dX2_leastOrigin_45 : decode cX2_leastOrigin 45 = .ok (.invokestatic 35, 3) := by decide +kernel
theorem dX2_leastOrigin_48 : decode cX2_leastOrigin 48 = .ok (.ifCond .eq 6, 3) := by decide +kernel
theorem dX2_leastOrigin_51 : decode cX2_leastOrigin 51 = .ok (.iload 6, 2) := by decide +kernel
theorem dX2_leastOrigin_53 : decode cX2_leastOrigin 53 = .ok (.ireturn, 1) := by decide +kernel
theorem dX2_leastOrigin_54 : decode cX2_leastOrigin 54 = .ok (.iinc 6 1, 3) := by decide +kernel
theorem dX2_leastOrigin_57 : decode cX2_leastOrigin 57 = .ok (.goto (-50), 3) := by decide +kernel
theorem dX2_leastOrigin_60 : decode cX2_leastOrigin 60 = .ok (.bipush (-6), 2) := by decide +kernel
theorem dX2_leastOrigin_62 : decode cX2_leastOrigin 62 = .ok (.ireturn, 1) := by decide +kernel
theorem dX2_leastLinks_0 : decode cX2_leastLinks 0 = .ok (.aload_n 0, 1) := by decide +kernel
theorem dX2_leastLinks_1 : decode cX2_leastLinks 1 = .ok (.invokevirtual 25, 3) := by decide +kernel
theorem dX2_leastLinks_4 : decode cX2_leastLinks 4 = .ok (.aload_n 0, 1) := by decide +kernel
theorem dX2_leastLinks_5 : decode cX2_leastLinks 5 = .ok (.iload_n 1, 1) := by decide +kernel
theorem dX2_leastLinks_6 : decode cX2_leastLinks 6 = .ok (.lconst 1, 1) := by decide +kernel
theorem dX2_leastLinks_7 : decode cX2_leastLinks 7 = .ok (.iload_n 2, 1) := by decide +kernel
theorem dX2_leastLinks_8 : decode cX2_leastLinks 8 = .ok (.lshl, 1) := by decide +kernel
theorem dX2_leastLinks_9 : decode cX2_leastLinks 9 = .ok (.invokevirtual 28, 3) := by decide +kernel
theorem dX2_leastLinks_12 : decode cX2_leastLinks 12 = .ok (.iconst 0, 1) := by decide +kernel
theorem dX2_leastLinks_13 : decode cX2_leastLinks 13 = .ok (.istore 4, 2) := by decide +kernel
theorem dX2_leastLinks_15 : decode cX2_leastLinks 15 = .ok (.iload 4, 2) := by decide +kernel
theorem dX2_leastLinks_17 : decode cX2_leastLinks 17 = .ok (.sipush 768, 3) := by decide +kernel
theorem dX2_leastLinks_20 : decode cX2_leastLinks 20 = .ok (.if_icmp .gt 33, 3) := by decide +kernel
theorem dX2_leastLinks_23 : decode cX2_leastLinks 23 = .ok (.aload_n 0, 1) := by decide +kernel
theorem dX2_leastLinks_24 : decode cX2_leastLinks 24 = .ok (.getfield 9, 3) := by decide +kernel
theorem dX2_leastLinks_27 : decode cX2_leastLinks 27 = .ok (.iload_n 3, 1) := by decide +kernel
theorem dX2_leastLinks_28 : decode cX2_leastLinks 28 = .ok (.laload, 1) := by decide +kernel
theorem dX2_leastLinks_29 : decode cX2_leastLinks 29 = .ok (.lconst 0, 1) := by decide +kernel
theorem dX2_leastLinks_30 : decode cX2_leastLinks 30 = .ok (.lcmp, 1) := by decide +kernel
theorem dX2_leastLinks_31 : decode cX2_leastLinks 31 = .ok (.ifCond .eq 6, 3) := by decide +kernel
theorem dX2_leastLinks_34 : decode cX2_leastLinks 34 = .ok (.iload 4, 2) := by decide +kernel
theorem dX2_leastLinks_36 : decode cX2_leastLinks 36 = .ok (.ireturn, 1) := by decide +kernel
theorem dX2_leastLinks_37 : decode cX2_leastLinks 37 = .ok (.aload_n 0, 1) := by decide +kernel
theorem dX2_leastLinks_38 : decode cX2_leastLinks 38 = .ok (.invokevirtual 39, 3) := by decide +kernel
theorem dX2_leastLinks_41 : decode cX2_leastLinks 41 = .ok (.ifCond .ne 6, 3) := by decide +kernel
theorem dX2_leastLinks_44 : decode cX2_leastLinks 44 = .ok (.bipush (-6), 2) := by decide +kernel
theorem dX2_leastLinks_46 : decode cX2_leastLinks 46 = .ok (.ireturn, 1) := by decide +kernel
theorem dX2_leastLinks_47 : decode cX2_leastLinks 47 = .ok (.iinc 4 1, 3) := by decide +kernel
theorem dX2_leastLinks_50 : decode cX2_leastLinks 50 = .ok (.goto (-35), 3) := by decide +kernel
theorem dX2_leastLinks_53 : decode cX2_leastLinks 53 = .ok (.bipush (-6), 2) := by decide +kernel
theorem dX2_leastLinks_55 : decode cX2_leastLinks 55 = .ok (.ireturn, 1) := by decide +kernel
theorem dX2_countArrived_0 : decode cX2_countArrived 0 = .ok (.iconst 0, 1) := by decide +kernel
theorem dX2_countArrived_1 : decode cX2_countArrived 1 = .ok (.istore_n 2, 1) := by decide +kernel
theorem dX2_countArrived_2 : decode cX2_countArrived 2 = .ok (.iconst 0, 1) := by decide +kernel
theorem dX2_countArrived_3 : decode cX2_countArrived 3 = .ok (.istore_n 3, 1) := by decide +kernel
theorem dX2_countArrived_4 : decode cX2_countArrived 4 = .ok (.iload_n 3, 1) := by decide +kernel
theorem dX2_countArrived_5 : decode cX2_countArrived 5 = .ok (.iconst 4, 1) := by decide +kernel
theorem dX2_countArrived_6 : decode cX2_countArrived 6 = .ok (.if_icmp .ge 25, 3) := by decide +kernel
theorem dX2_countArrived_9 : decode cX2_countArrived 9 = .ok (.iload_n 2, 1) := by decide +kernel
theorem dX2_countArrived_10 : decode cX2_countArrived 10 = .ok (.aload_n 0, 1) := by decide +kernel
theorem dX2_countArrived_11 : decode cX2_countArrived 11 = .ok (.getfield 9, 3) := by decide +kernel
theorem dX2_countArrived_14 : decode cX2_countArrived 14 = .ok (.iload_n 1, 1) := by decide +kernel
theorem dX2_countArrived_15 : decode cX2_countArrived 15 = .ok (.iload_n 3, 1) := by decide +kernel
theorem dX2_countArrived_16 : decode cX2_countArrived 16 = .ok (.invokestatic 43, 3) := by decide +kernel
theorem dX2_countArrived_19 : decode cX2_countArrived 19 = .ok (.laload, 1) := by decide +kernel
theorem dX2_countArrived_20 : decode cX2_countArrived 20 = .ok (.invokestatic 47, 3) := by decide +kernel
theorem dX2_countArrived_23 : decode cX2_countArrived 23 = .ok (.iadd, 1) := by decide +kernel
theorem dX2_countArrived_24 : decode cX2_countArrived 24 = .ok (.istore_n 2, 1) := by decide +kernel
theorem dX2_countArrived_25 : decode cX2_countArrived 25 = .ok (.iinc 3 1, 3) := by decide +kernel
theorem dX2_countArrived_28 : decode cX2_countArrived 28 = .ok (.goto (-24), 3) := by decide +kernel
theorem dX2_countArrived_31 : decode cX2_countArrived 31 = .ok (.iload_n 2, 1) := by decide +kernel
theorem dX2_countArrived_32 : decode cX2_countArrived 32 = .ok (.ireturn, 1) := by decide +kernel
theorem dX2_countLost_0 : decode cX2_countLost 0 = .ok (.aload_n 0, 1) := by decide +kernel
theorem dX2_countLost_1 : decode cX2_countLost 1 = .ok (.getfield 21, 3) := by decide +kernel
theorem dX2_countLost_4 : decode cX2_countLost 4 = .ok (.getfield 53, 3) := by decide +kernel
theorem dX2_countLost_7 : decode cX2_countLost 7 = .ok (.iload_n 1, 1) := by decide +kernel
theorem dX2_countLost_8 : decode cX2_countLost 8 = .ok (.aaload, 1) := by decide +kernel
theorem dX2_countLost_9 : decode cX2_countLost 9 = .ok (.astore_n 2, 1) := by decide +kernel
theorem dX2_countLost_10 : decode cX2_countLost 10 = .ok (.iconst 0, 1) := by decide +kernel
theorem dX2_countLost_11 : decode cX2_countLost 11 = .ok (.istore_n 3, 1) := by decide +kernel
theorem dX2_countLost_12 : decode cX2_countLost 12 = .ok (.iconst 0, 1) := by decide +kernel
theorem dX2_countLost_13 : decode cX2_countLost 13 = .ok (.istore 4, 2) := by decide +kernel
theorem dX2_countLost_15 : decode cX2_countLost 15 = .ok (.iload 4, 2) := by decide +kernel
theorem dX2_countLost_17 : decode cX2_countLost 17 = .ok (.iconst 4, 1) := by decide +kernel
theorem dX2_countLost_18 : decode cX2_countLost 18 = .ok (.if_icmp .ge 36, 3) := by decide +kernel
theorem dX2_countLost_21 : decode cX2_countLost 21 = .ok (.iload_n 3, 1) := by decide +kernel
theorem dX2_countLost_22 : decode cX2_countLost 22 = .ok (.aload_n 2, 1) := by decide +kernel
theorem dX2_countLost_23 : decode cX2_countLost 23 = .ok (.aload_n 2, 1) := by decide +kernel
theorem dX2_countLost_24 : decode cX2_countLost 24 = .ok (.getfield 59, 3) := by decide +kernel
theorem dX2_countLost_27 : decode cX2_countLost 27 = .ok (.iload 4, 2) := by decide +kernel
theorem dX2_countLost_29 : decode cX2_countLost 29 = .ok (.aload_n 0, 1) := by decide +kernel
theorem dX2_countLost_30 : decode cX2_countLost 30 = .ok (.getfield 9, 3) := by decide +kernel
theorem dX2_countLost_33 : decode cX2_countLost 33 = .ok (.iload_n 1, 1) := by decide +kernel
theorem dX2_countLost_34 : decode cX2_countLost 34 = .ok (.iload 4, 2) := by decide +kernel
theorem dX2_countLost_36 : decode cX2_countLost 36 = .ok (.invokestatic 43, 3) := by decide +kernel
theorem dX2_countLost_39 : decode cX2_countLost 39 = .ok (.laload, 1) := by decide +kernel
theorem dX2_countLost_40 : decode cX2_countLost 40 = .ok (.invokevirtual 65, 3) := by decide +kernel
theorem dX2_countLost_43 : decode cX2_countLost 43 = .ok (.invokestatic 47, 3) := by decide +kernel
theorem dX2_countLost_46 : decode cX2_countLost 46 = .ok (.iadd, 1) := by decide +kernel
theorem dX2_countLost_47 : decode cX2_countLost 47 = .ok (.istore_n 3, 1) := by decide +kernel
theorem dX2_countLost_48 : decode cX2_countLost 48 = .ok (.iinc 4 1, 3) := by decide +kernel
theorem dX2_countLost_51 : decode cX2_countLost 51 = .ok (.goto (-36), 3) := by decide +kernel
theorem dX2_countLost_54 : decode cX2_countLost 54 = .ok (.iload_n 3, 1) := by decide +kernel
theorem dX2_countLost_55 : decode cX2_countLost 55 = .ok (.ireturn, 1) := by decide +kernel
theorem dX2_countDropped_0 : decode cX2_countDropped 0 = .ok (.aload_n 0, 1) := by decide +kernel
theorem dX2_countDropped_1 : decode cX2_countDropped 1 = .ok (.getfield 21, 3) := by decide +kernel
theorem dX2_countDropped_4 : decode cX2_countDropped 4 = .ok (.getfield 53, 3) := by decide +kernel
theorem dX2_countDropped_7 : decode cX2_countDropped 7 = .ok (.iload_n 1, 1) := by decide +kernel
theorem dX2_countDropped_8 : decode cX2_countDropped 8 = .ok (.aaload, 1) := by decide +kernel
theorem dX2_countDropped_9 : decode cX2_countDropped 9 = .ok (.astore_n 2, 1) := by decide +kernel
theorem dX2_countDropped_10 : decode cX2_countDropped 10 = .ok (.iconst 0, 1) := by decide +kernel
theorem dX2_countDropped_11 : decode cX2_countDropped 11 = .ok (.istore_n 3, 1) := by decide +kernel
theorem dX2_countDropped_12 : decode cX2_countDropped 12 = .ok (.iconst 0, 1) := by decide +kernel
theorem dX2_countDropped_13 : decode cX2_countDropped 13 = .ok (.istore 4, 2) := by decide +kernel
theorem dX2_countDropped_15 : decode cX2_countDropped 15 = .ok (.iload 4, 2) := by decide +kernel
theorem dX2_countDropped_17 : decode cX2_countDropped 17 = .ok (.aload_n 2, 1) := by decide +kernel
theorem dX2_countDropped_18 : decode cX2_countDropped 18 = .ok (.getfield 59, 3) := by decide +kernel
theorem dX2_countDropped_21 : decode cX2_countDropped 21 = .ok (.if_icmp .ge 32, 3) := by decide +kernel
theorem dX2_countDropped_24 : decode cX2_countDropped 24 = .ok (.aload_n 2, 1) := by decide +kernel
theorem dX2_countDropped_25 : decode cX2_countDropped 25 = .ok (.getfield 69, 3) := by decide +kernel
theorem dX2_countDropped_28 : decode cX2_countDropped 28 = .ok (.iload 4, 2) := by decide +kernel
theorem dX2_countDropped_30 : decode cX2_countDropped 30 = .ok (.aaload, 1) := by decide +kernel
theorem dX2_countDropped_31 : decode cX2_countDropped 31 = .ok (.getfield 73, 3) := by decide +kernel
theorem dX2_countDropped_34 : decode cX2_countDropped 34 = .ok (.ifCond .ne 13, 3) := by decide +kernel
theorem dX2_countDropped_37 : decode cX2_countDropped 37 = .ok (.iload_n 3, 1) := by decide +kernel
theorem dX2_countDropped_38 : decode cX2_countDropped 38 = .ok (.aload_n 0, 1) := by decide +kernel
theorem dX2_countDropped_39 : decode cX2_countDropped 39 = .ok (.iload_n 1, 1) := by decide +kernel
theorem dX2_countDropped_40 : decode cX2_countDropped 40 = .ok (.iload 4, 2) := by decide +kernel
theorem dX2_countDropped_42 : decode cX2_countDropped 42 = .ok (.invokevirtual 78, 3) := by decide +kernel
theorem dX2_countDropped_45 : decode cX2_countDropped 45 = .ok (.iadd, 1) := by decide +kernel
theorem dX2_countDropped_46 : decode cX2_countDropped 46 = .ok (.istore_n 3, 1) := by decide +kernel
theorem dX2_countDropped_47 : decode cX2_countDropped 47 = .ok (.iinc 4 1, 3) := by decide +kernel
theorem dX2_countDropped_50 : decode cX2_countDropped 50 = .ok (.goto (-35), 3) := by decide +kernel
theorem dX2_countDropped_53 : decode cX2_countDropped 53 = .ok (.iload_n 3, 1) := by decide +kernel
theorem dX2_countDropped_54 : decode cX2_countDropped 54 = .ok (.ireturn, 1) := by decide +kernel
theorem dX2_countHandled_0 : decode cX2_countHandled 0 = .ok (.aload_n 0, 1) := by decide +kernel
theorem dX2_countHandled_1 : decode cX2_countHandled 1 = .ok (.getfield 21, 3) := by decide +kernel
theorem dX2_countHandled_4 : decode cX2_countHandled 4 = .ok (.getfield 53, 3) := by decide +kernel
theorem dX2_countHandled_7 : decode cX2_countHandled 7 = .ok (.iload_n 1, 1) := by decide +kernel
theorem dX2_countHandled_8 : decode cX2_countHandled 8 = .ok (.aaload, 1) := by decide +kernel
theorem dX2_countHandled_9 : decode cX2_countHandled 9 = .ok (.astore_n 3, 1) := by decide +kernel
theorem dX2_countHandled_10 : decode cX2_countHandled 10 = .ok (.iconst 0, 1) := by decide +kernel
theorem dX2_countHandled_11 : decode cX2_countHandled 11 = .ok (.istore 4, 2) := by decide +kernel
theorem dX2_countHandled_13 : decode cX2_countHandled 13 = .ok (.iconst 0, 1) := by decide +kernel
theorem dX2_countHandled_14 : decode cX2_countHandled 14 = .ok (.istore 5, 2) := by decide +kernel
theorem dX2_countHandled_16 : decode cX2_countHandled 16 = .ok (.iload 5, 2) := by decide +kernel
theorem dX2_countHandled_18 : decode cX2_countHandled 18 = .ok (.iconst 4, 1) := by decide +kernel
theorem dX2_countHandled_19 : decode cX2_countHandled 19 = .ok (.if_icmp .ge 35, 3) := by decide +kernel
theorem dX2_countHandled_22 : decode cX2_countHandled 22 = .ok (.iload 4, 2) := by decide +kernel
theorem dX2_countHandled_24 : decode cX2_countHandled 24 = .ok (.aload_n 3, 1) := by decide +kernel
theorem dX2_countHandled_25 : decode cX2_countHandled 25 = .ok (.iload_n 2, 1) := by decide +kernel
theorem dX2_countHandled_26 : decode cX2_countHandled 26 = .ok (.iload 5, 2) := by decide +kernel
theorem dX2_countHandled_28 : decode cX2_countHandled 28 = .ok (.aload_n 0, 1) := by decide +kernel
theorem dX2_countHandled_29 : decode cX2_countHandled 29 = .ok (.getfield 9, 3) := by decide +kernel
theorem dX2_countHandled_32 : decode cX2_countHandled 32 = .ok (.iload_n 1, 1) := by decide +kernel
theorem dX2_countHandled_33 : decode cX2_countHandled 33 = .ok (.iload 5, 2) := by decide +kernel
theorem dX2_countHandled_35 : decode cX2_countHandled 35 = .ok (.invokestatic 43, 3) := by decide +kernel
theorem dX2_countHandled_38 : decode cX2_countHandled 38 = .ok (.laload, 1) := by decide +kernel
theorem dX2_countHandled_39 : decode cX2_countHandled 39 = .ok (.invokevirtual 81, 3) := by decide +kernel
theorem dX2_countHandled_42 : decode cX2_countHandled 42 = .ok (.invokestatic 47, 3) := by decide +kernel
theorem dX2_countHandled_45 : decode cX2_countHandled 45 = .ok (.iadd, 1) := by decide +kernel
theorem dX2_countHandled_46 : decode cX2_countHandled 46 = .ok (.istore 4, 2) := by decide +kernel
theorem dX2_countHandled_48 : decode cX2_countHandled 48 = .ok (.iinc 5 1, 3) := by decide +kernel
theorem dX2_countHandled_51 : decode cX2_countHandled 51 = .ok (.goto (-35), 3) := by decide +kernel
theorem dX2_countHandled_54 : decode cX2_countHandled 54 = .ok (.iload 4, 2) := by decide +kernel
theorem dX2_countHandled_56 : decode cX2_countHandled 56 = .ok (.ireturn, 1) := by decide +kernel
theorem dX2_deliveredAt_0 : decode cX2_deliveredAt 0 = .ok (.aload_n 0, 1) := by decide +kernel
theorem dX2_deliveredAt_1 : decode cX2_deliveredAt 1 = .ok (.getfield 21, 3) := by decide +kernel
theorem dX2_deliveredAt_4 : decode cX2_deliveredAt 4 = .ok (.getfield 84, 3) := by decide +kernel
theorem dX2_deliveredAt_7 : decode cX2_deliveredAt 7 = .ok (.iload_n 1, 1) := by decide +kernel
theorem dX2_deliveredAt_8 : decode cX2_deliveredAt 8 = .ok (.iload_n 2, 1) := by decide +kernel
theorem dX2_deliveredAt_9 : decode cX2_deliveredAt 9 = .ok (.invokestatic 43, 3) := by decide +kernel
theorem dX2_deliveredAt_12 : decode cX2_deliveredAt 12 = .ok (.iaload, 1) := by decide +kernel
theorem dX2_deliveredAt_13 : decode cX2_deliveredAt 13 = .ok (.iconst (-1), 1) := by decide +kernel
theorem dX2_deliveredAt_14 : decode cX2_deliveredAt 14 = .ok (.if_icmp .eq 5, 3) := by decide +kernel
theorem dX2_deliveredAt_17 : decode cX2_deliveredAt 17 = .ok (.lconst 0, 1) := by decide +kernel
theorem dX2_deliveredAt_18 : decode cX2_deliveredAt 18 = .ok (.lreturn, 1) := by decide +kernel
theorem dX2_deliveredAt_19 : decode cX2_deliveredAt 19 = .ok (.aload_n 0, 1) := by decide +kernel
theorem dX2_deliveredAt_20 : decode cX2_deliveredAt 20 = .ok (.getfield 21, 3) := by decide +kernel
theorem dX2_deliveredAt_23 : decode cX2_deliveredAt 23 = .ok (.getfield 53, 3) := by decide +kernel
theorem dX2_deliveredAt_26 : decode cX2_deliveredAt 26 = .ok (.iload_n 1, 1) := by decide +kernel
theorem dX2_deliveredAt_27 : decode cX2_deliveredAt 27 = .ok (.aaload, 1) := by decide +kernel
theorem dX2_deliveredAt_28 : decode cX2_deliveredAt 28 = .ok (.astore_n 3, 1) := by decide +kernel
theorem dX2_deliveredAt_29 : decode cX2_deliveredAt 29 = .ok (.lconst 0, 1) := by decide +kernel
theorem dX2_deliveredAt_30 : decode cX2_deliveredAt 30 = .ok (.lstore 4, 2) := by decide +kernel
theorem dX2_deliveredAt_32 : decode cX2_deliveredAt 32 = .ok (.iconst 0, 1) := by decide +kernel
theorem dX2_deliveredAt_33 : decode cX2_deliveredAt 33 = .ok (.istore 6, 2) := by decide +kernel
theorem dX2_deliveredAt_35 : decode cX2_deliveredAt 35 = .ok (.iload 6, 2) := by decide +kernel
theorem dX2_deliveredAt_37 : decode cX2_deliveredAt 37 = .ok (.aload_n 3, 1) := by decide +kernel
theorem dX2_deliveredAt_38 : decode cX2_deliveredAt 38 = .ok (.getfield 59, 3) := by decide +kernel
theorem dX2_deliveredAt_41 : decode cX2_deliveredAt 41 = .ok (.if_icmp .ge 47, 3) := by decide +kernel
theorem dX2_deliveredAt_44 : decode cX2_deliveredAt 44 = .ok (.aload_n 3, 1) := by decide +kernel
theorem dX2_deliveredAt_45 : decode cX2_deliveredAt 45 = .ok (.getfield 69, 3) := by decide +kernel
theorem dX2_deliveredAt_48 : decode cX2_deliveredAt 48 = .ok (.iload 6, 2) := by decide +kernel
theorem dX2_deliveredAt_50 : decode cX2_deliveredAt 50 = .ok (.aaload, 1) := by decide +kernel
theorem dX2_deliveredAt_51 : decode cX2_deliveredAt 51 = .ok (.astore 7, 2) := by decide +kernel
theorem dX2_deliveredAt_53 : decode cX2_deliveredAt 53 = .ok (.aload 7, 2) := by decide +kernel
theorem dX2_deliveredAt_55 : decode cX2_deliveredAt 55 = .ok (.getfield 73, 3) := by decide +kernel
theorem dX2_deliveredAt_58 : decode cX2_deliveredAt 58 = .ok (.iload_n 2, 1) := by decide +kernel
theorem dX2_deliveredAt_59 : decode cX2_deliveredAt 59 = .ok (.invokestatic 88, 3) := by decide +kernel
theorem dX2_deliveredAt_62 : decode cX2_deliveredAt 62 = .ok (.ifCond .eq 20, 3) := by decide +kernel
theorem dX2_deliveredAt_65 : decode cX2_deliveredAt 65 = .ok (.lload 4, 2) := by decide +kernel
theorem dX2_deliveredAt_67 : decode cX2_deliveredAt 67 = .ok (.aload 7, 2) := by decide +kernel
theorem dX2_deliveredAt_69 : decode cX2_deliveredAt 69 = .ok (.aload_n 0, 1) := by decide +kernel
theorem dX2_deliveredAt_70 : decode cX2_deliveredAt 70 = .ok (.iload_n 1, 1) := by decide +kernel
theorem dX2_deliveredAt_71 : decode cX2_deliveredAt 71 = .ok (.iload 6, 2) := by decide +kernel
theorem dX2_deliveredAt_73 : decode cX2_deliveredAt 73 = .ok (.invokevirtual 92, 3) := by decide +kernel
theorem dX2_deliveredAt_76 : decode cX2_deliveredAt 76 = .ok (.invokevirtual 96, 3) := by decide +kernel
theorem dX2_deliveredAt_79 : decode cX2_deliveredAt 79 = .ok (.lor, 1) := by decide +kernel
theorem dX2_deliveredAt_80 : decode cX2_deliveredAt 80 = .ok (.lstore 4, 2) := by decide +kernel
theorem dX2_deliveredAt_82 : decode cX2_deliveredAt 82 = .ok (.iinc 6 1, 3) := by decide +kernel
theorem dX2_deliveredAt_85 : decode cX2_deliveredAt 85 = .ok (.goto (-50), 3) := by decide +kernel
theorem dX2_deliveredAt_88 : decode cX2_deliveredAt 88 = .ok (.lload 4, 2) := by decide +kernel
theorem dX2_deliveredAt_90 : decode cX2_deliveredAt 90 = .ok (.lreturn, 1) := by decide +kernel
theorem dX2_allHandled_0 : decode cX2_allHandled 0 = .ok (.aload_n 0, 1) := by decide +kernel
theorem dX2_allHandled_1 : decode cX2_allHandled 1 = .ok (.getfield 21, 3) := by decide +kernel
theorem dX2_allHandled_4 : decode cX2_allHandled 4 = .ok (.getfield 53, 3) := by decide +kernel
theorem dX2_allHandled_7 : decode cX2_allHandled 7 = .ok (.iload_n 1, 1) := by decide +kernel
theorem dX2_allHandled_8 : decode cX2_allHandled 8 = .ok (.aaload, 1) := by decide +kernel
theorem dX2_allHandled_9 : decode cX2_allHandled 9 = .ok (.astore_n 3, 1) := by decide +kernel
theorem dX2_allHandled_10 : decode cX2_allHandled 10 = .ok (.lconst 0, 1) := by decide +kernel
theorem dX2_allHandled_11 : decode cX2_allHandled 11 = .ok (.lstore 4, 2) := by decide +kernel
theorem dX2_allHandled_13 : decode cX2_allHandled 13 = .ok (.iconst 0, 1) := by decide +kernel
theorem dX2_allHandled_14 : decode cX2_allHandled 14 = .ok (.istore 6, 2) := by decide +kernel
theorem dX2_allHandled_16 : decode cX2_allHandled 16 = .ok (.iload 6, 2) := by decide +kernel
theorem dX2_allHandled_18 : decode cX2_allHandled 18 = .ok (.iconst 4, 1) := by decide +kernel
theorem dX2_allHandled_19 : decode cX2_allHandled 19 = .ok (.if_icmp .ge 32, 3) := by decide +kernel
theorem dX2_allHandled_22 : decode cX2_allHandled 22 = .ok (.lload 4, 2) := by decide +kernel
theorem dX2_allHandled_24 : decode cX2_allHandled 24 = .ok (.aload_n 3, 1) := by decide +kernel
theorem dX2_allHandled_25 : decode cX2_allHandled 25 = .ok (.iload_n 2, 1) := by decide +kernel
theorem dX2_allHandled_26 : decode cX2_allHandled 26 = .ok (.iload 6, 2) := by decide +kernel
theorem dX2_allHandled_28 : decode cX2_allHandled 28 = .ok (.aload_n 0, 1) := by decide +kernel
theorem dX2_allHandled_29 : decode cX2_allHandled 29 = .ok (.getfield 9, 3) := by decide +kernel
theorem dX2_allHandled_32 : decode cX2_allHandled 32 = .ok (.iload_n 1, 1) := by decide +kernel
theorem dX2_allHandled_33 : decode cX2_allHandled 33 = .ok (.iload 6, 2) := by decide +kernel
theorem dX2_allHandled_35 : decode cX2_allHandled 35 = .ok (.invokestatic 43, 3) := by decide +kernel
theorem dX2_allHandled_38 : decode cX2_allHandled 38 = .ok (.laload, 1) := by decide +kernel
theorem dX2_allHandled_39 : decode cX2_allHandled 39 = .ok (.invokevirtual 81, 3) := by decide +kernel
theorem dX2_allHandled_42 : decode cX2_allHandled 42 = .ok (.lor, 1) := by decide +kernel
theorem dX2_allHandled_43 : decode cX2_allHandled 43 = .ok (.lstore 4, 2) := by decide +kernel
theorem dX2_allHandled_45 : decode cX2_allHandled 45 = .ok (.iinc 6 1, 3) := by decide +kernel
theorem dX2_allHandled_48 : decode cX2_allHandled 48 = .ok (.goto (-32), 3) := by decide +kernel
theorem dX2_allHandled_51 : decode cX2_allHandled 51 = .ok (.lload 4, 2) := by decide +kernel
theorem dX2_allHandled_53 : decode cX2_allHandled 53 = .ok (.lreturn, 1) := by decide +kernel
theorem dX2_forget_0 : decode cX2_forget 0 = .ok (.aload_n 0, 1) := by decide +kernel
theorem dX2_forget_1 : decode cX2_forget 1 = .ok (.getfield 9, 3) := by decide +kernel
theorem dX2_forget_4 : decode cX2_forget 4 = .ok (.lconst 0, 1) := by decide +kernel
theorem dX2_forget_5 : decode cX2_forget 5 = .ok (.invokestatic 100, 3) := by decide +kernel
theorem dX2_forget_8 : decode cX2_forget 8 = .ok (.aload_n 0, 1) := by decide +kernel
theorem dX2_forget_9 : decode cX2_forget 9 = .ok (.getfield 15, 3) := by decide +kernel
theorem dX2_forget_12 : decode cX2_forget 12 = .ok (.lconst 0, 1) := by decide +kernel
theorem dX2_forget_13 : decode cX2_forget 13 = .ok (.invokestatic 100, 3) := by decide +kernel
theorem dX2_forget_16 : decode cX2_forget 16 = .ok (.aload_n 0, 1) := by decide +kernel
theorem dX2_forget_17 : decode cX2_forget 17 = .ok (.getfield 18, 3) := by decide +kernel
theorem dX2_forget_20 : decode cX2_forget 20 = .ok (.lconst 0, 1) := by decide +kernel
theorem dX2_forget_21 : decode cX2_forget 21 = .ok (.invokestatic 100, 3) := by decide +kernel
theorem dX2_forget_24 : decode cX2_forget 24 = .ok (.return_, 1) := by decide +kernel
theorem dX2_enter_0 : decode cX2_enter 0 = .ok (.aload_n 0, 1) := by decide +kernel
theorem dX2_enter_1 : decode cX2_enter 1 = .ok (.getfield 15, 3) := by decide +kernel
theorem dX2_enter_4 : decode cX2_enter 4 = .ok (.iload_n 1, 1) := by decide +kernel
theorem dX2_enter_5 : decode cX2_enter 5 = .ok (.lload_n 2, 1) := by decide +kernel
theorem dX2_enter_6 : decode cX2_enter 6 = .ok (.aload_n 0, 1) := by decide +kernel
theorem dX2_enter_7 : decode cX2_enter 7 = .ok (.getfield 9, 3) := by decide +kernel
theorem dX2_enter_10 : decode cX2_enter 10 = .ok (.iload_n 1, 1) := by decide +kernel
theorem dX2_enter_11 : decode cX2_enter 11 = .ok (.laload, 1) := by decide +kernel
theorem dX2_enter_12 : decode cX2_enter 12 = .ok (.ldc2_w 106, 3) := by decide +kernel
theorem dX2_enter_15 : decode cX2_enter 15 = .ok (.lxor, 1) := by decide +kernel
theorem dX2_enter_16 : decode cX2_enter 16 = .ok (.land, 1) := by decide +kernel
theorem dX2_enter_17 : decode cX2_enter 17 = .ok (.lastore, 1) := by decide +kernel
theorem dX2_enter_18 : decode cX2_enter 18 = .ok (.aload_n 0, 1) := by decide +kernel
theorem dX2_enter_19 : decode cX2_enter 19 = .ok (.getfield 9, 3) := by decide +kernel
theorem dX2_enter_22 : decode cX2_enter 22 = .ok (.iload_n 1, 1) := by decide +kernel
theorem dX2_enter_23 : decode cX2_enter 23 = .ok (.dup2, 1) := by decide +kernel
theorem dX2_enter_24 : decode cX2_enter 24 = .ok (.laload, 1) := by decide +kernel
theorem dX2_enter_25 : decode cX2_enter 25 = .ok (.lload_n 2, 1) := by decide +kernel
theorem dX2_enter_26 : decode cX2_enter 26 = .ok (.lor, 1) := by decide +kernel
theorem dX2_enter_27 : decode cX2_enter 27 = .ok (.lastore, 1) := by decide +kernel
theorem dX2_enter_28 : decode cX2_enter 28 = .ok (.return_, 1) := by decide +kernel
theorem dX2_spread_0 : decode cX2_spread 0 = .ok (.iconst 1, 1) := by decide +kernel
theorem dX2_spread_1 : decode cX2_spread 1 = .ok (.istore_n 1, 1) := by decide +kernel
theorem dX2_spread_2 : decode cX2_spread 2 = .ok (.iconst 0, 1) := by decide +kernel
theorem dX2_spread_3 : decode cX2_spread 3 = .ok (.istore_n 2, 1) := by decide +kernel
theorem dX2_spread_4 : decode cX2_spread 4 = .ok (.iload_n 1, 1) := by decide +kernel
theorem dX2_spread_5 : decode cX2_spread 5 = .ok (.ifCond .eq 21, 3) := by decide +kernel
theorem dX2_spread_8 : decode cX2_spread 8 = .ok (.iload_n 2, 1) := by decide +kernel
theorem dX2_spread_9 : decode cX2_spread 9 = .ok (.sipush 768, 3) := by decide +kernel
theorem dX2_spread_12 : decode cX2_spread 12 = .ok (.if_icmp .gt 14, 3) := by decide +kernel
theorem dX2_spread_15 : decode cX2_spread 15 = .ok (.aload_n 0, 1) := by decide +kernel
theorem dX2_spread_16 : decode cX2_spread 16 = .ok (.invokevirtual 39, 3) := by decide +kernel
theorem dX2_spread_19 : decode cX2_spread 19 = .ok (.istore_n 1, 1) := by decide +kernel
theorem dX2_spread_20 : decode cX2_spread 20 = .ok (.iinc 2 1, 3) := by decide +kernel
theorem dX2_spread_23 : decode cX2_spread 23 = .ok (.goto (-19), 3) := by decide +kernel
theorem dX2_spread_26 : decode cX2_spread 26 = .ok (.return_, 1) := by decide +kernel
theorem dX2_goOneLink_0 : decode cX2_goOneLink 0 = .ok (.iconst 0, 1) := by decide +kernel
theorem dX2_goOneLink_1 : decode cX2_goOneLink 1 = .ok (.istore_n 1, 1) := by decide +kernel
theorem dX2_goOneLink_2 : decode cX2_goOneLink 2 = .ok (.iload_n 1, 1) := by decide +kernel
theorem dX2_goOneLink_3 : decode cX2_goOneLink 3 = .ok (.bipush 24, 2) := by decide +kernel
theorem dX2_goOneLink_5 : decode cX2_goOneLink 5 = .ok (.if_icmp .ge 31, 3) := by decide +kernel
theorem dX2_goOneLink_8 : decode cX2_goOneLink 8 = .ok (.aload_n 0, 1) := by decide +kernel
theorem dX2_goOneLink_9 : decode cX2_goOneLink 9 = .ok (.getfield 15, 3) := by decide +kernel
theorem dX2_goOneLink_12 : decode cX2_goOneLink 12 = .ok (.iload_n 1, 1) := by decide +kernel
theorem dX2_goOneLink_13 : decode cX2_goOneLink 13 = .ok (.laload, 1) := by decide +kernel
theorem dX2_goOneLink_14 : decode cX2_goOneLink 14 = .ok (.lconst 0, 1) := by decide +kernel
theorem dX2_goOneLink_15 : decode cX2_goOneLink 15 = .ok (.lcmp, 1) := by decide +kernel
theorem dX2_goOneLink_16 : decode cX2_goOneLink 16 = .ok (.ifCond .eq 14, 3) := by decide +kernel
theorem dX2_goOneLink_19 : decode cX2_goOneLink 19 = .ok (.aload_n 0, 1) := by decide +kernel
theorem dX2_goOneLink_20 : decode cX2_goOneLink 20 = .ok (.iload_n 1, 1) := by decide +kernel
theorem dX2_goOneLink_21 : decode cX2_goOneLink 21 = .ok (.aload_n 0, 1) := by decide +kernel
theorem dX2_goOneLink_22 : decode cX2_goOneLink 22 = .ok (.getfield 15, 3) := by decide +kernel
theorem dX2_goOneLink_25 : decode cX2_goOneLink 25 = .ok (.iload_n 1, 1) := by decide +kernel
theorem dX2_goOneLink_26 : decode cX2_goOneLink 26 = .ok (.laload, 1) := by decide +kernel
theorem dX2_goOneLink_27 : decode cX2_goOneLink 27 = .ok (.invokevirtual 108, 3) := by decide +kernel
theorem dX2_goOneLink_30 : decode cX2_goOneLink 30 = .ok (.iinc 1 1, 3) := by decide +kernel
theorem dX2_goOneLink_33 : decode cX2_goOneLink 33 = .ok (.goto (-31), 3) := by decide +kernel
theorem dX2_goOneLink_36 : decode cX2_goOneLink 36 = .ok (.iconst 0, 1) := by decide +kernel
theorem dX2_goOneLink_37 : decode cX2_goOneLink 37 = .ok (.istore_n 1, 1) := by decide +kernel
theorem dX2_goOneLink_38 : decode cX2_goOneLink 38 = .ok (.iconst 0, 1) := by decide +kernel
theorem dX2_goOneLink_39 : decode cX2_goOneLink 39 = .ok (.istore_n 2, 1) := by decide +kernel
theorem dX2_goOneLink_40 : decode cX2_goOneLink 40 = .ok (.iload_n 2, 1) := by decide +kernel
theorem dX2_goOneLink_41 : decode cX2_goOneLink 41 = .ok (.bipush 24, 2) := by decide +kernel
theorem dX2_goOneLink_43 : decode cX2_goOneLink 43 = .ok (.if_icmp .ge 64, 3) := by decide +kernel
theorem dX2_goOneLink_46 : decode cX2_goOneLink 46 = .ok (.aload_n 0, 1) := by decide +kernel
theorem dX2_goOneLink_47 : decode cX2_goOneLink 47 = .ok (.getfield 15, 3) := by decide +kernel
theorem dX2_goOneLink_50 : decode cX2_goOneLink 50 = .ok (.iload_n 2, 1) := by decide +kernel
theorem dX2_goOneLink_51 : decode cX2_goOneLink 51 = .ok (.aload_n 0, 1) := by decide +kernel
theorem dX2_goOneLink_52 : decode cX2_goOneLink 52 = .ok (.getfield 18, 3) := by decide +kernel
theorem dX2_goOneLink_55 : decode cX2_goOneLink 55 = .ok (.iload_n 2, 1) := by decide +kernel
theorem dX2_goOneLink_56 : decode cX2_goOneLink 56 = .ok (.laload, 1) := by decide +kernel
theorem dX2_goOneLink_57 : decode cX2_goOneLink 57 = .ok (.lastore, 1) := by decide +kernel
theorem dX2_goOneLink_58 : decode cX2_goOneLink 58 = .ok (.aload_n 0, 1) := by decide +kernel
theorem dX2_goOneLink_59 : decode cX2_goOneLink 59 = .ok (.getfield 9, 3) := by decide +kernel
theorem dX2_goOneLink_62 : decode cX2_goOneLink 62 = .ok (.iload_n 2, 1) := by decide +kernel
theorem dX2_goOneLink_63 : decode cX2_goOneLink 63 = .ok (.dup2, 1) := by decide +kernel
theorem dX2_goOneLink_64 : decode cX2_goOneLink 64 = .ok (.laload, 1) := by decide +kernel
theorem dX2_goOneLink_65 : decode cX2_goOneLink 65 = .ok (.aload_n 0, 1) := by decide +kernel
theorem dX2_goOneLink_66 : decode cX2_goOneLink 66 = .ok (.getfield 18, 3) := by decide +kernel
theorem dX2_goOneLink_69 : decode cX2_goOneLink 69 = .ok (.iload_n 2, 1) := by decide +kernel
theorem dX2_goOneLink_70 : decode cX2_goOneLink 70 = .ok (.laload, 1) := by decide +kernel
theorem dX2_goOneLink_71 : decode cX2_goOneLink 71 = .ok (.lor, 1) := by decide +kernel
theorem dX2_goOneLink_72 : decode cX2_goOneLink 72 = .ok (.lastore, 1) := by decide +kernel
theorem dX2_goOneLink_73 : decode cX2_goOneLink 73 = .ok (.iload_n 1, 1) := by decide +kernel
theorem dX2_goOneLink_74 : decode cX2_goOneLink 74 = .ok (.ifCond .ne 14, 3) := by decide +kernel
theorem dX2_goOneLink_77 : decode cX2_goOneLink 77 = .ok (.aload_n 0, 1) := by decide +kernel
theorem dX2_goOneLink_78 : decode cX2_goOneLink 78 = .ok (.getfield 18, 3) := by decide +kernel
theorem dX2_goOneLink_81 : decode cX2_goOneLink 81 = .ok (.iload_n 2, 1) := by decide +kernel
theorem dX2_goOneLink_82 : decode cX2_goOneLink 82 = .ok (.laload, 1) := by decide +kernel
theorem dX2_goOneLink_83 : decode cX2_goOneLink 83 = .ok (.lconst 0, 1) := by decide +kernel
theorem dX2_goOneLink_84 : decode cX2_goOneLink 84 = .ok (.lcmp, 1) := by decide +kernel
theorem dX2_goOneLink_85 : decode cX2_goOneLink 85 = .ok (.ifCond .eq 7, 3) := by decide +kernel
theorem dX2_goOneLink_88 : decode cX2_goOneLink 88 = .ok (.iconst 1, 1) := by decide +kernel
theorem dX2_goOneLink_89 : decode cX2_goOneLink 89 = .ok (.goto 4, 3) := by decide +kernel
theorem dX2_goOneLink_92 : decode cX2_goOneLink 92 = .ok (.iconst 0, 1) := by decide +kernel
theorem dX2_goOneLink_93 : decode cX2_goOneLink 93 = .ok (.istore_n 1, 1) := by decide +kernel
theorem dX2_goOneLink_94 : decode cX2_goOneLink 94 = .ok (.aload_n 0, 1) := by decide +kernel
theorem dX2_goOneLink_95 : decode cX2_goOneLink 95 = .ok (.getfield 18, 3) := by decide +kernel
theorem dX2_goOneLink_98 : decode cX2_goOneLink 98 = .ok (.iload_n 2, 1) := by decide +kernel
theorem dX2_goOneLink_99 : decode cX2_goOneLink 99 = .ok (.lconst 0, 1) := by decide +kernel
theorem dX2_goOneLink_100 : decode cX2_goOneLink 100 = .ok (.lastore, 1) := by decide +kernel
theorem dX2_goOneLink_101 : decode cX2_goOneLink 101 = .ok (.iinc 2 1, 3) := by decide +kernel
theorem dX2_goOneLink_104 : decode cX2_goOneLink 104 = .ok (.goto (-64), 3) := by decide +kernel
theorem dX2_goOneLink_107 : decode cX2_goOneLink 107 = .ok (.iload_n 1, 1) := by decide +kernel
theorem dX2_goOneLink_108 : decode cX2_goOneLink 108 = .ok (.ireturn, 1) := by decide +kernel
theorem dX2_handle_0 : decode cX2_handle 0 = .ok (.iload_n 1, 1) := by decide +kernel
theorem dX2_handle_1 : decode cX2_handle 1 = .ok (.iconst 4, 1) := by decide +kernel
theorem dX2_handle_2 : decode cX2_handle 2 = .ok (.idiv, 1) := by decide +kernel
theorem dX2_handle_3 : decode cX2_handle 3 = .ok (.istore 4, 2) := by decide +kernel
theorem dX2_handle_5 : decode cX2_handle 5 = .ok (.aload_n 0, 1) := by decide +kernel
theorem dX2_handle_6 : decode cX2_handle 6 = .ok (.getfield 21, 3) := by decide +kernel
theorem dX2_handle_9 : decode cX2_handle 9 = .ok (.getfield 53, 3) := by decide +kernel
theorem dX2_handle_12 : decode cX2_handle 12 = .ok (.iload 4, 2) := by decide +kernel
theorem dX2_handle_14 : decode cX2_handle 14 = .ok (.aaload, 1) := by decide +kernel
theorem dX2_handle_15 : decode cX2_handle 15 = .ok (.astore 5, 2) := by decide +kernel
theorem dX2_handle_17 : decode cX2_handle 17 = .ok (.lload_n 2, 1) := by decide +kernel
theorem dX2_handle_18 : decode cX2_handle 18 = .ok (.lstore 6, 2) := by decide +kernel
theorem dX2_handle_20 : decode cX2_handle 20 = .ok (.iconst 0, 1) := by decide +kernel
theorem dX2_handle_21 : decode cX2_handle 21 = .ok (.istore 8, 2) := by decide +kernel
theorem dX2_handle_23 : decode cX2_handle 23 = .ok (.iload 8, 2) := by decide +kernel
theorem dX2_handle_25 : decode cX2_handle 25 = .ok (.aload 5, 2) := by decide +kernel
theorem dX2_handle_27 : decode cX2_handle 27 = .ok (.getfield 59, 3) := by decide +kernel
theorem dX2_handle_30 : decode cX2_handle 30 = .ok (.if_icmp .ge 74, 3) := by decide +kernel
theorem dX2_handle_33 : decode cX2_handle 33 = .ok (.lload 6, 2) := by decide +kernel
theorem dX2_handle_35 : decode cX2_handle 35 = .ok (.lconst 0, 1) := by decide +kernel
theorem dX2_handle_36 : decode cX2_handle 36 = .ok (.lcmp, 1) := by decide +kernel
theorem dX2_handle_37 : decode cX2_handle 37 = .ok (.ifCond .eq 67, 3) := by decide +kernel
theorem dX2_handle_40 : decode cX2_handle 40 = .ok (.aload 5, 2) := by decide +kernel
theorem dX2_handle_42 : decode cX2_handle 42 = .ok (.getfield 69, 3) := by decide +kernel
theorem dX2_handle_45 : decode cX2_handle 45 = .ok (.iload 8, 2) := by decide +kernel
theorem dX2_handle_47 : decode cX2_handle 47 = .ok (.aaload, 1) := by decide +kernel
theorem dX2_handle_48 : decode cX2_handle 48 = .ok (.astore 9, 2) := by decide +kernel
theorem dX2_handle_50 : decode cX2_handle 50 = .ok (.aload 9, 2) := by decide +kernel
theorem dX2_handle_52 : decode cX2_handle 52 = .ok (.iload_n 1, 1) := by decide +kernel
theorem dX2_handle_53 : decode cX2_handle 53 = .ok (.iconst 4, 1) := by decide +kernel
theorem dX2_handle_54 : decode cX2_handle 54 = .ok (.irem, 1) := by decide +kernel
theorem dX2_handle_55 : decode cX2_handle 55 = .ok (.lload 6, 2) := by decide +kernel
theorem dX2_handle_57 : decode cX2_handle 57 = .ok (.invokevirtual 111, 3) := by decide +kernel
theorem dX2_handle_60 : decode cX2_handle 60 = .ok (.lstore 10, 2) := by decide +kernel
theorem dX2_handle_62 : decode cX2_handle 62 = .ok (.lload 10, 2) := by decide +kernel
theorem dX2_handle_64 : decode cX2_handle 64 = .ok (.lconst 0, 1) := by decide +kernel
theorem dX2_handle_65 : decode cX2_handle 65 = .ok (.lcmp, 1) := by decide +kernel
theorem dX2_handle_66 : decode cX2_handle 66 = .ok (.ifCond .eq 32, 3) := by decide +kernel
theorem dX2_handle_69 : decode cX2_handle 69 = .ok (.lload 6, 2) := by decide +kernel
theorem dX2_handle_71 : decode cX2_handle 71 = .ok (.lload 10, 2) := by decide +kernel
theorem dX2_handle_73 : decode cX2_handle 73 = .ok (.ldc2_w 106, 3) := by decide +kernel
theorem dX2_handle_76 : decode cX2_handle 76 = .ok (.lxor, 1) := by decide +kernel
theorem dX2_handle_77 : decode cX2_handle 77 = .ok (.land, 1) := by decide +kernel
theorem dX2_handle_78 : decode cX2_handle 78 = .ok (.lstore 6, 2) := by decide +kernel
theorem dX2_handle_80 : decode cX2_handle 80 = .ok (.aload_n 0, 1) := by decide +kernel
theorem dX2_handle_81 : decode cX2_handle 81 = .ok (.iload 4, 2) := by decide +kernel
theorem dX2_handle_83 : decode cX2_handle 83 = .ok (.aload 9, 2) := by decide +kernel
theorem dX2_handle_85 : decode cX2_handle 85 = .ok (.getfield 73, 3) := by decide +kernel
theorem dX2_handle_88 : decode cX2_handle 88 = .ok (.aload 9, 2) := by decide +kernel
theorem dX2_handle_90 : decode cX2_handle 90 = .ok (.lload 10, 2) := by decide +kernel
theorem dX2_handle_92 : decode cX2_handle 92 = .ok (.invokevirtual 96, 3) := by decide +kernel
theorem dX2_handle_95 : decode cX2_handle 95 = .ok (.invokevirtual 115, 3) := by decide +kernel
theorem dX2_handle_98 : decode cX2_handle 98 = .ok (.iinc 8 1, 3) := by decide +kernel
theorem dX2_handle_101 : decode cX2_handle 101 = .ok (.goto (-78), 3) := by decide +kernel
theorem dX2_handle_104 : decode cX2_handle 104 = .ok (.return_, 1) := by decide +kernel
theorem dX2_sendOut_0 : decode cX2_sendOut 0 = .ok (.iconst 0, 1) := by decide +kernel
theorem dX2_sendOut_1 : decode cX2_sendOut 1 = .ok (.istore 5, 2) := by decide +kernel
theorem dX2_sendOut_3 : decode cX2_sendOut 3 = .ok (.iload 5, 2) := by decide +kernel
theorem dX2_sendOut_5 : decode cX2_sendOut 5 = .ok (.iconst 4, 1) := by decide +kernel
theorem dX2_sendOut_6 : decode cX2_sendOut 6 = .ok (.if_icmp .ge 63, 3) := by decide +kernel
theorem dX2_sendOut_9 : decode cX2_sendOut 9 = .ok (.aload_n 0, 1) := by decide +kernel
theorem dX2_sendOut_10 : decode cX2_sendOut 10 = .ok (.getfield 21, 3) := by decide +kernel
theorem dX2_sendOut_13 : decode cX2_sendOut 13 = .ok (.getfield 84, 3) := by decide +kernel
theorem dX2_sendOut_16 : decode cX2_sendOut 16 = .ok (.iload_n 1, 1) := by decide +kernel
theorem dX2_sendOut_17 : decode cX2_sendOut 17 = .ok (.iload 5, 2) := by decide +kernel
theorem dX2_sendOut_19 : decode cX2_sendOut 19 = .ok (.invokestatic 43, 3) := by decide +kernel
theorem dX2_sendOut_22 : decode cX2_sendOut 22 = .ok (.iaload, 1) := by decide +kernel
theorem dX2_sendOut_23 : decode cX2_sendOut 23 = .ok (.istore 6, 2) := by decide +kernel
theorem dX2_sendOut_25 : decode cX2_sendOut 25 = .ok (.iload_n 2, 1) := by decide +kernel
theorem dX2_sendOut_26 : decode cX2_sendOut 26 = .ok (.iload 5, 2) := by decide +kernel
theorem dX2_sendOut_28 : decode cX2_sendOut 28 = .ok (.invokestatic 88, 3) := by decide +kernel
theorem dX2_sendOut_31 : decode cX2_sendOut 31 = .ok (.ifCond .eq 32, 3) := by decide +kernel
theorem dX2_sendOut_34 : decode cX2_sendOut 34 = .ok (.iload 6, 2) := by decide +kernel
theorem dX2_sendOut_36 : decode cX2_sendOut 36 = .ok (.iconst (-1), 1) := by decide +kernel
theorem dX2_sendOut_37 : decode cX2_sendOut 37 = .ok (.if_icmp .eq 26, 3) := by decide +kernel
theorem dX2_sendOut_40 : decode cX2_sendOut 40 = .ok (.aload_n 0, 1) := by decide +kernel
theorem dX2_sendOut_41 : decode cX2_sendOut 41 = .ok (.getfield 18, 3) := by decide +kernel
theorem dX2_sendOut_44 : decode cX2_sendOut 44 = .ok (.iload 6, 2) := by decide +kernel
theorem dX2_sendOut_46 : decode cX2_sendOut 46 = .ok (.dup2, 1) := by decide +kernel
theorem dX2_sendOut_47 : decode cX2_sendOut 47 = .ok (.laload, 1) := by decide +kernel
theorem dX2_sendOut_48 : decode cX2_sendOut 48 = .ok (.lload_n 3, 1) := by decide +kernel
theorem dX2_sendOut_49 : decode cX2_sendOut 49 = .ok (.aload_n 0, 1) := by decide +kernel
theorem dX2_sendOut_50 : decode cX2_sendOut 50 = .ok (.getfield 9, 3) := by decide +kernel
theorem dX2_sendOut_53 : decode cX2_sendOut 53 = .ok (.iload 6, 2) := by decide +kernel
theorem dX2_sendOut_55 : decode cX2_sendOut 55 = .ok (.laload, 1) := by decide +kernel
theorem dX2_sendOut_56 : decode cX2_sendOut 56 = .ok (.ldc2_w 106, 3) := by decide +kernel
theorem dX2_sendOut_59 : decode cX2_sendOut 59 = .ok (.lxor, 1) := by decide +kernel
theorem dX2_sendOut_60 : decode cX2_sendOut 60 = .ok (.land, 1) := by decide +kernel
theorem dX2_sendOut_61 : decode cX2_sendOut 61 = .ok (.lor, 1) := by decide +kernel
theorem dX2_sendOut_62 : decode cX2_sendOut 62 = .ok (.lastore, 1) := by decide +kernel
theorem dX2_sendOut_63 : decode cX2_sendOut 63 = .ok (.iinc 5 1, 3) := by decide +kernel
theorem dX2_sendOut_66 : decode cX2_sendOut 66 = .ok (.goto (-63), 3) := by decide +kernel
theorem dX2_sendOut_69 : decode cX2_sendOut 69 = .ok (.return_, 1) := by decide +kernel
theorem dX3_init_0 : decode cX3_init 0 = .ok (.aload_n 0, 1) := by decide +kernel
theorem dX3_init_1 : decode cX3_init 1 = .ok (.invokespecial 3, 3) := by decide +kernel
theorem dX3_init_4 : decode cX3_init 4 = .ok (.aload_n 0, 1) := by decide +kernel
theorem dX3_init_5 : decode cX3_init 5 = .ok (.bipush 12, 2) := by decide +kernel
theorem dX3_init_7 : decode cX3_init 7 = .ok (.anewarray 9, 3) := by decide +kernel
theorem dX3_init_10 : decode cX3_init 10 = .ok (.putfield 11, 3) := by decide +kernel
theorem dX3_init_13 : decode cX3_init 13 = .ok (.aload_n 0, 1) := by decide +kernel
theorem dX3_init_14 : decode cX3_init 14 = .ok (.bipush 12, 2) := by decide +kernel
theorem dX3_init_16 : decode cX3_init 16 = .ok (.newarray .int, 2) := by decide +kernel
theorem dX3_init_18 : decode cX3_init 18 = .ok (.putfield 17, 3) := by decide +kernel
theorem dX3_init_21 : decode cX3_init 21 = .ok (.new 21, 3) := by decide +kernel
theorem dX3_init_24 : decode cX3_init 24 = .ok (.dup, 1) := by decide +kernel
theorem dX3_init_25 : decode cX3_init 25 = .ok (.iconst 0, 1) := by decide +kernel
theorem dX3_init_26 : decode cX3_init 26 = .ok (.iconst 0, 1) := by decide +kernel
theorem dX3_init_27 : decode cX3_init 27 = .ok (.iconst 0, 1) := by decide +kernel
theorem dX3_init_28 : decode cX3_init 28 = .ok (.iconst 0, 1) := by decide +kernel
theorem dX3_init_29 : decode cX3_init 29 = .ok (.iconst 0, 1) := by decide +kernel
theorem dX3_init_30 : decode cX3_init 30 = .ok (.iconst 0, 1) := by decide +kernel
theorem dX3_init_31 : decode cX3_init 31 = .ok (.iconst 0, 1) := by decide +kernel
theorem dX3_init_32 : decode cX3_init 32 = .ok (.invokespecial 23, 3) := by decide +kernel
theorem dX3_init_35 : decode cX3_init 35 = .ok (.astore_n 1, 1) := by decide +kernel
theorem dX3_init_36 : decode cX3_init 36 = .ok (.iconst 0, 1) := by decide +kernel
theorem dX3_init_37 : decode cX3_init 37 = .ok (.istore_n 2, 1) := by decide +kernel
theorem dX3_init_38 : decode cX3_init 38 = .ok (.iload_n 2, 1) := by decide +kernel
theorem dX3_init_39 : decode cX3_init 39 = .ok (.bipush 12, 2) := by decide +kernel
theorem dX3_init_41 : decode cX3_init 41 = .ok (.if_icmp .ge 23, 3) := by decide +kernel
theorem dX3_init_44 : decode cX3_init 44 = .ok (.aload_n 0, 1) := by decide +kernel
theorem dX3_init_45 : decode cX3_init 45 = .ok (.getfield 11, 3) := by decide +kernel
theorem dX3_init_48 : decode cX3_init 48 = .ok (.iload_n 2, 1) := by decide +kernel
theorem dX3_init_49 : decode cX3_init 49 = .ok (.new 9, 3) := by decide +kernel
theorem dX3_init_52 : decode cX3_init 52 = .ok (.dup, 1) := by decide +kernel
theorem dX3_init_53 : decode cX3_init 53 = .ok (.aload_n 1, 1) := by decide +kernel
theorem dX3_init_54 : decode cX3_init 54 = .ok (.invokespecial 26, 3) := by decide +kernel
theorem dX3_init_57 : decode cX3_init 57 = .ok (.aastore, 1) := by decide +kernel
theorem dX3_init_58 : decode cX3_init 58 = .ok (.iinc 2 1, 3) := by decide +kernel
theorem dX3_init_61 : decode cX3_init 61 = .ok (.goto (-23), 3) := by decide +kernel
theorem dX3_init_64 : decode cX3_init 64 = .ok (.return_, 1) := by decide +kernel
theorem dX3_keep_0 : decode cX3_keep 0 = .ok (.aload_n 0, 1) := by decide +kernel
theorem dX3_keep_1 : decode cX3_keep 1 = .ok (.getfield 11, 3) := by decide +kernel
theorem dX3_keep_4 : decode cX3_keep 4 = .ok (.aload_n 0, 1) := by decide +kernel
theorem dX3_keep_5 : decode cX3_keep 5 = .ok (.getfield 29, 3) := by decide +kernel
theorem dX3_keep_8 : decode cX3_keep 8 = .ok (.aaload, 1) := by decide +kernel
theorem dX3_keep_9 : decode cX3_keep 9 = .ok (.aload_n 2, 1) := by decide +kernel
theorem dX3_keep_10 : decode cX3_keep 10 = .ok (.invokevirtual 33, 3) := by decide +kernel
theorem dX3_keep_13 : decode cX3_keep 13 = .ok (.aload_n 0, 1) := by decide +kernel
theorem dX3_keep_14 : decode cX3_keep 14 = .ok (.getfield 17, 3) := by decide +kernel
theorem dX3_keep_17 : decode cX3_keep 17 = .ok (.aload_n 0, 1) := by decide +kernel
theorem dX3_keep_18 : decode cX3_keep 18 = .ok (.getfield 29, 3) := by decide +kernel
theorem dX3_keep_21 : decode cX3_keep 21 = .ok (.iload_n 1, 1) := by decide +kernel
theorem dX3_keep_22 : decode cX3_keep 22 = .ok (.iastore, 1) := by decide +kernel
theorem dX3_keep_23 : decode cX3_keep 23 = .ok (.aload_n 0, 1) := by decide +kernel
theorem dX3_keep_24 : decode cX3_keep 24 = .ok (.aload_n 0, 1) := by decide +kernel
theorem dX3_keep_25 : decode cX3_keep 25 = .ok (.getfield 29, 3) := by decide +kernel
theorem dX3_keep_28 : decode cX3_keep 28 = .ok (.iconst 1, 1) := by decide +kernel
theorem dX3_keep_29 : decode cX3_keep 29 = .ok (.iadd, 1) := by decide +kernel
theorem dX3_keep_30 : decode cX3_keep 30 = .ok (.bipush 12, 2) := by decide +kernel
theorem dX3_keep_32 : decode cX3_keep 32 = .ok (.irem, 1) := by decide +kernel
theorem dX3_keep_33 : decode cX3_keep 33 = .ok (.putfield 29, 3) := by decide +kernel
theorem dX3_keep_36 : decode cX3_keep 36 = .ok (.aload_n 0, 1) := by decide +kernel
theorem dX3_keep_37 : decode cX3_keep 37 = .ok (.aload_n 0, 1) := by decide +kernel
theorem dX3_keep_38 : decode cX3_keep 38 = .ok (.getfield 37, 3) := by decide +kernel
theorem dX3_keep_41 : decode cX3_keep 41 = .ok (.iconst 1, 1) := by decide +kernel
theorem dX3_keep_42 : decode cX3_keep 42 = .ok (.iadd, 1) := by decide +kernel
theorem dX3_keep_43 : decode cX3_keep 43 = .ok (.bipush 12, 2) := by decide +kernel
theorem dX3_keep_45 : decode cX3_keep 45 = .ok (.invokestatic 40, 3) := by decide +kernel
theorem dX3_keep_48 : decode cX3_keep 48 = .ok (.putfield 37, 3) := by decide +kernel
theorem dX3_keep_51 : decode cX3_keep 51 = .ok (.return_, 1) := by decide +kernel
theorem dX3_takeBack_0 : decode cX3_takeBack 0 = .ok (.aload_n 0, 1) := by decide +kernel
theorem dX3_takeBack_1 : decode cX3_takeBack 1 = .ok (.aload_n 0, 1) := by decide +kernel
theorem dX3_takeBack_2 : decode cX3_takeBack 2 = .ok (.getfield 29, 3) := by decide +kernel
theorem dX3_takeBack_5 : decode cX3_takeBack 5 = .ok (.bipush 12, 2) := by decide +kernel
theorem dX3_takeBack_7 : decode cX3_takeBack 7 = .ok (.iadd, 1) := by decide +kernel
theorem dX3_takeBack_8 : decode cX3_takeBack 8 = .ok (.iconst 1, 1) := by decide +kernel
theorem dX3_takeBack_9 : decode cX3_takeBack 9 = .ok (.isub, 1) := by decide +kernel
theorem dX3_takeBack_10 : decode cX3_takeBack 10 = .ok (.bipush 12, 2) := by decide +kernel
theorem dX3_takeBack_12 : decode cX3_takeBack 12 = .ok (.irem, 1) := by decide +kernel
theorem dX3_takeBack_13 : decode cX3_takeBack 13 = .ok (.putfield 29, 3) := by decide +kernel
theorem dX3_takeBack_16 : decode cX3_takeBack 16 = .ok (.aload_n 0, 1) := by decide +kernel
theorem dX3_takeBack_17 : decode cX3_takeBack 17 = .ok (.dup, 1) := by decide +kernel
theorem dX3_takeBack_18 : decode cX3_takeBack 18 = .ok (.getfield 37, 3) := by decide +kernel
theorem dX3_takeBack_21 : decode cX3_takeBack 21 = .ok (.iconst 1, 1) := by decide +kernel
theorem dX3_takeBack_22 : decode cX3_takeBack 22 = .ok (.isub, 1) := by decide +kernel
theorem dX3_takeBack_23 : decode cX3_takeBack 23 = .ok (.putfield 37, 3) := by decide +kernel
theorem dX3_takeBack_26 : decode cX3_takeBack 26 = .ok (.aload_n 1, 1) := by decide +kernel
theorem dX3_takeBack_27 : decode cX3_takeBack 27 = .ok (.getfield 46, 3) := by decide +kernel
theorem dX3_takeBack_30 : decode cX3_takeBack 30 = .ok (.aload_n 0, 1) := by decide +kernel
theorem dX3_takeBack_31 : decode cX3_takeBack 31 = .ok (.getfield 17, 3) := by decide +kernel
theorem dX3_takeBack_34 : decode cX3_takeBack 34 = .ok (.aload_n 0, 1) := by decide +kernel
theorem dX3_takeBack_35 : decode cX3_takeBack 35 = .ok (.getfield 29, 3) := by decide +kernel
theorem dX3_takeBack_38 : decode cX3_takeBack 38 = .ok (.iaload, 1) := by decide +kernel
theorem dX3_takeBack_39 : decode cX3_takeBack 39 = .ok (.aaload, 1) := by decide +kernel
theorem dX3_takeBack_40 : decode cX3_takeBack 40 = .ok (.aload_n 0, 1) := by decide +kernel
theorem dX3_takeBack_41 : decode cX3_takeBack 41 = .ok (.getfield 11, 3) := by decide +kernel
theorem dX3_takeBack_44 : decode cX3_takeBack 44 = .ok (.aload_n 0, 1) := by decide +kernel
theorem dX3_takeBack_45 : decode cX3_takeBack 45 = .ok (.getfield 29, 3) := by decide +kernel
theorem dX3_takeBack_48 : decode cX3_takeBack 48 = .ok (.aaload, 1) := by decide +kernel
theorem dX3_takeBack_49 : decode cX3_takeBack 49 = .ok (.invokevirtual 33, 3) := by decide +kernel
theorem dX3_takeBack_52 : decode cX3_takeBack 52 = .ok (.return_, 1) := by decide +kernel
theorem dX4_init_0 : decode cX4_init 0 = .ok (.aload_n 0, 1) := by decide +kernel
theorem dX4_init_1 : decode cX4_init 1 = .ok (.invokespecial 3, 3) := by decide +kernel
theorem dX4_init_4 : decode cX4_init 4 = .ok (.aload_n 0, 1) := by decide +kernel
theorem dX4_init_5 : decode cX4_init 5 = .ok (.bipush 24, 2) := by decide +kernel
theorem dX4_init_7 : decode cX4_init 7 = .ok (.newarray .int, 2) := by decide +kernel
theorem dX4_init_9 : decode cX4_init 9 = .ok (.putfield 9, 3) := by decide +kernel
theorem dX4_init_12 : decode cX4_init 12 = .ok (.aload_n 0, 1) := by decide +kernel
theorem dX4_init_13 : decode cX4_init 13 = .ok (.bipush 6, 2) := by decide +kernel
theorem dX4_init_15 : decode cX4_init 15 = .ok (.anewarray 15, 3) := by decide +kernel
theorem dX4_init_18 : decode cX4_init 18 = .ok (.putfield 17, 3) := by decide +kernel
theorem dX4_init_21 : decode cX4_init 21 = .ok (.new 21, 3) := by decide +kernel
theorem dX4_init_24 : decode cX4_init 24 = .ok (.dup, 1) := by decide +kernel
theorem dX4_init_25 : decode cX4_init 25 = .ok (.iconst 0, 1) := by decide +kernel
theorem dX4_init_26 : decode cX4_init 26 = .ok (.iconst 0, 1) := by decide +kernel
theorem dX4_init_27 : decode cX4_init 27 = .ok (.iconst 0, 1) := by decide +kernel
theorem dX4_init_28 : decode cX4_init 28 = .ok (.iconst 0, 1) := by decide +kernel
theorem dX4_init_29 : decode cX4_init 29 = .ok (.iconst 0, 1) := by decide +kernel
theorem dX4_init_30 : decode cX4_init 30 = .ok (.iconst 0, 1) := by decide +kernel
theorem dX4_init_31 : decode cX4_init 31 = .ok (.iconst 0, 1) := by decide +kernel
theorem dX4_init_32 : decode cX4_init 32 = .ok (.invokespecial 23, 3) := by decide +kernel
theorem dX4_init_35 : decode cX4_init 35 = .ok (.astore_n 1, 1) := by decide +kernel
theorem dX4_init_36 : decode cX4_init 36 = .ok (.iconst 0, 1) := by decide +kernel
theorem dX4_init_37 : decode cX4_init 37 = .ok (.istore_n 2, 1) := by decide +kernel
theorem dX4_init_38 : decode cX4_init 38 = .ok (.iload_n 2, 1) := by decide +kernel
theorem dX4_init_39 : decode cX4_init 39 = .ok (.bipush 6, 2) := by decide +kernel
theorem dX4_init_41 : decode cX4_init 41 = .ok (.if_icmp .ge 23, 3) := by decide +kernel
theorem dX4_init_44 : decode cX4_init 44 = .ok (.aload_n 0, 1) := by decide +kernel
theorem dX4_init_45 : decode cX4_init 45 = .ok (.getfield 17, 3) := by decide +kernel
theorem dX4_init_48 : decode cX4_init 48 = .ok (.iload_n 2, 1) := by decide +kernel
theorem dX4_init_49 : decode cX4_init 49 = .ok (.new 15, 3) := by decide +kernel
theorem dX4_init_52 : decode cX4_init 52 = .ok (.dup, 1) := by decide +kernel
theorem dX4_init_53 : decode cX4_init 53 = .ok (.aload_n 1, 1) := by decide +kernel
theorem dX4_init_54 : decode cX4_init 54 = .ok (.invokespecial 26, 3) := by decide +kernel
theorem dX4_init_57 : decode cX4_init 57 = .ok (.aastore, 1) := by decide +kernel
theorem dX4_init_58 : decode cX4_init 58 = .ok (.iinc 2 1, 3) := by decide +kernel
theorem dX4_init_61 : decode cX4_init 61 = .ok (.goto (-23), 3) := by decide +kernel
theorem dX4_init_64 : decode cX4_init 64 = .ok (.aload_n 0, 1) := by decide +kernel
theorem dX4_init_65 : decode cX4_init 65 = .ok (.iconst 4, 1) := by decide +kernel
theorem dX4_init_66 : decode cX4_init 66 = .ok (.invokevirtual 29, 3) := by decide +kernel
theorem dX4_init_69 : decode cX4_init 69 = .ok (.return_, 1) := by decide +kernel
theorem dX4_startAnew_0 : decode cX4_startAnew 0 = .ok (.aload_n 0, 1) := by decide +kernel
theorem dX4_startAnew_1 : decode cX4_startAnew 1 = .ok (.iload_n 1, 1) := by decide +kernel
theorem dX4_startAnew_2 : decode cX4_startAnew 2 = .ok (.putfield 33, 3) := by decide +kernel
theorem dX4_startAnew_5 : decode cX4_startAnew 5 = .ok (.aload_n 0, 1) := by decide +kernel
theorem dX4_startAnew_6 : decode cX4_startAnew 6 = .ok (.iconst 0, 1) := by decide +kernel
theorem dX4_startAnew_7 : decode cX4_startAnew 7 = .ok (.putfield 37, 3) := by decide +kernel
theorem dX4_startAnew_10 : decode cX4_startAnew 10 = .ok (.aload_n 0, 1) := by decide +kernel
theorem dX4_startAnew_11 : decode cX4_startAnew 11 = .ok (.getfield 9, 3) := by decide +kernel
theorem dX4_startAnew_14 : decode cX4_startAnew 14 = .ok (.iconst (-1), 1) := by decide +kernel
theorem dX4_startAnew_15 : decode cX4_startAnew 15 = .ok (.invokestatic 40, 3) := by decide +kernel
theorem dX4_startAnew_18 : decode cX4_startAnew 18 = .ok (.iconst 0, 1) := by decide +kernel
theorem dX4_startAnew_19 : decode cX4_startAnew 19 = .ok (.istore_n 2, 1) := by decide +kernel
theorem dX4_startAnew_20 : decode cX4_startAnew 20 = .ok (.iload_n 2, 1) := by decide +kernel
theorem dX4_startAnew_21 : decode cX4_startAnew 21 = .ok (.bipush 6, 2) := by decide +kernel
theorem dX4_startAnew_23 : decode cX4_startAnew 23 = .ok (.if_icmp .ge 19, 3) := by decide +kernel
theorem dX4_startAnew_26 : decode cX4_startAnew 26 = .ok (.aload_n 0, 1) := by decide +kernel
theorem dX4_startAnew_27 : decode cX4_startAnew 27 = .ok (.getfield 17, 3) := by decide +kernel
theorem dX4_startAnew_30 : decode cX4_startAnew 30 = .ok (.iload_n 2, 1) := by decide +kernel
theorem dX4_startAnew_31 : decode cX4_startAnew 31 = .ok (.aaload, 1) := by decide +kernel
theorem dX4_startAnew_32 : decode cX4_startAnew 32 = .ok (.iconst 0, 1) := by decide +kernel
theorem dX4_startAnew_33 : decode cX4_startAnew 33 = .ok (.putfield 46, 3) := by decide +kernel
theorem dX4_startAnew_36 : decode cX4_startAnew 36 = .ok (.iinc 2 1, 3) := by decide +kernel
theorem dX4_startAnew_39 : decode cX4_startAnew 39 = .ok (.goto (-19), 3) := by decide +kernel
theorem dX4_startAnew_42 : decode cX4_startAnew 42 = .ok (.return_, 1) := by decide +kernel
theorem dX4_allHeaders_0 : decode cX4_allHeaders 0 = .ok (.lconst 1, 1) := by decide +kernel
theorem dX4_allHeaders_1 : decode cX4_allHeaders 1 = .ok (.iconst 1, 1) := by decide +kernel
theorem dX4_allHeaders_2 : decode cX4_allHeaders 2 = .ok (.aload_n 0, 1) := by decide +kernel
theorem dX4_allHeaders_3 : decode cX4_allHeaders 3 = .ok (.getfield 33, 3) := by decide +kernel
theorem dX4_allHeaders_6 : decode cX4_allHeaders 6 = .ok (.ishl, 1) := by decide +kernel
theorem dX4_allHeaders_7 : decode cX4_allHeaders 7 = .ok (.lshl, 1) := by decide +kernel
theorem dX4_allHeaders_8 : decode cX4_allHeaders 8 = .ok (.lconst 1, 1) := by decide +kernel
theorem dX4_allHeaders_9 : decode cX4_allHeaders 9 = .ok (.lsub, 1) := by decide +kernel
theorem dX4_allHeaders_10 : decode cX4_allHeaders 10 = .ok (.lreturn, 1) := by decide +kernel
theorem dX4_isHeader_0 : decode cX4_isHeader 0 = .ok (.iload_n 1, 1) := by decide +kernel
theorem dX4_isHeader_1 : decode cX4_isHeader 1 = .ok (.ifCond .lt 17, 3) := by decide +kernel
theorem dX4_isHeader_4 : decode cX4_isHeader 4 = .ok (.iload_n 1, 1) := by decide +kernel
theorem dX4_isHeader_5 : decode cX4_isHeader 5 = .ok (.iconst 1, 1) := by decide +kernel
theorem dX4_isHeader_6 : decode cX4_isHeader 6 = .ok (.aload_n 0, 1) := by decide +kernel
theorem dX4_isHeader_7 : decode cX4_isHeader 7 = .ok (.getfield 33, 3) := by decide +kernel
theorem dX4_isHeader_10 : decode cX4_isHeader 10 = .ok (.ishl, 1) := by decide +kernel
theorem dX4_isHeader_11 : decode cX4_isHeader 11 = .ok (.if_icmp .ge 7, 3) := by decide +kernel
theorem dX4_isHeader_14 : decode cX4_isHeader 14 = .ok (.iconst 1, 1) := by decide +kernel
theorem dX4_isHeader_15 : decode cX4_isHeader 15 = .ok (.goto 4, 3) := by decide +kernel
theorem dX4_isHeader_18 : decode cX4_isHeader 18 = .ok (.iconst 0, 1) := by decide +kernel
theorem dX4_isHeader_19 : decode cX4_isHeader 19 = .ok (.ireturn, 1) := by decide +kernel
theorem dX4_isCube_0 : decode cX4_isCube 0 = .ok (.aload_n 0, 1) := by decide +kernel
theorem dX4_isCube_1 : decode cX4_isCube 1 = .ok (.iload_n 1, 1) := by decide +kernel
theorem dX4_isCube_2 : decode cX4_isCube 2 = .ok (.invokevirtual 49, 3) := by decide +kernel
theorem dX4_isCube_5 : decode cX4_isCube 5 = .ok (.ifCond .eq 15, 3) := by decide +kernel
theorem dX4_isCube_8 : decode cX4_isCube 8 = .ok (.aload_n 0, 1) := by decide +kernel
theorem dX4_isCube_9 : decode cX4_isCube 9 = .ok (.iload_n 2, 1) := by decide +kernel
theorem dX4_isCube_10 : decode cX4_isCube 10 = .ok (.invokevirtual 49, 3) := by decide +kernel
theorem dX4_isCube_13 : decode cX4_isCube 13 = .ok (.ifCond .eq 7, 3) := by decide +kernel
theorem dX4_isCube_16 : decode cX4_isCube 16 = .ok (.iconst 1, 1) := by decide +kernel
theorem dX4_isCube_17 : decode cX4_isCube 17 = .ok (.goto 4, 3) := by decide +kernel
theorem dX4_isCube_20 : decode cX4_isCube 20 = .ok (.iconst 0, 1) := by decide +kernel
theorem dX4_isCube_21 : decode cX4_isCube 21 = .ok (.ireturn, 1) := by decide +kernel
theorem dX4_countRules_0 : decode cX4_countRules 0 = .ok (.iconst 0, 1) := by decide +kernel
theorem dX4_countRules_1 : decode cX4_countRules 1 = .ok (.istore_n 1, 1) := by decide +kernel
theorem dX4_countRules_2 : decode cX4_countRules 2 = .ok (.iconst 0, 1) := by decide +kernel
theorem dX4_countRules_3 : decode cX4_countRules 3 = .ok (.istore_n 2, 1) := by decide +kernel
theorem dX4_countRules_4 : decode cX4_countRules 4 = .ok (.iload_n 2, 1) := by decide +kernel
theorem dX4_countRules_5 : decode cX4_countRules 5 = .ok (.bipush 6, 2) := by decide +kernel
theorem dX4_countRules_7 : decode cX4_countRules 7 = .ok (.if_icmp .ge 21, 3) := by decide +kernel
theorem dX4_countRules_10 : decode cX4_countRules 10 = .ok (.iload_n 1, 1) := by decide +kernel
theorem dX4_countRules_11 : decode cX4_countRules 11 = .ok (.aload_n 0, 1) := by decide +kernel
theorem dX4_countRules_12 : decode cX4_countRules 12 = .ok (.getfield 17, 3) := by decide +kernel
theorem dX4_countRules_15 : decode cX4_countRules 15 = .ok (.iload_n 2, 1) := by decide +kernel
theorem dX4_countRules_16 : decode cX4_countRules 16 = .ok (.aaload, 1) := by decide +kernel
theorem dX4_countRules_17 : decode cX4_countRules 17 = .ok (.getfield 46, 3) := by decide +kernel
theorem dX4_countRules_20 : decode cX4_countRules 20 = .ok (.iadd, 1) := by decide +kernel
theorem dX4_countRules_21 : decode cX4_countRules 21 = .ok (.istore_n 1, 1) := by decide +kernel
theorem dX4_countRules_22 : decode cX4_countRules 22 = .ok (.iinc 2 1, 3) := by decide +kernel
theorem dX4_countRules_25 : decode cX4_countRules 25 = .ok (.goto (-21), 3) := by decide +kernel
theorem dX4_countRules_28 : decode cX4_countRules 28 = .ok (.iload_n 1, 1) := by decide +kernel
theorem dX4_countRules_29 : decode cX4_countRules 29 = .ok (.ireturn, 1) := by decide +kernel
theorem dX5_init_0 : decode cX5_init 0 = .ok (.aload_n 0, 1) := by decide +kernel
theorem dX5_init_1 : decode cX5_init 1 = .ok (.invokespecial 1, 3) := by decide +kernel
theorem dX5_init_4 : decode cX5_init 4 = .ok (.return_, 1) := by decide +kernel
theorem dX6_init_0 : decode cX6_init 0 = .ok (.aload_n 0, 1) := by decide +kernel
theorem dX6_init_1 : decode cX6_init 1 = .ok (.invokespecial 3, 3) := by decide +kernel
theorem dX6_init_4 : decode cX6_init 4 = .ok (.aload_n 0, 1) := by decide +kernel
theorem dX6_init_5 : decode cX6_init 5 = .ok (.iload_n 1, 1) := by decide +kernel
theorem dX6_init_6 : decode cX6_init 6 = .ok (.putfield 9, 3) := by decide +kernel
theorem dX6_init_9 : decode cX6_init 9 = .ok (.aload_n 0, 1) := by decide +kernel
theorem dX6_init_10 : decode cX6_init 10 = .ok (.iload_n 2, 1) := by decide +kernel
theorem dX6_init_11 : decode cX6_init 11 = .ok (.putfield 15, 3) := by decide +kernel
theorem dX6_init_14 : decode cX6_init 14 = .ok (.aload_n 0, 1) := by decide +kernel
theorem dX6_init_15 : decode cX6_init 15 = .ok (.iload_n 3, 1) := by decide +kernel
theorem dX6_init_16 : decode cX6_init 16 = .ok (.iload_n 2, 1) := by decide +kernel
theorem dX6_init_17 : decode cX6_init 17 = .ok (.iand, 1) := by decide +kernel
theorem dX6_init_18 : decode cX6_init 18 = .ok (.putfield 18, 3) := by decide +kernel
theorem dX6_init_21 : decode cX6_init 21 = .ok (.aload_n 0, 1) := by decide +kernel
theorem dX6_init_22 : decode cX6_init 22 = .ok (.iload 4, 2) := by decide +kernel
theorem dX6_init_24 : decode cX6_init 24 = .ok (.putfield 21, 3) := by decide +kernel
theorem dX6_init_27 : decode cX6_init 27 = .ok (.aload_n 0, 1) := by decide +kernel
theorem dX6_init_28 : decode cX6_init 28 = .ok (.iload 5, 2) := by decide +kernel
theorem dX6_init_30 : decode cX6_init 30 = .ok (.putfield 24, 3) := by decide +kernel
theorem dX6_init_33 : decode cX6_init 33 = .ok (.aload_n 0, 1) := by decide +kernel
theorem dX6_init_34 : decode cX6_init 34 = .ok (.iload 6, 2) := by decide +kernel
theorem dX6_init_36 : decode cX6_init 36 = .ok (.iload 5, 2) := by decide +kernel
theorem dX6_init_38 : decode cX6_init 38 = .ok (.iand, 1) := by decide +kernel
theorem dX6_init_39 : decode cX6_init 39 = .ok (.putfield 27, 3) := by decide +kernel
theorem dX6_init_42 : decode cX6_init 42 = .ok (.aload_n 0, 1) := by decide +kernel
theorem dX6_init_43 : decode cX6_init 43 = .ok (.iload 7, 2) := by decide +kernel
theorem dX6_init_45 : decode cX6_init 45 = .ok (.putfield 30, 3) := by decide +kernel
theorem dX6_init_48 : decode cX6_init 48 = .ok (.aload_n 0, 1) := by decide +kernel
theorem dX6_init_49 : decode cX6_init 49 = .ok (.iload_n 2, 1) := by decide +kernel
theorem dX6_init_50 : decode cX6_init 50 = .ok (.iload_n 3, 1) := by decide +kernel
theorem dX6_init_51 : decode cX6_init 51 = .ok (.invokestatic 34, 3) := by decide +kernel
theorem dX6_init_54 : decode cX6_init 54 = .ok (.putfield 38, 3) := by decide +kernel
theorem dX6_init_57 : decode cX6_init 57 = .ok (.return_, 1) := by decide +kernel
theorem dX6_withRewriting_0 : decode cX6_withRewriting 0 = .ok (.new 10, 3) := by decide +kernel
theorem dX6_withRewriting_3 : decode cX6_withRewriting 3 = .ok (.dup, 1) := by decide +kernel
theorem dX6_withRewriting_4 : decode cX6_withRewriting 4 = .ok (.aload_n 0, 1) := by decide +kernel
theorem dX6_withRewriting_5 : decode cX6_withRewriting 5 = .ok (.getfield 9, 3) := by decide +kernel
theorem dX6_withRewriting_8 : decode cX6_withRewriting 8 = .ok (.aload_n 0, 1) := by decide +kernel
theorem dX6_withRewriting_9 : decode cX6_withRewriting 9 = .ok (.getfield 15, 3) := by decide +kernel
theorem dX6_withRewriting_12 : decode cX6_withRewriting 12 = .ok (.aload_n 0, 1) := by decide +kernel
theorem dX6_withRewriting_13 : decode cX6_withRewriting 13 = .ok (.getfield 18, 3) := by decide +kernel
theorem dX6_withRewriting_16 : decode cX6_withRewriting 16 = .ok (.aload_n 0, 1) := by decide +kernel
theorem dX6_withRewriting_17 : decode cX6_withRewriting 17 = .ok (.getfield 21, 3) := by decide +kernel
theorem dX6_withRewriting_20 : decode cX6_withRewriting 20 = .ok (.iload_n 1, 1) := by decide +kernel
theorem dX6_withRewriting_21 : decode cX6_withRewriting 21 = .ok (.iload_n 2, 1) := by decide +kernel
theorem dX6_withRewriting_22 : decode cX6_withRewriting 22 = .ok (.aload_n 0, 1) := by decide +kernel
theorem dX6_withRewriting_23 : decode cX6_withRewriting 23 = .ok (.getfield 30, 3) := by decide +kernel
theorem dX6_withRewriting_26 : decode cX6_withRewriting 26 = .ok (.invokespecial 42, 3) := by decide +kernel
theorem dX6_withRewriting_29 : decode cX6_withRewriting 29 = .ok (.areturn, 1) := by decide +kernel
theorem dX6_switched_0 : decode cX6_switched 0 = .ok (.new 10, 3) := by decide +kernel
theorem dX6_switched_3 : decode cX6_switched 3 = .ok (.dup, 1) := by decide +kernel
theorem dX6_switched_4 : decode cX6_switched 4 = .ok (.aload_n 0, 1) := by decide +kernel
theorem dX6_switched_5 : decode cX6_switched 5 = .ok (.getfield 9, 3) := by decide +kernel
theorem dX6_switched_8 : decode cX6_switched 8 = .ok (.aload_n 0, 1) := by decide +kernel
theorem dX6_switched_9 : decode cX6_switched 9 = .ok (.getfield 15, 3) := by decide +kernel
theorem dX6_switched_12 : decode cX6_switched 12 = .ok (.aload_n 0, 1) := by decide +kernel
theorem dX6_switched_13 : decode cX6_switched 13 = .ok (.getfield 18, 3) := by decide +kernel
theorem dX6_switched_16 : decode cX6_switched 16 = .ok (.aload_n 0, 1) := by decide +kernel
theorem dX6_switched_17 : decode cX6_switched 17 = .ok (.getfield 21, 3) := by decide +kernel
theorem dX6_switched_20 : decode cX6_switched 20 = .ok (.aload_n 0, 1) := by decide +kernel
theorem dX6_switched_21 : decode cX6_switched 21 = .ok (.getfield 24, 3) := by decide +kernel
theorem dX6_switched_24 : decode cX6_switched 24 = .ok (.aload_n 0, 1) := by decide +kernel
theorem dX6_switched_25 : decode cX6_switched 25 = .ok (.getfield 27, 3) := by decide +kernel
theorem dX6_switched_28 : decode cX6_switched 28 = .ok (.iload_n 1, 1) := by decide +kernel
theorem dX6_switched_29 : decode cX6_switched 29 = .ok (.invokespecial 42, 3) := by decide +kernel
theorem dX6_switched_32 : decode cX6_switched 32 = .ok (.areturn, 1) := by decide +kernel
theorem dX6_taken_0 : decode cX6_taken 0 = .ok (.aload_n 0, 1) := by decide +kernel
theorem dX6_taken_1 : decode cX6_taken 1 = .ok (.getfield 30, 3) := by decide +kernel
theorem dX6_taken_4 : decode cX6_taken 4 = .ok (.ifCond .eq 23, 3) := by decide +kernel
theorem dX6_taken_7 : decode cX6_taken 7 = .ok (.aload_n 0, 1) := by decide +kernel
theorem dX6_taken_8 : decode cX6_taken 8 = .ok (.getfield 9, 3) := by decide +kernel
theorem dX6_taken_11 : decode cX6_taken 11 = .ok (.iload_n 1, 1) := by decide +kernel
theorem dX6_taken_12 : decode cX6_taken 12 = .ok (.ishr, 1) := by decide +kernel
theorem dX6_taken_13 : decode cX6_taken 13 = .ok (.iconst 1, 1) := by decide +kernel
theorem dX6_taken_14 : decode cX6_taken 14 = .ok (.iand, 1) := by decide +kernel
theorem dX6_taken_15 : decode cX6_taken 15 = .ok (.ifCond .eq 12, 3) := by decide +kernel
theorem dX6_taken_18 : decode cX6_taken 18 = .ok (.lload_n 2, 1) := by decide +kernel
theorem dX6_taken_19 : decode cX6_taken 19 = .ok (.aload_n 0, 1) := by decide +kernel
theorem dX6_taken_20 : decode cX6_taken 20 = .ok (.getfield 38, 3) := by decide +kernel
theorem dX6_taken_23 : decode cX6_taken 23 = .ok (.land, 1) := by decide +kernel
theorem dX6_taken_24 : decode cX6_taken 24 = .ok (.goto 4, 3) := by decide +kernel
theorem dX6_taken_27 : decode cX6_taken 27 = .ok (.lconst 0, 1) := by decide +kernel
theorem dX6_taken_28 : decode cX6_taken 28 = .ok (.lreturn, 1) := by decide +kernel
theorem dX6_rewritten_0 : decode cX6_rewritten 0 = .ok (.iload_n 1, 1) := by decide +kernel
theorem dX6_rewritten_1 : decode cX6_rewritten 1 = .ok (.aload_n 0, 1) := by decide +kernel
theorem dX6_rewritten_2 : decode cX6_rewritten 2 = .ok (.getfield 24, 3) := by decide +kernel
theorem dX6_rewritten_5 : decode cX6_rewritten 5 = .ok (.iconst (-1), 1) := by decide +kernel
theorem dX6_rewritten_6 : decode cX6_rewritten 6 = .ok (.ixor, 1) := by decide +kernel
theorem dX6_rewritten_7 : decode cX6_rewritten 7 = .ok (.iand, 1) := by decide +kernel
theorem dX6_rewritten_8 : decode cX6_rewritten 8 = .ok (.aload_n 0, 1) := by decide +kernel
theorem dX6_rewritten_9 : decode cX6_rewritten 9 = .ok (.getfield 27, 3) := by decide +kernel
theorem dX6_rewritten_12 : decode cX6_rewritten 12 = .ok (.ior, 1) := by decide +kernel
theorem dX6_rewritten_13 : decode cX6_rewritten 13 = .ok (.ireturn, 1) := by decide +kernel
theorem dX6_rewrittenSet_0 : decode cX6_rewrittenSet 0 = .ok (.lload_n 1, 1) := by decide +kernel
theorem dX6_rewrittenSet_1 : decode cX6_rewrittenSet 1 = .ok (.lstore_n 3, 1) := by decide +kernel
theorem dX6_rewrittenSet_2 : decode cX6_rewrittenSet 2 = .ok (.iconst 0, 1) := by decide +kernel
theorem dX6_rewrittenSet_3 : decode cX6_rewrittenSet 3 = .ok (.istore 5, 2) := by decide +kernel
theorem dX6_rewrittenSet_5 : decode cX6_rewrittenSet 5 = .ok (.iload 5, 2) := by decide +kernel
theorem dX6_rewrittenSet_7 : decode cX6_rewrittenSet 7 = .ok (.iconst 5, 1) := by decide +kernel
theorem dX6_rewrittenSet_8 : decode cX6_rewrittenSet 8 = .ok (.if_icmp .ge 83, 3) := by decide +kernel
theorem dX6_rewrittenSet_11 : decode cX6_rewrittenSet 11 = .ok (.aload_n 0, 1) := by decide +kernel
theorem dX6_rewrittenSet_12 : decode cX6_rewrittenSet 12 = .ok (.getfield 24, 3) := by decide +kernel
theorem dX6_rewrittenSet_15 : decode cX6_rewrittenSet 15 = .ok (.iload 5, 2) := by decide +kernel
theorem dX6_rewrittenSet_17 : decode cX6_rewrittenSet 17 = .ok (.ishr, 1) := by decide +kernel
theorem dX6_rewrittenSet_18 : decode cX6_rewrittenSet 18 = .ok (.iconst 1, 1) := by decide +kernel
theorem dX6_rewrittenSet_19 : decode cX6_rewrittenSet 19 = .ok (.iand, 1) := by decide +kernel
theorem dX6_rewrittenSet_20 : decode cX6_rewrittenSet 20 = .ok (.ifCond .eq 65, 3) := by decide +kernel
theorem dX6_rewrittenSet_23 : decode cX6_rewrittenSet 23 = .ok (.lload_n 3, 1) := by decide +kernel
theorem dX6_rewrittenSet_24 : decode cX6_rewrittenSet 24 = .ok (.getstatic 45, 3) := by decide +kernel
theorem dX6_rewrittenSet_27 : decode cX6_rewrittenSet 27 = .ok (.iload 5, 2) := by decide +kernel
theorem dX6_rewrittenSet_29 : decode cX6_rewrittenSet 29 = .ok (.laload, 1) := by decide +kernel
theorem dX6_rewrittenSet_30 : decode cX6_rewrittenSet 30 = .ok (.land, 1) := by decide +kernel
theorem dX6_rewrittenSet_31 : decode cX6_rewrittenSet 31 = .ok (.lstore 6, 2) := by decide +kernel
theorem dX6_rewrittenSet_33 : decode cX6_rewrittenSet 33 = .ok (.lload_n 3, 1) := by decide +kernel
theorem dX6_rewrittenSet_34 : decode cX6_rewrittenSet 34 = .ok (.getstatic 45, 3) := by decide +kernel
theorem dX6_rewrittenSet_37 : decode cX6_rewrittenSet 37 = .ok (.iload 5, 2) := by decide +kernel
theorem dX6_rewrittenSet_39 : decode cX6_rewrittenSet 39 = .ok (.laload, 1) := by decide +kernel
theorem dX6_rewrittenSet_40 : decode cX6_rewrittenSet 40 = .ok (.ldc2_w 49, 3) := by decide +kernel
theorem dX6_rewrittenSet_43 : decode cX6_rewrittenSet 43 = .ok (.lxor, 1) := by decide +kernel
theorem dX6_rewrittenSet_44 : decode cX6_rewrittenSet 44 = .ok (.land, 1) := by decide +kernel
theorem dX6_rewrittenSet_45 : decode cX6_rewrittenSet 45 = .ok (.lstore 8, 2) := by decide +kernel
theorem dX6_rewrittenSet_47 : decode cX6_rewrittenSet 47 = .ok (.iconst 1, 1) := by decide +kernel
theorem dX6_rewrittenSet_48 : decode cX6_rewrittenSet 48 = .ok (.iload 5, 2) := by decide +kernel
theorem dX6_rewrittenSet_50 : decode cX6_rewrittenSet 50 = .ok (.ishl, 1) := by decide +kernel
theorem dX6_rewrittenSet_51 : decode cX6_rewrittenSet 51 = .ok (.istore 10, 2) := by decide +kernel
theorem dX6_rewrittenSet_53 : decode cX6_rewrittenSet 53 = .ok (.aload_n 0, 1) := by decide +kernel
theorem dX6_rewrittenSet_54 : decode cX6_rewrittenSet 54 = .ok (.getfield 27, 3) := by decide +kernel
theorem dX6_rewrittenSet_57 : decode cX6_rewrittenSet 57 = .ok (.iload 5, 2) := by decide +kernel
theorem dX6_rewrittenSet_59 : decode cX6_rewrittenSet 59 = .ok (.ishr, 1) := by decide +kernel
theorem dX6_rewrittenSet_60 : decode cX6_rewrittenSet 60 = .ok (.iconst 1, 1) := by decide +kernel
theorem dX6_rewrittenSet_61 : decode cX6_rewrittenSet 61 = .ok (.iand, 1) := by decide +kernel
theorem dX6_rewrittenSet_62 : decode cX6_rewrittenSet 62 = .ok (.ifCond .eq 14, 3) := by decide +kernel
theorem dX6_rewrittenSet_65 : decode cX6_rewrittenSet 65 = .ok (.lload 6, 2) := by decide +kernel
theorem dX6_rewrittenSet_67 : decode cX6_rewrittenSet 67 = .ok (.lload 8, 2) := by decide +kernel
theorem dX6_rewrittenSet_69 : decode cX6_rewrittenSet 69 = .ok (.iload 10, 2) := by decide +kernel
theorem dX6_rewrittenSet_71 : decode cX6_rewrittenSet 71 = .ok (.lshl, 1) := by decide +kernel
theorem dX6_rewrittenSet_72 : decode cX6_rewrittenSet 72 = .ok (.lor, 1) := by decide +kernel
theorem dX6_rewrittenSet_73 : decode cX6_rewrittenSet 73 = .ok (.goto 11, 3) := by decide +kernel
theorem dX6_rewrittenSet_76 : decode cX6_rewrittenSet 76 = .ok (.lload 8, 2) := by decide +kernel
theorem dX6_rewrittenSet_78 : decode cX6_rewrittenSet 78 = .ok (.lload 6, 2) := by decide +kernel
theorem dX6_rewrittenSet_80 : decode cX6_rewrittenSet 80 = .ok (.iload 10, 2) := by decide +kernel
theorem dX6_rewrittenSet_82 : decode cX6_rewrittenSet 82 = .ok (.lushr, 1) := by decide +kernel
theorem dX6_rewrittenSet_83 : decode cX6_rewrittenSet 83 = .ok (.lor, 1) := by decide +kernel
theorem dX6_rewrittenSet_84 : decode cX6_rewrittenSet 84 = .ok (.lstore_n 3, 1) := by decide +kernel
theorem dX6_rewrittenSet_85 : decode cX6_rewrittenSet 85 = .ok (.iinc 5 1, 3) := by decide +kernel
theorem dX6_rewrittenSet_88 : decode cX6_rewrittenSet 88 = .ok (.goto (-83), 3) := by decide +kernel
theorem dX6_rewrittenSet_91 : decode cX6_rewrittenSet 91 = .ok (.lload_n 3, 1) := by decide +kernel
theorem dX6_rewrittenSet_92 : decode cX6_rewrittenSet 92 = .ok (.lreturn, 1) := by decide +kernel
theorem dX6_leadingInto_0 : decode cX6_leadingInto 0 = .ok (.lload_n 1, 1) := by decide +kernel
theorem dX6_leadingInto_1 : decode cX6_leadingInto 1 = .ok (.lstore_n 3, 1) := by decide +kernel
theorem dX6_leadingInto_2 : decode cX6_leadingInto 2 = .ok (.iconst 0, 1) := by decide +kernel
theorem dX6_leadingInto_3 : decode cX6_leadingInto 3 = .ok (.istore 5, 2) := by decide +kernel
theorem dX6_leadingInto_5 : decode cX6_leadingInto 5 = .ok (.iload 5, 2) := by decide +kernel
theorem dX6_leadingInto_7 : decode cX6_leadingInto 7 = .ok (.iconst 5, 1) := by decide +kernel
theorem dX6_leadingInto_8 : decode cX6_leadingInto 8 = .ok (.if_icmp .ge 83, 3) := by decide +kernel
theorem dX6_leadingInto_11 : decode cX6_leadingInto 11 = .ok (.aload_n 0, 1) := by decide +kernel
theorem dX6_leadingInto_12 : decode cX6_leadingInto 12 = .ok (.getfield 24, 3) := by decide +kernel
theorem dX6_leadingInto_15 : decode cX6_leadingInto 15 = .ok (.iload 5, 2) := by decide +kernel
theorem dX6_leadingInto_17 : decode cX6_leadingInto 17 = .ok (.ishr, 1) := by decide +kernel
theorem dX6_leadingInto_18 : decode cX6_leadingInto 18 = .ok (.iconst 1, 1) := by decide +kernel
theorem dX6_leadingInto_19 : decode cX6_leadingInto 19 = .ok (.iand, 1) := by decide +kernel
theorem dX6_leadingInto_20 : decode cX6_leadingInto 20 = .ok (.ifCond .eq 65, 3) := by decide +kernel
theorem dX6_leadingInto_23 : decode cX6_leadingInto 23 = .ok (.lload_n 3, 1) := by decide +kernel
theorem dX6_leadingInto_24 : decode cX6_leadingInto 24 = .ok (.getstatic 45, 3) := by decide +kernel
theorem dX6_leadingInto_27 : decode cX6_leadingInto 27 = .ok (.iload 5, 2) := by decide +kernel
theorem dX6_leadingInto_29 : decode cX6_leadingInto 29 = .ok (.laload, 1) := by decide +kernel
theorem dX6_leadingInto_30 : decode cX6_leadingInto 30 = .ok (.land, 1) := by decide +kernel
theorem dX6_leadingInto_31 : decode cX6_leadingInto 31 = .ok (.lstore 6, 2) := by decide +kernel
theorem dX6_leadingInto_33 : decode cX6_leadingInto 33 = .ok (.lload_n 3, 1) := by decide +kernel
theorem dX6_leadingInto_34 : decode cX6_leadingInto 34 = .ok (.getstatic 45, 3) := by decide +kernel
theorem dX6_leadingInto_37 : decode cX6_leadingInto 37 = .ok (.iload 5, 2) := by decide +kernel
theorem dX6_leadingInto_39 : decode cX6_leadingInto 39 = .ok (.laload, 1) := by decide +kernel
theorem dX6_leadingInto_40 : decode cX6_leadingInto 40 = .ok (.ldc2_w 49, 3) := by decide +kernel
theorem dX6_leadingInto_43 : decode cX6_leadingInto 43 = .ok (.lxor, 1) := by decide +kernel
theorem dX6_leadingInto_44 : decode cX6_leadingInto 44 = .ok (.land, 1) := by decide +kernel
theorem dX6_leadingInto_45 : decode cX6_leadingInto 45 = .ok (.lstore 8, 2) := by decide +kernel
theorem dX6_leadingInto_47 : decode cX6_leadingInto 47 = .ok (.iconst 1, 1) := by decide +kernel
theorem dX6_leadingInto_48 : decode cX6_leadingInto 48 = .ok (.iload 5, 2) := by decide +kernel
theorem dX6_leadingInto_50 : decode cX6_leadingInto 50 = .ok (.ishl, 1) := by decide +kernel
theorem dX6_leadingInto_51 : decode cX6_leadingInto 51 = .ok (.istore 10, 2) := by decide +kernel
theorem dX6_leadingInto_53 : decode cX6_leadingInto 53 = .ok (.aload_n 0, 1) := by decide +kernel
theorem dX6_leadingInto_54 : decode cX6_leadingInto 54 = .ok (.getfield 27, 3) := by decide +kernel
theorem dX6_leadingInto_57 : decode cX6_leadingInto 57 = .ok (.iload 5, 2) := by decide +kernel
theorem dX6_leadingInto_59 : decode cX6_leadingInto 59 = .ok (.ishr, 1) := by decide +kernel
theorem dX6_leadingInto_60 : decode cX6_leadingInto 60 = .ok (.iconst 1, 1) := by decide +kernel
theorem dX6_leadingInto_61 : decode cX6_leadingInto 61 = .ok (.iand, 1) := by decide +kernel
theorem dX6_leadingInto_62 : decode cX6_leadingInto 62 = .ok (.ifCond .eq 14, 3) := by decide +kernel
theorem dX6_leadingInto_65 : decode cX6_leadingInto 65 = .ok (.lload 6, 2) := by decide +kernel
theorem dX6_leadingInto_67 : decode cX6_leadingInto 67 = .ok (.lload 6, 2) := by decide +kernel
theorem dX6_leadingInto_69 : decode cX6_leadingInto 69 = .ok (.iload 10, 2) := by decide +kernel
theorem dX6_leadingInto_71 : decode cX6_leadingInto 71 = .ok (.lushr, 1) := by decide +kernel
theorem dX6_leadingInto_72 : decode cX6_leadingInto 72 = .ok (.lor, 1) := by decide +kernel
theorem dX6_leadingInto_73 : decode cX6_leadingInto 73 = .ok (.goto 11, 3) := by decide +kernel
theorem dX6_leadingInto_76 : decode cX6_leadingInto 76 = .ok (.lload 8, 2) := by decide +kernel
theorem dX6_leadingInto_78 : decode cX6_leadingInto 78 = .ok (.lload 8, 2) := by decide +kernel
theorem dX6_leadingInto_80 : decode cX6_leadingInto 80 = .ok (.iload 10, 2) := by decide +kernel
theorem dX6_leadingInto_82 : decode cX6_leadingInto 82 = .ok (.lshl, 1) := by decide +kernel
theorem dX6_leadingInto_83 : decode cX6_leadingInto 83 = .ok (.lor, 1) := by decide +kernel
theorem dX6_leadingInto_84 : decode cX6_leadingInto 84 = .ok (.lstore_n 3, 1) := by decide +kernel
theorem dX6_leadingInto_85 : decode cX6_leadingInto 85 = .ok (.iinc 5 1, 3) := by decide +kernel
theorem dX6_leadingInto_88 : decode cX6_leadingInto 88 = .ok (.goto (-83), 3) := by decide +kernel
theorem dX6_leadingInto_91 : decode cX6_leadingInto 91 = .ok (.lload_n 3, 1) := by decide +kernel
theorem dX6_leadingInto_92 : decode cX6_leadingInto 92 = .ok (.lreturn, 1) := by decide +kernel
theorem dX6_lowestOutput_0 : decode cX6_lowestOutput 0 = .ok (.iconst 0, 1) := by decide +kernel
theorem dX6_lowestOutput_1 : decode cX6_lowestOutput 1 = .ok (.istore_n 1, 1) := by decide +kernel
theorem dX6_lowestOutput_2 : decode cX6_lowestOutput 2 = .ok (.iload_n 1, 1) := by decide +kernel
theorem dX6_lowestOutput_3 : decode cX6_lowestOutput 3 = .ok (.iconst 4, 1) := by decide +kernel
theorem dX6_lowestOutput_4 : decode cX6_lowestOutput 4 = .ok (.if_icmp .ge 22, 3) := by decide +kernel
theorem dX6_lowestOutput_7 : decode cX6_lowestOutput 7 = .ok (.aload_n 0, 1) := by decide +kernel
theorem dX6_lowestOutput_8 : decode cX6_lowestOutput 8 = .ok (.getfield 21, 3) := by decide +kernel
theorem dX6_lowestOutput_11 : decode cX6_lowestOutput 11 = .ok (.iload_n 1, 1) := by decide +kernel
theorem dX6_lowestOutput_12 : decode cX6_lowestOutput 12 = .ok (.invokestatic 51, 3) := by decide +kernel
theorem dX6_lowestOutput_15 : decode cX6_lowestOutput 15 = .ok (.ifCond .eq 5, 3) := by decide +kernel
theorem dX6_lowestOutput_18 : decode cX6_lowestOutput 18 = .ok (.iload_n 1, 1) := by decide +kernel
theorem dX6_lowestOutput_19 : decode cX6_lowestOutput 19 = .ok (.ireturn, 1) := by decide +kernel
theorem dX6_lowestOutput_20 : decode cX6_lowestOutput 20 = .ok (.iinc 1 1, 3) := by decide +kernel
theorem dX6_lowestOutput_23 : decode cX6_lowestOutput 23 = .ok (.goto (-21), 3) := by decide +kernel
theorem dX6_lowestOutput_26 : decode cX6_lowestOutput 26 = .ok (.iconst (-1), 1) := by decide +kernel
theorem dX6_lowestOutput_27 : decode cX6_lowestOutput 27 = .ok (.ireturn, 1) := by decide +kernel
theorem dX7_init_0 : decode cX7_init 0 = .ok (.aload_n 0, 1) := by decide +kernel
theorem dX7_init_1 : decode cX7_init 1 = .ok (.invokespecial 3, 3) := by decide +kernel
theorem dX7_init_4 : decode cX7_init 4 = .ok (.aload_n 0, 1) := by decide +kernel
theorem dX7_init_5 : decode cX7_init 5 = .ok (.bipush 6, 2) := by decide +kernel
theorem dX7_init_7 : decode cX7_init 7 = .ok (.anewarray 9, 3) := by decide +kernel
theorem dX7_init_10 : decode cX7_init 10 = .ok (.putfield 11, 3) := by decide +kernel
theorem dX7_init_13 : decode cX7_init 13 = .ok (.iconst 0, 1) := by decide +kernel
theorem dX7_init_14 : decode cX7_init 14 = .ok (.istore_n 2, 1) := by decide +kernel
theorem dX7_init_15 : decode cX7_init 15 = .ok (.iload_n 2, 1) := by decide +kernel
theorem dX7_init_16 : decode cX7_init 16 = .ok (.bipush 6, 2) := by decide +kernel
theorem dX7_init_18 : decode cX7_init 18 = .ok (.if_icmp .ge 16, 3) := by decide +kernel
theorem dX7_init_21 : decode cX7_init 21 = .ok (.aload_n 0, 1) := by decide +kernel
theorem dX7_init_22 : decode cX7_init 22 = .ok (.getfield 11, 3) := by decide +kernel
theorem dX7_init_25 : decode cX7_init 25 = .ok (.iload_n 2, 1) := by decide +kernel
theorem dX7_init_26 : decode cX7_init 26 = .ok (.aload_n 1, 1) := by decide +kernel
theorem dX7_init_27 : decode cX7_init 27 = .ok (.aastore, 1) := by decide +kernel
theorem dX7_init_28 : decode cX7_init 28 = .ok (.iinc 2 1, 3) := by decide +kernel
theorem dX7_init_31 : decode cX7_init 31 = .ok (.goto (-16), 3) := by decide +kernel
theorem dX7_init_34 : decode cX7_init 34 = .ok (.return_, 1) := by decide +kernel
theorem dX7_insertAt_0 : decode cX7_insertAt 0 = .ok (.aload_n 0, 1) := by decide +kernel
theorem dX7_insertAt_1 : decode cX7_insertAt 1 = .ok (.getfield 17, 3) := by decide +kernel
theorem dX7_insertAt_4 : decode cX7_insertAt 4 = .ok (.iconst 5, 1) := by decide +kernel
theorem dX7_insertAt_5 : decode cX7_insertAt 5 = .ok (.invokestatic 21, 3) := by decide +kernel
theorem dX7_insertAt_8 : decode cX7_insertAt 8 = .ok (.istore_n 3, 1) := by decide +kernel
theorem dX7_insertAt_9 : decode cX7_insertAt 9 = .ok (.iload_n 3, 1) := by decide +kernel
theorem dX7_insertAt_10 : decode cX7_insertAt 10 = .ok (.iload_n 1, 1) := by decide +kernel
theorem dX7_insertAt_11 : decode cX7_insertAt 11 = .ok (.if_icmp .le 23, 3) := by decide +kernel
theorem dX7_insertAt_14 : decode cX7_insertAt 14 = .ok (.aload_n 0, 1) := by decide +kernel
theorem dX7_insertAt_15 : decode cX7_insertAt 15 = .ok (.getfield 11, 3) := by decide +kernel
theorem dX7_insertAt_18 : decode cX7_insertAt 18 = .ok (.iload_n 3, 1) := by decide +kernel
theorem dX7_insertAt_19 : decode cX7_insertAt 19 = .ok (.aload_n 0, 1) := by decide +kernel
theorem dX7_insertAt_20 : decode cX7_insertAt 20 = .ok (.getfield 11, 3) := by decide +kernel
theorem dX7_insertAt_23 : decode cX7_insertAt 23 = .ok (.iload_n 3, 1) := by decide +kernel
theorem dX7_insertAt_24 : decode cX7_insertAt 24 = .ok (.iconst 1, 1) := by decide +kernel
theorem dX7_insertAt_25 : decode cX7_insertAt 25 = .ok (.isub, 1) := by decide +kernel
theorem dX7_insertAt_26 : decode cX7_insertAt 26 = .ok (.aaload, 1) := by decide +kernel
theorem dX7_insertAt_27 : decode cX7_insertAt 27 = .ok (.aastore, 1) := by decide +kernel
theorem dX7_insertAt_28 : decode cX7_insertAt 28 = .ok (.iinc 3 (-1), 3) := by decide +kernel
theorem dX7_insertAt_31 : decode cX7_insertAt 31 = .ok (.goto (-22), 3) := by decide +kernel
theorem dX7_insertAt_34 : decode cX7_insertAt 34 = .ok (.aload_n 0, 1) := by decide +kernel
theorem dX7_insertAt_35 : decode cX7_insertAt 35 = .ok (.getfield 11, 3) := by decide +kernel
theorem dX7_insertAt_38 : decode cX7_insertAt 38 = .ok (.iload_n 1, 1) := by decide +kernel
theorem dX7_insertAt_39 : decode cX7_insertAt 39 = .ok (.aload_n 2, 1) := by decide +kernel
theorem dX7_insertAt_40 : decode cX7_insertAt 40 = .ok (.aastore, 1) := by decide +kernel
theorem dX7_insertAt_41 : decode cX7_insertAt 41 = .ok (.aload_n 0, 1) := by decide +kernel
theorem dX7_insertAt_42 : decode cX7_insertAt 42 = .ok (.dup, 1) := by decide +kernel
theorem dX7_insertAt_43 : decode cX7_insertAt 43 = .ok (.getfield 17, 3) := by decide +kernel
theorem dX7_insertAt_46 : decode cX7_insertAt 46 = .ok (.iconst 1, 1) := by decide +kernel
theorem dX7_insertAt_47 : decode cX7_insertAt 47 = .ok (.iadd, 1) := by decide +kernel
theorem dX7_insertAt_48 : decode cX7_insertAt 48 = .ok (.putfield 17, 3) := by decide +kernel
theorem dX7_insertAt_51 : decode cX7_insertAt 51 = .ok (.return_, 1) := by decide +kernel
theorem dX7_removeAt_0 : decode cX7_removeAt 0 = .ok (.iload_n 1, 1) := by decide +kernel
theorem dX7_removeAt_1 : decode cX7_removeAt 1 = .ok (.iconst 1, 1) := by decide +kernel
theorem dX7_removeAt_2 : decode cX7_removeAt 2 = .ok (.iadd, 1) := by decide +kernel
theorem dX7_removeAt_3 : decode cX7_removeAt 3 = .ok (.istore_n 2, 1) := by decide +kernel
theorem dX7_removeAt_4 : decode cX7_removeAt 4 = .ok (.iload_n 2, 1) := by decide +kernel
theorem dX7_removeAt_5 : decode cX7_removeAt 5 = .ok (.aload_n 0, 1) := by decide +kernel
theorem dX7_removeAt_6 : decode cX7_removeAt 6 = .ok (.getfield 17, 3) := by decide +kernel
theorem dX7_removeAt_9 : decode cX7_removeAt 9 = .ok (.if_icmp .ge 23, 3) := by decide +kernel
theorem dX7_removeAt_12 : decode cX7_removeAt 12 = .ok (.aload_n 0, 1) := by decide +kernel
theorem dX7_removeAt_13 : decode cX7_removeAt 13 = .ok (.getfield 11, 3) := by decide +kernel
theorem dX7_removeAt_16 : decode cX7_removeAt 16 = .ok (.iload_n 2, 1) := by decide +kernel
theorem dX7_removeAt_17 : decode cX7_removeAt 17 = .ok (.iconst 1, 1) := by decide +kernel
theorem dX7_removeAt_18 : decode cX7_removeAt 18 = .ok (.isub, 1) := by decide +kernel
theorem dX7_removeAt_19 : decode cX7_removeAt 19 = .ok (.aload_n 0, 1) := by decide +kernel
theorem dX7_removeAt_20 : decode cX7_removeAt 20 = .ok (.getfield 11, 3) := by decide +kernel
theorem dX7_removeAt_23 : decode cX7_removeAt 23 = .ok (.iload_n 2, 1) := by decide +kernel
theorem dX7_removeAt_24 : decode cX7_removeAt 24 = .ok (.aaload, 1) := by decide +kernel
theorem dX7_removeAt_25 : decode cX7_removeAt 25 = .ok (.aastore, 1) := by decide +kernel
theorem dX7_removeAt_26 : decode cX7_removeAt 26 = .ok (.iinc 2 1, 3) := by decide +kernel
theorem dX7_removeAt_29 : decode cX7_removeAt 29 = .ok (.goto (-25), 3) := by decide +kernel
theorem dX7_removeAt_32 : decode cX7_removeAt 32 = .ok (.aload_n 0, 1) := by decide +kernel
theorem dX7_removeAt_33 : decode cX7_removeAt 33 = .ok (.dup, 1) := by decide +kernel
theorem dX7_removeAt_34 : decode cX7_removeAt 34 = .ok (.getfield 17, 3) := by decide +kernel
theorem dX7_removeAt_37 : decode cX7_removeAt 37 = .ok (.iconst 1, 1) := by decide +kernel
theorem dX7_removeAt_38 : decode cX7_removeAt 38 = .ok (.isub, 1) := by decide +kernel
theorem dX7_removeAt_39 : decode cX7_removeAt 39 = .ok (.putfield 17, 3) := by decide +kernel
theorem dX7_removeAt_42 : decode cX7_removeAt 42 = .ok (.return_, 1) := by decide +kernel
theorem dX7_copyFrom_0 : decode cX7_copyFrom 0 = .ok (.iconst 0, 1) := by decide +kernel
theorem dX7_copyFrom_1 : decode cX7_copyFrom 1 = .ok (.istore_n 2, 1) := by decide +kernel
theorem dX7_copyFrom_2 : decode cX7_copyFrom 2 = .ok (.iload_n 2, 1) := by decide +kernel
theorem dX7_copyFrom_3 : decode cX7_copyFrom 3 = .ok (.bipush 6, 2) := by decide +kernel
theorem dX7_copyFrom_5 : decode cX7_copyFrom 5 = .ok (.if_icmp .ge 21, 3) := by decide +kernel
theorem dX7_copyFrom_8 : decode cX7_copyFrom 8 = .ok (.aload_n 0, 1) := by decide +kernel
theorem dX7_copyFrom_9 : decode cX7_copyFrom 9 = .ok (.getfield 11, 3) := by decide +kernel
theorem dX7_copyFrom_12 : decode cX7_copyFrom 12 = .ok (.iload_n 2, 1) := by decide +kernel
theorem dX7_copyFrom_13 : decode cX7_copyFrom 13 = .ok (.aload_n 1, 1) := by decide +kernel
theorem dX7_copyFrom_14 : decode cX7_copyFrom 14 = .ok (.getfield 11, 3) := by decide +kernel
theorem dX7_copyFrom_17 : decode cX7_copyFrom 17 = .ok (.iload_n 2, 1) := by decide +kernel
theorem dX7_copyFrom_18 : decode cX7_copyFrom 18 = .ok (.aaload, 1) := by decide +kernel
theorem dX7_copyFrom_19 : decode cX7_copyFrom 19 = .ok (.aastore, 1) := by decide +kernel
theorem dX7_copyFrom_20 : decode cX7_copyFrom 20 = .ok (.iinc 2 1, 3) := by decide +kernel
theorem dX7_copyFrom_23 : decode cX7_copyFrom 23 = .ok (.goto (-21), 3) := by decide +kernel
theorem dX7_copyFrom_26 : decode cX7_copyFrom 26 = .ok (.aload_n 0, 1) := by decide +kernel
theorem dX7_copyFrom_27 : decode cX7_copyFrom 27 = .ok (.aload_n 1, 1) := by decide +kernel
theorem dX7_copyFrom_28 : decode cX7_copyFrom 28 = .ok (.getfield 17, 3) := by decide +kernel
theorem dX7_copyFrom_31 : decode cX7_copyFrom 31 = .ok (.putfield 17, 3) := by decide +kernel
theorem dX7_copyFrom_34 : decode cX7_copyFrom 34 = .ok (.return_, 1) := by decide +kernel
theorem dX7_leftFor_0 : decode cX7_leftFor 0 = .ok (.lload_n 3, 1) := by decide +kernel
theorem dX7_leftFor_1 : decode cX7_leftFor 1 = .ok (.lstore 5, 2) := by decide +kernel
theorem dX7_leftFor_3 : decode cX7_leftFor 3 = .ok (.iconst 0, 1) := by decide +kernel
theorem dX7_leftFor_4 : decode cX7_leftFor 4 = .ok (.istore 7, 2) := by decide +kernel
theorem dX7_leftFor_6 : decode cX7_leftFor 6 = .ok (.iload 7, 2) := by decide +kernel
theorem dX7_leftFor_8 : decode cX7_leftFor 8 = .ok (.iload_n 1, 1) := by decide +kernel
theorem dX7_leftFor_9 : decode cX7_leftFor 9 = .ok (.if_icmp .ge 31, 3) := by decide +kernel
theorem dX7_leftFor_12 : decode cX7_leftFor 12 = .ok (.lload 5, 2) := by decide +kernel
theorem dX7_leftFor_14 : decode cX7_leftFor 14 = .ok (.aload_n 0, 1) := by decide +kernel
theorem dX7_leftFor_15 : decode cX7_leftFor 15 = .ok (.getfield 11, 3) := by decide +kernel
theorem dX7_leftFor_18 : decode cX7_leftFor 18 = .ok (.iload 7, 2) := by decide +kernel
theorem dX7_leftFor_20 : decode cX7_leftFor 20 = .ok (.aaload, 1) := by decide +kernel
theorem dX7_leftFor_21 : decode cX7_leftFor 21 = .ok (.iload_n 2, 1) := by decide +kernel
theorem dX7_leftFor_22 : decode cX7_leftFor 22 = .ok (.lload 5, 2) := by decide +kernel
theorem dX7_leftFor_24 : decode cX7_leftFor 24 = .ok (.invokevirtual 27, 3) := by decide +kernel
theorem dX7_leftFor_27 : decode cX7_leftFor 27 = .ok (.ldc2_w 31, 3) := by decide +kernel
theorem dX7_leftFor_30 : decode cX7_leftFor 30 = .ok (.lxor, 1) := by decide +kernel
theorem dX7_leftFor_31 : decode cX7_leftFor 31 = .ok (.land, 1) := by decide +kernel
theorem dX7_leftFor_32 : decode cX7_leftFor 32 = .ok (.lstore 5, 2) := by decide +kernel
theorem dX7_leftFor_34 : decode cX7_leftFor 34 = .ok (.iinc 7 1, 3) := by decide +kernel
theorem dX7_leftFor_37 : decode cX7_leftFor 37 = .ok (.goto (-31), 3) := by decide +kernel
theorem dX7_leftFor_40 : decode cX7_leftFor 40 = .ok (.lload 5, 2) := by decide +kernel
theorem dX7_leftFor_42 : decode cX7_leftFor 42 = .ok (.lreturn, 1) := by decide +kernel
theorem dX7_handled_0 : decode cX7_handled 0 = .ok (.aload_n 0, 1) := by decide +kernel
theorem dX7_handled_1 : decode cX7_handled 1 = .ok (.getfield 11, 3) := by decide +kernel
theorem dX7_handled_4 : decode cX7_handled 4 = .ok (.iload_n 1, 1) := by decide +kernel
theorem dX7_handled_5 : decode cX7_handled 5 = .ok (.aaload, 1) := by decide +kernel
theorem dX7_handled_6 : decode cX7_handled 6 = .ok (.iload_n 2, 1) := by decide +kernel
theorem dX7_handled_7 : decode cX7_handled 7 = .ok (.aload_n 0, 1) := by decide +kernel
theorem dX7_handled_8 : decode cX7_handled 8 = .ok (.iload_n 1, 1) := by decide +kernel
theorem dX7_handled_9 : decode cX7_handled 9 = .ok (.iload_n 2, 1) := by decide +kernel
theorem dX7_handled_10 : decode cX7_handled 10 = .ok (.lload_n 3, 1) := by decide +kernel
theorem dX7_handled_11 : decode cX7_handled 11 = .ok (.invokevirtual 33, 3) := by decide +kernel
theorem dX7_handled_14 : decode cX7_handled 14 = .ok (.invokevirtual 27, 3) := by decide +kernel
theorem dX7_handled_17 : decode cX7_handled 17 = .ok (.lreturn, 1) := by decide +kernel
theorem dX7_handler_0 : decode cX7_handler 0 = .ok (.lconst 1, 1) := by decide +kernel
theorem dX7_handler_1 : decode cX7_handler 1 = .ok (.iload_n 2, 1) := by decide +kernel
theorem dX7_handler_2 : decode cX7_handler 2 = .ok (.lshl, 1) := by decide +kernel
theorem dX7_handler_3 : decode cX7_handler 3 = .ok (.lstore 4, 2) := by decide +kernel
theorem dX7_handler_5 : decode cX7_handler 5 = .ok (.iconst 0, 1) := by decide +kernel
theorem dX7_handler_6 : decode cX7_handler 6 = .ok (.istore 6, 2) := by decide +kernel
theorem dX7_handler_8 : decode cX7_handler 8 = .ok (.iload 6, 2) := by decide +kernel
theorem dX7_handler_10 : decode cX7_handler 10 = .ok (.aload_n 0, 1) := by decide +kernel
theorem dX7_handler_11 : decode cX7_handler 11 = .ok (.getfield 17, 3) := by decide +kernel
theorem dX7_handler_14 : decode cX7_handler 14 = .ok (.if_icmp .ge 39, 3) := by decide +kernel
theorem dX7_handler_17 : decode cX7_handler 17 = .ok (.iload_n 3, 1) := by decide +kernel
theorem dX7_handler_18 : decode cX7_handler 18 = .ok (.iload 6, 2) := by decide +kernel
theorem dX7_handler_20 : decode cX7_handler 20 = .ok (.ishr, 1) := by decide +kernel
theorem dX7_handler_21 : decode cX7_handler 21 = .ok (.iconst 1, 1) := by decide +kernel
theorem dX7_handler_22 : decode cX7_handler 22 = .ok (.iand, 1) := by decide +kernel
theorem dX7_handler_23 : decode cX7_handler 23 = .ok (.ifCond .ne 24, 3) := by decide +kernel
theorem dX7_handler_26 : decode cX7_handler 26 = .ok (.aload_n 0, 1) := by decide +kernel
theorem dX7_handler_27 : decode cX7_handler 27 = .ok (.getfield 11, 3) := by decide +kernel
theorem dX7_handler_30 : decode cX7_handler 30 = .ok (.iload 6, 2) := by decide +kernel
theorem dX7_handler_32 : decode cX7_handler 32 = .ok (.aaload, 1) := by decide +kernel
theorem dX7_handler_33 : decode cX7_handler 33 = .ok (.iload_n 1, 1) := by decide +kernel
theorem dX7_handler_34 : decode cX7_handler 34 = .ok (.lload 4, 2) := by decide +kernel
theorem dX7_handler_36 : decode cX7_handler 36 = .ok (.invokevirtual 27, 3) := by decide +kernel
theorem dX7_handler_39 : decode cX7_handler 39 = .ok (.lconst 0, 1) := by decide +kernel
theorem dX7_handler_40 : decode cX7_handler 40 = .ok (.lcmp, 1) := by decide +kernel
theorem dX7_handler_41 : decode cX7_handler 41 = .ok (.ifCond .eq 6, 3) := by decide +kernel
theorem dX7_handler_44 : decode cX7_handler 44 = .ok (.iload 6, 2) := by decide +kernel
theorem dX7_handler_46 : decode cX7_handler 46 = .ok (.ireturn, 1) := by decide +kernel
theorem dX7_handler_47 : decode cX7_handler 47 = .ok (.iinc 6 1, 3) := by decide +kernel
theorem dX7_handler_50 : decode cX7_handler 50 = .ok (.goto (-42), 3) := by decide +kernel
theorem dX7_handler_53 : decode cX7_handler 53 = .ok (.iconst (-1), 1) := by decide +kernel
theorem dX7_handler_54 : decode cX7_handler 54 = .ok (.ireturn, 1) := by decide +kernel
theorem dX7_hiddenRules_0 : decode cX7_hiddenRules 0 = .ok (.iconst 0, 1) := by decide +kernel
theorem dX7_hiddenRules_1 : decode cX7_hiddenRules 1 = .ok (.istore_n 1, 1) := by decide +kernel
theorem dX7_hiddenRules_2 : decode cX7_hiddenRules 2 = .ok (.iconst 0, 1) := by decide +kernel
theorem dX7_hiddenRules_3 : decode cX7_hiddenRules 3 = .ok (.istore_n 2, 1) := by decide +kernel
theorem dX7_hiddenRules_4 : decode cX7_hiddenRules 4 = .ok (.iload_n 2, 1) := by decide +kernel
theorem dX7_hiddenRules_5 : decode cX7_hiddenRules 5 = .ok (.aload_n 0, 1) := by decide +kernel
theorem dX7_hiddenRules_6 : decode cX7_hiddenRules 6 = .ok (.getfield 17, 3) := by decide +kernel
theorem dX7_hiddenRules_9 : decode cX7_hiddenRules 9 = .ok (.if_icmp .ge 35, 3) := by decide +kernel
theorem dX7_hiddenRules_12 : decode cX7_hiddenRules 12 = .ok (.aload_n 0, 1) := by decide +kernel
theorem dX7_hiddenRules_13 : decode cX7_hiddenRules 13 = .ok (.getfield 11, 3) := by decide +kernel
theorem dX7_hiddenRules_16 : decode cX7_hiddenRules 16 = .ok (.iload_n 2, 1) := by decide +kernel
theorem dX7_hiddenRules_17 : decode cX7_hiddenRules 17 = .ok (.aaload, 1) := by decide +kernel
theorem dX7_hiddenRules_18 : decode cX7_hiddenRules 18 = .ok (.getfield 37, 3) := by decide +kernel
theorem dX7_hiddenRules_21 : decode cX7_hiddenRules 21 = .ok (.ifCond .eq 17, 3) := by decide +kernel
theorem dX7_hiddenRules_24 : decode cX7_hiddenRules 24 = .ok (.aload_n 0, 1) := by decide +kernel
theorem dX7_hiddenRules_25 : decode cX7_hiddenRules 25 = .ok (.iload_n 2, 1) := by decide +kernel
theorem dX7_hiddenRules_26 : decode cX7_hiddenRules 26 = .ok (.invokevirtual 41, 3) := by decide +kernel
theorem dX7_hiddenRules_29 : decode cX7_hiddenRules 29 = .ok (.ifCond .eq 9, 3) := by decide +kernel
theorem dX7_hiddenRules_32 : decode cX7_hiddenRules 32 = .ok (.iload_n 1, 1) := by decide +kernel
theorem dX7_hiddenRules_33 : decode cX7_hiddenRules 33 = .ok (.iconst 1, 1) := by decide +kernel
theorem dX7_hiddenRules_34 : decode cX7_hiddenRules 34 = .ok (.iload_n 2, 1) := by decide +kernel
theorem dX7_hiddenRules_35 : decode cX7_hiddenRules 35 = .ok (.ishl, 1) := by decide +kernel
theorem dX7_hiddenRules_36 : decode cX7_hiddenRules 36 = .ok (.ior, 1) := by decide +kernel
theorem dX7_hiddenRules_37 : decode cX7_hiddenRules 37 = .ok (.istore_n 1, 1) := by decide +kernel
theorem dX7_hiddenRules_38 : decode cX7_hiddenRules 38 = .ok (.iinc 2 1, 3) := by decide +kernel
theorem dX7_hiddenRules_41 : decode cX7_hiddenRules 41 = .ok (.goto (-37), 3) := by decide +kernel
theorem dX7_hiddenRules_44 : decode cX7_hiddenRules 44 = .ok (.iload_n 1, 1) := by decide +kernel
theorem dX7_hiddenRules_45 : decode cX7_hiddenRules 45 = .ok (.ireturn, 1) := by decide +kernel
theorem dX7_isHidden_0 : decode cX7_isHidden 0 = .ok (.iconst 0, 1) := by decide +kernel
theorem dX7_isHidden_1 : decode cX7_isHidden 1 = .ok (.istore_n 2, 1) := by decide +kernel
theorem dX7_isHidden_2 : decode cX7_isHidden 2 = .ok (.iload_n 2, 1) := by decide +kernel
theorem dX7_isHidden_3 : decode cX7_isHidden 3 = .ok (.iconst 4, 1) := by decide +kernel
theorem dX7_isHidden_4 : decode cX7_isHidden 4 = .ok (.if_icmp .ge 31, 3) := by decide +kernel
theorem dX7_isHidden_7 : decode cX7_isHidden 7 = .ok (.aload_n 0, 1) := by decide +kernel
theorem dX7_isHidden_8 : decode cX7_isHidden 8 = .ok (.iload_n 1, 1) := by decide +kernel
theorem dX7_isHidden_9 : decode cX7_isHidden 9 = .ok (.iload_n 2, 1) := by decide +kernel
theorem dX7_isHidden_10 : decode cX7_isHidden 10 = .ok (.aload_n 0, 1) := by decide +kernel
theorem dX7_isHidden_11 : decode cX7_isHidden 11 = .ok (.getfield 11, 3) := by decide +kernel
theorem dX7_isHidden_14 : decode cX7_isHidden 14 = .ok (.iload_n 1, 1) := by decide +kernel
theorem dX7_isHidden_15 : decode cX7_isHidden 15 = .ok (.aaload, 1) := by decide +kernel
theorem dX7_isHidden_16 : decode cX7_isHidden 16 = .ok (.getfield 45, 3) := by decide +kernel
theorem dX7_isHidden_19 : decode cX7_isHidden 19 = .ok (.invokevirtual 49, 3) := by decide +kernel
theorem dX7_isHidden_22 : decode cX7_isHidden 22 = .ok (.lconst 0, 1) := by decide +kernel
theorem dX7_isHidden_23 : decode cX7_isHidden 23 = .ok (.lcmp, 1) := by decide +kernel
theorem dX7_isHidden_24 : decode cX7_isHidden 24 = .ok (.ifCond .eq 5, 3) := by decide +kernel
theorem dX7_isHidden_27 : decode cX7_isHidden 27 = .ok (.iconst 0, 1) := by decide +kernel
theorem dX7_isHidden_28 : decode cX7_isHidden 28 = .ok (.ireturn, 1) := by decide +kernel
theorem dX7_isHidden_29 : decode cX7_isHidden 29 = .ok (.iinc 2 1, 3) := by decide +kernel
theorem dX7_isHidden_32 : decode cX7_isHidden 32 = .ok (.goto (-30), 3) := by decide +kernel
theorem dX7_isHidden_35 : decode cX7_isHidden 35 = .ok (.iconst 1, 1) := by decide +kernel
theorem dX7_isHidden_36 : decode cX7_isHidden 36 = .ok (.ireturn, 1) := by decide +kernel
theorem dX8_init_0 : decode cX8_init 0 = .ok (.aload_n 0, 1) := by decide +kernel
theorem dX8_init_1 : decode cX8_init 1 = .ok (.invokespecial 3, 3) := by decide +kernel
theorem dX8_init_4 : decode cX8_init 4 = .ok (.aload_n 0, 1) := by decide +kernel
theorem dX8_init_5 : decode cX8_init 5 = .ok (.bipush 40, 2) := by decide +kernel
theorem dX8_init_7 : decode cX8_init 7 = .ok (.newarray .char, 2) := by decide +kernel
theorem dX8_init_9 : decode cX8_init 9 = .ok (.putfield 9, 3) := by decide +kernel
theorem dX8_init_12 : decode cX8_init 12 = .ok (.return_, 1) := by decide +kernel
theorem dX8_write_0 : decode cX8_write 0 = .ok (.aload_n 0, 1) := by decide +kernel
theorem dX8_write_1 : decode cX8_write 1 = .ok (.iconst 0, 1) := by decide +kernel
theorem dX8_write_2 : decode cX8_write 2 = .ok (.putfield 15, 3) := by decide +kernel
theorem dX8_write_5 : decode cX8_write 5 = .ok (.aload_n 1, 1) := by decide +kernel
theorem dX8_write_6 : decode cX8_write 6 = .ok (.getfield 19, 3) := by decide +kernel
theorem dX8_write_9 : decode cX8_write 9 = .ok (.bipush 15, 2) := by decide +kernel
theorem dX8_write_11 : decode cX8_write 11 = .ok (.if_icmp .ne 12, 3) := by decide +kernel
theorem dX8_write_14 : decode cX8_write 14 = .ok (.aload_n 0, 1) := by decide +kernel
theorem dX8_write_15 : decode cX8_write 15 = .ok (.bipush 42, 2) := by decide +kernel
theorem dX8_write_17 : decode cX8_write 17 = .ok (.invokevirtual 24, 3) := by decide +kernel
theorem dX8_write_20 : decode cX8_write 20 = .ok (.goto 11, 3) := by decide +kernel
theorem dX8_write_23 : decode cX8_write 23 = .ok (.aload_n 0, 1) := by decide +kernel
theorem dX8_write_24 : decode cX8_write 24 = .ok (.aload_n 1, 1) := by decide +kernel
theorem dX8_write_25 : decode cX8_write 25 = .ok (.getfield 19, 3) := by decide +kernel
theorem dX8_write_28 : decode cX8_write 28 = .ok (.invokevirtual 28, 3) := by decide +kernel
theorem dX8_write_31 : decode cX8_write 31 = .ok (.aload_n 0, 1) := by decide +kernel
theorem dX8_write_32 : decode cX8_write 32 = .ok (.bipush 58, 2) := by decide +kernel
theorem dX8_write_34 : decode cX8_write 34 = .ok (.invokevirtual 24, 3) := by decide +kernel
theorem dX8_write_37 : decode cX8_write 37 = .ok (.aload_n 0, 1) := by decide +kernel
theorem dX8_write_38 : decode cX8_write 38 = .ok (.aload_n 1, 1) := by decide +kernel
theorem dX8_write_39 : decode cX8_write 39 = .ok (.getfield 32, 3) := by decide +kernel
theorem dX8_write_42 : decode cX8_write 42 = .ok (.aload_n 1, 1) := by decide +kernel
theorem dX8_write_43 : decode cX8_write 43 = .ok (.getfield 35, 3) := by decide +kernel
theorem dX8_write_46 : decode cX8_write 46 = .ok (.iload_n 2, 1) := by decide +kernel
theorem dX8_write_47 : decode cX8_write 47 = .ok (.invokevirtual 38, 3) := by decide +kernel
theorem dX8_write_50 : decode cX8_write 50 = .ok (.aload_n 1, 1) := by decide +kernel
theorem dX8_write_51 : decode cX8_write 51 = .ok (.getfield 42, 3) := by decide +kernel
theorem dX8_write_54 : decode cX8_write 54 = .ok (.ifCond .ne 10, 3) := by decide +kernel
theorem dX8_write_57 : decode cX8_write 57 = .ok (.aload_n 0, 1) := by decide +kernel
theorem dX8_write_58 : decode cX8_write 58 = .ok (.bipush 33, 2) := by decide +kernel
theorem dX8_write_60 : decode cX8_write 60 = .ok (.invokevirtual 24, 3) := by decide +kernel
theorem dX8_write_63 : decode cX8_write 63 = .ok (.return_, 1) := by decide +kernel
theorem dX8_write_64 : decode cX8_write 64 = .ok (.aload_n 0, 1) := by decide +kernel
theorem dX8_write_65 : decode cX8_write 65 = .ok (.bipush 62, 2) := by decide +kernel
theorem dX8_write_67 : decode cX8_write 67 = .ok (.invokevirtual 24, 3) := by decide +kernel
theorem dX8_write_70 : decode cX8_write 70 = .ok (.aload_n 0, 1) := by decide +kernel
theorem dX8_write_71 : decode cX8_write 71 = .ok (.aload_n 1, 1) := by decide +kernel
theorem dX8_write_72 : decode cX8_write 72 = .ok (.getfield 42, 3) := by decide +kernel
theorem dX8_write_75 : decode cX8_write 75 = .ok (.invokevirtual 28, 3) := by decide +kernel
theorem dX8_write_78 : decode cX8_write 78 = .ok (.aload_n 1, 1) := by decide +kernel
theorem dX8_write_79 : decode cX8_write 79 = .ok (.getfield 45, 3) := by decide +kernel
theorem dX8_write_82 : decode cX8_write 82 = .ok (.ifCond .eq 22, 3) := by decide +kernel
theorem dX8_write_85 : decode cX8_write 85 = .ok (.aload_n 0, 1) := by decide +kernel
theorem dX8_write_86 : decode cX8_write 86 = .ok (.bipush 61, 2) := by decide +kernel
theorem dX8_write_88 : decode cX8_write 88 = .ok (.invokevirtual 24, 3) := by decide +kernel
theorem dX8_write_91 : decode cX8_write 91 = .ok (.aload_n 0, 1) := by decide +kernel
theorem dX8_write_92 : decode cX8_write 92 = .ok (.aload_n 1, 1) := by decide +kernel
theorem dX8_write_93 : decode cX8_write 93 = .ok (.getfield 45, 3) := by decide +kernel
theorem dX8_write_96 : decode cX8_write 96 = .ok (.aload_n 1, 1) := by decide +kernel
theorem dX8_write_97 : decode cX8_write 97 = .ok (.getfield 48, 3) := by decide +kernel
theorem dX8_write_100 : decode cX8_write 100 = .ok (.iload_n 2, 1) := by decide +kernel
theorem dX8_write_101 : decode cX8_write 101 = .ok (.invokevirtual 38, 3) := by decide +kernel
theorem dX8_write_104 : decode cX8_write 104 = .ok (.return_, 1) := by decide +kernel
theorem dX8_put_0 : decode cX8_put 0 = .ok (.aload_n 0, 1) := by decide +kernel
theorem dX8_put_1 : decode cX8_put 1 = .ok (.getfield 15, 3) := by decide +kernel
theorem dX8_put_4 : decode cX8_put 4 = .ok (.bipush 40, 2) := by decide +kernel
theorem dX8_put_6 : decode cX8_put 6 = .ok (.if_icmp .ge 23, 3) := by decide +kernel
theorem dX8_put_9 : decode cX8_put 9 = .ok (.aload_n 0, 1) := by decide +kernel
theorem dX8_put_10 : decode cX8_put 10 = .ok (.getfield 9, 3) := by decide +kernel
theorem dX8_put_13 : decode cX8_put 13 = .ok (.aload_n 0, 1) := by decide +kernel
theorem dX8_put_14 : decode cX8_put 14 = .ok (.getfield 15, 3) := by decide +kernel
theorem dX8_put_17 : decode cX8_put 17 = .ok (.iload_n 1, 1) := by decide +kernel
theorem dX8_put_18 : decode cX8_put 18 = .ok (.castore, 1) := by decide +kernel
theorem dX8_put_19 : decode cX8_put 19 = .ok (.aload_n 0, 1) := by decide +kernel
theorem dX8_put_20 : decode cX8_put 20 = .ok (.dup, 1) := by decide +kernel
theorem dX8_put_21 : decode cX8_put 21 = .ok (.getfield 15, 3) := by decide +kernel
theorem dX8_put_24 : decode cX8_put 24 = .ok (.iconst 1, 1) := by decide +kernel
theorem dX8_put_25 : decode cX8_put 25 = .ok (.iadd, 1) := by decide +kernel
theorem dX8_put_26 : decode cX8_put 26 = .ok (.putfield 15, 3) := by decide +kernel
theorem dX8_put_29 : decode cX8_put 29 = .ok (.return_, 1) := by decide +kernel
theorem dX8_putDigits_0 : decode cX8_putDigits 0 = .ok (.iconst 0, 1) := by decide +kernel
theorem dX8_putDigits_1 : decode cX8_putDigits 1 = .ok (.istore_n 2, 1) := by decide +kernel
theorem dX8_putDigits_2 : decode cX8_putDigits 2 = .ok (.iload_n 2, 1) := by decide +kernel
theorem dX8_putDigits_3 : decode cX8_putDigits 3 = .ok (.iconst 4, 1) := by decide +kernel
theorem dX8_putDigits_4 : decode cX8_putDigits 4 = .ok (.if_icmp .ge 26, 3) := by decide +kernel
theorem dX8_putDigits_7 : decode cX8_putDigits 7 = .ok (.iload_n 1, 1) := by decide +kernel
theorem dX8_putDigits_8 : decode cX8_putDigits 8 = .ok (.iload_n 2, 1) := by decide +kernel
theorem dX8_putDigits_9 : decode cX8_putDigits 9 = .ok (.invokestatic 51, 3) := by decide +kernel
theorem dX8_putDigits_12 : decode cX8_putDigits 12 = .ok (.ifCond .eq 12, 3) := by decide +kernel
theorem dX8_putDigits_15 : decode cX8_putDigits 15 = .ok (.aload_n 0, 1) := by decide +kernel
theorem dX8_putDigits_16 : decode cX8_putDigits 16 = .ok (.bipush 48, 2) := by decide +kernel
theorem dX8_putDigits_18 : decode cX8_putDigits 18 = .ok (.iload_n 2, 1) := by decide +kernel
theorem dX8_putDigits_19 : decode cX8_putDigits 19 = .ok (.iadd, 1) := by decide +kernel
theorem dX8_putDigits_20 : decode cX8_putDigits 20 = .ok (.i2c, 1) := by decide +kernel
theorem dX8_putDigits_21 : decode cX8_putDigits 21 = .ok (.invokevirtual 24, 3) := by decide +kernel
theorem dX8_putDigits_24 : decode cX8_putDigits 24 = .ok (.iinc 2 1, 3) := by decide +kernel
theorem dX8_putDigits_27 : decode cX8_putDigits 27 = .ok (.goto (-25), 3) := by decide +kernel
theorem dX8_putDigits_30 : decode cX8_putDigits 30 = .ok (.return_, 1) := by decide +kernel
theorem dX8_putPattern_0 : decode cX8_putPattern 0 = .ok (.iload_n 3, 1) := by decide +kernel
theorem dX8_putPattern_1 : decode cX8_putPattern 1 = .ok (.iconst 1, 1) := by decide +kernel
theorem dX8_putPattern_2 : decode cX8_putPattern 2 = .ok (.isub, 1) := by decide +kernel
theorem dX8_putPattern_3 : decode cX8_putPattern 3 = .ok (.istore 4, 2) := by decide +kernel
theorem dX8_putPattern_5 : decode cX8_putPattern 5 = .ok (.iload 4, 2) := by decide +kernel
theorem dX8_putPattern_7 : decode cX8_putPattern 7 = .ok (.ifCond .lt 47, 3) := by decide +kernel
theorem dX8_putPattern_10 : decode cX8_putPattern 10 = .ok (.iload_n 1, 1) := by decide +kernel
theorem dX8_putPattern_11 : decode cX8_putPattern 11 = .ok (.iload 4, 2) := by decide +kernel
theorem dX8_putPattern_13 : decode cX8_putPattern 13 = .ok (.ishr, 1) := by decide +kernel
theorem dX8_putPattern_14 : decode cX8_putPattern 14 = .ok (.iconst 1, 1) := by decide +kernel
theorem dX8_putPattern_15 : decode cX8_putPattern 15 = .ok (.iand, 1) := by decide +kernel
theorem dX8_putPattern_16 : decode cX8_putPattern 16 = .ok (.ifCond .ne 12, 3) := by decide +kernel
theorem dX8_putPattern_19 : decode cX8_putPattern 19 = .ok (.aload_n 0, 1) := by decide +kernel
theorem dX8_putPattern_20 : decode cX8_putPattern 20 = .ok (.bipush 42, 2) := by decide +kernel
theorem dX8_putPattern_22 : decode cX8_putPattern 22 = .ok (.invokevirtual 24, 3) := by decide +kernel
theorem dX8_putPattern_25 : decode cX8_putPattern 25 = .ok (.goto 23, 3) := by decide +kernel
theorem dX8_putPattern_28 : decode cX8_putPattern 28 = .ok (.aload_n 0, 1) := by decide +kernel
theorem dX8_putPattern_29 : decode cX8_putPattern 29 = .ok (.iload_n 2, 1) := by decide +kernel
theorem dX8_putPattern_30 : decode cX8_putPattern 30 = .ok (.iload 4, 2) := by decide +kernel
theorem dX8_putPattern_32 : decode cX8_putPattern 32 = .ok (.ishr, 1) := by decide +kernel
theorem dX8_putPattern_33 : decode cX8_putPattern 33 = .ok (.iconst 1, 1) := by decide +kernel
theorem dX8_putPattern_34 : decode cX8_putPattern 34 = .ok (.iand, 1) := by decide +kernel
theorem dX8_putPattern_35 : decode cX8_putPattern 35 = .ok (.ifCond .eq 8, 3) := by decide +kernel
theorem dX8_putPattern_38 : decode cX8_putPattern 38 = .ok (.bipush 49, 2) := by decide +kernel
theorem dX8_putPattern_40 : decode cX8_putPattern 40 = .ok (.goto 5, 3) := by decide +kernel
theorem dX8_putPattern_43 : decode cX8_putPattern 43 = .ok (.bipush 48, 2) := by decide +kernel
theorem dX8_putPattern_45 : decode cX8_putPattern 45 = .ok (.invokevirtual 24, 3) := by decide +kernel
theorem dX8_putPattern_48 : decode cX8_putPattern 48 = .ok (.iinc 4 (-1), 3) := by decide +kernel
theorem dX8_putPattern_51 : decode cX8_putPattern 51 = .ok (.goto (-46), 3) := by decide +kernel
theorem dX8_putPattern_54 : decode cX8_putPattern 54 = .ok (.return_, 1) := by decide +kernel
theorem dX9_init_0 : decode cX9_init 0 = .ok (.aload_n 0, 1) := by decide +kernel
theorem dX9_init_1 : decode cX9_init 1 = .ok (.invokespecial 3, 3) := by decide +kernel
theorem dX9_init_4 : decode cX9_init 4 = .ok (.aload_n 0, 1) := by decide +kernel
theorem dX9_init_5 : decode cX9_init 5 = .ok (.bipush 40, 2) := by decide +kernel
theorem dX9_init_7 : decode cX9_init 7 = .ok (.newarray .char, 2) := by decide +kernel
theorem dX9_init_9 : decode cX9_init 9 = .ok (.putfield 9, 3) := by decide +kernel
theorem dX9_init_12 : decode cX9_init 12 = .ok (.return_, 1) := by decide +kernel
theorem dX9_isRule_0 : decode cX9_isRule 0 = .ok (.aload_n 0, 1) := by decide +kernel
theorem dX9_isRule_1 : decode cX9_isRule 1 = .ok (.iconst 0, 1) := by decide +kernel
theorem dX9_isRule_2 : decode cX9_isRule 2 = .ok (.putfield 15, 3) := by decide +kernel
theorem dX9_isRule_5 : decode cX9_isRule 5 = .ok (.aload_n 0, 1) := by decide +kernel
theorem dX9_isRule_6 : decode cX9_isRule 6 = .ok (.iconst 0, 1) := by decide +kernel
theorem dX9_isRule_7 : decode cX9_isRule 7 = .ok (.putfield 19, 3) := by decide +kernel
theorem dX9_isRule_10 : decode cX9_isRule 10 = .ok (.aload_n 0, 1) := by decide +kernel
theorem dX9_isRule_11 : decode cX9_isRule 11 = .ok (.iconst 0, 1) := by decide +kernel
theorem dX9_isRule_12 : decode cX9_isRule 12 = .ok (.putfield 22, 3) := by decide +kernel
theorem dX9_isRule_15 : decode cX9_isRule 15 = .ok (.aload_n 0, 1) := by decide +kernel
theorem dX9_isRule_16 : decode cX9_isRule 16 = .ok (.iconst 0, 1) := by decide +kernel
theorem dX9_isRule_17 : decode cX9_isRule 17 = .ok (.putfield 25, 3) := by decide +kernel
theorem dX9_isRule_20 : decode cX9_isRule 20 = .ok (.aload_n 0, 1) := by decide +kernel
theorem dX9_isRule_21 : decode cX9_isRule 21 = .ok (.invokevirtual 28, 3) := by decide +kernel
theorem dX9_isRule_24 : decode cX9_isRule 24 = .ok (.ifCond .eq 20, 3) := by decide +kernel
theorem dX9_isRule_27 : decode cX9_isRule 27 = .ok (.aload_n 0, 1) := by decide +kernel
theorem dX9_isRule_28 : decode cX9_isRule 28 = .ok (.bipush 58, 2) := by decide +kernel
theorem dX9_isRule_30 : decode cX9_isRule 30 = .ok (.invokevirtual 32, 3) := by decide +kernel
theorem dX9_isRule_33 : decode cX9_isRule 33 = .ok (.ifCond .eq 11, 3) := by decide +kernel
theorem dX9_isRule_36 : decode cX9_isRule 36 = .ok (.aload_n 0, 1) := by decide +kernel
theorem dX9_isRule_37 : decode cX9_isRule 37 = .ok (.iload_n 1, 1) := by decide +kernel
theorem dX9_isRule_38 : decode cX9_isRule 38 = .ok (.invokevirtual 36, 3) := by decide +kernel
theorem dX9_isRule_41 : decode cX9_isRule 41 = .ok (.ifCond .ne 5, 3) := by decide +kernel
theorem dX9_isRule_44 : decode cX9_isRule 44 = .ok (.iconst 0, 1) := by decide +kernel
theorem dX9_isRule_45 : decode cX9_isRule 45 = .ok (.ireturn, 1) := by decide +kernel
theorem dX9_isRule_46 : decode cX9_isRule 46 = .ok (.aload_n 0, 1) := by decide +kernel
theorem dX9_isRule_47 : decode cX9_isRule 47 = .ok (.bipush 33, 2) := by decide +kernel
theorem dX9_isRule_49 : decode cX9_isRule 49 = .ok (.invokevirtual 32, 3) := by decide +kernel
theorem dX9_isRule_52 : decode cX9_isRule 52 = .ok (.ifCond .eq 20, 3) := by decide +kernel
theorem dX9_isRule_55 : decode cX9_isRule 55 = .ok (.aload_n 0, 1) := by decide +kernel
theorem dX9_isRule_56 : decode cX9_isRule 56 = .ok (.getfield 15, 3) := by decide +kernel
theorem dX9_isRule_59 : decode cX9_isRule 59 = .ok (.aload_n 0, 1) := by decide +kernel
theorem dX9_isRule_60 : decode cX9_isRule 60 = .ok (.getfield 40, 3) := by decide +kernel
theorem dX9_isRule_63 : decode cX9_isRule 63 = .ok (.if_icmp .ne 7, 3) := by decide +kernel
theorem dX9_isRule_66 : decode cX9_isRule 66 = .ok (.iconst 1, 1) := by decide +kernel
theorem dX9_isRule_67 : decode cX9_isRule 67 = .ok (.goto 4, 3) := by decide +kernel
theorem dX9_isRule_70 : decode cX9_isRule 70 = .ok (.iconst 0, 1) := by decide +kernel
theorem dX9_isRule_71 : decode cX9_isRule 71 = .ok (.ireturn, 1) := by decide +kernel
theorem dX9_isRule_72 : decode cX9_isRule 72 = .ok (.aload_n 0, 1) := by decide +kernel
theorem dX9_isRule_73 : decode cX9_isRule 73 = .ok (.bipush 62, 2) := by decide +kernel
theorem dX9_isRule_75 : decode cX9_isRule 75 = .ok (.invokevirtual 32, 3) := by decide +kernel
theorem dX9_isRule_78 : decode cX9_isRule 78 = .ok (.ifCond .eq 33, 3) := by decide +kernel
theorem dX9_isRule_81 : decode cX9_isRule 81 = .ok (.aload_n 0, 1) := by decide +kernel
theorem dX9_isRule_82 : decode cX9_isRule 82 = .ok (.invokevirtual 43, 3) := by decide +kernel
theorem dX9_isRule_85 : decode cX9_isRule 85 = .ok (.ifCond .eq 26, 3) := by decide +kernel
theorem dX9_isRule_88 : decode cX9_isRule 88 = .ok (.aload_n 0, 1) := by decide +kernel
theorem dX9_isRule_89 : decode cX9_isRule 89 = .ok (.iload_n 1, 1) := by decide +kernel
theorem dX9_isRule_90 : decode cX9_isRule 90 = .ok (.invokevirtual 46, 3) := by decide +kernel
theorem dX9_isRule_93 : decode cX9_isRule 93 = .ok (.ifCond .eq 18, 3) := by decide +kernel
theorem dX9_isRule_96 : decode cX9_isRule 96 = .ok (.aload_n 0, 1) := by decide +kernel
theorem dX9_isRule_97 : decode cX9_isRule 97 = .ok (.getfield 15, 3) := by decide +kernel
theorem dX9_isRule_100 : decode cX9_isRule 100 = .ok (.aload_n 0, 1) := by decide +kernel
theorem dX9_isRule_101 : decode cX9_isRule 101 = .ok (.getfield 40, 3) := by decide +kernel
theorem dX9_isRule_104 : decode cX9_isRule 104 = .ok (.if_icmp .ne 7, 3) := by decide +kernel
theorem dX9_isRule_107 : decode cX9_isRule 107 = .ok (.iconst 1, 1) := by decide +kernel
theorem dX9_isRule_108 : decode cX9_isRule 108 = .ok (.goto 4, 3) := by decide +kernel
theorem dX9_isRule_111 : decode cX9_isRule 111 = .ok (.iconst 0, 1) := by decide +kernel
theorem dX9_isRule_112 : decode cX9_isRule 112 = .ok (.ireturn, 1) := by decide +kernel
theorem dX9_readOne_0 : decode cX9_readOne 0 = .ok (.new 49, 3) := by decide +kernel
theorem dX9_readOne_3 : decode cX9_readOne 3 = .ok (.dup, 1) := by decide +kernel
theorem dX9_readOne_4 : decode cX9_readOne 4 = .ok (.aload_n 0, 1) := by decide +kernel
theorem dX9_readOne_5 : decode cX9_readOne 5 = .ok (.getfield 51, 3) := by decide +kernel
theorem dX9_readOne_8 : decode cX9_readOne 8 = .ok (.aload_n 0, 1) := by decide +kernel
theorem dX9_readOne_9 : decode cX9_readOne 9 = .ok (.getfield 54, 3) := by decide +kernel
theorem dX9_readOne_12 : decode cX9_readOne 12 = .ok (.aload_n 0, 1) := by decide +kernel
theorem dX9_readOne_13 : decode cX9_readOne 13 = .ok (.getfield 57, 3) := by decide +kernel
theorem dX9_readOne_16 : decode cX9_readOne 16 = .ok (.aload_n 0, 1) := by decide +kernel
theorem dX9_readOne_17 : decode cX9_readOne 17 = .ok (.getfield 19, 3) := by decide +kernel
theorem dX9_readOne_20 : decode cX9_readOne 20 = .ok (.aload_n 0, 1) := by decide +kernel
theorem dX9_readOne_21 : decode cX9_readOne 21 = .ok (.getfield 22, 3) := by decide +kernel
theorem dX9_readOne_24 : decode cX9_readOne 24 = .ok (.aload_n 0, 1) := by decide +kernel
theorem dX9_readOne_25 : decode cX9_readOne 25 = .ok (.getfield 25, 3) := by decide +kernel
theorem dX9_readOne_28 : decode cX9_readOne 28 = .ok (.iconst 1, 1) := by decide +kernel
theorem dX9_readOne_29 : decode cX9_readOne 29 = .ok (.invokespecial 60, 3) := by decide +kernel
theorem dX9_readOne_32 : decode cX9_readOne 32 = .ok (.areturn, 1) := by decide +kernel
theorem dX9_accepts_0 : decode cX9_accepts 0 = .ok (.aload_n 0, 1) := by decide +kernel
theorem dX9_accepts_1 : decode cX9_accepts 1 = .ok (.getfield 15, 3) := by decide +kernel
theorem dX9_accepts_4 : decode cX9_accepts 4 = .ok (.aload_n 0, 1) := by decide +kernel
theorem dX9_accepts_5 : decode cX9_accepts 5 = .ok (.getfield 40, 3) := by decide +kernel
theorem dX9_accepts_8 : decode cX9_accepts 8 = .ok (.if_icmp .ge 16, 3) := by decide +kernel
theorem dX9_accepts_11 : decode cX9_accepts 11 = .ok (.aload_n 0, 1) := by decide +kernel
theorem dX9_accepts_12 : decode cX9_accepts 12 = .ok (.getfield 9, 3) := by decide +kernel
theorem dX9_accepts_15 : decode cX9_accepts 15 = .ok (.aload_n 0, 1) := by decide +kernel
theorem dX9_accepts_16 : decode cX9_accepts 16 = .ok (.getfield 15, 3) := by decide +kernel
theorem dX9_accepts_19 : decode cX9_accepts 19 = .ok (.caload, 1) := by decide +kernel
theorem dX9_accepts_20 : decode cX9_accepts 20 = .ok (.iload_n 1, 1) := by decide +kernel
theorem dX9_accepts_21 : decode cX9_accepts 21 = .ok (.if_icmp .eq 5, 3) := by decide +kernel
theorem dX9_accepts_24 : decode cX9_accepts 24 = .ok (.iconst 0, 1) := by decide +kernel
theorem dX9_accepts_25 : decode cX9_accepts 25 = .ok (.ireturn, 1) := by decide +kernel
theorem dX9_accepts_26 : decode cX9_accepts 26 = .ok (.aload_n 0, 1) := by decide +kernel
theorem dX9_accepts_27 : decode cX9_accepts 27 = .ok (.dup, 1) := by decide +kernel
theorem dX9_accepts_28 : decode cX9_accepts 28 = .ok (.getfield 15, 3) := by decide +kernel
theorem dX9_accepts_31 : decode cX9_accepts 31 = .ok (.iconst 1, 1) := by decide +kernel
theorem dX9_accepts_32 : decode cX9_accepts 32 = .ok (.iadd, 1) := by decide +kernel
theorem dX9_accepts_33 : decode cX9_accepts 33 = .ok (.putfield 15, 3) := by decide +kernel
theorem dX9_accepts_36 : decode cX9_accepts 36 = .ok (.iconst 1, 1) := by decide +kernel
theorem dX9_accepts_37 : decode cX9_accepts 37 = .ok (.ireturn, 1) := by decide +kernel
theorem dX9_readsPorts_0 : decode cX9_readsPorts 0 = .ok (.aload_n 0, 1) := by decide +kernel
theorem dX9_readsPorts_1 : decode cX9_readsPorts 1 = .ok (.aload_n 0, 1) := by decide +kernel
theorem dX9_readsPorts_2 : decode cX9_readsPorts 2 = .ok (.bipush 42, 2) := by decide +kernel
theorem dX9_readsPorts_4 : decode cX9_readsPorts 4 = .ok (.invokevirtual 32, 3) := by decide +kernel
theorem dX9_readsPorts_7 : decode cX9_readsPorts 7 = .ok (.ifCond .eq 8, 3) := by decide +kernel
theorem dX9_readsPorts_10 : decode cX9_readsPorts 10 = .ok (.bipush 15, 2) := by decide +kernel
theorem dX9_readsPorts_12 : decode cX9_readsPorts 12 = .ok (.goto 7, 3) := by decide +kernel
theorem dX9_readsPorts_15 : decode cX9_readsPorts 15 = .ok (.aload_n 0, 1) := by decide +kernel
theorem dX9_readsPorts_16 : decode cX9_readsPorts 16 = .ok (.invokevirtual 63, 3) := by decide +kernel
theorem dX9_readsPorts_19 : decode cX9_readsPorts 19 = .ok (.putfield 51, 3) := by decide +kernel
theorem dX9_readsPorts_22 : decode cX9_readsPorts 22 = .ok (.aload_n 0, 1) := by decide +kernel
theorem dX9_readsPorts_23 : decode cX9_readsPorts 23 = .ok (.getfield 51, 3) := by decide +kernel
theorem dX9_readsPorts_26 : decode cX9_readsPorts 26 = .ok (.ifCond .eq 7, 3) := by decide +kernel
theorem dX9_readsPorts_29 : decode cX9_readsPorts 29 = .ok (.iconst 1, 1) := by decide +kernel
theorem dX9_readsPorts_30 : decode cX9_readsPorts 30 = .ok (.goto 4, 3) := by decide +kernel
theorem dX9_readsPorts_33 : decode cX9_readsPorts 33 = .ok (.iconst 0, 1) := by decide +kernel
theorem dX9_readsPorts_34 : decode cX9_readsPorts 34 = .ok (.ireturn, 1) := by decide +kernel
theorem dX9_readsOutputs_0 : decode cX9_readsOutputs 0 = .ok (.aload_n 0, 1) := by decide +kernel
theorem dX9_readsOutputs_1 : decode cX9_readsOutputs 1 = .ok (.aload_n 0, 1) := by decide +kernel
theorem dX9_readsOutputs_2 : decode cX9_readsOutputs 2 = .ok (.invokevirtual 63, 3) := by decide +kernel
theorem dX9_readsOutputs_5 : decode cX9_readsOutputs 5 = .ok (.putfield 19, 3) := by decide +kernel
theorem dX9_readsOutputs_8 : decode cX9_readsOutputs 8 = .ok (.aload_n 0, 1) := by decide +kernel
theorem dX9_readsOutputs_9 : decode cX9_readsOutputs 9 = .ok (.getfield 19, 3) := by decide +kernel
theorem dX9_readsOutputs_12 : decode cX9_readsOutputs 12 = .ok (.ifCond .eq 7, 3) := by decide +kernel
theorem dX9_readsOutputs_15 : decode cX9_readsOutputs 15 = .ok (.iconst 1, 1) := by decide +kernel
theorem dX9_readsOutputs_16 : decode cX9_readsOutputs 16 = .ok (.goto 4, 3) := by decide +kernel
theorem dX9_readsOutputs_19 : decode cX9_readsOutputs 19 = .ok (.iconst 0, 1) := by decide +kernel
theorem dX9_readsOutputs_20 : decode cX9_readsOutputs 20 = .ok (.ireturn, 1) := by decide +kernel
theorem dX9_readDigits_0 : decode cX9_readDigits 0 = .ok (.iconst 0, 1) := by decide +kernel
theorem dX9_readDigits_1 : decode cX9_readDigits 1 = .ok (.istore_n 1, 1) := by decide +kernel
theorem dX9_readDigits_2 : decode cX9_readDigits 2 = .ok (.iconst 0, 1) := by decide +kernel
theorem dX9_readDigits_3 : decode cX9_readDigits 3 = .ok (.istore_n 2, 1) := by decide +kernel
theorem dX9_readDigits_4 : decode cX9_readDigits 4 = .ok (.iload_n 2, 1) := by decide +kernel
theorem dX9_readDigits_5 : decode cX9_readDigits 5 = .ok (.iconst 4, 1) := by decide +kernel
theorem dX9_readDigits_6 : decode cX9_readDigits 6 = .ok (.if_icmp .ge 27, 3) := by decide +kernel
theorem dX9_readDigits_9 : decode cX9_readDigits 9 = .ok (.aload_n 0, 1) := by decide +kernel
theorem dX9_readDigits_10 : decode cX9_readDigits 10 = .ok (.bipush 48, 2) := by decide +kernel
theorem dX9_readDigits_12 : decode cX9_readDigits 12 = .ok (.iload_n 2, 1) := by decide +kernel
theorem dX9_readDigits_13 : decode cX9_readDigits 13 = .ok (.iadd, 1) := by decide +kernel
theorem dX9_readDigits_14 : decode cX9_readDigits 14 = .ok (.i2c, 1) := by decide +kernel
theorem dX9_readDigits_15 : decode cX9_readDigits 15 = .ok (.invokevirtual 32, 3) := by decide +kernel
theorem dX9_readDigits_18 : decode cX9_readDigits 18 = .ok (.ifCond .eq 9, 3) := by decide +kernel
theorem dX9_readDigits_21 : decode cX9_readDigits 21 = .ok (.iload_n 1, 1) := by decide +kernel
theorem dX9_readDigits_22 : decode cX9_readDigits 22 = .ok (.iconst 1, 1) := by decide +kernel
theorem dX9_readDigits_23 : decode cX9_readDigits 23 = .ok (.iload_n 2, 1) := by decide +kernel
theorem dX9_readDigits_24 : decode cX9_readDigits 24 = .ok (.ishl, 1) := by decide +kernel
theorem dX9_readDigits_25 : decode cX9_readDigits 25 = .ok (.ior, 1) := by decide +kernel
theorem dX9_readDigits_26 : decode cX9_readDigits 26 = .ok (.istore_n 1, 1) := by decide +kernel
theorem dX9_readDigits_27 : decode cX9_readDigits 27 = .ok (.iinc 2 1, 3) := by decide +kernel
theorem dX9_readDigits_30 : decode cX9_readDigits 30 = .ok (.goto (-26), 3) := by decide +kernel
theorem dX9_readDigits_33 : decode cX9_readDigits 33 = .ok (.iload_n 1, 1) := by decide +kernel
theorem dX9_readDigits_34 : decode cX9_readDigits 34 = .ok (.ireturn, 1) := by decide +kernel
theorem dX9_readsRewriting_0 : decode cX9_readsRewriting 0 = .ok (.aload_n 0, 1) := by decide +kernel
theorem dX9_readsRewriting_1 : decode cX9_readsRewriting 1 = .ok (.getfield 15, 3) := by decide +kernel
theorem dX9_readsRewriting_4 : decode cX9_readsRewriting 4 = .ok (.aload_n 0, 1) := by decide +kernel
theorem dX9_readsRewriting_5 : decode cX9_readsRewriting 5 = .ok (.getfield 40, 3) := by decide +kernel
theorem dX9_readsRewriting_8 : decode cX9_readsRewriting 8 = .ok (.if_icmp .ne 5, 3) := by decide +kernel
theorem dX9_readsRewriting_11 : decode cX9_readsRewriting 11 = .ok (.iconst 1, 1) := by decide +kernel
theorem dX9_readsRewriting_12 : decode cX9_readsRewriting 12 = .ok (.ireturn, 1) := by decide +kernel
theorem dX9_readsRewriting_13 : decode cX9_readsRewriting 13 = .ok (.aload_n 0, 1) := by decide +kernel
theorem dX9_readsRewriting_14 : decode cX9_readsRewriting 14 = .ok (.getfield 54, 3) := by decide +kernel
theorem dX9_readsRewriting_17 : decode cX9_readsRewriting 17 = .ok (.istore_n 2, 1) := by decide +kernel
theorem dX9_readsRewriting_18 : decode cX9_readsRewriting 18 = .ok (.aload_n 0, 1) := by decide +kernel
theorem dX9_readsRewriting_19 : decode cX9_readsRewriting 19 = .ok (.getfield 57, 3) := by decide +kernel
theorem dX9_readsRewriting_22 : decode cX9_readsRewriting 22 = .ok (.istore_n 3, 1) := by decide +kernel
theorem dX9_readsRewriting_23 : decode cX9_readsRewriting 23 = .ok (.aload_n 0, 1) := by decide +kernel
theorem dX9_readsRewriting_24 : decode cX9_readsRewriting 24 = .ok (.bipush 61, 2) := by decide +kernel
theorem dX9_readsRewriting_26 : decode cX9_readsRewriting 26 = .ok (.invokevirtual 32, 3) := by decide +kernel
theorem dX9_readsRewriting_29 : decode cX9_readsRewriting 29 = .ok (.ifCond .eq 15, 3) := by decide +kernel
theorem dX9_readsRewriting_32 : decode cX9_readsRewriting 32 = .ok (.aload_n 0, 1) := by decide +kernel
theorem dX9_readsRewriting_33 : decode cX9_readsRewriting 33 = .ok (.iload_n 1, 1) := by decide +kernel
theorem dX9_readsRewriting_34 : decode cX9_readsRewriting 34 = .ok (.invokevirtual 36, 3) := by decide +kernel
theorem dX9_readsRewriting_37 : decode cX9_readsRewriting 37 = .ok (.ifCond .eq 7, 3) := by decide +kernel
theorem dX9_readsRewriting_40 : decode cX9_readsRewriting 40 = .ok (.iconst 1, 1) := by decide +kernel
theorem dX9_readsRewriting_41 : decode cX9_readsRewriting 41 = .ok (.goto 4, 3) := by decide +kernel
theorem dX9_readsRewriting_44 : decode cX9_readsRewriting 44 = .ok (.iconst 0, 1) := by decide +kernel
theorem dX9_readsRewriting_45 : decode cX9_readsRewriting 45 = .ok (.istore 4, 2) := by decide +kernel
theorem dX9_readsRewriting_47 : decode cX9_readsRewriting 47 = .ok (.aload_n 0, 1) := by decide +kernel
theorem dX9_readsRewriting_48 : decode cX9_readsRewriting 48 = .ok (.aload_n 0, 1) := by decide +kernel
theorem dX9_readsRewriting_49 : decode cX9_readsRewriting 49 = .ok (.getfield 54, 3) := by decide +kernel
theorem dX9_readsRewriting_52 : decode cX9_readsRewriting 52 = .ok (.putfield 22, 3) := by decide +kernel
theorem dX9_readsRewriting_55 : decode cX9_readsRewriting 55 = .ok (.aload_n 0, 1) := by decide +kernel
theorem dX9_readsRewriting_56 : decode cX9_readsRewriting 56 = .ok (.aload_n 0, 1) := by decide +kernel
theorem dX9_readsRewriting_57 : decode cX9_readsRewriting 57 = .ok (.getfield 57, 3) := by decide +kernel
theorem dX9_readsRewriting_60 : decode cX9_readsRewriting 60 = .ok (.putfield 25, 3) := by decide +kernel
theorem dX9_readsRewriting_63 : decode cX9_readsRewriting 63 = .ok (.aload_n 0, 1) := by decide +kernel
theorem dX9_readsRewriting_64 : decode cX9_readsRewriting 64 = .ok (.iload_n 2, 1) := by decide +kernel
theorem dX9_readsRewriting_65 : decode cX9_readsRewriting 65 = .ok (.putfield 54, 3) := by decide +kernel
theorem dX9_readsRewriting_68 : decode cX9_readsRewriting 68 = .ok (.aload_n 0, 1) := by decide +kernel
theorem dX9_readsRewriting_69 : decode cX9_readsRewriting 69 = .ok (.iload_n 3, 1) := by decide +kernel
theorem dX9_readsRewriting_70 : decode cX9_readsRewriting 70 = .ok (.putfield 57, 3) := by decide +kernel
theorem dX9_readsRewriting_73 : decode cX9_readsRewriting 73 = .ok (.iload 4, 2) := by decide +kernel
theorem dX9_readsRewriting_75 : decode cX9_readsRewriting 75 = .ok (.ireturn, 1) := by decide +kernel
theorem dX9_readsPattern_0 : decode cX9_readsPattern 0 = .ok (.aload_n 0, 1) := by decide +kernel
theorem dX9_readsPattern_1 : decode cX9_readsPattern 1 = .ok (.iconst 0, 1) := by decide +kernel
theorem dX9_readsPattern_2 : decode cX9_readsPattern 2 = .ok (.putfield 54, 3) := by decide +kernel
theorem dX9_readsPattern_5 : decode cX9_readsPattern 5 = .ok (.aload_n 0, 1) := by decide +kernel
theorem dX9_readsPattern_6 : decode cX9_readsPattern 6 = .ok (.iconst 0, 1) := by decide +kernel
theorem dX9_readsPattern_7 : decode cX9_readsPattern 7 = .ok (.putfield 57, 3) := by decide +kernel
theorem dX9_readsPattern_10 : decode cX9_readsPattern 10 = .ok (.iload_n 1, 1) := by decide +kernel
theorem dX9_readsPattern_11 : decode cX9_readsPattern 11 = .ok (.iconst 1, 1) := by decide +kernel
theorem dX9_readsPattern_12 : decode cX9_readsPattern 12 = .ok (.isub, 1) := by decide +kernel
theorem dX9_readsPattern_13 : decode cX9_readsPattern 13 = .ok (.istore_n 2, 1) := by decide +kernel
theorem dX9_readsPattern_14 : decode cX9_readsPattern 14 = .ok (.iload_n 2, 1) := by decide +kernel
theorem dX9_readsPattern_15 : decode cX9_readsPattern 15 = .ok (.ifCond .lt 80, 3) := by decide +kernel
theorem dX9_readsPattern_18 : decode cX9_readsPattern 18 = .ok (.aload_n 0, 1) := by decide +kernel
theorem dX9_readsPattern_19 : decode cX9_readsPattern 19 = .ok (.bipush 49, 2) := by decide +kernel
theorem dX9_readsPattern_21 : decode cX9_readsPattern 21 = .ok (.invokevirtual 32, 3) := by decide +kernel
theorem dX9_readsPattern_24 : decode cX9_readsPattern 24 = .ok (.ifCond .eq 30, 3) := by decide +kernel
theorem dX9_readsPattern_27 : decode cX9_readsPattern 27 = .ok (.aload_n 0, 1) := by decide +kernel
theorem dX9_readsPattern_28 : decode cX9_readsPattern 28 = .ok (.dup, 1) := by decide +kernel
theorem dX9_readsPattern_29 : decode cX9_readsPattern 29 = .ok (.getfield 54, 3) := by decide +kernel
theorem dX9_readsPattern_32 : decode cX9_readsPattern 32 = .ok (.iconst 1, 1) := by decide +kernel
theorem dX9_readsPattern_33 : decode cX9_readsPattern 33 = .ok (.iload_n 2, 1) := by decide +kernel
theorem dX9_readsPattern_34 : decode cX9_readsPattern 34 = .ok (.ishl, 1) := by decide +kernel
theorem dX9_readsPattern_35 : decode cX9_readsPattern 35 = .ok (.ior, 1) := by decide +kernel
theorem dX9_readsPattern_36 : decode cX9_readsPattern 36 = .ok (.putfield 54, 3) := by decide +kernel
theorem dX9_readsPattern_39 : decode cX9_readsPattern 39 = .ok (.aload_n 0, 1) := by decide +kernel
theorem dX9_readsPattern_40 : decode cX9_readsPattern 40 = .ok (.dup, 1) := by decide +kernel
theorem dX9_readsPattern_41 : decode cX9_readsPattern 41 = .ok (.getfield 57, 3) := by decide +kernel
theorem dX9_readsPattern_44 : decode cX9_readsPattern 44 = .ok (.iconst 1, 1) := by decide +kernel
theorem dX9_readsPattern_45 : decode cX9_readsPattern 45 = .ok (.iload_n 2, 1) := by decide +kernel
theorem dX9_readsPattern_46 : decode cX9_readsPattern 46 = .ok (.ishl, 1) := by decide +kernel
theorem dX9_readsPattern_47 : decode cX9_readsPattern 47 = .ok (.ior, 1) := by decide +kernel
theorem dX9_readsPattern_48 : decode cX9_readsPattern 48 = .ok (.putfield 57, 3) := by decide +kernel
theorem dX9_readsPattern_51 : decode cX9_readsPattern 51 = .ok (.goto 38, 3) := by decide +kernel
theorem dX9_readsPattern_54 : decode cX9_readsPattern 54 = .ok (.aload_n 0, 1) := by decide +kernel
theorem dX9_readsPattern_55 : decode cX9_readsPattern 55 = .ok (.bipush 48, 2) := by decide +kernel
theorem dX9_readsPattern_57 : decode cX9_readsPattern 57 = .ok (.invokevirtual 32, 3) := by decide +kernel
theorem dX9_readsPattern_60 : decode cX9_readsPattern 60 = .ok (.ifCond .eq 18, 3) := by decide +kernel
theorem dX9_readsPattern_63 : decode cX9_readsPattern 63 = .ok (.aload_n 0, 1) := by decide +kernel
theorem dX9_readsPattern_64 : decode cX9_readsPattern 64 = .ok (.dup, 1) := by decide +kernel
theorem dX9_readsPattern_65 : decode cX9_readsPattern 65 = .ok (.getfield 54, 3) := by decide +kernel
theorem dX9_readsPattern_68 : decode cX9_readsPattern 68 = .ok (.iconst 1, 1) := by decide +kernel
theorem dX9_readsPattern_69 : decode cX9_readsPattern 69 = .ok (.iload_n 2, 1) := by decide +kernel
theorem dX9_readsPattern_70 : decode cX9_readsPattern 70 = .ok (.ishl, 1) := by decide +kernel
theorem dX9_readsPattern_71 : decode cX9_readsPattern 71 = .ok (.ior, 1) := by decide +kernel
theorem dX9_readsPattern_72 : decode cX9_readsPattern 72 = .ok (.putfield 54, 3) := by decide +kernel
theorem dX9_readsPattern_75 : decode cX9_readsPattern 75 = .ok (.goto 14, 3) := by decide +kernel
theorem dX9_readsPattern_78 : decode cX9_readsPattern 78 = .ok (.aload_n 0, 1) := by decide +kernel
theorem dX9_readsPattern_79 : decode cX9_readsPattern 79 = .ok (.bipush 42, 2) := by decide +kernel
theorem dX9_readsPattern_81 : decode cX9_readsPattern 81 = .ok (.invokevirtual 32, 3) := by decide +kernel
theorem dX9_readsPattern_84 : decode cX9_readsPattern 84 = .ok (.ifCond .ne 5, 3) := by decide +kernel
theorem dX9_readsPattern_87 : decode cX9_readsPattern 87 = .ok (.iconst 0, 1) := by decide +kernel
theorem dX9_readsPattern_88 : decode cX9_readsPattern 88 = .ok (.ireturn, 1) := by decide +kernel
theorem dX9_readsPattern_89 : decode cX9_readsPattern 89 = .ok (.iinc 2 (-1), 3) := by decide +kernel
theorem dX9_readsPattern_92 : decode cX9_readsPattern 92 = .ok (.goto (-78), 3) := by decide +kernel
theorem dX9_readsPattern_95 : decode cX9_readsPattern 95 = .ok (.iconst 1, 1) := by decide +kernel
theorem dX9_readsPattern_96 : decode cX9_readsPattern 96 = .ok (.ireturn, 1) := by decide +kernel
theorem dX10_init_0 : decode cX10_init 0 = .ok (.aload_n 0, 1) := by decide +kernel
theorem dX10_init_1 : decode cX10_init 1 = .ok (.invokespecial 3, 3) := by decide +kernel
theorem dX10_init_4 : decode cX10_init 4 = .ok (.aload_n 0, 1) := by decide +kernel
theorem dX10_init_5 : decode cX10_init 5 = .ok (.bipush 24, 2) := by decide +kernel
theorem dX10_init_7 : decode cX10_init 7 = .ok (.newarray .long, 2) := by decide +kernel
theorem dX10_init_9 : decode cX10_init 9 = .ok (.putfield 9, 3) := by decide +kernel
theorem dX10_init_12 : decode cX10_init 12 = .ok (.aload_n 0, 1) := by decide +kernel
theorem dX10_init_13 : decode cX10_init 13 = .ok (.aload_n 1, 1) := by decide +kernel
theorem dX10_init_14 : decode cX10_init 14 = .ok (.putfield 15, 3) := by decide +kernel
theorem dX10_init_17 : decode cX10_init 17 = .ok (.return_, 1) := by decide +kernel
theorem dX10_go_0 : decode cX10_go 0 = .ok (.aload_n 0, 1) := by decide +kernel
theorem dX10_go_1 : decode cX10_go 1 = .ok (.getfield 9, 3) := by decide +kernel
theorem dX10_go_4 : decode cX10_go 4 = .ok (.lconst 0, 1) := by decide +kernel
theorem dX10_go_5 : decode cX10_go 5 = .ok (.invokestatic 19, 3) := by decide +kernel
theorem dX10_go_8 : decode cX10_go 8 = .ok (.aload_n 0, 1) := by decide +kernel
theorem dX10_go_9 : decode cX10_go 9 = .ok (.iload_n 1, 1) := by decide +kernel
theorem dX10_go_10 : decode cX10_go 10 = .ok (.putfield 25, 3) := by decide +kernel
theorem dX10_go_13 : decode cX10_go 13 = .ok (.aload_n 0, 1) := by decide +kernel
theorem dX10_go_14 : decode cX10_go 14 = .ok (.iload_n 2, 1) := by decide +kernel
theorem dX10_go_15 : decode cX10_go 15 = .ok (.putfield 29, 3) := by decide +kernel
theorem dX10_go_18 : decode cX10_go 18 = .ok (.aload_n 0, 1) := by decide +kernel
theorem dX10_go_19 : decode cX10_go 19 = .ok (.getfield 9, 3) := by decide +kernel
theorem dX10_go_22 : decode cX10_go 22 = .ok (.iload_n 1, 1) := by decide +kernel
theorem dX10_go_23 : decode cX10_go 23 = .ok (.lconst 1, 1) := by decide +kernel
theorem dX10_go_24 : decode cX10_go 24 = .ok (.iload_n 2, 1) := by decide +kernel
theorem dX10_go_25 : decode cX10_go 25 = .ok (.lshl, 1) := by decide +kernel
theorem dX10_go_26 : decode cX10_go 26 = .ok (.lastore, 1) := by decide +kernel
theorem dX10_go_27 : decode cX10_go 27 = .ok (.aload_n 0, 1) := by decide +kernel
theorem dX10_go_28 : decode cX10_go 28 = .ok (.iconst 4, 1) := by decide +kernel
theorem dX10_go_29 : decode cX10_go 29 = .ok (.putfield 32, 3) := by decide +kernel
theorem dX10_go_32 : decode cX10_go 32 = .ok (.iconst 0, 1) := by decide +kernel
theorem dX10_go_33 : decode cX10_go 33 = .ok (.istore 4, 2) := by decide +kernel
theorem dX10_go_35 : decode cX10_go 35 = .ok (.iload 4, 2) := by decide +kernel
theorem dX10_go_37 : decode cX10_go 37 = .ok (.iload_n 3, 1) := by decide +kernel
theorem dX10_go_38 : decode cX10_go 38 = .ok (.if_icmp .ge 24, 3) := by decide +kernel
theorem dX10_go_41 : decode cX10_go 41 = .ok (.aload_n 0, 1) := by decide +kernel
theorem dX10_go_42 : decode cX10_go 42 = .ok (.invokevirtual 35, 3) := by decide +kernel
theorem dX10_go_45 : decode cX10_go 45 = .ok (.aload_n 0, 1) := by decide +kernel
theorem dX10_go_46 : decode cX10_go 46 = .ok (.getfield 32, 3) := by decide +kernel
theorem dX10_go_49 : decode cX10_go 49 = .ok (.iconst 4, 1) := by decide +kernel
theorem dX10_go_50 : decode cX10_go 50 = .ok (.if_icmp .eq 6, 3) := by decide +kernel
theorem dX10_go_53 : decode cX10_go 53 = .ok (.iload 4, 2) := by decide +kernel
theorem dX10_go_55 : decode cX10_go 55 = .ok (.ireturn, 1) := by decide +kernel
theorem dX10_go_56 : decode cX10_go 56 = .ok (.iinc 4 1, 3) := by decide +kernel
theorem dX10_go_59 : decode cX10_go 59 = .ok (.goto (-24), 3) := by decide +kernel
theorem dX10_go_62 : decode cX10_go 62 = .ok (.iload_n 3, 1) := by decide +kernel
theorem dX10_go_63 : decode cX10_go 63 = .ok (.ireturn, 1) := by decide +kernel
theorem dX10_goOnce_0 : decode cX10_goOnce 0 = .ok (.aload_n 0, 1) := by decide +kernel
theorem dX10_goOnce_1 : decode cX10_goOnce 1 = .ok (.getfield 25, 3) := by decide +kernel
theorem dX10_goOnce_4 : decode cX10_goOnce 4 = .ok (.iconst 4, 1) := by decide +kernel
theorem dX10_goOnce_5 : decode cX10_goOnce 5 = .ok (.idiv, 1) := by decide +kernel
theorem dX10_goOnce_6 : decode cX10_goOnce 6 = .ok (.istore_n 1, 1) := by decide +kernel
theorem dX10_goOnce_7 : decode cX10_goOnce 7 = .ok (.aload_n 0, 1) := by decide +kernel
theorem dX10_goOnce_8 : decode cX10_goOnce 8 = .ok (.getfield 15, 3) := by decide +kernel
theorem dX10_goOnce_11 : decode cX10_goOnce 11 = .ok (.getfield 38, 3) := by decide +kernel
theorem dX10_goOnce_14 : decode cX10_goOnce 14 = .ok (.iload_n 1, 1) := by decide +kernel
theorem dX10_goOnce_15 : decode cX10_goOnce 15 = .ok (.aaload, 1) := by decide +kernel
theorem dX10_goOnce_16 : decode cX10_goOnce 16 = .ok (.astore_n 2, 1) := by decide +kernel
theorem dX10_goOnce_17 : decode cX10_goOnce 17 = .ok (.aload_n 2, 1) := by decide +kernel
theorem dX10_goOnce_18 : decode cX10_goOnce 18 = .ok (.aload_n 0, 1) := by decide +kernel
theorem dX10_goOnce_19 : decode cX10_goOnce 19 = .ok (.getfield 25, 3) := by decide +kernel
theorem dX10_goOnce_22 : decode cX10_goOnce 22 = .ok (.iconst 4, 1) := by decide +kernel
theorem dX10_goOnce_23 : decode cX10_goOnce 23 = .ok (.irem, 1) := by decide +kernel
theorem dX10_goOnce_24 : decode cX10_goOnce 24 = .ok (.aload_n 0, 1) := by decide +kernel
theorem dX10_goOnce_25 : decode cX10_goOnce 25 = .ok (.getfield 29, 3) := by decide +kernel
theorem dX10_goOnce_28 : decode cX10_goOnce 28 = .ok (.iconst 0, 1) := by decide +kernel
theorem dX10_goOnce_29 : decode cX10_goOnce 29 = .ok (.invokevirtual 44, 3) := by decide +kernel
theorem dX10_goOnce_32 : decode cX10_goOnce 32 = .ok (.istore_n 3, 1) := by decide +kernel
theorem dX10_goOnce_33 : decode cX10_goOnce 33 = .ok (.iload_n 3, 1) := by decide +kernel
theorem dX10_goOnce_34 : decode cX10_goOnce 34 = .ok (.iconst (-1), 1) := by decide +kernel
theorem dX10_goOnce_35 : decode cX10_goOnce 35 = .ok (.if_icmp .ne 9, 3) := by decide +kernel
theorem dX10_goOnce_38 : decode cX10_goOnce 38 = .ok (.aload_n 0, 1) := by decide +kernel
theorem dX10_goOnce_39 : decode cX10_goOnce 39 = .ok (.iconst 2, 1) := by decide +kernel
theorem dX10_goOnce_40 : decode cX10_goOnce 40 = .ok (.putfield 32, 3) := by decide +kernel
theorem dX10_goOnce_43 : decode cX10_goOnce 43 = .ok (.return_, 1) := by decide +kernel
theorem dX10_goOnce_44 : decode cX10_goOnce 44 = .ok (.aload_n 2, 1) := by decide +kernel
theorem dX10_goOnce_45 : decode cX10_goOnce 45 = .ok (.getfield 50, 3) := by decide +kernel
theorem dX10_goOnce_48 : decode cX10_goOnce 48 = .ok (.iload_n 3, 1) := by decide +kernel
theorem dX10_goOnce_49 : decode cX10_goOnce 49 = .ok (.aaload, 1) := by decide +kernel
theorem dX10_goOnce_50 : decode cX10_goOnce 50 = .ok (.astore 4, 2) := by decide +kernel
theorem dX10_goOnce_52 : decode cX10_goOnce 52 = .ok (.aload 4, 2) := by decide +kernel
theorem dX10_goOnce_54 : decode cX10_goOnce 54 = .ok (.invokevirtual 54, 3) := by decide +kernel
theorem dX10_goOnce_57 : decode cX10_goOnce 57 = .ok (.istore 5, 2) := by decide +kernel
theorem dX10_goOnce_59 : decode cX10_goOnce 59 = .ok (.iload 5, 2) := by decide +kernel
theorem dX10_goOnce_61 : decode cX10_goOnce 61 = .ok (.iconst (-1), 1) := by decide +kernel
theorem dX10_goOnce_62 : decode cX10_goOnce 62 = .ok (.if_icmp .ne 9, 3) := by decide +kernel
theorem dX10_goOnce_65 : decode cX10_goOnce 65 = .ok (.aload_n 0, 1) := by decide +kernel
theorem dX10_goOnce_66 : decode cX10_goOnce 66 = .ok (.iconst 1, 1) := by decide +kernel
theorem dX10_goOnce_67 : decode cX10_goOnce 67 = .ok (.putfield 32, 3) := by decide +kernel
theorem dX10_goOnce_70 : decode cX10_goOnce 70 = .ok (.return_, 1) := by decide +kernel
theorem dX10_goOnce_71 : decode cX10_goOnce 71 = .ok (.aload_n 0, 1) := by decide +kernel
theorem dX10_goOnce_72 : decode cX10_goOnce 72 = .ok (.getfield 15, 3) := by decide +kernel
theorem dX10_goOnce_75 : decode cX10_goOnce 75 = .ok (.getfield 60, 3) := by decide +kernel
theorem dX10_goOnce_78 : decode cX10_goOnce 78 = .ok (.iload_n 1, 1) := by decide +kernel
theorem dX10_goOnce_79 : decode cX10_goOnce 79 = .ok (.iload 5, 2) := by decide +kernel
theorem dX10_goOnce_81 : decode cX10_goOnce 81 = .ok (.invokestatic 64, 3) := by decide +kernel
theorem dX10_goOnce_84 : decode cX10_goOnce 84 = .ok (.iaload, 1) := by decide +kernel
theorem dX10_goOnce_85 : decode cX10_goOnce 85 = .ok (.istore 6, 2) := by decide +kernel
theorem dX10_goOnce_87 : decode cX10_goOnce 87 = .ok (.iload 6, 2) := by decide +kernel
theorem dX10_goOnce_89 : decode cX10_goOnce 89 = .ok (.iconst (-1), 1) := by decide +kernel
theorem dX10_goOnce_90 : decode cX10_goOnce 90 = .ok (.if_icmp .ne 11, 3) := by decide +kernel
theorem dX10_goOnce_93 : decode cX10_goOnce 93 = .ok (.aload_n 0, 1) := by decide +kernel
theorem dX10_goOnce_94 : decode cX10_goOnce 94 = .ok (.iconst 0, 1) := by decide +kernel
theorem dX10_goOnce_95 : decode cX10_goOnce 95 = .ok (.putfield 32, 3) := by decide +kernel
theorem dX10_goOnce_98 : decode cX10_goOnce 98 = .ok (.goto 70, 3) := by decide +kernel
theorem dX10_goOnce_101 : decode cX10_goOnce 101 = .ok (.aload_n 0, 1) := by decide +kernel
theorem dX10_goOnce_102 : decode cX10_goOnce 102 = .ok (.getfield 9, 3) := by decide +kernel
theorem dX10_goOnce_105 : decode cX10_goOnce 105 = .ok (.iload 6, 2) := by decide +kernel
theorem dX10_goOnce_107 : decode cX10_goOnce 107 = .ok (.laload, 1) := by decide +kernel
theorem dX10_goOnce_108 : decode cX10_goOnce 108 = .ok (.aload 4, 2) := by decide +kernel
theorem dX10_goOnce_110 : decode cX10_goOnce 110 = .ok (.aload_n 0, 1) := by decide +kernel
theorem dX10_goOnce_111 : decode cX10_goOnce 111 = .ok (.getfield 29, 3) := by decide +kernel
theorem dX10_goOnce_114 : decode cX10_goOnce 114 = .ok (.invokevirtual 68, 3) := by decide +kernel
theorem dX10_goOnce_117 : decode cX10_goOnce 117 = .ok (.invokestatic 72, 3) := by decide +kernel
theorem dX10_goOnce_120 : decode cX10_goOnce 120 = .ok (.ifCond .eq 11, 3) := by decide +kernel
theorem dX10_goOnce_123 : decode cX10_goOnce 123 = .ok (.aload_n 0, 1) := by decide +kernel
theorem dX10_goOnce_124 : decode cX10_goOnce 124 = .ok (.iconst 3, 1) := by decide +kernel
theorem dX10_goOnce_125 : decode cX10_goOnce 125 = .ok (.putfield 32, 3) := by decide +kernel
theorem dX10_goOnce_128 : decode cX10_goOnce 128 = .ok (.goto 40, 3) := by decide +kernel
theorem dX10_goOnce_131 : decode cX10_goOnce 131 = .ok (.aload_n 0, 1) := by decide +kernel
theorem dX10_goOnce_132 : decode cX10_goOnce 132 = .ok (.aload 4, 2) := by decide +kernel
theorem dX10_goOnce_134 : decode cX10_goOnce 134 = .ok (.aload_n 0, 1) := by decide +kernel
theorem dX10_goOnce_135 : decode cX10_goOnce 135 = .ok (.getfield 29, 3) := by decide +kernel
theorem dX10_goOnce_138 : decode cX10_goOnce 138 = .ok (.invokevirtual 68, 3) := by decide +kernel
theorem dX10_goOnce_141 : decode cX10_goOnce 141 = .ok (.putfield 29, 3) := by decide +kernel
theorem dX10_goOnce_144 : decode cX10_goOnce 144 = .ok (.aload_n 0, 1) := by decide +kernel
theorem dX10_goOnce_145 : decode cX10_goOnce 145 = .ok (.iload 6, 2) := by decide +kernel
theorem dX10_goOnce_147 : decode cX10_goOnce 147 = .ok (.putfield 25, 3) := by decide +kernel
theorem dX10_goOnce_150 : decode cX10_goOnce 150 = .ok (.aload_n 0, 1) := by decide +kernel
theorem dX10_goOnce_151 : decode cX10_goOnce 151 = .ok (.getfield 9, 3) := by decide +kernel
theorem dX10_goOnce_154 : decode cX10_goOnce 154 = .ok (.aload_n 0, 1) := by decide +kernel
theorem dX10_goOnce_155 : decode cX10_goOnce 155 = .ok (.getfield 25, 3) := by decide +kernel
theorem dX10_goOnce_158 : decode cX10_goOnce 158 = .ok (.dup2, 1) := by decide +kernel
theorem dX10_goOnce_159 : decode cX10_goOnce 159 = .ok (.laload, 1) := by decide +kernel
theorem dX10_goOnce_160 : decode cX10_goOnce 160 = .ok (.lconst 1, 1) := by decide +kernel
theorem dX10_goOnce_161 : decode cX10_goOnce 161 = .ok (.aload_n 0, 1) := by decide +kernel
theorem dX10_goOnce_162 : decode cX10_goOnce 162 = .ok (.getfield 29, 3) := by decide +kernel
theorem dX10_goOnce_165 : decode cX10_goOnce 165 = .ok (.lshl, 1) := by decide +kernel
theorem dX10_goOnce_166 : decode cX10_goOnce 166 = .ok (.lor, 1) := by decide +kernel
theorem dX10_goOnce_167 : decode cX10_goOnce 167 = .ok (.lastore, 1) := by decide +kernel
theorem dX10_goOnce_168 : decode cX10_goOnce 168 = .ok (.return_, 1) := by decide +kernel
theorem dJ13_bitCount_95d88_0 : decode cJ13_bitCount_95d88 0 = .ok (.lload_n 0, 1) := by decide +kernel
theorem dJ13_bitCount_95d88_1 : decode cJ13_bitCount_95d88 1 = .ok (.lload_n 0, 1) := by decide +kernel
theorem dJ13_bitCount_95d88_2 : decode cJ13_bitCount_95d88 2 = .ok (.iconst 1, 1) := by decide +kernel
theorem dJ13_bitCount_95d88_3 : decode cJ13_bitCount_95d88 3 = .ok (.lushr, 1) := by decide +kernel
theorem dJ13_bitCount_95d88_4 : decode cJ13_bitCount_95d88 4 = .ok (.ldc2_w 314, 3) := by decide +kernel
theorem dJ13_bitCount_95d88_7 : decode cJ13_bitCount_95d88 7 = .ok (.land, 1) := by decide +kernel
theorem dJ13_bitCount_95d88_8 : decode cJ13_bitCount_95d88 8 = .ok (.lsub, 1) := by decide +kernel
theorem dJ13_bitCount_95d88_9 : decode cJ13_bitCount_95d88 9 = .ok (.lstore_n 0, 1) := by decide +kernel
theorem dJ13_bitCount_95d88_10 : decode cJ13_bitCount_95d88 10 = .ok (.lload_n 0, 1) := by decide +kernel
theorem dJ13_bitCount_95d88_11 : decode cJ13_bitCount_95d88 11 = .ok (.ldc2_w 316, 3) := by decide +kernel
theorem dJ13_bitCount_95d88_14 : decode cJ13_bitCount_95d88 14 = .ok (.land, 1) := by decide +kernel
theorem dJ13_bitCount_95d88_15 : decode cJ13_bitCount_95d88 15 = .ok (.lload_n 0, 1) := by decide +kernel
theorem dJ13_bitCount_95d88_16 : decode cJ13_bitCount_95d88 16 = .ok (.iconst 2, 1) := by decide +kernel
theorem dJ13_bitCount_95d88_17 : decode cJ13_bitCount_95d88 17 = .ok (.lushr, 1) := by decide +kernel
theorem dJ13_bitCount_95d88_18 : decode cJ13_bitCount_95d88 18 = .ok (.ldc2_w 316, 3) := by decide +kernel
theorem dJ13_bitCount_95d88_21 : decode cJ13_bitCount_95d88 21 = .ok (.land, 1) := by decide +kernel
theorem dJ13_bitCount_95d88_22 : decode cJ13_bitCount_95d88 22 = .ok (.ladd, 1) := by decide +kernel
theorem dJ13_bitCount_95d88_23 : decode cJ13_bitCount_95d88 23 = .ok (.lstore_n 0, 1) := by decide +kernel
theorem dJ13_bitCount_95d88_24 : decode cJ13_bitCount_95d88 24 = .ok (.lload_n 0, 1) := by decide +kernel
theorem dJ13_bitCount_95d88_25 : decode cJ13_bitCount_95d88 25 = .ok (.lload_n 0, 1) := by decide +kernel
theorem dJ13_bitCount_95d88_26 : decode cJ13_bitCount_95d88 26 = .ok (.iconst 4, 1) := by decide +kernel
theorem dJ13_bitCount_95d88_27 : decode cJ13_bitCount_95d88 27 = .ok (.lushr, 1) := by decide +kernel
theorem dJ13_bitCount_95d88_28 : decode cJ13_bitCount_95d88 28 = .ok (.ladd, 1) := by decide +kernel
theorem dJ13_bitCount_95d88_29 : decode cJ13_bitCount_95d88 29 = .ok (.ldc2_w 318, 3) := by decide +kernel
theorem dJ13_bitCount_95d88_32 : decode cJ13_bitCount_95d88 32 = .ok (.land, 1) := by decide +kernel
theorem dJ13_bitCount_95d88_33 : decode cJ13_bitCount_95d88 33 = .ok (.lstore_n 0, 1) := by decide +kernel
theorem dJ13_bitCount_95d88_34 : decode cJ13_bitCount_95d88 34 = .ok (.lload_n 0, 1) := by decide +kernel
theorem dJ13_bitCount_95d88_35 : decode cJ13_bitCount_95d88 35 = .ok (.lload_n 0, 1) := by decide +kernel
theorem dJ13_bitCount_95d88_36 : decode cJ13_bitCount_95d88 36 = .ok (.bipush 8, 2) := by decide +kernel
theorem dJ13_bitCount_95d88_38 : decode cJ13_bitCount_95d88 38 = .ok (.lushr, 1) := by decide +kernel
theorem dJ13_bitCount_95d88_39 : decode cJ13_bitCount_95d88 39 = .ok (.ladd, 1) := by decide +kernel
theorem dJ13_bitCount_95d88_40 : decode cJ13_bitCount_95d88 40 = .ok (.lstore_n 0, 1) := by decide +kernel
theorem dJ13_bitCount_95d88_41 : decode cJ13_bitCount_95d88 41 = .ok (.lload_n 0, 1) := by decide +kernel
theorem dJ13_bitCount_95d88_42 : decode cJ13_bitCount_95d88 42 = .ok (.lload_n 0, 1) := by decide +kernel
theorem dJ13_bitCount_95d88_43 : decode cJ13_bitCount_95d88 43 = .ok (.bipush 16, 2) := by decide +kernel
theorem dJ13_bitCount_95d88_45 : decode cJ13_bitCount_95d88 45 = .ok (.lushr, 1) := by decide +kernel
theorem dJ13_bitCount_95d88_46 : decode cJ13_bitCount_95d88 46 = .ok (.ladd, 1) := by decide +kernel
theorem dJ13_bitCount_95d88_47 : decode cJ13_bitCount_95d88 47 = .ok (.lstore_n 0, 1) := by decide +kernel
theorem dJ13_bitCount_95d88_48 : decode cJ13_bitCount_95d88 48 = .ok (.lload_n 0, 1) := by decide +kernel
theorem dJ13_bitCount_95d88_49 : decode cJ13_bitCount_95d88 49 = .ok (.lload_n 0, 1) := by decide +kernel
theorem dJ13_bitCount_95d88_50 : decode cJ13_bitCount_95d88 50 = .ok (.bipush 32, 2) := by decide +kernel
theorem dJ13_bitCount_95d88_52 : decode cJ13_bitCount_95d88 52 = .ok (.lushr, 1) := by decide +kernel
theorem dJ13_bitCount_95d88_53 : decode cJ13_bitCount_95d88 53 = .ok (.ladd, 1) := by decide +kernel
theorem dJ13_bitCount_95d88_54 : decode cJ13_bitCount_95d88 54 = .ok (.lstore_n 0, 1) := by decide +kernel
theorem dJ13_bitCount_95d88_55 : decode cJ13_bitCount_95d88 55 = .ok (.lload_n 0, 1) := by decide +kernel
theorem dJ13_bitCount_95d88_56 : decode cJ13_bitCount_95d88 56 = .ok (.l2i, 1) := by decide +kernel
theorem dJ13_bitCount_95d88_57 : decode cJ13_bitCount_95d88 57 = .ok (.bipush 127, 2) := by decide +kernel
theorem dJ13_bitCount_95d88_59 : decode cJ13_bitCount_95d88 59 = .ok (.iand, 1) := by decide +kernel
theorem dJ13_bitCount_95d88_60 : decode cJ13_bitCount_95d88 60 = .ok (.ireturn, 1) := by decide +kernel
theorem dJ9_min_7cf53_0 : decode cJ9_min_7cf53 0 = .ok (.iload_n 0, 1) := by decide +kernel
theorem dJ9_min_7cf53_1 : decode cJ9_min_7cf53 1 = .ok (.iload_n 1, 1) := by decide +kernel
theorem dJ9_min_7cf53_2 : decode cJ9_min_7cf53 2 = .ok (.if_icmp .gt 7, 3) := by decide +kernel
theorem dJ9_min_7cf53_5 : decode cJ9_min_7cf53 5 = .ok (.iload_n 0, 1) := by decide +kernel
theorem dJ9_min_7cf53_6 : decode cJ9_min_7cf53 6 = .ok (.goto 4, 3) := by decide +kernel
theorem dJ9_min_7cf53_9 : decode cJ9_min_7cf53 9 = .ok (.iload_n 1, 1) := by decide +kernel
theorem dJ9_min_7cf53_10 : decode cJ9_min_7cf53 10 = .ok (.ireturn, 1) := by decide +kernel
theorem dJ7_fill_d0a16_0 : decode cJ7_fill_d0a16 0 = .ok (.iconst 0, 1) := by decide +kernel
theorem dJ7_fill_d0a16_1 : decode cJ7_fill_d0a16 1 = .ok (.istore_n 3, 1) := by decide +kernel
theorem dJ7_fill_d0a16_2 : decode cJ7_fill_d0a16 2 = .ok (.aload_n 0, 1) := by decide +kernel
theorem dJ7_fill_d0a16_3 : decode cJ7_fill_d0a16 3 = .ok (.arraylength, 1) := by decide +kernel
theorem dJ7_fill_d0a16_4 : decode cJ7_fill_d0a16 4 = .ok (.istore 4, 2) := by decide +kernel
theorem dJ7_fill_d0a16_6 : decode cJ7_fill_d0a16 6 = .ok (.iload_n 3, 1) := by decide +kernel
theorem dJ7_fill_d0a16_7 : decode cJ7_fill_d0a16 7 = .ok (.iload 4, 2) := by decide +kernel
theorem dJ7_fill_d0a16_9 : decode cJ7_fill_d0a16 9 = .ok (.if_icmp .ge 13, 3) := by decide +kernel
theorem dJ7_fill_d0a16_12 : decode cJ7_fill_d0a16 12 = .ok (.aload_n 0, 1) := by decide +kernel
theorem dJ7_fill_d0a16_13 : decode cJ7_fill_d0a16 13 = .ok (.iload_n 3, 1) := by decide +kernel
theorem dJ7_fill_d0a16_14 : decode cJ7_fill_d0a16 14 = .ok (.lload_n 1, 1) := by decide +kernel
theorem dJ7_fill_d0a16_15 : decode cJ7_fill_d0a16 15 = .ok (.lastore, 1) := by decide +kernel
theorem dJ7_fill_d0a16_16 : decode cJ7_fill_d0a16 16 = .ok (.iinc 3 1, 3) := by decide +kernel
theorem dJ7_fill_d0a16_19 : decode cJ7_fill_d0a16 19 = .ok (.goto (-13), 3) := by decide +kernel
theorem dJ7_fill_d0a16_22 : decode cJ7_fill_d0a16 22 = .ok (.return_, 1) := by decide +kernel
theorem dJ7_fill_53178_0 : decode cJ7_fill_53178 0 = .ok (.iconst 0, 1) := by decide +kernel
theorem dJ7_fill_53178_1 : decode cJ7_fill_53178 1 = .ok (.istore_n 2, 1) := by decide +kernel
theorem dJ7_fill_53178_2 : decode cJ7_fill_53178 2 = .ok (.aload_n 0, 1) := by decide +kernel
theorem dJ7_fill_53178_3 : decode cJ7_fill_53178 3 = .ok (.arraylength, 1) := by decide +kernel
theorem dJ7_fill_53178_4 : decode cJ7_fill_53178 4 = .ok (.istore_n 3, 1) := by decide +kernel
theorem dJ7_fill_53178_5 : decode cJ7_fill_53178 5 = .ok (.iload_n 2, 1) := by decide +kernel
theorem dJ7_fill_53178_6 : decode cJ7_fill_53178 6 = .ok (.iload_n 3, 1) := by decide +kernel
theorem dJ7_fill_53178_7 : decode cJ7_fill_53178 7 = .ok (.if_icmp .ge 13, 3) := by decide +kernel
theorem dJ7_fill_53178_10 : decode cJ7_fill_53178 10 = .ok (.aload_n 0, 1) := by decide +kernel
theorem dJ7_fill_53178_11 : decode cJ7_fill_53178 11 = .ok (.iload_n 2, 1) := by decide +kernel
theorem dJ7_fill_53178_12 : decode cJ7_fill_53178 12 = .ok (.iload_n 1, 1) := by decide +kernel
theorem dJ7_fill_53178_13 : decode cJ7_fill_53178 13 = .ok (.iastore, 1) := by decide +kernel
theorem dJ7_fill_53178_14 : decode cJ7_fill_53178 14 = .ok (.iinc 2 1, 3) := by decide +kernel
theorem dJ7_fill_53178_17 : decode cJ7_fill_53178 17 = .ok (.goto (-12), 3) := by decide +kernel
theorem dJ7_fill_53178_20 : decode cJ7_fill_53178 20 = .ok (.return_, 1) := by decide +kernel
end
section
theorem dX11_init_0 : decode cX11_init 0 = .ok (.aload_n 0, 1) := by decide +kernel
theorem dX11_init_1 : decode cX11_init 1 = .ok (.invokespecial 5, 3) := by decide +kernel
theorem dX11_init_4 : decode cX11_init 4 = .ok (.aload_n 0, 1) := by decide +kernel
theorem dX11_init_5 : decode cX11_init 5 = .ok (.new 11, 3) := by decide +kernel
theorem dX11_init_8 : decode cX11_init 8 = .ok (.dup, 1) := by decide +kernel
theorem dX11_init_9 : decode cX11_init 9 = .ok (.invokespecial 13, 3) := by decide +kernel
theorem dX11_init_12 : decode cX11_init 12 = .ok (.putfield 14, 3) := by decide +kernel
theorem dX11_init_15 : decode cX11_init 15 = .ok (.aload_n 0, 1) := by decide +kernel
theorem dX11_init_16 : decode cX11_init 16 = .ok (.new 18, 3) := by decide +kernel
theorem dX11_init_19 : decode cX11_init 19 = .ok (.dup, 1) := by decide +kernel
theorem dX11_init_20 : decode cX11_init 20 = .ok (.invokespecial 20, 3) := by decide +kernel
theorem dX11_init_23 : decode cX11_init 23 = .ok (.putfield 21, 3) := by decide +kernel
theorem dX11_init_26 : decode cX11_init 26 = .ok (.aload_n 0, 1) := by decide +kernel
theorem dX11_init_27 : decode cX11_init 27 = .ok (.new 25, 3) := by decide +kernel
theorem dX11_init_30 : decode cX11_init 30 = .ok (.dup, 1) := by decide +kernel
theorem dX11_init_31 : decode cX11_init 31 = .ok (.aload_n 0, 1) := by decide +kernel
theorem dX11_init_32 : decode cX11_init 32 = .ok (.getfield 14, 3) := by decide +kernel
theorem dX11_init_35 : decode cX11_init 35 = .ok (.invokespecial 27, 3) := by decide +kernel
theorem dX11_init_38 : decode cX11_init 38 = .ok (.putfield 30, 3) := by decide +kernel
theorem dX11_init_41 : decode cX11_init 41 = .ok (.aload_n 0, 1) := by decide +kernel
theorem dX11_init_42 : decode cX11_init 42 = .ok (.new 34, 3) := by decide +kernel
theorem dX11_init_45 : decode cX11_init 45 = .ok (.dup, 1) := by decide +kernel
theorem dX11_init_46 : decode cX11_init 46 = .ok (.aload_n 0, 1) := by decide +kernel
theorem dX11_init_47 : decode cX11_init 47 = .ok (.getfield 14, 3) := by decide +kernel
theorem dX11_init_50 : decode cX11_init 50 = .ok (.invokespecial 36, 3) := by decide +kernel
theorem dX11_init_53 : decode cX11_init 53 = .ok (.putfield 37, 3) := by decide +kernel
theorem dX11_init_56 : decode cX11_init 56 = .ok (.aload_n 0, 1) := by decide +kernel
theorem dX11_init_57 : decode cX11_init 57 = .ok (.new 41, 3) := by decide +kernel
theorem dX11_init_60 : decode cX11_init 60 = .ok (.dup, 1) := by decide +kernel
theorem dX11_init_61 : decode cX11_init 61 = .ok (.aload_n 0, 1) := by decide +kernel
theorem dX11_init_62 : decode cX11_init 62 = .ok (.getfield 14, 3) := by decide +kernel
theorem dX11_init_65 : decode cX11_init 65 = .ok (.invokespecial 43, 3) := by decide +kernel
theorem dX11_init_68 : decode cX11_init 68 = .ok (.putfield 44, 3) := by decide +kernel
theorem dX11_init_71 : decode cX11_init 71 = .ok (.aload_n 0, 1) := by decide +kernel
theorem dX11_init_72 : decode cX11_init 72 = .ok (.new 48, 3) := by decide +kernel
theorem dX11_init_75 : decode cX11_init 75 = .ok (.dup, 1) := by decide +kernel
theorem dX11_init_76 : decode cX11_init 76 = .ok (.aload_n 0, 1) := by decide +kernel
theorem dX11_init_77 : decode cX11_init 77 = .ok (.getfield 14, 3) := by decide +kernel
theorem dX11_init_80 : decode cX11_init 80 = .ok (.invokespecial 50, 3) := by decide +kernel
theorem dX11_init_83 : decode cX11_init 83 = .ok (.putfield 51, 3) := by decide +kernel
theorem dX11_init_86 : decode cX11_init 86 = .ok (.aload_n 0, 1) := by decide +kernel
theorem dX11_init_87 : decode cX11_init 87 = .ok (.new 55, 3) := by decide +kernel
theorem dX11_init_90 : decode cX11_init 90 = .ok (.dup, 1) := by decide +kernel
theorem dX11_init_91 : decode cX11_init 91 = .ok (.invokespecial 57, 3) := by decide +kernel
theorem dX11_init_94 : decode cX11_init 94 = .ok (.putfield 58, 3) := by decide +kernel
theorem dX11_init_97 : decode cX11_init 97 = .ok (.aload_n 0, 1) := by decide +kernel
theorem dX11_init_98 : decode cX11_init 98 = .ok (.new 62, 3) := by decide +kernel
theorem dX11_init_101 : decode cX11_init 101 = .ok (.dup, 1) := by decide +kernel
theorem dX11_init_102 : decode cX11_init 102 = .ok (.invokespecial 64, 3) := by decide +kernel
theorem dX11_init_105 : decode cX11_init 105 = .ok (.putfield 65, 3) := by decide +kernel
theorem dX11_init_108 : decode cX11_init 108 = .ok (.aload_n 0, 1) := by decide +kernel
theorem dX11_init_109 : decode cX11_init 109 = .ok (.bipush 8, 2) := by decide +kernel
theorem dX11_init_111 : decode cX11_init 111 = .ok (.anewarray 69, 3) := by decide +kernel
theorem dX11_init_114 : decode cX11_init 114 = .ok (.putfield 71, 3) := by decide +kernel
theorem dX11_init_117 : decode cX11_init 117 = .ok (.iconst 0, 1) := by decide +kernel
theorem dX11_init_118 : decode cX11_init 118 = .ok (.istore_n 1, 1) := by decide +kernel
theorem dX11_init_119 : decode cX11_init 119 = .ok (.iload_n 1, 1) := by decide +kernel
theorem dX11_init_120 : decode cX11_init 120 = .ok (.bipush 8, 2) := by decide +kernel
theorem dX11_init_122 : decode cX11_init 122 = .ok (.if_icmp .ge 22, 3) := by decide +kernel
theorem dX11_init_125 : decode cX11_init 125 = .ok (.aload_n 0, 1) := by decide +kernel
theorem dX11_init_126 : decode cX11_init 126 = .ok (.getfield 71, 3) := by decide +kernel
theorem dX11_init_129 : decode cX11_init 129 = .ok (.iload_n 1, 1) := by decide +kernel
theorem dX11_init_130 : decode cX11_init 130 = .ok (.new 69, 3) := by decide +kernel
theorem dX11_init_133 : decode cX11_init 133 = .ok (.dup, 1) := by decide +kernel
theorem dX11_init_134 : decode cX11_init 134 = .ok (.invokespecial 75, 3) := by decide +kernel
theorem dX11_init_137 : decode cX11_init 137 = .ok (.aastore, 1) := by decide +kernel
theorem dX11_init_138 : decode cX11_init 138 = .ok (.iinc 1 1, 3) := by decide +kernel
theorem dX11_init_141 : decode cX11_init 141 = .ok (.goto (-22), 3) := by decide +kernel
theorem dX11_init_144 : decode cX11_init 144 = .ok (.aload_n 0, 1) := by decide +kernel
theorem dX11_init_145 : decode cX11_init 145 = .ok (.aload_n 0, 1) := by decide +kernel
theorem dX11_init_146 : decode cX11_init 146 = .ok (.getfield 14, 3) := by decide +kernel
theorem dX11_init_149 : decode cX11_init 149 = .ok (.invokevirtual 76, 3) := by decide +kernel
theorem dX11_init_152 : decode cX11_init 152 = .ok (.putfield 80, 3) := by decide +kernel
theorem dX11_init_155 : decode cX11_init 155 = .ok (.return_, 1) := by decide +kernel
theorem dX11_reset_0 : decode cX11_reset 0 = .ok (.iload_n 1, 1) := by decide +kernel
theorem dX11_reset_1 : decode cX11_reset 1 = .ok (.iconst 1, 1) := by decide +kernel
theorem dX11_reset_2 : decode cX11_reset 2 = .ok (.if_icmp .lt 8, 3) := by decide +kernel
theorem dX11_reset_5 : decode cX11_reset 5 = .ok (.iload_n 1, 1) := by decide +kernel
theorem dX11_reset_6 : decode cX11_reset 6 = .ok (.iconst 5, 1) := by decide +kernel
theorem dX11_reset_7 : decode cX11_reset 7 = .ok (.if_icmp .le 6, 3) := by decide +kernel
theorem dX11_reset_10 : decode cX11_reset 10 = .ok (.bipush (-3), 2) := by decide +kernel
theorem dX11_reset_12 : decode cX11_reset 12 = .ok (.ireturn, 1) := by decide +kernel
theorem dX11_reset_13 : decode cX11_reset 13 = .ok (.aload_n 0, 1) := by decide +kernel
theorem dX11_reset_14 : decode cX11_reset 14 = .ok (.getfield 14, 3) := by decide +kernel
theorem dX11_reset_17 : decode cX11_reset 17 = .ok (.getfield 84, 3) := by decide +kernel
theorem dX11_reset_20 : decode cX11_reset 20 = .ok (.istore_n 2, 1) := by decide +kernel
theorem dX11_reset_21 : decode cX11_reset 21 = .ok (.aload_n 0, 1) := by decide +kernel
theorem dX11_reset_22 : decode cX11_reset 22 = .ok (.getfield 14, 3) := by decide +kernel
theorem dX11_reset_25 : decode cX11_reset 25 = .ok (.iload_n 1, 1) := by decide +kernel
theorem dX11_reset_26 : decode cX11_reset 26 = .ok (.invokevirtual 88, 3) := by decide +kernel
theorem dX11_reset_29 : decode cX11_reset 29 = .ok (.aload_n 0, 1) := by decide +kernel
theorem dX11_reset_30 : decode cX11_reset 30 = .ok (.getfield 21, 3) := by decide +kernel
theorem dX11_reset_33 : decode cX11_reset 33 = .ok (.iconst 0, 1) := by decide +kernel
theorem dX11_reset_34 : decode cX11_reset 34 = .ok (.putfield 92, 3) := by decide +kernel
theorem dX11_reset_37 : decode cX11_reset 37 = .ok (.aload_n 0, 1) := by decide +kernel
theorem dX11_reset_38 : decode cX11_reset 38 = .ok (.iconst 0, 1) := by decide +kernel
theorem dX11_reset_39 : decode cX11_reset 39 = .ok (.putfield 95, 3) := by decide +kernel
theorem dX11_reset_42 : decode cX11_reset 42 = .ok (.aload_n 0, 1) := by decide +kernel
theorem dX11_reset_43 : decode cX11_reset 43 = .ok (.iconst 0, 1) := by decide +kernel
theorem dX11_reset_44 : decode cX11_reset 44 = .ok (.putfield 98, 3) := by decide +kernel
theorem dX11_reset_47 : decode cX11_reset 47 = .ok (.aload_n 0, 1) := by decide +kernel
theorem dX11_reset_48 : decode cX11_reset 48 = .ok (.aload_n 0, 1) := by decide +kernel
theorem dX11_reset_49 : decode cX11_reset 49 = .ok (.getfield 14, 3) := by decide +kernel
theorem dX11_reset_52 : decode cX11_reset 52 = .ok (.invokevirtual 76, 3) := by decide +kernel
theorem dX11_reset_55 : decode cX11_reset 55 = .ok (.putfield 80, 3) := by decide +kernel
theorem dX11_reset_58 : decode cX11_reset 58 = .ok (.iload_n 2, 1) := by decide +kernel
theorem dX11_reset_59 : decode cX11_reset 59 = .ok (.ireturn, 1) := by decide +kernel
theorem dX11_connect_0 : decode cX11_connect 0 = .ok (.iload_n 1, 1) := by decide +kernel
theorem dX11_connect_1 : decode cX11_connect 1 = .ok (.iload_n 2, 1) := by decide +kernel
theorem dX11_connect_2 : decode cX11_connect 2 = .ok (.invokestatic 101, 3) := by decide +kernel
theorem dX11_connect_5 : decode cX11_connect 5 = .ok (.ifCond .eq 12, 3) := by decide +kernel
theorem dX11_connect_8 : decode cX11_connect 8 = .ok (.iload_n 3, 1) := by decide +kernel
theorem dX11_connect_9 : decode cX11_connect 9 = .ok (.iload 4, 2) := by decide +kernel
theorem dX11_connect_11 : decode cX11_connect 11 = .ok (.invokestatic 101, 3) := by decide +kernel
theorem dX11_connect_14 : decode cX11_connect 14 = .ok (.ifCond .ne 5, 3) := by decide +kernel
theorem dX11_connect_17 : decode cX11_connect 17 = .ok (.iconst (-1), 1) := by decide +kernel
theorem dX11_connect_18 : decode cX11_connect 18 = .ok (.ireturn, 1) := by decide +kernel
theorem dX11_connect_19 : decode cX11_connect 19 = .ok (.iload_n 1, 1) := by decide +kernel
theorem dX11_connect_20 : decode cX11_connect 20 = .ok (.iload_n 2, 1) := by decide +kernel
theorem dX11_connect_21 : decode cX11_connect 21 = .ok (.invokestatic 105, 3) := by decide +kernel
theorem dX11_connect_24 : decode cX11_connect 24 = .ok (.istore 5, 2) := by decide +kernel
theorem dX11_connect_26 : decode cX11_connect 26 = .ok (.iload_n 3, 1) := by decide +kernel
theorem dX11_connect_27 : decode cX11_connect 27 = .ok (.iload 4, 2) := by decide +kernel
theorem dX11_connect_29 : decode cX11_connect 29 = .ok (.invokestatic 105, 3) := by decide +kernel
theorem dX11_connect_32 : decode cX11_connect 32 = .ok (.istore 6, 2) := by decide +kernel
theorem dX11_connect_34 : decode cX11_connect 34 = .ok (.iload 5, 2) := by decide +kernel
theorem dX11_connect_36 : decode cX11_connect 36 = .ok (.iload 6, 2) := by decide +kernel
theorem dX11_connect_38 : decode cX11_connect 38 = .ok (.if_icmp .eq 31, 3) := by decide +kernel
theorem dX11_connect_41 : decode cX11_connect 41 = .ok (.aload_n 0, 1) := by decide +kernel
theorem dX11_connect_42 : decode cX11_connect 42 = .ok (.getfield 14, 3) := by decide +kernel
theorem dX11_connect_45 : decode cX11_connect 45 = .ok (.getfield 109, 3) := by decide +kernel
theorem dX11_connect_48 : decode cX11_connect 48 = .ok (.iload 5, 2) := by decide +kernel
theorem dX11_connect_50 : decode cX11_connect 50 = .ok (.iaload, 1) := by decide +kernel
theorem dX11_connect_51 : decode cX11_connect 51 = .ok (.iconst (-1), 1) := by decide +kernel
theorem dX11_connect_52 : decode cX11_connect 52 = .ok (.if_icmp .ne 17, 3) := by decide +kernel
theorem dX11_connect_55 : decode cX11_connect 55 = .ok (.aload_n 0, 1) := by decide +kernel
theorem dX11_connect_56 : decode cX11_connect 56 = .ok (.getfield 14, 3) := by decide +kernel
theorem dX11_connect_59 : decode cX11_connect 59 = .ok (.getfield 109, 3) := by decide +kernel
theorem dX11_connect_62 : decode cX11_connect 62 = .ok (.iload 6, 2) := by decide +kernel
theorem dX11_connect_64 : decode cX11_connect 64 = .ok (.iaload, 1) := by decide +kernel
theorem dX11_connect_65 : decode cX11_connect 65 = .ok (.iconst (-1), 1) := by decide +kernel
theorem dX11_connect_66 : decode cX11_connect 66 = .ok (.if_icmp .eq 6, 3) := by decide +kernel
theorem dX11_connect_69 : decode cX11_connect 69 = .ok (.bipush (-4), 2) := by decide +kernel
theorem dX11_connect_71 : decode cX11_connect 71 = .ok (.ireturn, 1) := by decide +kernel
theorem dX11_connect_72 : decode cX11_connect 72 = .ok (.aload_n 0, 1) := by decide +kernel
theorem dX11_connect_73 : decode cX11_connect 73 = .ok (.getfield 14, 3) := by decide +kernel
theorem dX11_connect_76 : decode cX11_connect 76 = .ok (.getfield 109, 3) := by decide +kernel
theorem dX11_connect_79 : decode cX11_connect 79 = .ok (.iload 5, 2) := by decide +kernel
theorem dX11_connect_81 : decode cX11_connect 81 = .ok (.iload 6, 2) := by decide +kernel
theorem dX11_connect_83 : decode cX11_connect 83 = .ok (.iastore, 1) := by decide +kernel
theorem dX11_connect_84 : decode cX11_connect 84 = .ok (.aload_n 0, 1) := by decide +kernel
theorem dX11_connect_85 : decode cX11_connect 85 = .ok (.getfield 14, 3) := by decide +kernel
theorem dX11_connect_88 : decode cX11_connect 88 = .ok (.getfield 109, 3) := by decide +kernel
theorem dX11_connect_91 : decode cX11_connect 91 = .ok (.iload 6, 2) := by decide +kernel
theorem dX11_connect_93 : decode cX11_connect 93 = .ok (.iload 5, 2) := by decide +kernel
theorem dX11_connect_95 : decode cX11_connect 95 = .ok (.iastore, 1) := by decide +kernel
theorem dX11_connect_96 : decode cX11_connect 96 = .ok (.aload_n 0, 1) := by decide +kernel
theorem dX11_connect_97 : decode cX11_connect 97 = .ok (.getfield 14, 3) := by decide +kernel
theorem dX11_connect_100 : decode cX11_connect 100 = .ok (.dup, 1) := by decide +kernel
theorem dX11_connect_101 : decode cX11_connect 101 = .ok (.getfield 113, 3) := by decide +kernel
theorem dX11_connect_104 : decode cX11_connect 104 = .ok (.iconst 1, 1) := by decide +kernel
theorem dX11_connect_105 : decode cX11_connect 105 = .ok (.iadd, 1) := by decide +kernel
theorem dX11_connect_106 : decode cX11_connect 106 = .ok (.putfield 113, 3) := by decide +kernel
theorem dX11_connect_109 : decode cX11_connect 109 = .ok (.aload_n 0, 1) := by decide +kernel
theorem dX11_connect_110 : decode cX11_connect 110 = .ok (.getfield 14, 3) := by decide +kernel
theorem dX11_connect_113 : decode cX11_connect 113 = .ok (.getfield 113, 3) := by decide +kernel
theorem dX11_connect_116 : decode cX11_connect 116 = .ok (.ireturn, 1) := by decide +kernel
theorem dX11_disconnect_0 : decode cX11_disconnect 0 = .ok (.iload_n 1, 1) := by decide +kernel
theorem dX11_disconnect_1 : decode cX11_disconnect 1 = .ok (.iload_n 2, 1) := by decide +kernel
theorem dX11_disconnect_2 : decode cX11_disconnect 2 = .ok (.invokestatic 101, 3) := by decide +kernel
theorem dX11_disconnect_5 : decode cX11_disconnect 5 = .ok (.ifCond .ne 5, 3) := by decide +kernel
theorem dX11_disconnect_8 : decode cX11_disconnect 8 = .ok (.iconst (-1), 1) := by decide +kernel
theorem dX11_disconnect_9 : decode cX11_disconnect 9 = .ok (.ireturn, 1) := by decide +kernel
theorem dX11_disconnect_10 : decode cX11_disconnect 10 = .ok (.iload_n 1, 1) := by decide +kernel
theorem dX11_disconnect_11 : decode cX11_disconnect 11 = .ok (.iload_n 2, 1) := by decide +kernel
theorem dX11_disconnect_12 : decode cX11_disconnect 12 = .ok (.invokestatic 105, 3) := by decide +kernel
theorem dX11_disconnect_15 : decode cX11_disconnect 15 = .ok (.istore_n 3, 1) := by decide +kernel
theorem dX11_disconnect_16 : decode cX11_disconnect 16 = .ok (.aload_n 0, 1) := by decide +kernel
theorem dX11_disconnect_17 : decode cX11_disconnect 17 = .ok (.getfield 14, 3) := by decide +kernel
theorem dX11_disconnect_20 : decode cX11_disconnect 20 = .ok (.getfield 109, 3) := by decide +kernel
theorem dX11_disconnect_23 : decode cX11_disconnect 23 = .ok (.iload_n 3, 1) := by decide +kernel
theorem dX11_disconnect_24 : decode cX11_disconnect 24 = .ok (.iaload, 1) := by decide +kernel
theorem dX11_disconnect_25 : decode cX11_disconnect 25 = .ok (.istore 4, 2) := by decide +kernel
theorem dX11_disconnect_27 : decode cX11_disconnect 27 = .ok (.iload 4, 2) := by decide +kernel
theorem dX11_disconnect_29 : decode cX11_disconnect 29 = .ok (.iconst (-1), 1) := by decide +kernel
theorem dX11_disconnect_30 : decode cX11_disconnect 30 = .ok (.if_icmp .ne 6, 3) := by decide +kernel
theorem dX11_disconnect_33 : decode cX11_disconnect 33 = .ok (.bipush (-6), 2) := by decide +kernel
theorem dX11_disconnect_35 : decode cX11_disconnect 35 = .ok (.ireturn, 1) := by decide +kernel
theorem dX11_disconnect_36 : decode cX11_disconnect 36 = .ok (.aload_n 0, 1) := by decide +kernel
theorem dX11_disconnect_37 : decode cX11_disconnect 37 = .ok (.getfield 14, 3) := by decide +kernel
theorem dX11_disconnect_40 : decode cX11_disconnect 40 = .ok (.getfield 109, 3) := by decide +kernel
theorem dX11_disconnect_43 : decode cX11_disconnect 43 = .ok (.iload_n 3, 1) := by decide +kernel
theorem dX11_disconnect_44 : decode cX11_disconnect 44 = .ok (.iconst (-1), 1) := by decide +kernel
theorem dX11_disconnect_45 : decode cX11_disconnect 45 = .ok (.iastore, 1) := by decide +kernel
theorem dX11_disconnect_46 : decode cX11_disconnect 46 = .ok (.aload_n 0, 1) := by decide +kernel
theorem dX11_disconnect_47 : decode cX11_disconnect 47 = .ok (.getfield 14, 3) := by decide +kernel
theorem dX11_disconnect_50 : decode cX11_disconnect 50 = .ok (.getfield 109, 3) := by decide +kernel
theorem dX11_disconnect_53 : decode cX11_disconnect 53 = .ok (.iload 4, 2) := by decide +kernel
theorem dX11_disconnect_55 : decode cX11_disconnect 55 = .ok (.iconst (-1), 1) := by decide +kernel
theorem dX11_disconnect_56 : decode cX11_disconnect 56 = .ok (.iastore, 1) := by decide +kernel
theorem dX11_disconnect_57 : decode cX11_disconnect 57 = .ok (.aload_n 0, 1) := by decide +kernel
theorem dX11_disconnect_58 : decode cX11_disconnect 58 = .ok (.getfield 14, 3) := by decide +kernel
theorem dX11_disconnect_61 : decode cX11_disconnect 61 = .ok (.dup, 1) := by decide +kernel
theorem dX11_disconnect_62 : decode cX11_disconnect 62 = .ok (.getfield 113, 3) := by decide +kernel
theorem dX11_disconnect_65 : decode cX11_disconnect 65 = .ok (.iconst 1, 1) := by decide +kernel
theorem dX11_disconnect_66 : decode cX11_disconnect 66 = .ok (.isub, 1) := by decide +kernel
theorem dX11_disconnect_67 : decode cX11_disconnect 67 = .ok (.putfield 113, 3) := by decide +kernel
theorem dX11_disconnect_70 : decode cX11_disconnect 70 = .ok (.aload_n 0, 1) := by decide +kernel
theorem dX11_disconnect_71 : decode cX11_disconnect 71 = .ok (.getfield 14, 3) := by decide +kernel
theorem dX11_disconnect_74 : decode cX11_disconnect 74 = .ok (.getfield 113, 3) := by decide +kernel
theorem dX11_disconnect_77 : decode cX11_disconnect 77 = .ok (.ireturn, 1) := by decide +kernel
theorem dX11_other_0 : decode cX11_other 0 = .ok (.iload_n 1, 1) := by decide +kernel
theorem dX11_other_1 : decode cX11_other 1 = .ok (.iload_n 2, 1) := by decide +kernel
theorem dX11_other_2 : decode cX11_other 2 = .ok (.invokestatic 101, 3) := by decide +kernel
theorem dX11_other_5 : decode cX11_other 5 = .ok (.ifCond .ne 5, 3) := by decide +kernel
theorem dX11_other_8 : decode cX11_other 8 = .ok (.iconst (-1), 1) := by decide +kernel
theorem dX11_other_9 : decode cX11_other 9 = .ok (.ireturn, 1) := by decide +kernel
theorem dX11_other_10 : decode cX11_other 10 = .ok (.aload_n 0, 1) := by decide +kernel
theorem dX11_other_11 : decode cX11_other 11 = .ok (.getfield 14, 3) := by decide +kernel
theorem dX11_other_14 : decode cX11_other 14 = .ok (.getfield 109, 3) := by decide +kernel
theorem dX11_other_17 : decode cX11_other 17 = .ok (.iload_n 1, 1) := by decide +kernel
theorem dX11_other_18 : decode cX11_other 18 = .ok (.iload_n 2, 1) := by decide +kernel
theorem dX11_other_19 : decode cX11_other 19 = .ok (.invokestatic 105, 3) := by decide +kernel
theorem dX11_other_22 : decode cX11_other 22 = .ok (.iaload, 1) := by decide +kernel
theorem dX11_other_23 : decode cX11_other 23 = .ok (.istore_n 3, 1) := by decide +kernel
theorem dX11_other_24 : decode cX11_other 24 = .ok (.iload_n 3, 1) := by decide +kernel
theorem dX11_other_25 : decode cX11_other 25 = .ok (.iconst (-1), 1) := by decide +kernel
theorem dX11_other_26 : decode cX11_other 26 = .ok (.if_icmp .ne 8, 3) := by decide +kernel
theorem dX11_other_29 : decode cX11_other 29 = .ok (.bipush (-6), 2) := by decide +kernel
theorem dX11_other_31 : decode cX11_other 31 = .ok (.goto 13, 3) := by decide +kernel
theorem dX11_other_34 : decode cX11_other 34 = .ok (.bipush 10, 2) := by decide +kernel
theorem dX11_other_36 : decode cX11_other 36 = .ok (.iload_n 3, 1) := by decide +kernel
theorem dX11_other_37 : decode cX11_other 37 = .ok (.iconst 4, 1) := by decide +kernel
theorem dX11_other_38 : decode cX11_other 38 = .ok (.idiv, 1) := by decide +kernel
theorem dX11_other_39 : decode cX11_other 39 = .ok (.imul, 1) := by decide +kernel
theorem dX11_other_40 : decode cX11_other 40 = .ok (.iload_n 3, 1) := by decide +kernel
theorem dX11_other_41 : decode cX11_other 41 = .ok (.iconst 4, 1) := by decide +kernel
theorem dX11_other_42 : decode cX11_other 42 = .ok (.irem, 1) := by decide +kernel
theorem dX11_other_43 : decode cX11_other 43 = .ok (.iadd, 1) := by decide +kernel
theorem dX11_other_44 : decode cX11_other 44 = .ok (.ireturn, 1) := by decide +kernel
theorem dX11_insertDrop_0 : decode cX11_insertDrop 0 = .ok (.iload_n 1, 1) := by decide +kernel
theorem dX11_insertDrop_1 : decode cX11_insertDrop 1 = .ok (.invokestatic 116, 3) := by decide +kernel
theorem dX11_insertDrop_4 : decode cX11_insertDrop 4 = .ok (.ifCond .ne 5, 3) := by decide +kernel
theorem dX11_insertDrop_7 : decode cX11_insertDrop 7 = .ok (.iconst (-1), 1) := by decide +kernel
theorem dX11_insertDrop_8 : decode cX11_insertDrop 8 = .ok (.ireturn, 1) := by decide +kernel
theorem dX11_insertDrop_9 : decode cX11_insertDrop 9 = .ok (.aload_n 0, 1) := by decide +kernel
theorem dX11_insertDrop_10 : decode cX11_insertDrop 10 = .ok (.iload_n 1, 1) := by decide +kernel
theorem dX11_insertDrop_11 : decode cX11_insertDrop 11 = .ok (.iload_n 2, 1) := by decide +kernel
theorem dX11_insertDrop_12 : decode cX11_insertDrop 12 = .ok (.iload_n 3, 1) := by decide +kernel
theorem dX11_insertDrop_13 : decode cX11_insertDrop 13 = .ok (.iload 4, 2) := by decide +kernel
theorem dX11_insertDrop_15 : decode cX11_insertDrop 15 = .ok (.iload 5, 2) := by decide +kernel
theorem dX11_insertDrop_17 : decode cX11_insertDrop 17 = .ok (.invokevirtual 120, 3) := by decide +kernel
theorem dX11_insertDrop_20 : decode cX11_insertDrop 20 = .ok (.ifCond .ne 6, 3) := by decide +kernel
theorem dX11_insertDrop_23 : decode cX11_insertDrop 23 = .ok (.bipush (-3), 2) := by decide +kernel
theorem dX11_insertDrop_25 : decode cX11_insertDrop 25 = .ok (.ireturn, 1) := by decide +kernel
theorem dX11_insertDrop_26 : decode cX11_insertDrop 26 = .ok (.aload_n 0, 1) := by decide +kernel
theorem dX11_insertDrop_27 : decode cX11_insertDrop 27 = .ok (.iload_n 1, 1) := by decide +kernel
theorem dX11_insertDrop_28 : decode cX11_insertDrop 28 = .ok (.iload_n 2, 1) := by decide +kernel
theorem dX11_insertDrop_29 : decode cX11_insertDrop 29 = .ok (.new 124, 3) := by decide +kernel
theorem dX11_insertDrop_32 : decode cX11_insertDrop 32 = .ok (.dup, 1) := by decide +kernel
theorem dX11_insertDrop_33 : decode cX11_insertDrop 33 = .ok (.iload_n 3, 1) := by decide +kernel
theorem dX11_insertDrop_34 : decode cX11_insertDrop 34 = .ok (.iload 4, 2) := by decide +kernel
theorem dX11_insertDrop_36 : decode cX11_insertDrop 36 = .ok (.iload 5, 2) := by decide +kernel
theorem dX11_insertDrop_38 : decode cX11_insertDrop 38 = .ok (.iconst 0, 1) := by decide +kernel
theorem dX11_insertDrop_39 : decode cX11_insertDrop 39 = .ok (.iconst 0, 1) := by decide +kernel
theorem dX11_insertDrop_40 : decode cX11_insertDrop 40 = .ok (.iconst 0, 1) := by decide +kernel
theorem dX11_insertDrop_41 : decode cX11_insertDrop 41 = .ok (.iconst 1, 1) := by decide +kernel
theorem dX11_insertDrop_42 : decode cX11_insertDrop 42 = .ok (.invokespecial 126, 3) := by decide +kernel
theorem dX11_insertDrop_45 : decode cX11_insertDrop 45 = .ok (.invokevirtual 129, 3) := by decide +kernel
theorem dX11_insertDrop_48 : decode cX11_insertDrop 48 = .ok (.ireturn, 1) := by decide +kernel
theorem dX11_insertForward_0 : decode cX11_insertForward 0 = .ok (.iload_n 1, 1) := by decide +kernel
theorem dX11_insertForward_1 : decode cX11_insertForward 1 = .ok (.invokestatic 116, 3) := by decide +kernel
theorem dX11_insertForward_4 : decode cX11_insertForward 4 = .ok (.ifCond .ne 5, 3) := by decide +kernel
theorem dX11_insertForward_7 : decode cX11_insertForward 7 = .ok (.iconst (-1), 1) := by decide +kernel
theorem dX11_insertForward_8 : decode cX11_insertForward 8 = .ok (.ireturn, 1) := by decide +kernel
theorem dX11_insertForward_9 : decode cX11_insertForward 9 = .ok (.aload_n 0, 1) := by decide +kernel
theorem dX11_insertForward_10 : decode cX11_insertForward 10 = .ok (.iload_n 1, 1) := by decide +kernel
theorem dX11_insertForward_11 : decode cX11_insertForward 11 = .ok (.iload_n 2, 1) := by decide +kernel
theorem dX11_insertForward_12 : decode cX11_insertForward 12 = .ok (.iload_n 3, 1) := by decide +kernel
theorem dX11_insertForward_13 : decode cX11_insertForward 13 = .ok (.iload 4, 2) := by decide +kernel
theorem dX11_insertForward_15 : decode cX11_insertForward 15 = .ok (.iload 5, 2) := by decide +kernel
theorem dX11_insertForward_17 : decode cX11_insertForward 17 = .ok (.invokevirtual 120, 3) := by decide +kernel
theorem dX11_insertForward_20 : decode cX11_insertForward 20 = .ok (.ifCond .eq 11, 3) := by decide +kernel
theorem dX11_insertForward_23 : decode cX11_insertForward 23 = .ok (.iload 6, 2) := by decide +kernel
theorem dX11_insertForward_25 : decode cX11_insertForward 25 = .ok (.invokestatic 133, 3) := by decide +kernel
theorem dX11_insertForward_28 : decode cX11_insertForward 28 = .ok (.ifCond .ne 6, 3) := by decide +kernel
theorem dX11_insertForward_31 : decode cX11_insertForward 31 = .ok (.bipush (-3), 2) := by decide +kernel
theorem dX11_insertForward_33 : decode cX11_insertForward 33 = .ok (.ireturn, 1) := by decide +kernel
theorem dX11_insertForward_34 : decode cX11_insertForward 34 = .ok (.aload_n 0, 1) := by decide +kernel
theorem dX11_insertForward_35 : decode cX11_insertForward 35 = .ok (.iload_n 1, 1) := by decide +kernel
theorem dX11_insertForward_36 : decode cX11_insertForward 36 = .ok (.iload_n 2, 1) := by decide +kernel
theorem dX11_insertForward_37 : decode cX11_insertForward 37 = .ok (.new 124, 3) := by decide +kernel
theorem dX11_insertForward_40 : decode cX11_insertForward 40 = .ok (.dup, 1) := by decide +kernel
theorem dX11_insertForward_41 : decode cX11_insertForward 41 = .ok (.iload_n 3, 1) := by decide +kernel
theorem dX11_insertForward_42 : decode cX11_insertForward 42 = .ok (.iload 4, 2) := by decide +kernel
theorem dX11_insertForward_44 : decode cX11_insertForward 44 = .ok (.iload 5, 2) := by decide +kernel
theorem dX11_insertForward_46 : decode cX11_insertForward 46 = .ok (.iload 6, 2) := by decide +kernel
theorem dX11_insertForward_48 : decode cX11_insertForward 48 = .ok (.iconst 0, 1) := by decide +kernel
theorem dX11_insertForward_49 : decode cX11_insertForward 49 = .ok (.iconst 0, 1) := by decide +kernel
theorem dX11_insertForward_50 : decode cX11_insertForward 50 = .ok (.iconst 1, 1) := by decide +kernel
theorem dX11_insertForward_51 : decode cX11_insertForward 51 = .ok (.invokespecial 126, 3) := by decide +kernel
theorem dX11_insertForward_54 : decode cX11_insertForward 54 = .ok (.invokevirtual 129, 3) := by decide +kernel
theorem dX11_insertForward_57 : decode cX11_insertForward 57 = .ok (.ireturn, 1) := by decide +kernel
theorem dX11_setRewriting_0 : decode cX11_setRewriting 0 = .ok (.aload_n 0, 1) := by decide +kernel
theorem dX11_setRewriting_1 : decode cX11_setRewriting 1 = .ok (.iload_n 1, 1) := by decide +kernel
theorem dX11_setRewriting_2 : decode cX11_setRewriting 2 = .ok (.iload_n 2, 1) := by decide +kernel
theorem dX11_setRewriting_3 : decode cX11_setRewriting 3 = .ok (.invokevirtual 136, 3) := by decide +kernel
theorem dX11_setRewriting_6 : decode cX11_setRewriting 6 = .ok (.istore 5, 2) := by decide +kernel
theorem dX11_setRewriting_8 : decode cX11_setRewriting 8 = .ok (.iload 5, 2) := by decide +kernel
theorem dX11_setRewriting_10 : decode cX11_setRewriting 10 = .ok (.ifCond .eq 6, 3) := by decide +kernel
theorem dX11_setRewriting_13 : decode cX11_setRewriting 13 = .ok (.iload 5, 2) := by decide +kernel
theorem dX11_setRewriting_15 : decode cX11_setRewriting 15 = .ok (.ireturn, 1) := by decide +kernel
theorem dX11_setRewriting_16 : decode cX11_setRewriting 16 = .ok (.aload_n 0, 1) := by decide +kernel
theorem dX11_setRewriting_17 : decode cX11_setRewriting 17 = .ok (.getfield 14, 3) := by decide +kernel
theorem dX11_setRewriting_20 : decode cX11_setRewriting 20 = .ok (.iload_n 3, 1) := by decide +kernel
theorem dX11_setRewriting_21 : decode cX11_setRewriting 21 = .ok (.iload 4, 2) := by decide +kernel
theorem dX11_setRewriting_23 : decode cX11_setRewriting 23 = .ok (.invokevirtual 139, 3) := by decide +kernel
theorem dX11_setRewriting_26 : decode cX11_setRewriting 26 = .ok (.ifCond .ne 6, 3) := by decide +kernel
theorem dX11_setRewriting_29 : decode cX11_setRewriting 29 = .ok (.bipush (-3), 2) := by decide +kernel
theorem dX11_setRewriting_31 : decode cX11_setRewriting 31 = .ok (.ireturn, 1) := by decide +kernel
theorem dX11_setRewriting_32 : decode cX11_setRewriting 32 = .ok (.aload_n 0, 1) := by decide +kernel
theorem dX11_setRewriting_33 : decode cX11_setRewriting 33 = .ok (.getfield 14, 3) := by decide +kernel
theorem dX11_setRewriting_36 : decode cX11_setRewriting 36 = .ok (.getfield 142, 3) := by decide +kernel
theorem dX11_setRewriting_39 : decode cX11_setRewriting 39 = .ok (.iload_n 1, 1) := by decide +kernel
theorem dX11_setRewriting_40 : decode cX11_setRewriting 40 = .ok (.aaload, 1) := by decide +kernel
theorem dX11_setRewriting_41 : decode cX11_setRewriting 41 = .ok (.getfield 146, 3) := by decide +kernel
theorem dX11_setRewriting_44 : decode cX11_setRewriting 44 = .ok (.iload_n 2, 1) := by decide +kernel
theorem dX11_setRewriting_45 : decode cX11_setRewriting 45 = .ok (.aaload, 1) := by decide +kernel
theorem dX11_setRewriting_46 : decode cX11_setRewriting 46 = .ok (.astore 6, 2) := by decide +kernel
theorem dX11_setRewriting_48 : decode cX11_setRewriting 48 = .ok (.aload 6, 2) := by decide +kernel
theorem dX11_setRewriting_50 : decode cX11_setRewriting 50 = .ok (.getfield 152, 3) := by decide +kernel
theorem dX11_setRewriting_53 : decode cX11_setRewriting 53 = .ok (.ifCond .ne 6, 3) := by decide +kernel
theorem dX11_setRewriting_56 : decode cX11_setRewriting 56 = .ok (.bipush (-4), 2) := by decide +kernel
theorem dX11_setRewriting_58 : decode cX11_setRewriting 58 = .ok (.ireturn, 1) := by decide +kernel
theorem dX11_setRewriting_59 : decode cX11_setRewriting 59 = .ok (.aload 6, 2) := by decide +kernel
theorem dX11_setRewriting_61 : decode cX11_setRewriting 61 = .ok (.iload_n 3, 1) := by decide +kernel
theorem dX11_setRewriting_62 : decode cX11_setRewriting 62 = .ok (.iload 4, 2) := by decide +kernel
theorem dX11_setRewriting_64 : decode cX11_setRewriting 64 = .ok (.invokevirtual 155, 3) := by decide +kernel
theorem dX11_setRewriting_67 : decode cX11_setRewriting 67 = .ok (.astore 7, 2) := by decide +kernel
theorem dX11_setRewriting_69 : decode cX11_setRewriting 69 = .ok (.aload_n 0, 1) := by decide +kernel
theorem dX11_setRewriting_70 : decode cX11_setRewriting 70 = .ok (.iload_n 1, 1) := by decide +kernel
theorem dX11_setRewriting_71 : decode cX11_setRewriting 71 = .ok (.iload_n 2, 1) := by decide +kernel
theorem dX11_setRewriting_72 : decode cX11_setRewriting 72 = .ok (.aload 7, 2) := by decide +kernel
theorem dX11_setRewriting_74 : decode cX11_setRewriting 74 = .ok (.invokevirtual 159, 3) := by decide +kernel
theorem dX11_setRewriting_77 : decode cX11_setRewriting 77 = .ok (.aload 7, 2) := by decide +kernel
theorem dX11_setRewriting_79 : decode cX11_setRewriting 79 = .ok (.getfield 163, 3) := by decide +kernel
theorem dX11_setRewriting_82 : decode cX11_setRewriting 82 = .ok (.aload 6, 2) := by decide +kernel
theorem dX11_setRewriting_84 : decode cX11_setRewriting 84 = .ok (.getfield 163, 3) := by decide +kernel
theorem dX11_setRewriting_87 : decode cX11_setRewriting 87 = .ok (.if_icmp .ne 16, 3) := by decide +kernel
theorem dX11_setRewriting_90 : decode cX11_setRewriting 90 = .ok (.aload 7, 2) := by decide +kernel
theorem dX11_setRewriting_92 : decode cX11_setRewriting 92 = .ok (.getfield 166, 3) := by decide +kernel
theorem dX11_setRewriting_95 : decode cX11_setRewriting 95 = .ok (.aload 6, 2) := by decide +kernel
theorem dX11_setRewriting_97 : decode cX11_setRewriting 97 = .ok (.getfield 166, 3) := by decide +kernel
theorem dX11_setRewriting_100 : decode cX11_setRewriting 100 = .ok (.if_icmp .eq 7, 3) := by decide +kernel
theorem dX11_setRewriting_103 : decode cX11_setRewriting 103 = .ok (.iconst 1, 1) := by decide +kernel
theorem dX11_setRewriting_104 : decode cX11_setRewriting 104 = .ok (.goto 4, 3) := by decide +kernel
theorem dX11_setRewriting_107 : decode cX11_setRewriting 107 = .ok (.iconst 0, 1) := by decide +kernel
theorem dX11_setRewriting_108 : decode cX11_setRewriting 108 = .ok (.ireturn, 1) := by decide +kernel
theorem dX11_removeRule_0 : decode cX11_removeRule 0 = .ok (.aload_n 0, 1) := by decide +kernel
theorem dX11_removeRule_1 : decode cX11_removeRule 1 = .ok (.iload_n 1, 1) := by decide +kernel
theorem dX11_removeRule_2 : decode cX11_removeRule 2 = .ok (.iload_n 2, 1) := by decide +kernel
theorem dX11_removeRule_3 : decode cX11_removeRule 3 = .ok (.invokevirtual 136, 3) := by decide +kernel
theorem dX11_removeRule_6 : decode cX11_removeRule 6 = .ok (.istore_n 3, 1) := by decide +kernel
theorem dX11_removeRule_7 : decode cX11_removeRule 7 = .ok (.iload_n 3, 1) := by decide +kernel
theorem dX11_removeRule_8 : decode cX11_removeRule 8 = .ok (.ifCond .eq 5, 3) := by decide +kernel
theorem dX11_removeRule_11 : decode cX11_removeRule 11 = .ok (.iload_n 3, 1) := by decide +kernel
theorem dX11_removeRule_12 : decode cX11_removeRule 12 = .ok (.ireturn, 1) := by decide +kernel
theorem dX11_removeRule_13 : decode cX11_removeRule 13 = .ok (.aload_n 0, 1) := by decide +kernel
theorem dX11_removeRule_14 : decode cX11_removeRule 14 = .ok (.getfield 14, 3) := by decide +kernel
theorem dX11_removeRule_17 : decode cX11_removeRule 17 = .ok (.getfield 142, 3) := by decide +kernel
theorem dX11_removeRule_20 : decode cX11_removeRule 20 = .ok (.iload_n 1, 1) := by decide +kernel
theorem dX11_removeRule_21 : decode cX11_removeRule 21 = .ok (.aaload, 1) := by decide +kernel
theorem dX11_removeRule_22 : decode cX11_removeRule 22 = .ok (.astore 4, 2) := by decide +kernel
theorem dX11_removeRule_24 : decode cX11_removeRule 24 = .ok (.aload_n 0, 1) := by decide +kernel
theorem dX11_removeRule_25 : decode cX11_removeRule 25 = .ok (.getfield 21, 3) := by decide +kernel
theorem dX11_removeRule_28 : decode cX11_removeRule 28 = .ok (.iload_n 1, 1) := by decide +kernel
theorem dX11_removeRule_29 : decode cX11_removeRule 29 = .ok (.aload 4, 2) := by decide +kernel
theorem dX11_removeRule_31 : decode cX11_removeRule 31 = .ok (.invokevirtual 169, 3) := by decide +kernel
theorem dX11_removeRule_34 : decode cX11_removeRule 34 = .ok (.aload 4, 2) := by decide +kernel
theorem dX11_removeRule_36 : decode cX11_removeRule 36 = .ok (.iload_n 2, 1) := by decide +kernel
theorem dX11_removeRule_37 : decode cX11_removeRule 37 = .ok (.invokevirtual 173, 3) := by decide +kernel
theorem dX11_removeRule_40 : decode cX11_removeRule 40 = .ok (.aload 4, 2) := by decide +kernel
theorem dX11_removeRule_42 : decode cX11_removeRule 42 = .ok (.getfield 176, 3) := by decide +kernel
theorem dX11_removeRule_45 : decode cX11_removeRule 45 = .ok (.ireturn, 1) := by decide +kernel
theorem dX11_moveRule_0 : decode cX11_moveRule 0 = .ok (.aload_n 0, 1) := by decide +kernel
theorem dX11_moveRule_1 : decode cX11_moveRule 1 = .ok (.iload_n 1, 1) := by decide +kernel
theorem dX11_moveRule_2 : decode cX11_moveRule 2 = .ok (.iload_n 2, 1) := by decide +kernel
theorem dX11_moveRule_3 : decode cX11_moveRule 3 = .ok (.invokevirtual 136, 3) := by decide +kernel
theorem dX11_moveRule_6 : decode cX11_moveRule 6 = .ok (.istore 4, 2) := by decide +kernel
theorem dX11_moveRule_8 : decode cX11_moveRule 8 = .ok (.iload 4, 2) := by decide +kernel
theorem dX11_moveRule_10 : decode cX11_moveRule 10 = .ok (.ifCond .ne 11, 3) := by decide +kernel
theorem dX11_moveRule_13 : decode cX11_moveRule 13 = .ok (.aload_n 0, 1) := by decide +kernel
theorem dX11_moveRule_14 : decode cX11_moveRule 14 = .ok (.iload_n 1, 1) := by decide +kernel
theorem dX11_moveRule_15 : decode cX11_moveRule 15 = .ok (.iload_n 3, 1) := by decide +kernel
theorem dX11_moveRule_16 : decode cX11_moveRule 16 = .ok (.invokevirtual 136, 3) := by decide +kernel
theorem dX11_moveRule_19 : decode cX11_moveRule 19 = .ok (.istore 4, 2) := by decide +kernel
theorem dX11_moveRule_21 : decode cX11_moveRule 21 = .ok (.iload 4, 2) := by decide +kernel
theorem dX11_moveRule_23 : decode cX11_moveRule 23 = .ok (.ifCond .eq 6, 3) := by decide +kernel
theorem dX11_moveRule_26 : decode cX11_moveRule 26 = .ok (.iload 4, 2) := by decide +kernel
theorem dX11_moveRule_28 : decode cX11_moveRule 28 = .ok (.ireturn, 1) := by decide +kernel
theorem dX11_moveRule_29 : decode cX11_moveRule 29 = .ok (.aload_n 0, 1) := by decide +kernel
theorem dX11_moveRule_30 : decode cX11_moveRule 30 = .ok (.getfield 14, 3) := by decide +kernel
theorem dX11_moveRule_33 : decode cX11_moveRule 33 = .ok (.getfield 142, 3) := by decide +kernel
theorem dX11_moveRule_36 : decode cX11_moveRule 36 = .ok (.iload_n 1, 1) := by decide +kernel
theorem dX11_moveRule_37 : decode cX11_moveRule 37 = .ok (.aaload, 1) := by decide +kernel
theorem dX11_moveRule_38 : decode cX11_moveRule 38 = .ok (.astore 5, 2) := by decide +kernel
theorem dX11_moveRule_40 : decode cX11_moveRule 40 = .ok (.aload_n 0, 1) := by decide +kernel
theorem dX11_moveRule_41 : decode cX11_moveRule 41 = .ok (.getfield 21, 3) := by decide +kernel
theorem dX11_moveRule_44 : decode cX11_moveRule 44 = .ok (.iload_n 1, 1) := by decide +kernel
theorem dX11_moveRule_45 : decode cX11_moveRule 45 = .ok (.aload 5, 2) := by decide +kernel
theorem dX11_moveRule_47 : decode cX11_moveRule 47 = .ok (.invokevirtual 169, 3) := by decide +kernel
theorem dX11_moveRule_50 : decode cX11_moveRule 50 = .ok (.aload 5, 2) := by decide +kernel
theorem dX11_moveRule_52 : decode cX11_moveRule 52 = .ok (.getfield 146, 3) := by decide +kernel
theorem dX11_moveRule_55 : decode cX11_moveRule 55 = .ok (.iload_n 2, 1) := by decide +kernel
theorem dX11_moveRule_56 : decode cX11_moveRule 56 = .ok (.aaload, 1) := by decide +kernel
theorem dX11_moveRule_57 : decode cX11_moveRule 57 = .ok (.astore 6, 2) := by decide +kernel
theorem dX11_moveRule_59 : decode cX11_moveRule 59 = .ok (.aload 5, 2) := by decide +kernel
theorem dX11_moveRule_61 : decode cX11_moveRule 61 = .ok (.iload_n 2, 1) := by decide +kernel
theorem dX11_moveRule_62 : decode cX11_moveRule 62 = .ok (.invokevirtual 173, 3) := by decide +kernel
theorem dX11_moveRule_65 : decode cX11_moveRule 65 = .ok (.aload 5, 2) := by decide +kernel
theorem dX11_moveRule_67 : decode cX11_moveRule 67 = .ok (.iload_n 3, 1) := by decide +kernel
theorem dX11_moveRule_68 : decode cX11_moveRule 68 = .ok (.aload 6, 2) := by decide +kernel
theorem dX11_moveRule_70 : decode cX11_moveRule 70 = .ok (.invokevirtual 177, 3) := by decide +kernel
theorem dX11_moveRule_73 : decode cX11_moveRule 73 = .ok (.iload_n 2, 1) := by decide +kernel
theorem dX11_moveRule_74 : decode cX11_moveRule 74 = .ok (.iload_n 3, 1) := by decide +kernel
theorem dX11_moveRule_75 : decode cX11_moveRule 75 = .ok (.if_icmp .eq 7, 3) := by decide +kernel
theorem dX11_moveRule_78 : decode cX11_moveRule 78 = .ok (.iconst 1, 1) := by decide +kernel
theorem dX11_moveRule_79 : decode cX11_moveRule 79 = .ok (.goto 4, 3) := by decide +kernel
theorem dX11_moveRule_82 : decode cX11_moveRule 82 = .ok (.iconst 0, 1) := by decide +kernel
theorem dX11_moveRule_83 : decode cX11_moveRule 83 = .ok (.ireturn, 1) := by decide +kernel
theorem dX11_switchRule_0 : decode cX11_switchRule 0 = .ok (.aload_n 0, 1) := by decide +kernel
theorem dX11_switchRule_1 : decode cX11_switchRule 1 = .ok (.iload_n 1, 1) := by decide +kernel
theorem dX11_switchRule_2 : decode cX11_switchRule 2 = .ok (.iload_n 2, 1) := by decide +kernel
theorem dX11_switchRule_3 : decode cX11_switchRule 3 = .ok (.invokevirtual 136, 3) := by decide +kernel
theorem dX11_switchRule_6 : decode cX11_switchRule 6 = .ok (.istore 4, 2) := by decide +kernel
theorem dX11_switchRule_8 : decode cX11_switchRule 8 = .ok (.iload 4, 2) := by decide +kernel
theorem dX11_switchRule_10 : decode cX11_switchRule 10 = .ok (.ifCond .eq 6, 3) := by decide +kernel
theorem dX11_switchRule_13 : decode cX11_switchRule 13 = .ok (.iload 4, 2) := by decide +kernel
theorem dX11_switchRule_15 : decode cX11_switchRule 15 = .ok (.ireturn, 1) := by decide +kernel
theorem dX11_switchRule_16 : decode cX11_switchRule 16 = .ok (.aload_n 0, 1) := by decide +kernel
theorem dX11_switchRule_17 : decode cX11_switchRule 17 = .ok (.getfield 14, 3) := by decide +kernel
theorem dX11_switchRule_20 : decode cX11_switchRule 20 = .ok (.getfield 142, 3) := by decide +kernel
theorem dX11_switchRule_23 : decode cX11_switchRule 23 = .ok (.iload_n 1, 1) := by decide +kernel
theorem dX11_switchRule_24 : decode cX11_switchRule 24 = .ok (.aaload, 1) := by decide +kernel
theorem dX11_switchRule_25 : decode cX11_switchRule 25 = .ok (.getfield 146, 3) := by decide +kernel
theorem dX11_switchRule_28 : decode cX11_switchRule 28 = .ok (.iload_n 2, 1) := by decide +kernel
theorem dX11_switchRule_29 : decode cX11_switchRule 29 = .ok (.aaload, 1) := by decide +kernel
theorem dX11_switchRule_30 : decode cX11_switchRule 30 = .ok (.astore 5, 2) := by decide +kernel
theorem dX11_switchRule_32 : decode cX11_switchRule 32 = .ok (.aload_n 0, 1) := by decide +kernel
theorem dX11_switchRule_33 : decode cX11_switchRule 33 = .ok (.iload_n 1, 1) := by decide +kernel
theorem dX11_switchRule_34 : decode cX11_switchRule 34 = .ok (.iload_n 2, 1) := by decide +kernel
theorem dX11_switchRule_35 : decode cX11_switchRule 35 = .ok (.aload 5, 2) := by decide +kernel
theorem dX11_switchRule_37 : decode cX11_switchRule 37 = .ok (.iload_n 3, 1) := by decide +kernel
theorem dX11_switchRule_38 : decode cX11_switchRule 38 = .ok (.invokevirtual 181, 3) := by decide +kernel
theorem dX11_switchRule_41 : decode cX11_switchRule 41 = .ok (.invokevirtual 159, 3) := by decide +kernel
theorem dX11_switchRule_44 : decode cX11_switchRule 44 = .ok (.aload 5, 2) := by decide +kernel
theorem dX11_switchRule_46 : decode cX11_switchRule 46 = .ok (.getfield 185, 3) := by decide +kernel
theorem dX11_switchRule_49 : decode cX11_switchRule 49 = .ok (.iload_n 3, 1) := by decide +kernel
theorem dX11_switchRule_50 : decode cX11_switchRule 50 = .ok (.if_icmp .eq 7, 3) := by decide +kernel
theorem dX11_switchRule_53 : decode cX11_switchRule 53 = .ok (.iconst 1, 1) := by decide +kernel
theorem dX11_switchRule_54 : decode cX11_switchRule 54 = .ok (.goto 4, 3) := by decide +kernel
theorem dX11_switchRule_57 : decode cX11_switchRule 57 = .ok (.iconst 0, 1) := by decide +kernel
theorem dX11_switchRule_58 : decode cX11_switchRule 58 = .ok (.ireturn, 1) := by decide +kernel
theorem dX11_undo_0 : decode cX11_undo 0 = .ok (.aload_n 0, 1) := by decide +kernel
theorem dX11_undo_1 : decode cX11_undo 1 = .ok (.getfield 21, 3) := by decide +kernel
theorem dX11_undo_4 : decode cX11_undo 4 = .ok (.getfield 92, 3) := by decide +kernel
theorem dX11_undo_7 : decode cX11_undo 7 = .ok (.ifCond .ne 6, 3) := by decide +kernel
theorem dX11_undo_10 : decode cX11_undo 10 = .ok (.bipush (-6), 2) := by decide +kernel
theorem dX11_undo_12 : decode cX11_undo 12 = .ok (.ireturn, 1) := by decide +kernel
theorem dX11_undo_13 : decode cX11_undo 13 = .ok (.aload_n 0, 1) := by decide +kernel
theorem dX11_undo_14 : decode cX11_undo 14 = .ok (.getfield 21, 3) := by decide +kernel
theorem dX11_undo_17 : decode cX11_undo 17 = .ok (.aload_n 0, 1) := by decide +kernel
theorem dX11_undo_18 : decode cX11_undo 18 = .ok (.getfield 14, 3) := by decide +kernel
theorem dX11_undo_21 : decode cX11_undo 21 = .ok (.invokevirtual 189, 3) := by decide +kernel
theorem dX11_undo_24 : decode cX11_undo 24 = .ok (.aload_n 0, 1) := by decide +kernel
theorem dX11_undo_25 : decode cX11_undo 25 = .ok (.getfield 21, 3) := by decide +kernel
theorem dX11_undo_28 : decode cX11_undo 28 = .ok (.getfield 92, 3) := by decide +kernel
theorem dX11_undo_31 : decode cX11_undo 31 = .ok (.ireturn, 1) := by decide +kernel
theorem dX11_rule_0 : decode cX11_rule 0 = .ok (.aload_n 0, 1) := by decide +kernel
theorem dX11_rule_1 : decode cX11_rule 1 = .ok (.iload_n 1, 1) := by decide +kernel
theorem dX11_rule_2 : decode cX11_rule 2 = .ok (.iload_n 2, 1) := by decide +kernel
theorem dX11_rule_3 : decode cX11_rule 3 = .ok (.invokevirtual 136, 3) := by decide +kernel
theorem dX11_rule_6 : decode cX11_rule 6 = .ok (.istore 4, 2) := by decide +kernel
theorem dX11_rule_8 : decode cX11_rule 8 = .ok (.iload 4, 2) := by decide +kernel
theorem dX11_rule_10 : decode cX11_rule 10 = .ok (.ifCond .eq 6, 3) := by decide +kernel
theorem dX11_rule_13 : decode cX11_rule 13 = .ok (.iload 4, 2) := by decide +kernel
theorem dX11_rule_15 : decode cX11_rule 15 = .ok (.ireturn, 1) := by decide +kernel
theorem dX11_rule_16 : decode cX11_rule 16 = .ok (.aload_n 0, 1) := by decide +kernel
theorem dX11_rule_17 : decode cX11_rule 17 = .ok (.getfield 14, 3) := by decide +kernel
theorem dX11_rule_20 : decode cX11_rule 20 = .ok (.getfield 142, 3) := by decide +kernel
theorem dX11_rule_23 : decode cX11_rule 23 = .ok (.iload_n 1, 1) := by decide +kernel
theorem dX11_rule_24 : decode cX11_rule 24 = .ok (.aaload, 1) := by decide +kernel
theorem dX11_rule_25 : decode cX11_rule 25 = .ok (.getfield 146, 3) := by decide +kernel
theorem dX11_rule_28 : decode cX11_rule 28 = .ok (.iload_n 2, 1) := by decide +kernel
theorem dX11_rule_29 : decode cX11_rule 29 = .ok (.aaload, 1) := by decide +kernel
theorem dX11_rule_30 : decode cX11_rule 30 = .ok (.astore 5, 2) := by decide +kernel
theorem dX11_rule_32 : decode cX11_rule 32 = .ok (.iload_n 3, 1) := by decide +kernel
theorem dX11_rule_33 : decode cX11_rule 33 = .ok (.tableswitch 93 0 6 #[43, 49, 55, 61, 67, 73, 79], 43) := by decide +kernel
theorem dX11_rule_76 : decode cX11_rule 76 = .ok (.aload 5, 2) := by decide +kernel
theorem dX11_rule_78 : decode cX11_rule 78 = .ok (.getfield 192, 3) := by decide +kernel
theorem dX11_rule_81 : decode cX11_rule 81 = .ok (.ireturn, 1) := by decide +kernel
theorem dX11_rule_82 : decode cX11_rule 82 = .ok (.aload 5, 2) := by decide +kernel
theorem dX11_rule_84 : decode cX11_rule 84 = .ok (.getfield 195, 3) := by decide +kernel
theorem dX11_rule_87 : decode cX11_rule 87 = .ok (.ireturn, 1) := by decide +kernel
theorem dX11_rule_88 : decode cX11_rule 88 = .ok (.aload 5, 2) := by decide +kernel
theorem dX11_rule_90 : decode cX11_rule 90 = .ok (.getfield 198, 3) := by decide +kernel
theorem dX11_rule_93 : decode cX11_rule 93 = .ok (.ireturn, 1) := by decide +kernel
theorem dX11_rule_94 : decode cX11_rule 94 = .ok (.aload 5, 2) := by decide +kernel
theorem dX11_rule_96 : decode cX11_rule 96 = .ok (.getfield 152, 3) := by decide +kernel
theorem dX11_rule_99 : decode cX11_rule 99 = .ok (.ireturn, 1) := by decide +kernel
theorem dX11_rule_100 : decode cX11_rule 100 = .ok (.aload 5, 2) := by decide +kernel
theorem dX11_rule_102 : decode cX11_rule 102 = .ok (.getfield 163, 3) := by decide +kernel
theorem dX11_rule_105 : decode cX11_rule 105 = .ok (.ireturn, 1) := by decide +kernel
theorem dX11_rule_106 : decode cX11_rule 106 = .ok (.aload 5, 2) := by decide +kernel
theorem dX11_rule_108 : decode cX11_rule 108 = .ok (.getfield 166, 3) := by decide +kernel
theorem dX11_rule_111 : decode cX11_rule 111 = .ok (.ireturn, 1) := by decide +kernel
theorem dX11_rule_112 : decode cX11_rule 112 = .ok (.aload 5, 2) := by decide +kernel
theorem dX11_rule_114 : decode cX11_rule 114 = .ok (.getfield 185, 3) := by decide +kernel
theorem dX11_rule_117 : decode cX11_rule 117 = .ok (.ifCond .eq 7, 3) := by decide +kernel
theorem dX11_rule_120 : decode cX11_rule 120 = .ok (.iconst 1, 1) := by decide +kernel
theorem dX11_rule_121 : decode cX11_rule 121 = .ok (.goto 4, 3) := by decide +kernel
theorem dX11_rule_124 : decode cX11_rule 124 = .ok (.iconst 0, 1) := by decide +kernel
theorem dX11_rule_125 : decode cX11_rule 125 = .ok (.ireturn, 1) := by decide +kernel
theorem dX11_rule_126 : decode cX11_rule 126 = .ok (.bipush (-3), 2) := by decide +kernel
theorem dX11_rule_128 : decode cX11_rule 128 = .ok (.ireturn, 1) := by decide +kernel
theorem dX11_count_0 : decode cX11_count 0 = .ok (.iload_n 1, 1) := by decide +kernel
theorem dX11_count_1 : decode cX11_count 1 = .ok (.tableswitch 72 0 4 #[35, 43, 51, 59, 64], 35) := by decide +kernel
theorem dX11_count_36 : decode cX11_count 36 = .ok (.aload_n 0, 1) := by decide +kernel
theorem dX11_count_37 : decode cX11_count 37 = .ok (.getfield 14, 3) := by decide +kernel
theorem dX11_count_40 : decode cX11_count 40 = .ok (.getfield 84, 3) := by decide +kernel
theorem dX11_count_43 : decode cX11_count 43 = .ok (.ireturn, 1) := by decide +kernel
theorem dX11_count_44 : decode cX11_count 44 = .ok (.aload_n 0, 1) := by decide +kernel
theorem dX11_count_45 : decode cX11_count 45 = .ok (.getfield 14, 3) := by decide +kernel
theorem dX11_count_48 : decode cX11_count 48 = .ok (.getfield 113, 3) := by decide +kernel
theorem dX11_count_51 : decode cX11_count 51 = .ok (.ireturn, 1) := by decide +kernel
theorem dX11_count_52 : decode cX11_count 52 = .ok (.aload_n 0, 1) := by decide +kernel
theorem dX11_count_53 : decode cX11_count 53 = .ok (.getfield 14, 3) := by decide +kernel
theorem dX11_count_56 : decode cX11_count 56 = .ok (.invokevirtual 201, 3) := by decide +kernel
theorem dX11_count_59 : decode cX11_count 59 = .ok (.ireturn, 1) := by decide +kernel
theorem dX11_count_60 : decode cX11_count 60 = .ok (.aload_n 0, 1) := by decide +kernel
theorem dX11_count_61 : decode cX11_count 61 = .ok (.getfield 95, 3) := by decide +kernel
theorem dX11_count_64 : decode cX11_count 64 = .ok (.ireturn, 1) := by decide +kernel
theorem dX11_count_65 : decode cX11_count 65 = .ok (.aload_n 0, 1) := by decide +kernel
theorem dX11_count_66 : decode cX11_count 66 = .ok (.getfield 21, 3) := by decide +kernel
theorem dX11_count_69 : decode cX11_count 69 = .ok (.getfield 92, 3) := by decide +kernel
theorem dX11_count_72 : decode cX11_count 72 = .ok (.ireturn, 1) := by decide +kernel
theorem dX11_count_73 : decode cX11_count 73 = .ok (.bipush (-3), 2) := by decide +kernel
theorem dX11_count_75 : decode cX11_count 75 = .ok (.ireturn, 1) := by decide +kernel
theorem dX11_shadowed_0 : decode cX11_shadowed 0 = .ok (.iload_n 1, 1) := by decide +kernel
theorem dX11_shadowed_1 : decode cX11_shadowed 1 = .ok (.invokestatic 116, 3) := by decide +kernel
theorem dX11_shadowed_4 : decode cX11_shadowed 4 = .ok (.ifCond .eq 18, 3) := by decide +kernel
theorem dX11_shadowed_7 : decode cX11_shadowed 7 = .ok (.aload_n 0, 1) := by decide +kernel
theorem dX11_shadowed_8 : decode cX11_shadowed 8 = .ok (.getfield 14, 3) := by decide +kernel
theorem dX11_shadowed_11 : decode cX11_shadowed 11 = .ok (.getfield 142, 3) := by decide +kernel
theorem dX11_shadowed_14 : decode cX11_shadowed 14 = .ok (.iload_n 1, 1) := by decide +kernel
theorem dX11_shadowed_15 : decode cX11_shadowed 15 = .ok (.aaload, 1) := by decide +kernel
theorem dX11_shadowed_16 : decode cX11_shadowed 16 = .ok (.invokevirtual 205, 3) := by decide +kernel
theorem dX11_shadowed_19 : decode cX11_shadowed 19 = .ok (.goto 4, 3) := by decide +kernel
theorem dX11_shadowed_22 : decode cX11_shadowed 22 = .ok (.iconst (-1), 1) := by decide +kernel
theorem dX11_shadowed_23 : decode cX11_shadowed 23 = .ok (.ireturn, 1) := by decide +kernel
theorem dX11_inject_0 : decode cX11_inject 0 = .ok (.iload_n 1, 1) := by decide +kernel
theorem dX11_inject_1 : decode cX11_inject 1 = .ok (.iload_n 2, 1) := by decide +kernel
theorem dX11_inject_2 : decode cX11_inject 2 = .ok (.invokestatic 101, 3) := by decide +kernel
theorem dX11_inject_5 : decode cX11_inject 5 = .ok (.ifCond .ne 5, 3) := by decide +kernel
theorem dX11_inject_8 : decode cX11_inject 8 = .ok (.iconst (-1), 1) := by decide +kernel
theorem dX11_inject_9 : decode cX11_inject 9 = .ok (.ireturn, 1) := by decide +kernel
theorem dX11_inject_10 : decode cX11_inject 10 = .ok (.aload_n 0, 1) := by decide +kernel
theorem dX11_inject_11 : decode cX11_inject 11 = .ok (.getfield 14, 3) := by decide +kernel
theorem dX11_inject_14 : decode cX11_inject 14 = .ok (.iload_n 3, 1) := by decide +kernel
theorem dX11_inject_15 : decode cX11_inject 15 = .ok (.iload 4, 2) := by decide +kernel
theorem dX11_inject_17 : decode cX11_inject 17 = .ok (.invokevirtual 139, 3) := by decide +kernel
theorem dX11_inject_20 : decode cX11_inject 20 = .ok (.ifCond .ne 6, 3) := by decide +kernel
theorem dX11_inject_23 : decode cX11_inject 23 = .ok (.bipush (-3), 2) := by decide +kernel
theorem dX11_inject_25 : decode cX11_inject 25 = .ok (.ireturn, 1) := by decide +kernel
theorem dX11_inject_26 : decode cX11_inject 26 = .ok (.aload_n 0, 1) := by decide +kernel
theorem dX11_inject_27 : decode cX11_inject 27 = .ok (.iload_n 1, 1) := by decide +kernel
theorem dX11_inject_28 : decode cX11_inject 28 = .ok (.iload_n 2, 1) := by decide +kernel
theorem dX11_inject_29 : decode cX11_inject 29 = .ok (.invokestatic 105, 3) := by decide +kernel
theorem dX11_inject_32 : decode cX11_inject 32 = .ok (.putfield 98, 3) := by decide +kernel
theorem dX11_inject_35 : decode cX11_inject 35 = .ok (.aload_n 0, 1) := by decide +kernel
theorem dX11_inject_36 : decode cX11_inject 36 = .ok (.aload_n 0, 1) := by decide +kernel
theorem dX11_inject_37 : decode cX11_inject 37 = .ok (.getfield 14, 3) := by decide +kernel
theorem dX11_inject_40 : decode cX11_inject 40 = .ok (.invokevirtual 76, 3) := by decide +kernel
theorem dX11_inject_43 : decode cX11_inject 43 = .ok (.iload_n 3, 1) := by decide +kernel
theorem dX11_inject_44 : decode cX11_inject 44 = .ok (.iload 4, 2) := by decide +kernel
theorem dX11_inject_46 : decode cX11_inject 46 = .ok (.invokestatic 208, 3) := by decide +kernel
theorem dX11_inject_49 : decode cX11_inject 49 = .ok (.land, 1) := by decide +kernel
theorem dX11_inject_50 : decode cX11_inject 50 = .ok (.putfield 80, 3) := by decide +kernel
theorem dX11_inject_53 : decode cX11_inject 53 = .ok (.aload_n 0, 1) := by decide +kernel
theorem dX11_inject_54 : decode cX11_inject 54 = .ok (.getfield 80, 3) := by decide +kernel
theorem dX11_inject_57 : decode cX11_inject 57 = .ok (.invokestatic 212, 3) := by decide +kernel
theorem dX11_inject_60 : decode cX11_inject 60 = .ok (.ireturn, 1) := by decide +kernel
theorem dX11_arriving_0 : decode cX11_arriving 0 = .ok (.iload_n 1, 1) := by decide +kernel
theorem dX11_arriving_1 : decode cX11_arriving 1 = .ok (.iload_n 2, 1) := by decide +kernel
theorem dX11_arriving_2 : decode cX11_arriving 2 = .ok (.invokestatic 101, 3) := by decide +kernel
theorem dX11_arriving_5 : decode cX11_arriving 5 = .ok (.ifCond .ne 7, 3) := by decide +kernel
theorem dX11_arriving_8 : decode cX11_arriving 8 = .ok (.ldc2_w 216, 3) := by decide +kernel
theorem dX11_arriving_11 : decode cX11_arriving 11 = .ok (.lreturn, 1) := by decide +kernel
theorem dX11_arriving_12 : decode cX11_arriving 12 = .ok (.aload_n 0, 1) := by decide +kernel
theorem dX11_arriving_13 : decode cX11_arriving 13 = .ok (.getfield 30, 3) := by decide +kernel
theorem dX11_arriving_16 : decode cX11_arriving 16 = .ok (.aload_n 0, 1) := by decide +kernel
theorem dX11_arriving_17 : decode cX11_arriving 17 = .ok (.getfield 98, 3) := by decide +kernel
theorem dX11_arriving_20 : decode cX11_arriving 20 = .ok (.aload_n 0, 1) := by decide +kernel
theorem dX11_arriving_21 : decode cX11_arriving 21 = .ok (.getfield 80, 3) := by decide +kernel
theorem dX11_arriving_24 : decode cX11_arriving 24 = .ok (.invokevirtual 218, 3) := by decide +kernel
theorem dX11_arriving_27 : decode cX11_arriving 27 = .ok (.aload_n 0, 1) := by decide +kernel
theorem dX11_arriving_28 : decode cX11_arriving 28 = .ok (.getfield 30, 3) := by decide +kernel
theorem dX11_arriving_31 : decode cX11_arriving 31 = .ok (.getfield 222, 3) := by decide +kernel
theorem dX11_arriving_34 : decode cX11_arriving 34 = .ok (.iload_n 1, 1) := by decide +kernel
theorem dX11_arriving_35 : decode cX11_arriving 35 = .ok (.iload_n 2, 1) := by decide +kernel
theorem dX11_arriving_36 : decode cX11_arriving 36 = .ok (.invokestatic 105, 3) := by decide +kernel
theorem dX11_arriving_39 : decode cX11_arriving 39 = .ok (.laload, 1) := by decide +kernel
theorem dX11_arriving_40 : decode cX11_arriving 40 = .ok (.lreturn, 1) := by decide +kernel
theorem dX11_delivered_0 : decode cX11_delivered 0 = .ok (.iload_n 1, 1) := by decide +kernel
theorem dX11_delivered_1 : decode cX11_delivered 1 = .ok (.iload_n 2, 1) := by decide +kernel
theorem dX11_delivered_2 : decode cX11_delivered 2 = .ok (.invokestatic 101, 3) := by decide +kernel
theorem dX11_delivered_5 : decode cX11_delivered 5 = .ok (.ifCond .ne 7, 3) := by decide +kernel
theorem dX11_delivered_8 : decode cX11_delivered 8 = .ok (.ldc2_w 216, 3) := by decide +kernel
theorem dX11_delivered_11 : decode cX11_delivered 11 = .ok (.lreturn, 1) := by decide +kernel
theorem dX11_delivered_12 : decode cX11_delivered 12 = .ok (.aload_n 0, 1) := by decide +kernel
theorem dX11_delivered_13 : decode cX11_delivered 13 = .ok (.getfield 30, 3) := by decide +kernel
theorem dX11_delivered_16 : decode cX11_delivered 16 = .ok (.aload_n 0, 1) := by decide +kernel
theorem dX11_delivered_17 : decode cX11_delivered 17 = .ok (.getfield 98, 3) := by decide +kernel
theorem dX11_delivered_20 : decode cX11_delivered 20 = .ok (.aload_n 0, 1) := by decide +kernel
theorem dX11_delivered_21 : decode cX11_delivered 21 = .ok (.getfield 80, 3) := by decide +kernel
theorem dX11_delivered_24 : decode cX11_delivered 24 = .ok (.invokevirtual 218, 3) := by decide +kernel
theorem dX11_delivered_27 : decode cX11_delivered 27 = .ok (.aload_n 0, 1) := by decide +kernel
theorem dX11_delivered_28 : decode cX11_delivered 28 = .ok (.getfield 30, 3) := by decide +kernel
theorem dX11_delivered_31 : decode cX11_delivered 31 = .ok (.iload_n 1, 1) := by decide +kernel
theorem dX11_delivered_32 : decode cX11_delivered 32 = .ok (.iload_n 2, 1) := by decide +kernel
theorem dX11_delivered_33 : decode cX11_delivered 33 = .ok (.invokevirtual 226, 3) := by decide +kernel
theorem dX11_delivered_36 : decode cX11_delivered 36 = .ok (.lreturn, 1) := by decide +kernel
theorem dX11_arrivals_0 : decode cX11_arrivals 0 = .ok (.iload_n 1, 1) := by decide +kernel
theorem dX11_arrivals_1 : decode cX11_arrivals 1 = .ok (.invokestatic 116, 3) := by decide +kernel
theorem dX11_arrivals_4 : decode cX11_arrivals 4 = .ok (.ifCond .ne 5, 3) := by decide +kernel
theorem dX11_arrivals_7 : decode cX11_arrivals 7 = .ok (.iconst (-1), 1) := by decide +kernel
theorem dX11_arrivals_8 : decode cX11_arrivals 8 = .ok (.ireturn, 1) := by decide +kernel
theorem dX11_arrivals_9 : decode cX11_arrivals 9 = .ok (.iload_n 2, 1) := by decide +kernel
theorem dX11_arrivals_10 : decode cX11_arrivals 10 = .ok (.ifCond .lt 8, 3) := by decide +kernel
theorem dX11_arrivals_13 : decode cX11_arrivals 13 = .ok (.iload_n 2, 1) := by decide +kernel
theorem dX11_arrivals_14 : decode cX11_arrivals 14 = .ok (.iconst 2, 1) := by decide +kernel
theorem dX11_arrivals_15 : decode cX11_arrivals 15 = .ok (.if_icmp .le 6, 3) := by decide +kernel
theorem dX11_arrivals_18 : decode cX11_arrivals 18 = .ok (.bipush (-3), 2) := by decide +kernel
theorem dX11_arrivals_20 : decode cX11_arrivals 20 = .ok (.ireturn, 1) := by decide +kernel
theorem dX11_arrivals_21 : decode cX11_arrivals 21 = .ok (.aload_n 0, 1) := by decide +kernel
theorem dX11_arrivals_22 : decode cX11_arrivals 22 = .ok (.getfield 30, 3) := by decide +kernel
theorem dX11_arrivals_25 : decode cX11_arrivals 25 = .ok (.aload_n 0, 1) := by decide +kernel
theorem dX11_arrivals_26 : decode cX11_arrivals 26 = .ok (.getfield 98, 3) := by decide +kernel
theorem dX11_arrivals_29 : decode cX11_arrivals 29 = .ok (.aload_n 0, 1) := by decide +kernel
theorem dX11_arrivals_30 : decode cX11_arrivals 30 = .ok (.getfield 80, 3) := by decide +kernel
theorem dX11_arrivals_33 : decode cX11_arrivals 33 = .ok (.invokevirtual 218, 3) := by decide +kernel
theorem dX11_arrivals_36 : decode cX11_arrivals 36 = .ok (.iload_n 2, 1) := by decide +kernel
theorem dX11_arrivals_37 : decode cX11_arrivals 37 = .ok (.lookupswitch 45 #[(0, 27), (1, 36)], 27) := by decide +kernel
theorem dX11_arrivals_64 : decode cX11_arrivals 64 = .ok (.aload_n 0, 1) := by decide +kernel
theorem dX11_arrivals_65 : decode cX11_arrivals 65 = .ok (.getfield 30, 3) := by decide +kernel
theorem dX11_arrivals_68 : decode cX11_arrivals 68 = .ok (.iload_n 1, 1) := by decide +kernel
theorem dX11_arrivals_69 : decode cX11_arrivals 69 = .ok (.invokevirtual 229, 3) := by decide +kernel
theorem dX11_arrivals_72 : decode cX11_arrivals 72 = .ok (.ireturn, 1) := by decide +kernel
theorem dX11_arrivals_73 : decode cX11_arrivals 73 = .ok (.aload_n 0, 1) := by decide +kernel
theorem dX11_arrivals_74 : decode cX11_arrivals 74 = .ok (.getfield 30, 3) := by decide +kernel
theorem dX11_arrivals_77 : decode cX11_arrivals 77 = .ok (.iload_n 1, 1) := by decide +kernel
theorem dX11_arrivals_78 : decode cX11_arrivals 78 = .ok (.invokevirtual 233, 3) := by decide +kernel
theorem dX11_arrivals_81 : decode cX11_arrivals 81 = .ok (.ireturn, 1) := by decide +kernel
theorem dX11_arrivals_82 : decode cX11_arrivals 82 = .ok (.aload_n 0, 1) := by decide +kernel
theorem dX11_arrivals_83 : decode cX11_arrivals 83 = .ok (.getfield 30, 3) := by decide +kernel
theorem dX11_arrivals_86 : decode cX11_arrivals 86 = .ok (.iload_n 1, 1) := by decide +kernel
theorem dX11_arrivals_87 : decode cX11_arrivals 87 = .ok (.invokevirtual 236, 3) := by decide +kernel
theorem dX11_arrivals_90 : decode cX11_arrivals 90 = .ok (.ireturn, 1) := by decide +kernel
theorem dX11_hits_0 : decode cX11_hits 0 = .ok (.aload_n 0, 1) := by decide +kernel
theorem dX11_hits_1 : decode cX11_hits 1 = .ok (.iload_n 1, 1) := by decide +kernel
theorem dX11_hits_2 : decode cX11_hits 2 = .ok (.iload_n 2, 1) := by decide +kernel
theorem dX11_hits_3 : decode cX11_hits 3 = .ok (.invokevirtual 136, 3) := by decide +kernel
theorem dX11_hits_6 : decode cX11_hits 6 = .ok (.istore_n 3, 1) := by decide +kernel
theorem dX11_hits_7 : decode cX11_hits 7 = .ok (.iload_n 3, 1) := by decide +kernel
theorem dX11_hits_8 : decode cX11_hits 8 = .ok (.ifCond .eq 5, 3) := by decide +kernel
theorem dX11_hits_11 : decode cX11_hits 11 = .ok (.iload_n 3, 1) := by decide +kernel
theorem dX11_hits_12 : decode cX11_hits 12 = .ok (.ireturn, 1) := by decide +kernel
theorem dX11_hits_13 : decode cX11_hits 13 = .ok (.aload_n 0, 1) := by decide +kernel
theorem dX11_hits_14 : decode cX11_hits 14 = .ok (.getfield 30, 3) := by decide +kernel
theorem dX11_hits_17 : decode cX11_hits 17 = .ok (.aload_n 0, 1) := by decide +kernel
theorem dX11_hits_18 : decode cX11_hits 18 = .ok (.getfield 98, 3) := by decide +kernel
theorem dX11_hits_21 : decode cX11_hits 21 = .ok (.aload_n 0, 1) := by decide +kernel
theorem dX11_hits_22 : decode cX11_hits 22 = .ok (.getfield 80, 3) := by decide +kernel
theorem dX11_hits_25 : decode cX11_hits 25 = .ok (.invokevirtual 218, 3) := by decide +kernel
theorem dX11_hits_28 : decode cX11_hits 28 = .ok (.aload_n 0, 1) := by decide +kernel
theorem dX11_hits_29 : decode cX11_hits 29 = .ok (.getfield 30, 3) := by decide +kernel
theorem dX11_hits_32 : decode cX11_hits 32 = .ok (.iload_n 1, 1) := by decide +kernel
theorem dX11_hits_33 : decode cX11_hits 33 = .ok (.iload_n 2, 1) := by decide +kernel
theorem dX11_hits_34 : decode cX11_hits 34 = .ok (.invokevirtual 239, 3) := by decide +kernel
theorem dX11_hits_37 : decode cX11_hits 37 = .ok (.ireturn, 1) := by decide +kernel
theorem dX11_cube_0 : decode cX11_cube 0 = .ok (.iload_n 1, 1) := by decide +kernel
theorem dX11_cube_1 : decode cX11_cube 1 = .ok (.iload_n 2, 1) := by decide +kernel
theorem dX11_cube_2 : decode cX11_cube 2 = .ok (.invokestatic 101, 3) := by decide +kernel
theorem dX11_cube_5 : decode cX11_cube 5 = .ok (.ifCond .ne 5, 3) := by decide +kernel
theorem dX11_cube_8 : decode cX11_cube 8 = .ok (.iconst (-1), 1) := by decide +kernel
theorem dX11_cube_9 : decode cX11_cube 9 = .ok (.ireturn, 1) := by decide +kernel
theorem dX11_cube_10 : decode cX11_cube 10 = .ok (.iload_n 3, 1) := by decide +kernel
theorem dX11_cube_11 : decode cX11_cube 11 = .ok (.ifCond .lt 14, 3) := by decide +kernel
theorem dX11_cube_14 : decode cX11_cube 14 = .ok (.iload 4, 2) := by decide +kernel
theorem dX11_cube_16 : decode cX11_cube 16 = .ok (.ifCond .lt 9, 3) := by decide +kernel
theorem dX11_cube_19 : decode cX11_cube 19 = .ok (.iload 4, 2) := by decide +kernel
theorem dX11_cube_21 : decode cX11_cube 21 = .ok (.iconst 1, 1) := by decide +kernel
theorem dX11_cube_22 : decode cX11_cube 22 = .ok (.if_icmp .le 6, 3) := by decide +kernel
theorem dX11_cube_25 : decode cX11_cube 25 = .ok (.bipush (-3), 2) := by decide +kernel
theorem dX11_cube_27 : decode cX11_cube 27 = .ok (.ireturn, 1) := by decide +kernel
theorem dX11_cube_28 : decode cX11_cube 28 = .ok (.aload_n 0, 1) := by decide +kernel
theorem dX11_cube_29 : decode cX11_cube 29 = .ok (.getfield 30, 3) := by decide +kernel
theorem dX11_cube_32 : decode cX11_cube 32 = .ok (.aload_n 0, 1) := by decide +kernel
theorem dX11_cube_33 : decode cX11_cube 33 = .ok (.getfield 98, 3) := by decide +kernel
theorem dX11_cube_36 : decode cX11_cube 36 = .ok (.aload_n 0, 1) := by decide +kernel
theorem dX11_cube_37 : decode cX11_cube 37 = .ok (.getfield 80, 3) := by decide +kernel
theorem dX11_cube_40 : decode cX11_cube 40 = .ok (.invokevirtual 218, 3) := by decide +kernel
theorem dX11_cube_43 : decode cX11_cube 43 = .ok (.aload_n 0, 1) := by decide +kernel
theorem dX11_cube_44 : decode cX11_cube 44 = .ok (.getfield 30, 3) := by decide +kernel
theorem dX11_cube_47 : decode cX11_cube 47 = .ok (.getfield 222, 3) := by decide +kernel
theorem dX11_cube_50 : decode cX11_cube 50 = .ok (.iload_n 1, 1) := by decide +kernel
theorem dX11_cube_51 : decode cX11_cube 51 = .ok (.iload_n 2, 1) := by decide +kernel
theorem dX11_cube_52 : decode cX11_cube 52 = .ok (.invokestatic 105, 3) := by decide +kernel
theorem dX11_cube_55 : decode cX11_cube 55 = .ok (.laload, 1) := by decide +kernel
theorem dX11_cube_56 : decode cX11_cube 56 = .ok (.lstore 5, 2) := by decide +kernel
theorem dX11_cube_58 : decode cX11_cube 58 = .ok (.lload 5, 2) := by decide +kernel
theorem dX11_cube_60 : decode cX11_cube 60 = .ok (.lstore 7, 2) := by decide +kernel
theorem dX11_cube_62 : decode cX11_cube 62 = .ok (.iconst 0, 1) := by decide +kernel
theorem dX11_cube_63 : decode cX11_cube 63 = .ok (.istore 9, 2) := by decide +kernel
theorem dX11_cube_65 : decode cX11_cube 65 = .ok (.iconst 0, 1) := by decide +kernel
theorem dX11_cube_66 : decode cX11_cube 66 = .ok (.istore 10, 2) := by decide +kernel
theorem dX11_cube_68 : decode cX11_cube 68 = .ok (.iload 10, 2) := by decide +kernel
theorem dX11_cube_70 : decode cX11_cube 70 = .ok (.bipush 32, 2) := by decide +kernel
theorem dX11_cube_72 : decode cX11_cube 72 = .ok (.if_icmp .ge 70, 3) := by decide +kernel
theorem dX11_cube_75 : decode cX11_cube 75 = .ok (.lload 7, 2) := by decide +kernel
theorem dX11_cube_77 : decode cX11_cube 77 = .ok (.iload 10, 2) := by decide +kernel
theorem dX11_cube_79 : decode cX11_cube 79 = .ok (.invokestatic 242, 3) := by decide +kernel
theorem dX11_cube_82 : decode cX11_cube 82 = .ok (.ifCond .eq 54, 3) := by decide +kernel
theorem dX11_cube_85 : decode cX11_cube 85 = .ok (.aload_n 0, 1) := by decide +kernel
theorem dX11_cube_86 : decode cX11_cube 86 = .ok (.iload 10, 2) := by decide +kernel
theorem dX11_cube_88 : decode cX11_cube 88 = .ok (.lload 5, 2) := by decide +kernel
theorem dX11_cube_90 : decode cX11_cube 90 = .ok (.invokevirtual 246, 3) := by decide +kernel
theorem dX11_cube_93 : decode cX11_cube 93 = .ok (.istore 11, 2) := by decide +kernel
theorem dX11_cube_95 : decode cX11_cube 95 = .ok (.iload 9, 2) := by decide +kernel
theorem dX11_cube_97 : decode cX11_cube 97 = .ok (.iload_n 3, 1) := by decide +kernel
theorem dX11_cube_98 : decode cX11_cube 98 = .ok (.if_icmp .ne 19, 3) := by decide +kernel
theorem dX11_cube_101 : decode cX11_cube 101 = .ok (.iload 4, 2) := by decide +kernel
theorem dX11_cube_103 : decode cX11_cube 103 = .ok (.ifCond .ne 8, 3) := by decide +kernel
theorem dX11_cube_106 : decode cX11_cube 106 = .ok (.iload 11, 2) := by decide +kernel
theorem dX11_cube_108 : decode cX11_cube 108 = .ok (.goto 8, 3) := by decide +kernel
theorem dX11_cube_111 : decode cX11_cube 111 = .ok (.iload 10, 2) := by decide +kernel
theorem dX11_cube_113 : decode cX11_cube 113 = .ok (.iload 11, 2) := by decide +kernel
theorem dX11_cube_115 : decode cX11_cube 115 = .ok (.iand, 1) := by decide +kernel
theorem dX11_cube_116 : decode cX11_cube 116 = .ok (.ireturn, 1) := by decide +kernel
theorem dX11_cube_117 : decode cX11_cube 117 = .ok (.iinc 9 1, 3) := by decide +kernel
theorem dX11_cube_120 : decode cX11_cube 120 = .ok (.lload 7, 2) := by decide +kernel
theorem dX11_cube_122 : decode cX11_cube 122 = .ok (.iload 11, 2) := by decide +kernel
theorem dX11_cube_124 : decode cX11_cube 124 = .ok (.iload 10, 2) := by decide +kernel
theorem dX11_cube_126 : decode cX11_cube 126 = .ok (.invokestatic 208, 3) := by decide +kernel
theorem dX11_cube_129 : decode cX11_cube 129 = .ok (.ldc2_w 250, 3) := by decide +kernel
theorem dX11_cube_132 : decode cX11_cube 132 = .ok (.lxor, 1) := by decide +kernel
theorem dX11_cube_133 : decode cX11_cube 133 = .ok (.land, 1) := by decide +kernel
theorem dX11_cube_134 : decode cX11_cube 134 = .ok (.lstore 7, 2) := by decide +kernel
theorem dX11_cube_136 : decode cX11_cube 136 = .ok (.iinc 10 1, 3) := by decide +kernel
theorem dX11_cube_139 : decode cX11_cube 139 = .ok (.goto (-71), 3) := by decide +kernel
theorem dX11_cube_142 : decode cX11_cube 142 = .ok (.bipush (-6), 2) := by decide +kernel
theorem dX11_cube_144 : decode cX11_cube 144 = .ok (.ireturn, 1) := by decide +kernel
theorem dX11_origin_0 : decode cX11_origin 0 = .ok (.iload_n 1, 1) := by decide +kernel
theorem dX11_origin_1 : decode cX11_origin 1 = .ok (.iload_n 2, 1) := by decide +kernel
theorem dX11_origin_2 : decode cX11_origin 2 = .ok (.invokestatic 101, 3) := by decide +kernel
theorem dX11_origin_5 : decode cX11_origin 5 = .ok (.ifCond .ne 5, 3) := by decide +kernel
theorem dX11_origin_8 : decode cX11_origin 8 = .ok (.iconst (-1), 1) := by decide +kernel
theorem dX11_origin_9 : decode cX11_origin 9 = .ok (.ireturn, 1) := by decide +kernel
theorem dX11_origin_10 : decode cX11_origin 10 = .ok (.aload_n 0, 1) := by decide +kernel
theorem dX11_origin_11 : decode cX11_origin 11 = .ok (.getfield 14, 3) := by decide +kernel
theorem dX11_origin_14 : decode cX11_origin 14 = .ok (.iload_n 3, 1) := by decide +kernel
theorem dX11_origin_15 : decode cX11_origin 15 = .ok (.invokevirtual 252, 3) := by decide +kernel
theorem dX11_origin_18 : decode cX11_origin 18 = .ok (.ifCond .ne 6, 3) := by decide +kernel
theorem dX11_origin_21 : decode cX11_origin 21 = .ok (.bipush (-3), 2) := by decide +kernel
theorem dX11_origin_23 : decode cX11_origin 23 = .ok (.ireturn, 1) := by decide +kernel
theorem dX11_origin_24 : decode cX11_origin 24 = .ok (.aload_n 0, 1) := by decide +kernel
theorem dX11_origin_25 : decode cX11_origin 25 = .ok (.getfield 30, 3) := by decide +kernel
theorem dX11_origin_28 : decode cX11_origin 28 = .ok (.aload_n 0, 1) := by decide +kernel
theorem dX11_origin_29 : decode cX11_origin 29 = .ok (.getfield 98, 3) := by decide +kernel
theorem dX11_origin_32 : decode cX11_origin 32 = .ok (.aload_n 0, 1) := by decide +kernel
theorem dX11_origin_33 : decode cX11_origin 33 = .ok (.getfield 80, 3) := by decide +kernel
theorem dX11_origin_36 : decode cX11_origin 36 = .ok (.iload_n 1, 1) := by decide +kernel
theorem dX11_origin_37 : decode cX11_origin 37 = .ok (.iload_n 2, 1) := by decide +kernel
theorem dX11_origin_38 : decode cX11_origin 38 = .ok (.invokestatic 105, 3) := by decide +kernel
theorem dX11_origin_41 : decode cX11_origin 41 = .ok (.iload_n 3, 1) := by decide +kernel
theorem dX11_origin_42 : decode cX11_origin 42 = .ok (.invokevirtual 255, 3) := by decide +kernel
theorem dX11_origin_45 : decode cX11_origin 45 = .ok (.ireturn, 1) := by decide +kernel
theorem dX11_distance_0 : decode cX11_distance 0 = .ok (.aload_n 0, 1) := by decide +kernel
theorem dX11_distance_1 : decode cX11_distance 1 = .ok (.iload_n 1, 1) := by decide +kernel
theorem dX11_distance_2 : decode cX11_distance 2 = .ok (.invokevirtual 259, 3) := by decide +kernel
theorem dX11_distance_5 : decode cX11_distance 5 = .ok (.ifCond .ne 6, 3) := by decide +kernel
theorem dX11_distance_8 : decode cX11_distance 8 = .ok (.bipush (-3), 2) := by decide +kernel
theorem dX11_distance_10 : decode cX11_distance 10 = .ok (.ireturn, 1) := by decide +kernel
theorem dX11_distance_11 : decode cX11_distance 11 = .ok (.iload_n 2, 1) := by decide +kernel
theorem dX11_distance_12 : decode cX11_distance 12 = .ok (.iload_n 3, 1) := by decide +kernel
theorem dX11_distance_13 : decode cX11_distance 13 = .ok (.invokestatic 101, 3) := by decide +kernel
theorem dX11_distance_16 : decode cX11_distance 16 = .ok (.ifCond .ne 5, 3) := by decide +kernel
theorem dX11_distance_19 : decode cX11_distance 19 = .ok (.iconst (-1), 1) := by decide +kernel
theorem dX11_distance_20 : decode cX11_distance 20 = .ok (.ireturn, 1) := by decide +kernel
theorem dX11_distance_21 : decode cX11_distance 21 = .ok (.aload_n 0, 1) := by decide +kernel
theorem dX11_distance_22 : decode cX11_distance 22 = .ok (.getfield 30, 3) := by decide +kernel
theorem dX11_distance_25 : decode cX11_distance 25 = .ok (.aload_n 0, 1) := by decide +kernel
theorem dX11_distance_26 : decode cX11_distance 26 = .ok (.getfield 98, 3) := by decide +kernel
theorem dX11_distance_29 : decode cX11_distance 29 = .ok (.iload_n 1, 1) := by decide +kernel
theorem dX11_distance_30 : decode cX11_distance 30 = .ok (.iload_n 2, 1) := by decide +kernel
theorem dX11_distance_31 : decode cX11_distance 31 = .ok (.iload_n 3, 1) := by decide +kernel
theorem dX11_distance_32 : decode cX11_distance 32 = .ok (.invokestatic 105, 3) := by decide +kernel
theorem dX11_distance_35 : decode cX11_distance 35 = .ok (.invokevirtual 262, 3) := by decide +kernel
theorem dX11_distance_38 : decode cX11_distance 38 = .ok (.ireturn, 1) := by decide +kernel
theorem dX11_trace_0 : decode cX11_trace 0 = .ok (.aload_n 0, 1) := by decide +kernel
theorem dX11_trace_1 : decode cX11_trace 1 = .ok (.iload_n 1, 1) := by decide +kernel
theorem dX11_trace_2 : decode cX11_trace 2 = .ok (.invokevirtual 259, 3) := by decide +kernel
theorem dX11_trace_5 : decode cX11_trace 5 = .ok (.ifCond .eq 7, 3) := by decide +kernel
theorem dX11_trace_8 : decode cX11_trace 8 = .ok (.iload_n 2, 1) := by decide +kernel
theorem dX11_trace_9 : decode cX11_trace 9 = .ok (.ifCond .ge 6, 3) := by decide +kernel
theorem dX11_trace_12 : decode cX11_trace 12 = .ok (.bipush (-3), 2) := by decide +kernel
theorem dX11_trace_14 : decode cX11_trace 14 = .ok (.ireturn, 1) := by decide +kernel
theorem dX11_trace_15 : decode cX11_trace 15 = .ok (.aload_n 0, 1) := by decide +kernel
theorem dX11_trace_16 : decode cX11_trace 16 = .ok (.getfield 44, 3) := by decide +kernel
theorem dX11_trace_19 : decode cX11_trace 19 = .ok (.aload_n 0, 1) := by decide +kernel
theorem dX11_trace_20 : decode cX11_trace 20 = .ok (.getfield 98, 3) := by decide +kernel
theorem dX11_trace_23 : decode cX11_trace 23 = .ok (.iload_n 1, 1) := by decide +kernel
theorem dX11_trace_24 : decode cX11_trace 24 = .ok (.iload_n 2, 1) := by decide +kernel
theorem dX11_trace_25 : decode cX11_trace 25 = .ok (.sipush 768, 3) := by decide +kernel
theorem dX11_trace_28 : decode cX11_trace 28 = .ok (.invokestatic 266, 3) := by decide +kernel
theorem dX11_trace_31 : decode cX11_trace 31 = .ok (.invokevirtual 271, 3) := by decide +kernel
theorem dX11_trace_34 : decode cX11_trace 34 = .ok (.istore_n 3, 1) := by decide +kernel
theorem dX11_trace_35 : decode cX11_trace 35 = .ok (.iload_n 3, 1) := by decide +kernel
theorem dX11_trace_36 : decode cX11_trace 36 = .ok (.iload_n 2, 1) := by decide +kernel
theorem dX11_trace_37 : decode cX11_trace 37 = .ok (.if_icmp .ge 6, 3) := by decide +kernel
theorem dX11_trace_40 : decode cX11_trace 40 = .ok (.bipush (-6), 2) := by decide +kernel
theorem dX11_trace_42 : decode cX11_trace 42 = .ok (.ireturn, 1) := by decide +kernel
theorem dX11_trace_43 : decode cX11_trace 43 = .ok (.sipush 1000, 3) := by decide +kernel
theorem dX11_trace_46 : decode cX11_trace 46 = .ok (.aload_n 0, 1) := by decide +kernel
theorem dX11_trace_47 : decode cX11_trace 47 = .ok (.getfield 44, 3) := by decide +kernel
theorem dX11_trace_50 : decode cX11_trace 50 = .ok (.getfield 274, 3) := by decide +kernel
theorem dX11_trace_53 : decode cX11_trace 53 = .ok (.iconst 4, 1) := by decide +kernel
theorem dX11_trace_54 : decode cX11_trace 54 = .ok (.idiv, 1) := by decide +kernel
theorem dX11_trace_55 : decode cX11_trace 55 = .ok (.imul, 1) := by decide +kernel
theorem dX11_trace_56 : decode cX11_trace 56 = .ok (.bipush 100, 2) := by decide +kernel
theorem dX11_trace_58 : decode cX11_trace 58 = .ok (.aload_n 0, 1) := by decide +kernel
theorem dX11_trace_59 : decode cX11_trace 59 = .ok (.getfield 44, 3) := by decide +kernel
theorem dX11_trace_62 : decode cX11_trace 62 = .ok (.getfield 274, 3) := by decide +kernel
theorem dX11_trace_65 : decode cX11_trace 65 = .ok (.iconst 4, 1) := by decide +kernel
theorem dX11_trace_66 : decode cX11_trace 66 = .ok (.irem, 1) := by decide +kernel
theorem dX11_trace_67 : decode cX11_trace 67 = .ok (.imul, 1) := by decide +kernel
theorem dX11_trace_68 : decode cX11_trace 68 = .ok (.iadd, 1) := by decide +kernel
theorem dX11_trace_69 : decode cX11_trace 69 = .ok (.aload_n 0, 1) := by decide +kernel
theorem dX11_trace_70 : decode cX11_trace 70 = .ok (.getfield 44, 3) := by decide +kernel
theorem dX11_trace_73 : decode cX11_trace 73 = .ok (.getfield 277, 3) := by decide +kernel
theorem dX11_trace_76 : decode cX11_trace 76 = .ok (.iadd, 1) := by decide +kernel
theorem dX11_trace_77 : decode cX11_trace 77 = .ok (.ireturn, 1) := by decide +kernel
theorem dX11_traceEnd_0 : decode cX11_traceEnd 0 = .ok (.aload_n 0, 1) := by decide +kernel
theorem dX11_traceEnd_1 : decode cX11_traceEnd 1 = .ok (.iload_n 1, 1) := by decide +kernel
theorem dX11_traceEnd_2 : decode cX11_traceEnd 2 = .ok (.invokevirtual 259, 3) := by decide +kernel
theorem dX11_traceEnd_5 : decode cX11_traceEnd 5 = .ok (.ifCond .ne 6, 3) := by decide +kernel
theorem dX11_traceEnd_8 : decode cX11_traceEnd 8 = .ok (.bipush (-3), 2) := by decide +kernel
theorem dX11_traceEnd_10 : decode cX11_traceEnd 10 = .ok (.ireturn, 1) := by decide +kernel
theorem dX11_traceEnd_11 : decode cX11_traceEnd 11 = .ok (.aload_n 0, 1) := by decide +kernel
theorem dX11_traceEnd_12 : decode cX11_traceEnd 12 = .ok (.getfield 44, 3) := by decide +kernel
theorem dX11_traceEnd_15 : decode cX11_traceEnd 15 = .ok (.aload_n 0, 1) := by decide +kernel
theorem dX11_traceEnd_16 : decode cX11_traceEnd 16 = .ok (.getfield 98, 3) := by decide +kernel
theorem dX11_traceEnd_19 : decode cX11_traceEnd 19 = .ok (.iload_n 1, 1) := by decide +kernel
theorem dX11_traceEnd_20 : decode cX11_traceEnd 20 = .ok (.sipush 768, 3) := by decide +kernel
theorem dX11_traceEnd_23 : decode cX11_traceEnd 23 = .ok (.invokevirtual 271, 3) := by decide +kernel
theorem dX11_traceEnd_26 : decode cX11_traceEnd 26 = .ok (.pop, 1) := by decide +kernel
theorem dX11_traceEnd_27 : decode cX11_traceEnd 27 = .ok (.aload_n 0, 1) := by decide +kernel
theorem dX11_traceEnd_28 : decode cX11_traceEnd 28 = .ok (.getfield 44, 3) := by decide +kernel
theorem dX11_traceEnd_31 : decode cX11_traceEnd 31 = .ok (.getfield 280, 3) := by decide +kernel
theorem dX11_traceEnd_34 : decode cX11_traceEnd 34 = .ok (.ireturn, 1) := by decide +kernel
theorem dX11_loops_0 : decode cX11_loops 0 = .ok (.aload_n 0, 1) := by decide +kernel
theorem dX11_loops_1 : decode cX11_loops 1 = .ok (.getfield 37, 3) := by decide +kernel
theorem dX11_loops_4 : decode cX11_loops 4 = .ok (.iconst (-1), 1) := by decide +kernel
theorem dX11_loops_5 : decode cX11_loops 5 = .ok (.invokevirtual 283, 3) := by decide +kernel
theorem dX11_loops_8 : decode cX11_loops 8 = .ok (.aload_n 0, 1) := by decide +kernel
theorem dX11_loops_9 : decode cX11_loops 9 = .ok (.getfield 80, 3) := by decide +kernel
theorem dX11_loops_12 : decode cX11_loops 12 = .ok (.aload_n 0, 1) := by decide +kernel
theorem dX11_loops_13 : decode cX11_loops 13 = .ok (.getfield 37, 3) := by decide +kernel
theorem dX11_loops_16 : decode cX11_loops 16 = .ok (.getfield 286, 3) := by decide +kernel
theorem dX11_loops_19 : decode cX11_loops 19 = .ok (.aload_n 0, 1) := by decide +kernel
theorem dX11_loops_20 : decode cX11_loops 20 = .ok (.getfield 98, 3) := by decide +kernel
theorem dX11_loops_23 : decode cX11_loops 23 = .ok (.laload, 1) := by decide +kernel
theorem dX11_loops_24 : decode cX11_loops 24 = .ok (.ldc2_w 250, 3) := by decide +kernel
theorem dX11_loops_27 : decode cX11_loops 27 = .ok (.lxor, 1) := by decide +kernel
theorem dX11_loops_28 : decode cX11_loops 28 = .ok (.land, 1) := by decide +kernel
theorem dX11_loops_29 : decode cX11_loops 29 = .ok (.lreturn, 1) := by decide +kernel
theorem dX11_cutSize_0 : decode cX11_cutSize 0 = .ok (.iload_n 1, 1) := by decide +kernel
theorem dX11_cutSize_1 : decode cX11_cutSize 1 = .ok (.iload_n 2, 1) := by decide +kernel
theorem dX11_cutSize_2 : decode cX11_cutSize 2 = .ok (.invokestatic 101, 3) := by decide +kernel
theorem dX11_cutSize_5 : decode cX11_cutSize 5 = .ok (.ifCond .ne 5, 3) := by decide +kernel
theorem dX11_cutSize_8 : decode cX11_cutSize 8 = .ok (.iconst (-1), 1) := by decide +kernel
theorem dX11_cutSize_9 : decode cX11_cutSize 9 = .ok (.ireturn, 1) := by decide +kernel
theorem dX11_cutSize_10 : decode cX11_cutSize 10 = .ok (.aload_n 0, 1) := by decide +kernel
theorem dX11_cutSize_11 : decode cX11_cutSize 11 = .ok (.getfield 51, 3) := by decide +kernel
theorem dX11_cutSize_14 : decode cX11_cutSize 14 = .ok (.aload_n 0, 1) := by decide +kernel
theorem dX11_cutSize_15 : decode cX11_cutSize 15 = .ok (.getfield 98, 3) := by decide +kernel
theorem dX11_cutSize_18 : decode cX11_cutSize 18 = .ok (.aload_n 0, 1) := by decide +kernel
theorem dX11_cutSize_19 : decode cX11_cutSize 19 = .ok (.getfield 80, 3) := by decide +kernel
theorem dX11_cutSize_22 : decode cX11_cutSize 22 = .ok (.iload_n 1, 1) := by decide +kernel
theorem dX11_cutSize_23 : decode cX11_cutSize 23 = .ok (.iload_n 2, 1) := by decide +kernel
theorem dX11_cutSize_24 : decode cX11_cutSize 24 = .ok (.invokestatic 105, 3) := by decide +kernel
theorem dX11_cutSize_27 : decode cX11_cutSize 27 = .ok (.invokevirtual 289, 3) := by decide +kernel
theorem dX11_cutSize_30 : decode cX11_cutSize 30 = .ok (.ireturn, 1) := by decide +kernel
theorem dX11_cutRule_0 : decode cX11_cutRule 0 = .ok (.iload_n 1, 1) := by decide +kernel
theorem dX11_cutRule_1 : decode cX11_cutRule 1 = .ok (.iload_n 2, 1) := by decide +kernel
theorem dX11_cutRule_2 : decode cX11_cutRule 2 = .ok (.invokestatic 101, 3) := by decide +kernel
theorem dX11_cutRule_5 : decode cX11_cutRule 5 = .ok (.ifCond .ne 5, 3) := by decide +kernel
theorem dX11_cutRule_8 : decode cX11_cutRule 8 = .ok (.iconst (-1), 1) := by decide +kernel
theorem dX11_cutRule_9 : decode cX11_cutRule 9 = .ok (.ireturn, 1) := by decide +kernel
theorem dX11_cutRule_10 : decode cX11_cutRule 10 = .ok (.iload_n 3, 1) := by decide +kernel
theorem dX11_cutRule_11 : decode cX11_cutRule 11 = .ok (.ifCond .ge 6, 3) := by decide +kernel
theorem dX11_cutRule_14 : decode cX11_cutRule 14 = .ok (.bipush (-3), 2) := by decide +kernel
theorem dX11_cutRule_16 : decode cX11_cutRule 16 = .ok (.ireturn, 1) := by decide +kernel
theorem dX11_cutRule_17 : decode cX11_cutRule 17 = .ok (.aload_n 0, 1) := by decide +kernel
theorem dX11_cutRule_18 : decode cX11_cutRule 18 = .ok (.getfield 51, 3) := by decide +kernel
theorem dX11_cutRule_21 : decode cX11_cutRule 21 = .ok (.aload_n 0, 1) := by decide +kernel
theorem dX11_cutRule_22 : decode cX11_cutRule 22 = .ok (.getfield 98, 3) := by decide +kernel
theorem dX11_cutRule_25 : decode cX11_cutRule 25 = .ok (.aload_n 0, 1) := by decide +kernel
theorem dX11_cutRule_26 : decode cX11_cutRule 26 = .ok (.getfield 80, 3) := by decide +kernel
theorem dX11_cutRule_29 : decode cX11_cutRule 29 = .ok (.iload_n 1, 1) := by decide +kernel
theorem dX11_cutRule_30 : decode cX11_cutRule 30 = .ok (.iload_n 2, 1) := by decide +kernel
theorem dX11_cutRule_31 : decode cX11_cutRule 31 = .ok (.invokestatic 105, 3) := by decide +kernel
theorem dX11_cutRule_34 : decode cX11_cutRule 34 = .ok (.invokevirtual 289, 3) := by decide +kernel
theorem dX11_cutRule_37 : decode cX11_cutRule 37 = .ok (.istore 4, 2) := by decide +kernel
theorem dX11_cutRule_39 : decode cX11_cutRule 39 = .ok (.iload_n 3, 1) := by decide +kernel
theorem dX11_cutRule_40 : decode cX11_cutRule 40 = .ok (.iload 4, 2) := by decide +kernel
theorem dX11_cutRule_42 : decode cX11_cutRule 42 = .ok (.if_icmp .ge 8, 3) := by decide +kernel
theorem dX11_cutRule_45 : decode cX11_cutRule 45 = .ok (.iload_n 3, 1) := by decide +kernel
theorem dX11_cutRule_46 : decode cX11_cutRule 46 = .ok (.iconst 3, 1) := by decide +kernel
theorem dX11_cutRule_47 : decode cX11_cutRule 47 = .ok (.if_icmp .lt 6, 3) := by decide +kernel
theorem dX11_cutRule_50 : decode cX11_cutRule 50 = .ok (.bipush (-6), 2) := by decide +kernel
theorem dX11_cutRule_52 : decode cX11_cutRule 52 = .ok (.ireturn, 1) := by decide +kernel
theorem dX11_cutRule_53 : decode cX11_cutRule 53 = .ok (.aload_n 0, 1) := by decide +kernel
theorem dX11_cutRule_54 : decode cX11_cutRule 54 = .ok (.getfield 51, 3) := by decide +kernel
theorem dX11_cutRule_57 : decode cX11_cutRule 57 = .ok (.getfield 293, 3) := by decide +kernel
theorem dX11_cutRule_60 : decode cX11_cutRule 60 = .ok (.iload_n 3, 1) := by decide +kernel
theorem dX11_cutRule_61 : decode cX11_cutRule 61 = .ok (.iaload, 1) := by decide +kernel
theorem dX11_cutRule_62 : decode cX11_cutRule 62 = .ok (.istore 5, 2) := by decide +kernel
theorem dX11_cutRule_64 : decode cX11_cutRule 64 = .ok (.bipush 10, 2) := by decide +kernel
theorem dX11_cutRule_66 : decode cX11_cutRule 66 = .ok (.iload 5, 2) := by decide +kernel
theorem dX11_cutRule_68 : decode cX11_cutRule 68 = .ok (.bipush 6, 2) := by decide +kernel
theorem dX11_cutRule_70 : decode cX11_cutRule 70 = .ok (.idiv, 1) := by decide +kernel
theorem dX11_cutRule_71 : decode cX11_cutRule 71 = .ok (.imul, 1) := by decide +kernel
theorem dX11_cutRule_72 : decode cX11_cutRule 72 = .ok (.iload 5, 2) := by decide +kernel
theorem dX11_cutRule_74 : decode cX11_cutRule 74 = .ok (.bipush 6, 2) := by decide +kernel
theorem dX11_cutRule_76 : decode cX11_cutRule 76 = .ok (.irem, 1) := by decide +kernel
theorem dX11_cutRule_77 : decode cX11_cutRule 77 = .ok (.iadd, 1) := by decide +kernel
theorem dX11_cutRule_78 : decode cX11_cutRule 78 = .ok (.ireturn, 1) := by decide +kernel
theorem dX11_addPolicy_0 : decode cX11_addPolicy 0 = .ok (.iload_n 2, 1) := by decide +kernel
theorem dX11_addPolicy_1 : decode cX11_addPolicy 1 = .ok (.iload_n 3, 1) := by decide +kernel
theorem dX11_addPolicy_2 : decode cX11_addPolicy 2 = .ok (.invokestatic 101, 3) := by decide +kernel
theorem dX11_addPolicy_5 : decode cX11_addPolicy 5 = .ok (.ifCond .eq 13, 3) := by decide +kernel
theorem dX11_addPolicy_8 : decode cX11_addPolicy 8 = .ok (.iload 4, 2) := by decide +kernel
theorem dX11_addPolicy_10 : decode cX11_addPolicy 10 = .ok (.iload 5, 2) := by decide +kernel
theorem dX11_addPolicy_12 : decode cX11_addPolicy 12 = .ok (.invokestatic 101, 3) := by decide +kernel
theorem dX11_addPolicy_15 : decode cX11_addPolicy 15 = .ok (.ifCond .ne 5, 3) := by decide +kernel
theorem dX11_addPolicy_18 : decode cX11_addPolicy 18 = .ok (.iconst (-1), 1) := by decide +kernel
theorem dX11_addPolicy_19 : decode cX11_addPolicy 19 = .ok (.ireturn, 1) := by decide +kernel
theorem dX11_addPolicy_20 : decode cX11_addPolicy 20 = .ok (.aload_n 0, 1) := by decide +kernel
theorem dX11_addPolicy_21 : decode cX11_addPolicy 21 = .ok (.getfield 95, 3) := by decide +kernel
theorem dX11_addPolicy_24 : decode cX11_addPolicy 24 = .ok (.bipush 8, 2) := by decide +kernel
theorem dX11_addPolicy_26 : decode cX11_addPolicy 26 = .ok (.if_icmp .lt 6, 3) := by decide +kernel
theorem dX11_addPolicy_29 : decode cX11_addPolicy 29 = .ok (.bipush (-5), 2) := by decide +kernel
theorem dX11_addPolicy_31 : decode cX11_addPolicy 31 = .ok (.ireturn, 1) := by decide +kernel
theorem dX11_addPolicy_32 : decode cX11_addPolicy 32 = .ok (.aload_n 0, 1) := by decide +kernel
theorem dX11_addPolicy_33 : decode cX11_addPolicy 33 = .ok (.getfield 71, 3) := by decide +kernel
theorem dX11_addPolicy_36 : decode cX11_addPolicy 36 = .ok (.aload_n 0, 1) := by decide +kernel
theorem dX11_addPolicy_37 : decode cX11_addPolicy 37 = .ok (.getfield 95, 3) := by decide +kernel
theorem dX11_addPolicy_40 : decode cX11_addPolicy 40 = .ok (.aaload, 1) := by decide +kernel
theorem dX11_addPolicy_41 : decode cX11_addPolicy 41 = .ok (.astore 6, 2) := by decide +kernel
theorem dX11_addPolicy_43 : decode cX11_addPolicy 43 = .ok (.aload 6, 2) := by decide +kernel
theorem dX11_addPolicy_45 : decode cX11_addPolicy 45 = .ok (.iload_n 1, 1) := by decide +kernel
theorem dX11_addPolicy_46 : decode cX11_addPolicy 46 = .ok (.putfield 296, 3) := by decide +kernel
theorem dX11_addPolicy_49 : decode cX11_addPolicy 49 = .ok (.aload 6, 2) := by decide +kernel
theorem dX11_addPolicy_51 : decode cX11_addPolicy 51 = .ok (.iload_n 2, 1) := by decide +kernel
theorem dX11_addPolicy_52 : decode cX11_addPolicy 52 = .ok (.iload_n 3, 1) := by decide +kernel
theorem dX11_addPolicy_53 : decode cX11_addPolicy 53 = .ok (.invokestatic 105, 3) := by decide +kernel
theorem dX11_addPolicy_56 : decode cX11_addPolicy 56 = .ok (.putfield 299, 3) := by decide +kernel
theorem dX11_addPolicy_59 : decode cX11_addPolicy 59 = .ok (.aload 6, 2) := by decide +kernel
theorem dX11_addPolicy_61 : decode cX11_addPolicy 61 = .ok (.iload 4, 2) := by decide +kernel
theorem dX11_addPolicy_63 : decode cX11_addPolicy 63 = .ok (.iload 5, 2) := by decide +kernel
theorem dX11_addPolicy_65 : decode cX11_addPolicy 65 = .ok (.invokestatic 105, 3) := by decide +kernel
theorem dX11_addPolicy_68 : decode cX11_addPolicy 68 = .ok (.putfield 302, 3) := by decide +kernel
theorem dX11_addPolicy_71 : decode cX11_addPolicy 71 = .ok (.aload 6, 2) := by decide +kernel
theorem dX11_addPolicy_73 : decode cX11_addPolicy 73 = .ok (.aload_n 0, 1) := by decide +kernel
theorem dX11_addPolicy_74 : decode cX11_addPolicy 74 = .ok (.getfield 14, 3) := by decide +kernel
theorem dX11_addPolicy_77 : decode cX11_addPolicy 77 = .ok (.invokevirtual 76, 3) := by decide +kernel
theorem dX11_addPolicy_80 : decode cX11_addPolicy 80 = .ok (.putfield 305, 3) := by decide +kernel
theorem dX11_addPolicy_83 : decode cX11_addPolicy 83 = .ok (.aload_n 0, 1) := by decide +kernel
theorem dX11_addPolicy_84 : decode cX11_addPolicy 84 = .ok (.dup, 1) := by decide +kernel
theorem dX11_addPolicy_85 : decode cX11_addPolicy 85 = .ok (.getfield 95, 3) := by decide +kernel
theorem dX11_addPolicy_88 : decode cX11_addPolicy 88 = .ok (.iconst 1, 1) := by decide +kernel
theorem dX11_addPolicy_89 : decode cX11_addPolicy 89 = .ok (.iadd, 1) := by decide +kernel
theorem dX11_addPolicy_90 : decode cX11_addPolicy 90 = .ok (.putfield 95, 3) := by decide +kernel
theorem dX11_addPolicy_93 : decode cX11_addPolicy 93 = .ok (.aload_n 0, 1) := by decide +kernel
theorem dX11_addPolicy_94 : decode cX11_addPolicy 94 = .ok (.getfield 95, 3) := by decide +kernel
theorem dX11_addPolicy_97 : decode cX11_addPolicy 97 = .ok (.iconst 1, 1) := by decide +kernel
theorem dX11_addPolicy_98 : decode cX11_addPolicy 98 = .ok (.isub, 1) := by decide +kernel
theorem dX11_addPolicy_99 : decode cX11_addPolicy 99 = .ok (.ireturn, 1) := by decide +kernel
theorem dX11_setPolicyCube_0 : decode cX11_setPolicyCube 0 = .ok (.aload_n 0, 1) := by decide +kernel
theorem dX11_setPolicyCube_1 : decode cX11_setPolicyCube 1 = .ok (.iload_n 1, 1) := by decide +kernel
theorem dX11_setPolicyCube_2 : decode cX11_setPolicyCube 2 = .ok (.invokevirtual 308, 3) := by decide +kernel
theorem dX11_setPolicyCube_5 : decode cX11_setPolicyCube 5 = .ok (.ifCond .eq 15, 3) := by decide +kernel
theorem dX11_setPolicyCube_8 : decode cX11_setPolicyCube 8 = .ok (.aload_n 0, 1) := by decide +kernel
theorem dX11_setPolicyCube_9 : decode cX11_setPolicyCube 9 = .ok (.getfield 14, 3) := by decide +kernel
theorem dX11_setPolicyCube_12 : decode cX11_setPolicyCube 12 = .ok (.iload_n 2, 1) := by decide +kernel
theorem dX11_setPolicyCube_13 : decode cX11_setPolicyCube 13 = .ok (.iload_n 3, 1) := by decide +kernel
theorem dX11_setPolicyCube_14 : decode cX11_setPolicyCube 14 = .ok (.invokevirtual 139, 3) := by decide +kernel
theorem dX11_setPolicyCube_17 : decode cX11_setPolicyCube 17 = .ok (.ifCond .ne 6, 3) := by decide +kernel
theorem dX11_setPolicyCube_20 : decode cX11_setPolicyCube 20 = .ok (.bipush (-3), 2) := by decide +kernel
theorem dX11_setPolicyCube_22 : decode cX11_setPolicyCube 22 = .ok (.ireturn, 1) := by decide +kernel
theorem dX11_setPolicyCube_23 : decode cX11_setPolicyCube 23 = .ok (.aload_n 0, 1) := by decide +kernel
theorem dX11_setPolicyCube_24 : decode cX11_setPolicyCube 24 = .ok (.getfield 14, 3) := by decide +kernel
theorem dX11_setPolicyCube_27 : decode cX11_setPolicyCube 27 = .ok (.invokevirtual 76, 3) := by decide +kernel
theorem dX11_setPolicyCube_30 : decode cX11_setPolicyCube 30 = .ok (.iload_n 2, 1) := by decide +kernel
theorem dX11_setPolicyCube_31 : decode cX11_setPolicyCube 31 = .ok (.iload_n 3, 1) := by decide +kernel
theorem dX11_setPolicyCube_32 : decode cX11_setPolicyCube 32 = .ok (.invokestatic 208, 3) := by decide +kernel
theorem dX11_setPolicyCube_35 : decode cX11_setPolicyCube 35 = .ok (.land, 1) := by decide +kernel
theorem dX11_setPolicyCube_36 : decode cX11_setPolicyCube 36 = .ok (.lstore 4, 2) := by decide +kernel
theorem dX11_setPolicyCube_38 : decode cX11_setPolicyCube 38 = .ok (.aload_n 0, 1) := by decide +kernel
theorem dX11_setPolicyCube_39 : decode cX11_setPolicyCube 39 = .ok (.getfield 71, 3) := by decide +kernel
theorem dX11_setPolicyCube_42 : decode cX11_setPolicyCube 42 = .ok (.iload_n 1, 1) := by decide +kernel
theorem dX11_setPolicyCube_43 : decode cX11_setPolicyCube 43 = .ok (.aaload, 1) := by decide +kernel
theorem dX11_setPolicyCube_44 : decode cX11_setPolicyCube 44 = .ok (.lload 4, 2) := by decide +kernel
theorem dX11_setPolicyCube_46 : decode cX11_setPolicyCube 46 = .ok (.putfield 305, 3) := by decide +kernel
theorem dX11_setPolicyCube_49 : decode cX11_setPolicyCube 49 = .ok (.lload 4, 2) := by decide +kernel
theorem dX11_setPolicyCube_51 : decode cX11_setPolicyCube 51 = .ok (.invokestatic 212, 3) := by decide +kernel
theorem dX11_setPolicyCube_54 : decode cX11_setPolicyCube 54 = .ok (.ireturn, 1) := by decide +kernel
theorem dX11_counterexamples_0 : decode cX11_counterexamples 0 = .ok (.aload_n 0, 1) := by decide +kernel
theorem dX11_counterexamples_1 : decode cX11_counterexamples 1 = .ok (.iload_n 1, 1) := by decide +kernel
theorem dX11_counterexamples_2 : decode cX11_counterexamples 2 = .ok (.invokevirtual 308, 3) := by decide +kernel
theorem dX11_counterexamples_5 : decode cX11_counterexamples 5 = .ok (.ifCond .eq 16, 3) := by decide +kernel
theorem dX11_counterexamples_8 : decode cX11_counterexamples 8 = .ok (.aload_n 0, 1) := by decide +kernel
theorem dX11_counterexamples_9 : decode cX11_counterexamples 9 = .ok (.aload_n 0, 1) := by decide +kernel
theorem dX11_counterexamples_10 : decode cX11_counterexamples 10 = .ok (.getfield 71, 3) := by decide +kernel
theorem dX11_counterexamples_13 : decode cX11_counterexamples 13 = .ok (.iload_n 1, 1) := by decide +kernel
theorem dX11_counterexamples_14 : decode cX11_counterexamples 14 = .ok (.aaload, 1) := by decide +kernel
theorem dX11_counterexamples_15 : decode cX11_counterexamples 15 = .ok (.invokevirtual 311, 3) := by decide +kernel
theorem dX11_counterexamples_18 : decode cX11_counterexamples 18 = .ok (.goto 6, 3) := by decide +kernel
theorem dX11_counterexamples_21 : decode cX11_counterexamples 21 = .ok (.ldc2_w 216, 3) := by decide +kernel
theorem dX11_counterexamples_24 : decode cX11_counterexamples 24 = .ok (.lreturn, 1) := by decide +kernel
theorem dX11_violated_0 : decode cX11_violated 0 = .ok (.iconst 0, 1) := by decide +kernel
theorem dX11_violated_1 : decode cX11_violated 1 = .ok (.istore_n 1, 1) := by decide +kernel
theorem dX11_violated_2 : decode cX11_violated 2 = .ok (.iconst 0, 1) := by decide +kernel
theorem dX11_violated_3 : decode cX11_violated 3 = .ok (.istore_n 2, 1) := by decide +kernel
theorem dX11_violated_4 : decode cX11_violated 4 = .ok (.iload_n 2, 1) := by decide +kernel
theorem dX11_violated_5 : decode cX11_violated 5 = .ok (.aload_n 0, 1) := by decide +kernel
theorem dX11_violated_6 : decode cX11_violated 6 = .ok (.getfield 95, 3) := by decide +kernel
theorem dX11_violated_9 : decode cX11_violated 9 = .ok (.if_icmp .ge 30, 3) := by decide +kernel
theorem dX11_violated_12 : decode cX11_violated 12 = .ok (.aload_n 0, 1) := by decide +kernel
theorem dX11_violated_13 : decode cX11_violated 13 = .ok (.aload_n 0, 1) := by decide +kernel
theorem dX11_violated_14 : decode cX11_violated 14 = .ok (.getfield 71, 3) := by decide +kernel
theorem dX11_violated_17 : decode cX11_violated 17 = .ok (.iload_n 2, 1) := by decide +kernel
theorem dX11_violated_18 : decode cX11_violated 18 = .ok (.aaload, 1) := by decide +kernel
theorem dX11_violated_19 : decode cX11_violated 19 = .ok (.invokevirtual 311, 3) := by decide +kernel
theorem dX11_violated_22 : decode cX11_violated 22 = .ok (.lconst 0, 1) := by decide +kernel
theorem dX11_violated_23 : decode cX11_violated 23 = .ok (.lcmp, 1) := by decide +kernel
theorem dX11_violated_24 : decode cX11_violated 24 = .ok (.ifCond .eq 9, 3) := by decide +kernel
theorem dX11_violated_27 : decode cX11_violated 27 = .ok (.iload_n 1, 1) := by decide +kernel
theorem dX11_violated_28 : decode cX11_violated 28 = .ok (.iconst 1, 1) := by decide +kernel
theorem dX11_violated_29 : decode cX11_violated 29 = .ok (.iload_n 2, 1) := by decide +kernel
theorem dX11_violated_30 : decode cX11_violated 30 = .ok (.ishl, 1) := by decide +kernel
theorem dX11_violated_31 : decode cX11_violated 31 = .ok (.ior, 1) := by decide +kernel
theorem dX11_violated_32 : decode cX11_violated 32 = .ok (.istore_n 1, 1) := by decide +kernel
theorem dX11_violated_33 : decode cX11_violated 33 = .ok (.iinc 2 1, 3) := by decide +kernel
theorem dX11_violated_36 : decode cX11_violated 36 = .ok (.goto (-32), 3) := by decide +kernel
theorem dX11_violated_39 : decode cX11_violated 39 = .ok (.iload_n 1, 1) := by decide +kernel
theorem dX11_violated_40 : decode cX11_violated 40 = .ok (.ireturn, 1) := by decide +kernel
theorem dX11_clearPolicies_0 : decode cX11_clearPolicies 0 = .ok (.aload_n 0, 1) := by decide +kernel
theorem dX11_clearPolicies_1 : decode cX11_clearPolicies 1 = .ok (.getfield 95, 3) := by decide +kernel
theorem dX11_clearPolicies_4 : decode cX11_clearPolicies 4 = .ok (.istore_n 1, 1) := by decide +kernel
theorem dX11_clearPolicies_5 : decode cX11_clearPolicies 5 = .ok (.aload_n 0, 1) := by decide +kernel
theorem dX11_clearPolicies_6 : decode cX11_clearPolicies 6 = .ok (.iconst 0, 1) := by decide +kernel
theorem dX11_clearPolicies_7 : decode cX11_clearPolicies 7 = .ok (.putfield 95, 3) := by decide +kernel
theorem dX11_clearPolicies_10 : decode cX11_clearPolicies 10 = .ok (.iload_n 1, 1) := by decide +kernel
theorem dX11_clearPolicies_11 : decode cX11_clearPolicies 11 = .ok (.ireturn, 1) := by decide +kernel
theorem dX11_type_0 : decode cX11_type 0 = .ok (.aload_n 0, 1) := by decide +kernel
theorem dX11_type_1 : decode cX11_type 1 = .ok (.getfield 58, 3) := by decide +kernel
theorem dX11_type_4 : decode cX11_type 4 = .ok (.getfield 315, 3) := by decide +kernel
theorem dX11_type_7 : decode cX11_type 7 = .ok (.bipush 40, 2) := by decide +kernel
theorem dX11_type_9 : decode cX11_type 9 = .ok (.if_icmp .lt 6, 3) := by decide +kernel
theorem dX11_type_12 : decode cX11_type 12 = .ok (.bipush (-5), 2) := by decide +kernel
theorem dX11_type_14 : decode cX11_type 14 = .ok (.ireturn, 1) := by decide +kernel
theorem dX11_type_15 : decode cX11_type 15 = .ok (.aload_n 0, 1) := by decide +kernel
theorem dX11_type_16 : decode cX11_type 16 = .ok (.getfield 58, 3) := by decide +kernel
theorem dX11_type_19 : decode cX11_type 19 = .ok (.getfield 318, 3) := by decide +kernel
theorem dX11_type_22 : decode cX11_type 22 = .ok (.aload_n 0, 1) := by decide +kernel
theorem dX11_type_23 : decode cX11_type 23 = .ok (.getfield 58, 3) := by decide +kernel
theorem dX11_type_26 : decode cX11_type 26 = .ok (.getfield 315, 3) := by decide +kernel
theorem dX11_type_29 : decode cX11_type 29 = .ok (.iload_n 1, 1) := by decide +kernel
theorem dX11_type_30 : decode cX11_type 30 = .ok (.castore, 1) := by decide +kernel
theorem dX11_type_31 : decode cX11_type 31 = .ok (.aload_n 0, 1) := by decide +kernel
theorem dX11_type_32 : decode cX11_type 32 = .ok (.getfield 58, 3) := by decide +kernel
theorem dX11_type_35 : decode cX11_type 35 = .ok (.dup, 1) := by decide +kernel
theorem dX11_type_36 : decode cX11_type 36 = .ok (.getfield 315, 3) := by decide +kernel
theorem dX11_type_39 : decode cX11_type 39 = .ok (.iconst 1, 1) := by decide +kernel
theorem dX11_type_40 : decode cX11_type 40 = .ok (.iadd, 1) := by decide +kernel
theorem dX11_type_41 : decode cX11_type 41 = .ok (.putfield 315, 3) := by decide +kernel
theorem dX11_type_44 : decode cX11_type 44 = .ok (.aload_n 0, 1) := by decide +kernel
theorem dX11_type_45 : decode cX11_type 45 = .ok (.getfield 58, 3) := by decide +kernel
theorem dX11_type_48 : decode cX11_type 48 = .ok (.getfield 315, 3) := by decide +kernel
theorem dX11_type_51 : decode cX11_type 51 = .ok (.ireturn, 1) := by decide +kernel
theorem dX11_clearText_0 : decode cX11_clearText 0 = .ok (.aload_n 0, 1) := by decide +kernel
theorem dX11_clearText_1 : decode cX11_clearText 1 = .ok (.getfield 58, 3) := by decide +kernel
theorem dX11_clearText_4 : decode cX11_clearText 4 = .ok (.getfield 315, 3) := by decide +kernel
theorem dX11_clearText_7 : decode cX11_clearText 7 = .ok (.istore_n 1, 1) := by decide +kernel
theorem dX11_clearText_8 : decode cX11_clearText 8 = .ok (.aload_n 0, 1) := by decide +kernel
theorem dX11_clearText_9 : decode cX11_clearText 9 = .ok (.getfield 58, 3) := by decide +kernel
theorem dX11_clearText_12 : decode cX11_clearText 12 = .ok (.iconst 0, 1) := by decide +kernel
theorem dX11_clearText_13 : decode cX11_clearText 13 = .ok (.putfield 315, 3) := by decide +kernel
theorem dX11_clearText_16 : decode cX11_clearText 16 = .ok (.iload_n 1, 1) := by decide +kernel
theorem dX11_clearText_17 : decode cX11_clearText 17 = .ok (.ireturn, 1) := by decide +kernel
theorem dX11_readRule_0 : decode cX11_readRule 0 = .ok (.iload_n 1, 1) := by decide +kernel
theorem dX11_readRule_1 : decode cX11_readRule 1 = .ok (.invokestatic 116, 3) := by decide +kernel
theorem dX11_readRule_4 : decode cX11_readRule 4 = .ok (.ifCond .ne 5, 3) := by decide +kernel
theorem dX11_readRule_7 : decode cX11_readRule 7 = .ok (.iconst (-1), 1) := by decide +kernel
theorem dX11_readRule_8 : decode cX11_readRule 8 = .ok (.ireturn, 1) := by decide +kernel
theorem dX11_readRule_9 : decode cX11_readRule 9 = .ok (.aload_n 0, 1) := by decide +kernel
theorem dX11_readRule_10 : decode cX11_readRule 10 = .ok (.getfield 58, 3) := by decide +kernel
theorem dX11_readRule_13 : decode cX11_readRule 13 = .ok (.aload_n 0, 1) := by decide +kernel
theorem dX11_readRule_14 : decode cX11_readRule 14 = .ok (.getfield 14, 3) := by decide +kernel
theorem dX11_readRule_17 : decode cX11_readRule 17 = .ok (.getfield 84, 3) := by decide +kernel
theorem dX11_readRule_20 : decode cX11_readRule 20 = .ok (.invokevirtual 322, 3) := by decide +kernel
theorem dX11_readRule_23 : decode cX11_readRule 23 = .ok (.ifCond .ne 14, 3) := by decide +kernel
theorem dX11_readRule_26 : decode cX11_readRule 26 = .ok (.bipush (-100), 2) := by decide +kernel
theorem dX11_readRule_28 : decode cX11_readRule 28 = .ok (.aload_n 0, 1) := by decide +kernel
theorem dX11_readRule_29 : decode cX11_readRule 29 = .ok (.getfield 58, 3) := by decide +kernel
theorem dX11_readRule_32 : decode cX11_readRule 32 = .ok (.getfield 325, 3) := by decide +kernel
theorem dX11_readRule_35 : decode cX11_readRule 35 = .ok (.isub, 1) := by decide +kernel
theorem dX11_readRule_36 : decode cX11_readRule 36 = .ok (.ireturn, 1) := by decide +kernel
theorem dX11_readRule_37 : decode cX11_readRule 37 = .ok (.aload_n 0, 1) := by decide +kernel
theorem dX11_readRule_38 : decode cX11_readRule 38 = .ok (.iload_n 1, 1) := by decide +kernel
theorem dX11_readRule_39 : decode cX11_readRule 39 = .ok (.aload_n 0, 1) := by decide +kernel
theorem dX11_readRule_40 : decode cX11_readRule 40 = .ok (.getfield 14, 3) := by decide +kernel
theorem dX11_readRule_43 : decode cX11_readRule 43 = .ok (.getfield 142, 3) := by decide +kernel
theorem dX11_readRule_46 : decode cX11_readRule 46 = .ok (.iload_n 1, 1) := by decide +kernel
theorem dX11_readRule_47 : decode cX11_readRule 47 = .ok (.aaload, 1) := by decide +kernel
theorem dX11_readRule_48 : decode cX11_readRule 48 = .ok (.getfield 176, 3) := by decide +kernel
theorem dX11_readRule_51 : decode cX11_readRule 51 = .ok (.aload_n 0, 1) := by decide +kernel
theorem dX11_readRule_52 : decode cX11_readRule 52 = .ok (.getfield 58, 3) := by decide +kernel
theorem dX11_readRule_55 : decode cX11_readRule 55 = .ok (.invokevirtual 328, 3) := by decide +kernel
theorem dX11_readRule_58 : decode cX11_readRule 58 = .ok (.invokevirtual 129, 3) := by decide +kernel
theorem dX11_readRule_61 : decode cX11_readRule 61 = .ok (.ireturn, 1) := by decide +kernel
theorem dX11_ruleText_0 : decode cX11_ruleText 0 = .ok (.aload_n 0, 1) := by decide +kernel
theorem dX11_ruleText_1 : decode cX11_ruleText 1 = .ok (.iload_n 1, 1) := by decide +kernel
theorem dX11_ruleText_2 : decode cX11_ruleText 2 = .ok (.iload_n 2, 1) := by decide +kernel
theorem dX11_ruleText_3 : decode cX11_ruleText 3 = .ok (.invokevirtual 136, 3) := by decide +kernel
theorem dX11_ruleText_6 : decode cX11_ruleText 6 = .ok (.istore 4, 2) := by decide +kernel
theorem dX11_ruleText_8 : decode cX11_ruleText 8 = .ok (.iload 4, 2) := by decide +kernel
theorem dX11_ruleText_10 : decode cX11_ruleText 10 = .ok (.ifCond .eq 6, 3) := by decide +kernel
theorem dX11_ruleText_13 : decode cX11_ruleText 13 = .ok (.iload 4, 2) := by decide +kernel
theorem dX11_ruleText_15 : decode cX11_ruleText 15 = .ok (.ireturn, 1) := by decide +kernel
theorem dX11_ruleText_16 : decode cX11_ruleText 16 = .ok (.iload_n 3, 1) := by decide +kernel
theorem dX11_ruleText_17 : decode cX11_ruleText 17 = .ok (.ifCond .ge 6, 3) := by decide +kernel
theorem dX11_ruleText_20 : decode cX11_ruleText 20 = .ok (.bipush (-3), 2) := by decide +kernel
theorem dX11_ruleText_22 : decode cX11_ruleText 22 = .ok (.ireturn, 1) := by decide +kernel
theorem dX11_ruleText_23 : decode cX11_ruleText 23 = .ok (.aload_n 0, 1) := by decide +kernel
theorem dX11_ruleText_24 : decode cX11_ruleText 24 = .ok (.getfield 65, 3) := by decide +kernel
theorem dX11_ruleText_27 : decode cX11_ruleText 27 = .ok (.aload_n 0, 1) := by decide +kernel
theorem dX11_ruleText_28 : decode cX11_ruleText 28 = .ok (.getfield 14, 3) := by decide +kernel
theorem dX11_ruleText_31 : decode cX11_ruleText 31 = .ok (.getfield 142, 3) := by decide +kernel
theorem dX11_ruleText_34 : decode cX11_ruleText 34 = .ok (.iload_n 1, 1) := by decide +kernel
theorem dX11_ruleText_35 : decode cX11_ruleText 35 = .ok (.aaload, 1) := by decide +kernel
theorem dX11_ruleText_36 : decode cX11_ruleText 36 = .ok (.getfield 146, 3) := by decide +kernel
theorem dX11_ruleText_39 : decode cX11_ruleText 39 = .ok (.iload_n 2, 1) := by decide +kernel
theorem dX11_ruleText_40 : decode cX11_ruleText 40 = .ok (.aaload, 1) := by decide +kernel
theorem dX11_ruleText_41 : decode cX11_ruleText 41 = .ok (.aload_n 0, 1) := by decide +kernel
theorem dX11_ruleText_42 : decode cX11_ruleText 42 = .ok (.getfield 14, 3) := by decide +kernel
theorem dX11_ruleText_45 : decode cX11_ruleText 45 = .ok (.getfield 84, 3) := by decide +kernel
theorem dX11_ruleText_48 : decode cX11_ruleText 48 = .ok (.invokevirtual 332, 3) := by decide +kernel
theorem dX11_ruleText_51 : decode cX11_ruleText 51 = .ok (.iload_n 3, 1) := by decide +kernel
theorem dX11_ruleText_52 : decode cX11_ruleText 52 = .ok (.aload_n 0, 1) := by decide +kernel
theorem dX11_ruleText_53 : decode cX11_ruleText 53 = .ok (.getfield 65, 3) := by decide +kernel
theorem dX11_ruleText_56 : decode cX11_ruleText 56 = .ok (.getfield 336, 3) := by decide +kernel
theorem dX11_ruleText_59 : decode cX11_ruleText 59 = .ok (.if_icmp .ge 15, 3) := by decide +kernel
theorem dX11_ruleText_62 : decode cX11_ruleText 62 = .ok (.aload_n 0, 1) := by decide +kernel
theorem dX11_ruleText_63 : decode cX11_ruleText 63 = .ok (.getfield 65, 3) := by decide +kernel
theorem dX11_ruleText_66 : decode cX11_ruleText 66 = .ok (.getfield 337, 3) := by decide +kernel
theorem dX11_ruleText_69 : decode cX11_ruleText 69 = .ok (.iload_n 3, 1) := by decide +kernel
theorem dX11_ruleText_70 : decode cX11_ruleText 70 = .ok (.caload, 1) := by decide +kernel
theorem dX11_ruleText_71 : decode cX11_ruleText 71 = .ok (.goto 5, 3) := by decide +kernel
theorem dX11_ruleText_74 : decode cX11_ruleText 74 = .ok (.bipush (-6), 2) := by decide +kernel
theorem dX11_ruleText_76 : decode cX11_ruleText 76 = .ok (.ireturn, 1) := by decide +kernel
theorem dX11_isBox_0 : decode cX11_isBox 0 = .ok (.iload_n 0, 1) := by decide +kernel
theorem dX11_isBox_1 : decode cX11_isBox 1 = .ok (.ifCond .lt 13, 3) := by decide +kernel
theorem dX11_isBox_4 : decode cX11_isBox 4 = .ok (.iload_n 0, 1) := by decide +kernel
theorem dX11_isBox_5 : decode cX11_isBox 5 = .ok (.bipush 6, 2) := by decide +kernel
theorem dX11_isBox_7 : decode cX11_isBox 7 = .ok (.if_icmp .ge 7, 3) := by decide +kernel
theorem dX11_isBox_10 : decode cX11_isBox 10 = .ok (.iconst 1, 1) := by decide +kernel
theorem dX11_isBox_11 : decode cX11_isBox 11 = .ok (.goto 4, 3) := by decide +kernel
theorem dX11_isBox_14 : decode cX11_isBox 14 = .ok (.iconst 0, 1) := by decide +kernel
theorem dX11_isBox_15 : decode cX11_isBox 15 = .ok (.ireturn, 1) := by decide +kernel
theorem dX11_isPlace_0 : decode cX11_isPlace 0 = .ok (.iload_n 0, 1) := by decide +kernel
theorem dX11_isPlace_1 : decode cX11_isPlace 1 = .ok (.invokestatic 116, 3) := by decide +kernel
theorem dX11_isPlace_4 : decode cX11_isPlace 4 = .ok (.ifCond .eq 16, 3) := by decide +kernel
theorem dX11_isPlace_7 : decode cX11_isPlace 7 = .ok (.iload_n 1, 1) := by decide +kernel
theorem dX11_isPlace_8 : decode cX11_isPlace 8 = .ok (.ifCond .lt 12, 3) := by decide +kernel
theorem dX11_isPlace_11 : decode cX11_isPlace 11 = .ok (.iload_n 1, 1) := by decide +kernel
theorem dX11_isPlace_12 : decode cX11_isPlace 12 = .ok (.iconst 4, 1) := by decide +kernel
theorem dX11_isPlace_13 : decode cX11_isPlace 13 = .ok (.if_icmp .ge 7, 3) := by decide +kernel
theorem dX11_isPlace_16 : decode cX11_isPlace 16 = .ok (.iconst 1, 1) := by decide +kernel
theorem dX11_isPlace_17 : decode cX11_isPlace 17 = .ok (.goto 4, 3) := by decide +kernel
theorem dX11_isPlace_20 : decode cX11_isPlace 20 = .ok (.iconst 0, 1) := by decide +kernel
theorem dX11_isPlace_21 : decode cX11_isPlace 21 = .ok (.ireturn, 1) := by decide +kernel
theorem dX11_placeOf_0 : decode cX11_placeOf 0 = .ok (.iload_n 0, 1) := by decide +kernel
theorem dX11_placeOf_1 : decode cX11_placeOf 1 = .ok (.iconst 4, 1) := by decide +kernel
theorem dX11_placeOf_2 : decode cX11_placeOf 2 = .ok (.imul, 1) := by decide +kernel
theorem dX11_placeOf_3 : decode cX11_placeOf 3 = .ok (.iload_n 1, 1) := by decide +kernel
theorem dX11_placeOf_4 : decode cX11_placeOf 4 = .ok (.iadd, 1) := by decide +kernel
theorem dX11_placeOf_5 : decode cX11_placeOf 5 = .ok (.ireturn, 1) := by decide +kernel
theorem dX11_isPortSet_0 : decode cX11_isPortSet 0 = .ok (.iload_n 0, 1) := by decide +kernel
theorem dX11_isPortSet_1 : decode cX11_isPortSet 1 = .ok (.iconst 1, 1) := by decide +kernel
theorem dX11_isPortSet_2 : decode cX11_isPortSet 2 = .ok (.if_icmp .lt 13, 3) := by decide +kernel
theorem dX11_isPortSet_5 : decode cX11_isPortSet 5 = .ok (.iload_n 0, 1) := by decide +kernel
theorem dX11_isPortSet_6 : decode cX11_isPortSet 6 = .ok (.bipush 15, 2) := by decide +kernel
theorem dX11_isPortSet_8 : decode cX11_isPortSet 8 = .ok (.if_icmp .gt 7, 3) := by decide +kernel
theorem dX11_isPortSet_11 : decode cX11_isPortSet 11 = .ok (.iconst 1, 1) := by decide +kernel
theorem dX11_isPortSet_12 : decode cX11_isPortSet 12 = .ok (.goto 4, 3) := by decide +kernel
theorem dX11_isPortSet_15 : decode cX11_isPortSet 15 = .ok (.iconst 0, 1) := by decide +kernel
theorem dX11_isPortSet_16 : decode cX11_isPortSet 16 = .ok (.ireturn, 1) := by decide +kernel
theorem dX11_hasPort_0 : decode cX11_hasPort 0 = .ok (.iload_n 0, 1) := by decide +kernel
theorem dX11_hasPort_1 : decode cX11_hasPort 1 = .ok (.iload_n 1, 1) := by decide +kernel
theorem dX11_hasPort_2 : decode cX11_hasPort 2 = .ok (.ishr, 1) := by decide +kernel
theorem dX11_hasPort_3 : decode cX11_hasPort 3 = .ok (.iconst 1, 1) := by decide +kernel
theorem dX11_hasPort_4 : decode cX11_hasPort 4 = .ok (.iand, 1) := by decide +kernel
theorem dX11_hasPort_5 : decode cX11_hasPort 5 = .ok (.ifCond .eq 7, 3) := by decide +kernel
theorem dX11_hasPort_8 : decode cX11_hasPort 8 = .ok (.iconst 1, 1) := by decide +kernel
theorem dX11_hasPort_9 : decode cX11_hasPort 9 = .ok (.goto 4, 3) := by decide +kernel
theorem dX11_hasPort_12 : decode cX11_hasPort 12 = .ok (.iconst 0, 1) := by decide +kernel
theorem dX11_hasPort_13 : decode cX11_hasPort 13 = .ok (.ireturn, 1) := by decide +kernel
theorem dX11_hasHeader_0 : decode cX11_hasHeader 0 = .ok (.lload_n 0, 1) := by decide +kernel
theorem dX11_hasHeader_1 : decode cX11_hasHeader 1 = .ok (.iload_n 2, 1) := by decide +kernel
theorem dX11_hasHeader_2 : decode cX11_hasHeader 2 = .ok (.lushr, 1) := by decide +kernel
theorem dX11_hasHeader_3 : decode cX11_hasHeader 3 = .ok (.lconst 1, 1) := by decide +kernel
theorem dX11_hasHeader_4 : decode cX11_hasHeader 4 = .ok (.land, 1) := by decide +kernel
theorem dX11_hasHeader_5 : decode cX11_hasHeader 5 = .ok (.lconst 0, 1) := by decide +kernel
theorem dX11_hasHeader_6 : decode cX11_hasHeader 6 = .ok (.lcmp, 1) := by decide +kernel
theorem dX11_hasHeader_7 : decode cX11_hasHeader 7 = .ok (.ifCond .eq 7, 3) := by decide +kernel
theorem dX11_hasHeader_10 : decode cX11_hasHeader 10 = .ok (.iconst 1, 1) := by decide +kernel
theorem dX11_hasHeader_11 : decode cX11_hasHeader 11 = .ok (.goto 4, 3) := by decide +kernel
theorem dX11_hasHeader_14 : decode cX11_hasHeader 14 = .ok (.iconst 0, 1) := by decide +kernel
theorem dX11_hasHeader_15 : decode cX11_hasHeader 15 = .ok (.ireturn, 1) := by decide +kernel
theorem dX11_cubeHeaders_0 : decode cX11_cubeHeaders 0 = .ok (.ldc2_w 338, 3) := by decide +kernel
theorem dX11_cubeHeaders_3 : decode cX11_cubeHeaders 3 = .ok (.lstore_n 2, 1) := by decide +kernel
theorem dX11_cubeHeaders_4 : decode cX11_cubeHeaders 4 = .ok (.iconst 0, 1) := by decide +kernel
theorem dX11_cubeHeaders_5 : decode cX11_cubeHeaders 5 = .ok (.istore 4, 2) := by decide +kernel
theorem dX11_cubeHeaders_7 : decode cX11_cubeHeaders 7 = .ok (.iload 4, 2) := by decide +kernel
theorem dX11_cubeHeaders_9 : decode cX11_cubeHeaders 9 = .ok (.iconst 5, 1) := by decide +kernel
theorem dX11_cubeHeaders_10 : decode cX11_cubeHeaders 10 = .ok (.if_icmp .ge 49, 3) := by decide +kernel
theorem dX11_cubeHeaders_13 : decode cX11_cubeHeaders 13 = .ok (.iload_n 0, 1) := by decide +kernel
theorem dX11_cubeHeaders_14 : decode cX11_cubeHeaders 14 = .ok (.iload 4, 2) := by decide +kernel
theorem dX11_cubeHeaders_16 : decode cX11_cubeHeaders 16 = .ok (.ishr, 1) := by decide +kernel
theorem dX11_cubeHeaders_17 : decode cX11_cubeHeaders 17 = .ok (.iconst 1, 1) := by decide +kernel
theorem dX11_cubeHeaders_18 : decode cX11_cubeHeaders 18 = .ok (.iand, 1) := by decide +kernel
theorem dX11_cubeHeaders_19 : decode cX11_cubeHeaders 19 = .ok (.ifCond .eq 34, 3) := by decide +kernel
theorem dX11_cubeHeaders_22 : decode cX11_cubeHeaders 22 = .ok (.lload_n 2, 1) := by decide +kernel
theorem dX11_cubeHeaders_23 : decode cX11_cubeHeaders 23 = .ok (.iload_n 1, 1) := by decide +kernel
theorem dX11_cubeHeaders_24 : decode cX11_cubeHeaders 24 = .ok (.iload 4, 2) := by decide +kernel
theorem dX11_cubeHeaders_26 : decode cX11_cubeHeaders 26 = .ok (.ishr, 1) := by decide +kernel
theorem dX11_cubeHeaders_27 : decode cX11_cubeHeaders 27 = .ok (.iconst 1, 1) := by decide +kernel
theorem dX11_cubeHeaders_28 : decode cX11_cubeHeaders 28 = .ok (.iand, 1) := by decide +kernel
theorem dX11_cubeHeaders_29 : decode cX11_cubeHeaders 29 = .ok (.ifCond .eq 12, 3) := by decide +kernel
theorem dX11_cubeHeaders_32 : decode cX11_cubeHeaders 32 = .ok (.getstatic 340, 3) := by decide +kernel
theorem dX11_cubeHeaders_35 : decode cX11_cubeHeaders 35 = .ok (.iload 4, 2) := by decide +kernel
theorem dX11_cubeHeaders_37 : decode cX11_cubeHeaders 37 = .ok (.laload, 1) := by decide +kernel
theorem dX11_cubeHeaders_38 : decode cX11_cubeHeaders 38 = .ok (.goto 13, 3) := by decide +kernel
theorem dX11_cubeHeaders_41 : decode cX11_cubeHeaders 41 = .ok (.getstatic 340, 3) := by decide +kernel
theorem dX11_cubeHeaders_44 : decode cX11_cubeHeaders 44 = .ok (.iload 4, 2) := by decide +kernel
theorem dX11_cubeHeaders_46 : decode cX11_cubeHeaders 46 = .ok (.laload, 1) := by decide +kernel
theorem dX11_cubeHeaders_47 : decode cX11_cubeHeaders 47 = .ok (.ldc2_w 250, 3) := by decide +kernel
theorem dX11_cubeHeaders_50 : decode cX11_cubeHeaders 50 = .ok (.lxor, 1) := by decide +kernel
theorem dX11_cubeHeaders_51 : decode cX11_cubeHeaders 51 = .ok (.land, 1) := by decide +kernel
theorem dX11_cubeHeaders_52 : decode cX11_cubeHeaders 52 = .ok (.lstore_n 2, 1) := by decide +kernel
theorem dX11_cubeHeaders_53 : decode cX11_cubeHeaders 53 = .ok (.iinc 4 1, 3) := by decide +kernel
theorem dX11_cubeHeaders_56 : decode cX11_cubeHeaders 56 = .ok (.goto (-49), 3) := by decide +kernel
theorem dX11_cubeHeaders_59 : decode cX11_cubeHeaders 59 = .ok (.lload_n 2, 1) := by decide +kernel
theorem dX11_cubeHeaders_60 : decode cX11_cubeHeaders 60 = .ok (.lreturn, 1) := by decide +kernel
theorem dX11_isPolicy_0 : decode cX11_isPolicy 0 = .ok (.iload_n 1, 1) := by decide +kernel
theorem dX11_isPolicy_1 : decode cX11_isPolicy 1 = .ok (.ifCond .lt 15, 3) := by decide +kernel
theorem dX11_isPolicy_4 : decode cX11_isPolicy 4 = .ok (.iload_n 1, 1) := by decide +kernel
theorem dX11_isPolicy_5 : decode cX11_isPolicy 5 = .ok (.aload_n 0, 1) := by decide +kernel
theorem dX11_isPolicy_6 : decode cX11_isPolicy 6 = .ok (.getfield 95, 3) := by decide +kernel
theorem dX11_isPolicy_9 : decode cX11_isPolicy 9 = .ok (.if_icmp .ge 7, 3) := by decide +kernel
theorem dX11_isPolicy_12 : decode cX11_isPolicy 12 = .ok (.iconst 1, 1) := by decide +kernel
theorem dX11_isPolicy_13 : decode cX11_isPolicy 13 = .ok (.goto 4, 3) := by decide +kernel
theorem dX11_isPolicy_16 : decode cX11_isPolicy 16 = .ok (.iconst 0, 1) := by decide +kernel
theorem dX11_isPolicy_17 : decode cX11_isPolicy 17 = .ok (.ireturn, 1) := by decide +kernel
theorem dX11_isInjected_0 : decode cX11_isInjected 0 = .ok (.aload_n 0, 1) := by decide +kernel
theorem dX11_isInjected_1 : decode cX11_isInjected 1 = .ok (.getfield 14, 3) := by decide +kernel
theorem dX11_isInjected_4 : decode cX11_isInjected 4 = .ok (.iload_n 1, 1) := by decide +kernel
theorem dX11_isInjected_5 : decode cX11_isInjected 5 = .ok (.invokevirtual 252, 3) := by decide +kernel
theorem dX11_isInjected_8 : decode cX11_isInjected 8 = .ok (.ifCond .eq 18, 3) := by decide +kernel
theorem dX11_isInjected_11 : decode cX11_isInjected 11 = .ok (.aload_n 0, 1) := by decide +kernel
theorem dX11_isInjected_12 : decode cX11_isInjected 12 = .ok (.getfield 80, 3) := by decide +kernel
theorem dX11_isInjected_15 : decode cX11_isInjected 15 = .ok (.iload_n 1, 1) := by decide +kernel
theorem dX11_isInjected_16 : decode cX11_isInjected 16 = .ok (.invokestatic 242, 3) := by decide +kernel
theorem dX11_isInjected_19 : decode cX11_isInjected 19 = .ok (.ifCond .eq 7, 3) := by decide +kernel
theorem dX11_isInjected_22 : decode cX11_isInjected 22 = .ok (.iconst 1, 1) := by decide +kernel
theorem dX11_isInjected_23 : decode cX11_isInjected 23 = .ok (.goto 4, 3) := by decide +kernel
theorem dX11_isInjected_26 : decode cX11_isInjected 26 = .ok (.iconst 0, 1) := by decide +kernel
theorem dX11_isInjected_27 : decode cX11_isInjected 27 = .ok (.ireturn, 1) := by decide +kernel
theorem dX11_ruleError_0 : decode cX11_ruleError 0 = .ok (.iload_n 1, 1) := by decide +kernel
theorem dX11_ruleError_1 : decode cX11_ruleError 1 = .ok (.invokestatic 116, 3) := by decide +kernel
theorem dX11_ruleError_4 : decode cX11_ruleError 4 = .ok (.ifCond .ne 5, 3) := by decide +kernel
theorem dX11_ruleError_7 : decode cX11_ruleError 7 = .ok (.iconst (-1), 1) := by decide +kernel
theorem dX11_ruleError_8 : decode cX11_ruleError 8 = .ok (.ireturn, 1) := by decide +kernel
theorem dX11_ruleError_9 : decode cX11_ruleError 9 = .ok (.iload_n 2, 1) := by decide +kernel
theorem dX11_ruleError_10 : decode cX11_ruleError 10 = .ok (.ifCond .lt 19, 3) := by decide +kernel
theorem dX11_ruleError_13 : decode cX11_ruleError 13 = .ok (.iload_n 2, 1) := by decide +kernel
theorem dX11_ruleError_14 : decode cX11_ruleError 14 = .ok (.aload_n 0, 1) := by decide +kernel
theorem dX11_ruleError_15 : decode cX11_ruleError 15 = .ok (.getfield 14, 3) := by decide +kernel
theorem dX11_ruleError_18 : decode cX11_ruleError 18 = .ok (.getfield 142, 3) := by decide +kernel
theorem dX11_ruleError_21 : decode cX11_ruleError 21 = .ok (.iload_n 1, 1) := by decide +kernel
theorem dX11_ruleError_22 : decode cX11_ruleError 22 = .ok (.aaload, 1) := by decide +kernel
theorem dX11_ruleError_23 : decode cX11_ruleError 23 = .ok (.getfield 176, 3) := by decide +kernel
theorem dX11_ruleError_26 : decode cX11_ruleError 26 = .ok (.if_icmp .lt 8, 3) := by decide +kernel
theorem dX11_ruleError_29 : decode cX11_ruleError 29 = .ok (.bipush (-2), 2) := by decide +kernel
theorem dX11_ruleError_31 : decode cX11_ruleError 31 = .ok (.goto 4, 3) := by decide +kernel
theorem dX11_ruleError_34 : decode cX11_ruleError 34 = .ok (.iconst 0, 1) := by decide +kernel
theorem dX11_ruleError_35 : decode cX11_ruleError 35 = .ok (.ireturn, 1) := by decide +kernel
theorem dX11_isInsertable_0 : decode cX11_isInsertable 0 = .ok (.iload_n 2, 1) := by decide +kernel
theorem dX11_isInsertable_1 : decode cX11_isInsertable 1 = .ok (.ifCond .lt 44, 3) := by decide +kernel
theorem dX11_isInsertable_4 : decode cX11_isInsertable 4 = .ok (.iload_n 2, 1) := by decide +kernel
theorem dX11_isInsertable_5 : decode cX11_isInsertable 5 = .ok (.aload_n 0, 1) := by decide +kernel
theorem dX11_isInsertable_6 : decode cX11_isInsertable 6 = .ok (.getfield 14, 3) := by decide +kernel
theorem dX11_isInsertable_9 : decode cX11_isInsertable 9 = .ok (.getfield 142, 3) := by decide +kernel
theorem dX11_isInsertable_12 : decode cX11_isInsertable 12 = .ok (.iload_n 1, 1) := by decide +kernel
theorem dX11_isInsertable_13 : decode cX11_isInsertable 13 = .ok (.aaload, 1) := by decide +kernel
theorem dX11_isInsertable_14 : decode cX11_isInsertable 14 = .ok (.getfield 176, 3) := by decide +kernel
theorem dX11_isInsertable_17 : decode cX11_isInsertable 17 = .ok (.if_icmp .gt 28, 3) := by decide +kernel
theorem dX11_isInsertable_20 : decode cX11_isInsertable 20 = .ok (.iload_n 3, 1) := by decide +kernel
theorem dX11_isInsertable_21 : decode cX11_isInsertable 21 = .ok (.invokestatic 133, 3) := by decide +kernel
theorem dX11_isInsertable_24 : decode cX11_isInsertable 24 = .ok (.ifCond .eq 21, 3) := by decide +kernel
theorem dX11_isInsertable_27 : decode cX11_isInsertable 27 = .ok (.aload_n 0, 1) := by decide +kernel
theorem dX11_isInsertable_28 : decode cX11_isInsertable 28 = .ok (.getfield 14, 3) := by decide +kernel
theorem dX11_isInsertable_31 : decode cX11_isInsertable 31 = .ok (.iload 4, 2) := by decide +kernel
theorem dX11_isInsertable_33 : decode cX11_isInsertable 33 = .ok (.iload 5, 2) := by decide +kernel
theorem dX11_isInsertable_35 : decode cX11_isInsertable 35 = .ok (.invokevirtual 139, 3) := by decide +kernel
theorem dX11_isInsertable_38 : decode cX11_isInsertable 38 = .ok (.ifCond .eq 7, 3) := by decide +kernel
theorem dX11_isInsertable_41 : decode cX11_isInsertable 41 = .ok (.iconst 1, 1) := by decide +kernel
theorem dX11_isInsertable_42 : decode cX11_isInsertable 42 = .ok (.goto 4, 3) := by decide +kernel
theorem dX11_isInsertable_45 : decode cX11_isInsertable 45 = .ok (.iconst 0, 1) := by decide +kernel
theorem dX11_isInsertable_46 : decode cX11_isInsertable 46 = .ok (.ireturn, 1) := by decide +kernel
theorem dX11_insertRule_0 : decode cX11_insertRule 0 = .ok (.aload_n 0, 1) := by decide +kernel
theorem dX11_insertRule_1 : decode cX11_insertRule 1 = .ok (.getfield 14, 3) := by decide +kernel
theorem dX11_insertRule_4 : decode cX11_insertRule 4 = .ok (.getfield 142, 3) := by decide +kernel
theorem dX11_insertRule_7 : decode cX11_insertRule 7 = .ok (.iload_n 1, 1) := by decide +kernel
theorem dX11_insertRule_8 : decode cX11_insertRule 8 = .ok (.aaload, 1) := by decide +kernel
theorem dX11_insertRule_9 : decode cX11_insertRule 9 = .ok (.astore 4, 2) := by decide +kernel
theorem dX11_insertRule_11 : decode cX11_insertRule 11 = .ok (.aload 4, 2) := by decide +kernel
theorem dX11_insertRule_13 : decode cX11_insertRule 13 = .ok (.getfield 176, 3) := by decide +kernel
theorem dX11_insertRule_16 : decode cX11_insertRule 16 = .ok (.bipush 6, 2) := by decide +kernel
theorem dX11_insertRule_18 : decode cX11_insertRule 18 = .ok (.if_icmp .lt 6, 3) := by decide +kernel
theorem dX11_insertRule_21 : decode cX11_insertRule 21 = .ok (.bipush (-5), 2) := by decide +kernel
theorem dX11_insertRule_23 : decode cX11_insertRule 23 = .ok (.ireturn, 1) := by decide +kernel
theorem dX11_insertRule_24 : decode cX11_insertRule 24 = .ok (.aload_n 0, 1) := by decide +kernel
theorem dX11_insertRule_25 : decode cX11_insertRule 25 = .ok (.getfield 21, 3) := by decide +kernel
theorem dX11_insertRule_28 : decode cX11_insertRule 28 = .ok (.iload_n 1, 1) := by decide +kernel
theorem dX11_insertRule_29 : decode cX11_insertRule 29 = .ok (.aload 4, 2) := by decide +kernel
theorem dX11_insertRule_31 : decode cX11_insertRule 31 = .ok (.invokevirtual 169, 3) := by decide +kernel
theorem dX11_insertRule_34 : decode cX11_insertRule 34 = .ok (.aload 4, 2) := by decide +kernel
theorem dX11_insertRule_36 : decode cX11_insertRule 36 = .ok (.iload_n 2, 1) := by decide +kernel
theorem dX11_insertRule_37 : decode cX11_insertRule 37 = .ok (.aload_n 3, 1) := by decide +kernel
theorem dX11_insertRule_38 : decode cX11_insertRule 38 = .ok (.invokevirtual 177, 3) := by decide +kernel
theorem dX11_insertRule_41 : decode cX11_insertRule 41 = .ok (.aload 4, 2) := by decide +kernel
theorem dX11_insertRule_43 : decode cX11_insertRule 43 = .ok (.getfield 176, 3) := by decide +kernel
theorem dX11_insertRule_46 : decode cX11_insertRule 46 = .ok (.ireturn, 1) := by decide +kernel
theorem dX11_replaceRule_0 : decode cX11_replaceRule 0 = .ok (.aload_n 0, 1) := by decide +kernel
theorem dX11_replaceRule_1 : decode cX11_replaceRule 1 = .ok (.getfield 14, 3) := by decide +kernel
theorem dX11_replaceRule_4 : decode cX11_replaceRule 4 = .ok (.getfield 142, 3) := by decide +kernel
theorem dX11_replaceRule_7 : decode cX11_replaceRule 7 = .ok (.iload_n 1, 1) := by decide +kernel
theorem dX11_replaceRule_8 : decode cX11_replaceRule 8 = .ok (.aaload, 1) := by decide +kernel
theorem dX11_replaceRule_9 : decode cX11_replaceRule 9 = .ok (.astore 4, 2) := by decide +kernel
theorem dX11_replaceRule_11 : decode cX11_replaceRule 11 = .ok (.aload_n 0, 1) := by decide +kernel
theorem dX11_replaceRule_12 : decode cX11_replaceRule 12 = .ok (.getfield 21, 3) := by decide +kernel
theorem dX11_replaceRule_15 : decode cX11_replaceRule 15 = .ok (.iload_n 1, 1) := by decide +kernel
theorem dX11_replaceRule_16 : decode cX11_replaceRule 16 = .ok (.aload 4, 2) := by decide +kernel
theorem dX11_replaceRule_18 : decode cX11_replaceRule 18 = .ok (.invokevirtual 169, 3) := by decide +kernel
theorem dX11_replaceRule_21 : decode cX11_replaceRule 21 = .ok (.aload 4, 2) := by decide +kernel
theorem dX11_replaceRule_23 : decode cX11_replaceRule 23 = .ok (.getfield 146, 3) := by decide +kernel
theorem dX11_replaceRule_26 : decode cX11_replaceRule 26 = .ok (.iload_n 2, 1) := by decide +kernel
theorem dX11_replaceRule_27 : decode cX11_replaceRule 27 = .ok (.aload_n 3, 1) := by decide +kernel
theorem dX11_replaceRule_28 : decode cX11_replaceRule 28 = .ok (.aastore, 1) := by decide +kernel
theorem dX11_replaceRule_29 : decode cX11_replaceRule 29 = .ok (.return_, 1) := by decide +kernel
theorem dX11_widestCare_0 : decode cX11_widestCare 0 = .ok (.iconst 1, 1) := by decide +kernel
theorem dX11_widestCare_1 : decode cX11_widestCare 1 = .ok (.aload_n 0, 1) := by decide +kernel
theorem dX11_widestCare_2 : decode cX11_widestCare 2 = .ok (.getfield 14, 3) := by decide +kernel
theorem dX11_widestCare_5 : decode cX11_widestCare 5 = .ok (.getfield 84, 3) := by decide +kernel
theorem dX11_widestCare_8 : decode cX11_widestCare 8 = .ok (.ishl, 1) := by decide +kernel
theorem dX11_widestCare_9 : decode cX11_widestCare 9 = .ok (.iconst 1, 1) := by decide +kernel
theorem dX11_widestCare_10 : decode cX11_widestCare 10 = .ok (.isub, 1) := by decide +kernel
theorem dX11_widestCare_11 : decode cX11_widestCare 11 = .ok (.istore 4, 2) := by decide +kernel
theorem dX11_widestCare_13 : decode cX11_widestCare 13 = .ok (.iconst 0, 1) := by decide +kernel
theorem dX11_widestCare_14 : decode cX11_widestCare 14 = .ok (.istore 5, 2) := by decide +kernel
theorem dX11_widestCare_16 : decode cX11_widestCare 16 = .ok (.iload 5, 2) := by decide +kernel
theorem dX11_widestCare_18 : decode cX11_widestCare 18 = .ok (.aload_n 0, 1) := by decide +kernel
theorem dX11_widestCare_19 : decode cX11_widestCare 19 = .ok (.getfield 14, 3) := by decide +kernel
theorem dX11_widestCare_22 : decode cX11_widestCare 22 = .ok (.getfield 84, 3) := by decide +kernel
theorem dX11_widestCare_25 : decode cX11_widestCare 25 = .ok (.if_icmp .ge 53, 3) := by decide +kernel
theorem dX11_widestCare_28 : decode cX11_widestCare 28 = .ok (.iload 4, 2) := by decide +kernel
theorem dX11_widestCare_30 : decode cX11_widestCare 30 = .ok (.iconst 1, 1) := by decide +kernel
theorem dX11_widestCare_31 : decode cX11_widestCare 31 = .ok (.iload 5, 2) := by decide +kernel
theorem dX11_widestCare_33 : decode cX11_widestCare 33 = .ok (.ishl, 1) := by decide +kernel
theorem dX11_widestCare_34 : decode cX11_widestCare 34 = .ok (.iconst (-1), 1) := by decide +kernel
theorem dX11_widestCare_35 : decode cX11_widestCare 35 = .ok (.ixor, 1) := by decide +kernel
theorem dX11_widestCare_36 : decode cX11_widestCare 36 = .ok (.iand, 1) := by decide +kernel
theorem dX11_widestCare_37 : decode cX11_widestCare 37 = .ok (.istore 6, 2) := by decide +kernel
theorem dX11_widestCare_39 : decode cX11_widestCare 39 = .ok (.aload_n 0, 1) := by decide +kernel
theorem dX11_widestCare_40 : decode cX11_widestCare 40 = .ok (.getfield 14, 3) := by decide +kernel
theorem dX11_widestCare_43 : decode cX11_widestCare 43 = .ok (.invokevirtual 76, 3) := by decide +kernel
theorem dX11_widestCare_46 : decode cX11_widestCare 46 = .ok (.iload 6, 2) := by decide +kernel
theorem dX11_widestCare_48 : decode cX11_widestCare 48 = .ok (.iload_n 1, 1) := by decide +kernel
theorem dX11_widestCare_49 : decode cX11_widestCare 49 = .ok (.invokestatic 208, 3) := by decide +kernel
theorem dX11_widestCare_52 : decode cX11_widestCare 52 = .ok (.land, 1) := by decide +kernel
theorem dX11_widestCare_53 : decode cX11_widestCare 53 = .ok (.lstore 7, 2) := by decide +kernel
theorem dX11_widestCare_55 : decode cX11_widestCare 55 = .ok (.lload 7, 2) := by decide +kernel
theorem dX11_widestCare_57 : decode cX11_widestCare 57 = .ok (.lload_n 2, 1) := by decide +kernel
theorem dX11_widestCare_58 : decode cX11_widestCare 58 = .ok (.ldc2_w 250, 3) := by decide +kernel
theorem dX11_widestCare_61 : decode cX11_widestCare 61 = .ok (.lxor, 1) := by decide +kernel
theorem dX11_widestCare_62 : decode cX11_widestCare 62 = .ok (.land, 1) := by decide +kernel
theorem dX11_widestCare_63 : decode cX11_widestCare 63 = .ok (.lconst 0, 1) := by decide +kernel
theorem dX11_widestCare_64 : decode cX11_widestCare 64 = .ok (.lcmp, 1) := by decide +kernel
theorem dX11_widestCare_65 : decode cX11_widestCare 65 = .ok (.ifCond .ne 7, 3) := by decide +kernel
theorem dX11_widestCare_68 : decode cX11_widestCare 68 = .ok (.iload 6, 2) := by decide +kernel
theorem dX11_widestCare_70 : decode cX11_widestCare 70 = .ok (.istore 4, 2) := by decide +kernel
theorem dX11_widestCare_72 : decode cX11_widestCare 72 = .ok (.iinc 5 1, 3) := by decide +kernel
theorem dX11_widestCare_75 : decode cX11_widestCare 75 = .ok (.goto (-59), 3) := by decide +kernel
theorem dX11_widestCare_78 : decode cX11_widestCare 78 = .ok (.iload 4, 2) := by decide +kernel
theorem dX11_widestCare_80 : decode cX11_widestCare 80 = .ok (.ireturn, 1) := by decide +kernel
theorem dX11_against_0 : decode cX11_against 0 = .ok (.aload_n 0, 1) := by decide +kernel
theorem dX11_against_1 : decode cX11_against 1 = .ok (.getfield 37, 3) := by decide +kernel
theorem dX11_against_4 : decode cX11_against 4 = .ok (.aload_n 1, 1) := by decide +kernel
theorem dX11_against_5 : decode cX11_against 5 = .ok (.getfield 302, 3) := by decide +kernel
theorem dX11_against_8 : decode cX11_against 8 = .ok (.invokevirtual 283, 3) := by decide +kernel
theorem dX11_against_11 : decode cX11_against 11 = .ok (.aload_n 0, 1) := by decide +kernel
theorem dX11_against_12 : decode cX11_against 12 = .ok (.getfield 37, 3) := by decide +kernel
theorem dX11_against_15 : decode cX11_against 15 = .ok (.getfield 286, 3) := by decide +kernel
theorem dX11_against_18 : decode cX11_against 18 = .ok (.aload_n 1, 1) := by decide +kernel
theorem dX11_against_19 : decode cX11_against 19 = .ok (.getfield 299, 3) := by decide +kernel
theorem dX11_against_22 : decode cX11_against 22 = .ok (.laload, 1) := by decide +kernel
theorem dX11_against_23 : decode cX11_against 23 = .ok (.lstore_n 2, 1) := by decide +kernel
theorem dX11_against_24 : decode cX11_against 24 = .ok (.aload_n 1, 1) := by decide +kernel
theorem dX11_against_25 : decode cX11_against 25 = .ok (.getfield 305, 3) := by decide +kernel
theorem dX11_against_28 : decode cX11_against 28 = .ok (.aload_n 1, 1) := by decide +kernel
theorem dX11_against_29 : decode cX11_against 29 = .ok (.getfield 296, 3) := by decide +kernel
theorem dX11_against_32 : decode cX11_against 32 = .ok (.ifCond .eq 11, 3) := by decide +kernel
theorem dX11_against_35 : decode cX11_against 35 = .ok (.lload_n 2, 1) := by decide +kernel
theorem dX11_against_36 : decode cX11_against 36 = .ok (.ldc2_w 250, 3) := by decide +kernel
theorem dX11_against_39 : decode cX11_against 39 = .ok (.lxor, 1) := by decide +kernel
theorem dX11_against_40 : decode cX11_against 40 = .ok (.goto 4, 3) := by decide +kernel
theorem dX11_against_43 : decode cX11_against 43 = .ok (.lload_n 2, 1) := by decide +kernel
theorem dX11_against_44 : decode cX11_against 44 = .ok (.land, 1) := by decide +kernel
theorem dX11_against_45 : decode cX11_against 45 = .ok (.lreturn, 1) := by decide +kernel
end
section
theorem dX12_init_0 : decode cX12_init 0 = .ok (.aload_n 0, 1) := by decide +kernel
theorem dX12_init_1 : decode cX12_init 1 = .ok (.invokespecial 1, 3) := by decide +kernel
theorem dX12_init_4 : decode cX12_init 4 = .ok (.aload_n 0, 1) := by decide +kernel
theorem dX12_init_5 : decode cX12_init 5 = .ok (.bipush 24, 2) := by decide +kernel
theorem dX12_init_7 : decode cX12_init 7 = .ok (.newarray .int, 2) := by decide +kernel
theorem dX12_init_9 : decode cX12_init 9 = .ok (.putfield 7, 3) := by decide +kernel
theorem dX12_init_12 : decode cX12_init 12 = .ok (.aload_n 0, 1) := by decide +kernel
theorem dX12_init_13 : decode cX12_init 13 = .ok (.sipush 258, 3) := by decide +kernel
theorem dX12_init_16 : decode cX12_init 16 = .ok (.newarray .int, 2) := by decide +kernel
theorem dX12_init_18 : decode cX12_init 18 = .ok (.putfield 13, 3) := by decide +kernel
theorem dX12_init_21 : decode cX12_init 21 = .ok (.aload_n 0, 1) := by decide +kernel
theorem dX12_init_22 : decode cX12_init 22 = .ok (.sipush 3096, 3) := by decide +kernel
theorem dX12_init_25 : decode cX12_init 25 = .ok (.newarray .int, 2) := by decide +kernel
theorem dX12_init_27 : decode cX12_init 27 = .ok (.putfield 16, 3) := by decide +kernel
theorem dX12_init_30 : decode cX12_init 30 = .ok (.aload_n 0, 1) := by decide +kernel
theorem dX12_init_31 : decode cX12_init 31 = .ok (.bipush 7, 2) := by decide +kernel
theorem dX12_init_33 : decode cX12_init 33 = .ok (.newarray .int, 2) := by decide +kernel
theorem dX12_init_35 : decode cX12_init 35 = .ok (.putfield 19, 3) := by decide +kernel
theorem dX12_init_38 : decode cX12_init 38 = .ok (.aload_n 0, 1) := by decide +kernel
theorem dX12_init_39 : decode cX12_init 39 = .ok (.bipush 24, 2) := by decide +kernel
theorem dX12_init_41 : decode cX12_init 41 = .ok (.newarray .long, 2) := by decide +kernel
theorem dX12_init_43 : decode cX12_init 43 = .ok (.putfield 22, 3) := by decide +kernel
theorem dX12_init_46 : decode cX12_init 46 = .ok (.aload_n 0, 1) := by decide +kernel
theorem dX12_init_47 : decode cX12_init 47 = .ok (.bipush 24, 2) := by decide +kernel
theorem dX12_init_49 : decode cX12_init 49 = .ok (.newarray .long, 2) := by decide +kernel
theorem dX12_init_51 : decode cX12_init 51 = .ok (.putfield 26, 3) := by decide +kernel
theorem dX12_init_54 : decode cX12_init 54 = .ok (.aload_n 0, 1) := by decide +kernel
theorem dX12_init_55 : decode cX12_init 55 = .ok (.bipush 24, 2) := by decide +kernel
theorem dX12_init_57 : decode cX12_init 57 = .ok (.newarray .long, 2) := by decide +kernel
theorem dX12_init_59 : decode cX12_init 59 = .ok (.putfield 29, 3) := by decide +kernel
theorem dX12_init_62 : decode cX12_init 62 = .ok (.aload_n 0, 1) := by decide +kernel
theorem dX12_init_63 : decode cX12_init 63 = .ok (.bipush 24, 2) := by decide +kernel
theorem dX12_init_65 : decode cX12_init 65 = .ok (.newarray .long, 2) := by decide +kernel
theorem dX12_init_67 : decode cX12_init 67 = .ok (.putfield 32, 3) := by decide +kernel
theorem dX12_init_70 : decode cX12_init 70 = .ok (.aload_n 0, 1) := by decide +kernel
theorem dX12_init_71 : decode cX12_init 71 = .ok (.sipush 768, 3) := by decide +kernel
theorem dX12_init_74 : decode cX12_init 74 = .ok (.newarray .int, 2) := by decide +kernel
theorem dX12_init_76 : decode cX12_init 76 = .ok (.putfield 35, 3) := by decide +kernel
theorem dX12_init_79 : decode cX12_init 79 = .ok (.aload_n 0, 1) := by decide +kernel
theorem dX12_init_80 : decode cX12_init 80 = .ok (.bipush 24, 2) := by decide +kernel
theorem dX12_init_82 : decode cX12_init 82 = .ok (.newarray .long, 2) := by decide +kernel
theorem dX12_init_84 : decode cX12_init 84 = .ok (.putfield 38, 3) := by decide +kernel
theorem dX12_init_87 : decode cX12_init 87 = .ok (.aload_n 0, 1) := by decide +kernel
theorem dX12_init_88 : decode cX12_init 88 = .ok (.iconst 3, 1) := by decide +kernel
theorem dX12_init_89 : decode cX12_init 89 = .ok (.newarray .int, 2) := by decide +kernel
theorem dX12_init_91 : decode cX12_init 91 = .ok (.putfield 41, 3) := by decide +kernel
theorem dX12_init_94 : decode cX12_init 94 = .ok (.aload_n 0, 1) := by decide +kernel
theorem dX12_init_95 : decode cX12_init 95 = .ok (.bipush 8, 2) := by decide +kernel
theorem dX12_init_97 : decode cX12_init 97 = .ok (.newarray .boolean, 2) := by decide +kernel
theorem dX12_init_99 : decode cX12_init 99 = .ok (.putfield 44, 3) := by decide +kernel
theorem dX12_init_102 : decode cX12_init 102 = .ok (.aload_n 0, 1) := by decide +kernel
theorem dX12_init_103 : decode cX12_init 103 = .ok (.bipush 8, 2) := by decide +kernel
theorem dX12_init_105 : decode cX12_init 105 = .ok (.newarray .int, 2) := by decide +kernel
theorem dX12_init_107 : decode cX12_init 107 = .ok (.putfield 48, 3) := by decide +kernel
theorem dX12_init_110 : decode cX12_init 110 = .ok (.aload_n 0, 1) := by decide +kernel
theorem dX12_init_111 : decode cX12_init 111 = .ok (.bipush 8, 2) := by decide +kernel
theorem dX12_init_113 : decode cX12_init 113 = .ok (.newarray .int, 2) := by decide +kernel
theorem dX12_init_115 : decode cX12_init 115 = .ok (.putfield 51, 3) := by decide +kernel
theorem dX12_init_118 : decode cX12_init 118 = .ok (.aload_n 0, 1) := by decide +kernel
theorem dX12_init_119 : decode cX12_init 119 = .ok (.bipush 8, 2) := by decide +kernel
theorem dX12_init_121 : decode cX12_init 121 = .ok (.newarray .int, 2) := by decide +kernel
theorem dX12_init_123 : decode cX12_init 123 = .ok (.putfield 54, 3) := by decide +kernel
theorem dX12_init_126 : decode cX12_init 126 = .ok (.aload_n 0, 1) := by decide +kernel
theorem dX12_init_127 : decode cX12_init 127 = .ok (.bipush 8, 2) := by decide +kernel
theorem dX12_init_129 : decode cX12_init 129 = .ok (.newarray .int, 2) := by decide +kernel
theorem dX12_init_131 : decode cX12_init 131 = .ok (.putfield 57, 3) := by decide +kernel
theorem dX12_init_134 : decode cX12_init 134 = .ok (.aload_n 0, 1) := by decide +kernel
theorem dX12_init_135 : decode cX12_init 135 = .ok (.bipush 40, 2) := by decide +kernel
theorem dX12_init_137 : decode cX12_init 137 = .ok (.newarray .char, 2) := by decide +kernel
theorem dX12_init_139 : decode cX12_init 139 = .ok (.putfield 60, 3) := by decide +kernel
theorem dX12_init_142 : decode cX12_init 142 = .ok (.aload_n 0, 1) := by decide +kernel
theorem dX12_init_143 : decode cX12_init 143 = .ok (.bipush 32, 2) := by decide +kernel
theorem dX12_init_145 : decode cX12_init 145 = .ok (.newarray .int, 2) := by decide +kernel
theorem dX12_init_147 : decode cX12_init 147 = .ok (.putfield 64, 3) := by decide +kernel
theorem dX12_init_150 : decode cX12_init 150 = .ok (.aload_n 0, 1) := by decide +kernel
theorem dX12_init_151 : decode cX12_init 151 = .ok (.iconst 4, 1) := by decide +kernel
theorem dX12_init_152 : decode cX12_init 152 = .ok (.putfield 67, 3) := by decide +kernel
theorem dX12_init_155 : decode cX12_init 155 = .ok (.aload_n 0, 1) := by decide +kernel
theorem dX12_init_156 : decode cX12_init 156 = .ok (.invokevirtual 71, 3) := by decide +kernel
theorem dX12_init_159 : decode cX12_init 159 = .ok (.return_, 1) := by decide +kernel
theorem dX12_in_0 : decode cX12_in 0 = .ok (.iload_n 0, 1) := by decide +kernel
theorem dX12_in_1 : decode cX12_in 1 = .ok (.iload_n 1, 1) := by decide +kernel
theorem dX12_in_2 : decode cX12_in 2 = .ok (.if_icmp .lt 12, 3) := by decide +kernel
theorem dX12_in_5 : decode cX12_in 5 = .ok (.iload_n 0, 1) := by decide +kernel
theorem dX12_in_6 : decode cX12_in 6 = .ok (.iload_n 2, 1) := by decide +kernel
theorem dX12_in_7 : decode cX12_in 7 = .ok (.if_icmp .gt 7, 3) := by decide +kernel
theorem dX12_in_10 : decode cX12_in 10 = .ok (.iconst 1, 1) := by decide +kernel
theorem dX12_in_11 : decode cX12_in 11 = .ok (.goto 4, 3) := by decide +kernel
theorem dX12_in_14 : decode cX12_in 14 = .ok (.iconst 0, 1) := by decide +kernel
theorem dX12_in_15 : decode cX12_in 15 = .ok (.ireturn, 1) := by decide +kernel
theorem dX12_lost_0 : decode cX12_lost 0 = .ok (.ldc2_w 74, 3) := by decide +kernel
theorem dX12_lost_3 : decode cX12_lost 3 = .ok (.lreturn, 1) := by decide +kernel
theorem dX12_begin_0 : decode cX12_begin 0 = .ok (.iconst 0, 1) := by decide +kernel
theorem dX12_begin_1 : decode cX12_begin 1 = .ok (.istore_n 1, 1) := by decide +kernel
theorem dX12_begin_2 : decode cX12_begin 2 = .ok (.iload_n 1, 1) := by decide +kernel
theorem dX12_begin_3 : decode cX12_begin 3 = .ok (.bipush 24, 2) := by decide +kernel
theorem dX12_begin_5 : decode cX12_begin 5 = .ok (.if_icmp .ge 16, 3) := by decide +kernel
theorem dX12_begin_8 : decode cX12_begin 8 = .ok (.aload_n 0, 1) := by decide +kernel
theorem dX12_begin_9 : decode cX12_begin 9 = .ok (.getfield 7, 3) := by decide +kernel
theorem dX12_begin_12 : decode cX12_begin 12 = .ok (.iload_n 1, 1) := by decide +kernel
theorem dX12_begin_13 : decode cX12_begin 13 = .ok (.iconst (-1), 1) := by decide +kernel
theorem dX12_begin_14 : decode cX12_begin 14 = .ok (.iastore, 1) := by decide +kernel
theorem dX12_begin_15 : decode cX12_begin 15 = .ok (.iinc 1 1, 3) := by decide +kernel
theorem dX12_begin_18 : decode cX12_begin 18 = .ok (.goto (-16), 3) := by decide +kernel
theorem dX12_begin_21 : decode cX12_begin 21 = .ok (.aload_n 0, 1) := by decide +kernel
theorem dX12_begin_22 : decode cX12_begin 22 = .ok (.iconst 0, 1) := by decide +kernel
theorem dX12_begin_23 : decode cX12_begin 23 = .ok (.putfield 76, 3) := by decide +kernel
theorem dX12_begin_26 : decode cX12_begin 26 = .ok (.iconst 0, 1) := by decide +kernel
theorem dX12_begin_27 : decode cX12_begin 27 = .ok (.istore_n 1, 1) := by decide +kernel
theorem dX12_begin_28 : decode cX12_begin 28 = .ok (.iload_n 1, 1) := by decide +kernel
theorem dX12_begin_29 : decode cX12_begin 29 = .ok (.bipush 6, 2) := by decide +kernel
theorem dX12_begin_31 : decode cX12_begin 31 = .ok (.if_icmp .ge 20, 3) := by decide +kernel
theorem dX12_begin_34 : decode cX12_begin 34 = .ok (.aload_n 0, 1) := by decide +kernel
theorem dX12_begin_35 : decode cX12_begin 35 = .ok (.getfield 13, 3) := by decide +kernel
theorem dX12_begin_38 : decode cX12_begin 38 = .ok (.sipush 252, 3) := by decide +kernel
theorem dX12_begin_41 : decode cX12_begin 41 = .ok (.iload_n 1, 1) := by decide +kernel
theorem dX12_begin_42 : decode cX12_begin 42 = .ok (.iadd, 1) := by decide +kernel
theorem dX12_begin_43 : decode cX12_begin 43 = .ok (.iconst 0, 1) := by decide +kernel
theorem dX12_begin_44 : decode cX12_begin 44 = .ok (.iastore, 1) := by decide +kernel
theorem dX12_begin_45 : decode cX12_begin 45 = .ok (.iinc 1 1, 3) := by decide +kernel
theorem dX12_begin_48 : decode cX12_begin 48 = .ok (.goto (-20), 3) := by decide +kernel
theorem dX12_begin_51 : decode cX12_begin 51 = .ok (.aload_n 0, 1) := by decide +kernel
theorem dX12_begin_52 : decode cX12_begin 52 = .ok (.iconst 0, 1) := by decide +kernel
theorem dX12_begin_53 : decode cX12_begin 53 = .ok (.putfield 79, 3) := by decide +kernel
theorem dX12_begin_56 : decode cX12_begin 56 = .ok (.aload_n 0, 1) := by decide +kernel
theorem dX12_begin_57 : decode cX12_begin 57 = .ok (.iconst 0, 1) := by decide +kernel
theorem dX12_begin_58 : decode cX12_begin 58 = .ok (.putfield 82, 3) := by decide +kernel
theorem dX12_begin_61 : decode cX12_begin 61 = .ok (.aload_n 0, 1) := by decide +kernel
theorem dX12_begin_62 : decode cX12_begin 62 = .ok (.iconst 0, 1) := by decide +kernel
theorem dX12_begin_63 : decode cX12_begin 63 = .ok (.putfield 85, 3) := by decide +kernel
theorem dX12_begin_66 : decode cX12_begin 66 = .ok (.aload_n 0, 1) := by decide +kernel
theorem dX12_begin_67 : decode cX12_begin 67 = .ok (.iconst 0, 1) := by decide +kernel
theorem dX12_begin_68 : decode cX12_begin 68 = .ok (.putfield 88, 3) := by decide +kernel
theorem dX12_begin_71 : decode cX12_begin 71 = .ok (.aload_n 0, 1) := by decide +kernel
theorem dX12_begin_72 : decode cX12_begin 72 = .ok (.iconst 0, 1) := by decide +kernel
theorem dX12_begin_73 : decode cX12_begin 73 = .ok (.putfield 91, 3) := by decide +kernel
theorem dX12_begin_76 : decode cX12_begin 76 = .ok (.return_, 1) := by decide +kernel
theorem dX12_reset_0 : decode cX12_reset 0 = .ok (.iload_n 1, 1) := by decide +kernel
theorem dX12_reset_1 : decode cX12_reset 1 = .ok (.iconst 1, 1) := by decide +kernel
theorem dX12_reset_2 : decode cX12_reset 2 = .ok (.iconst 5, 1) := by decide +kernel
theorem dX12_reset_3 : decode cX12_reset 3 = .ok (.invokestatic 94, 3) := by decide +kernel
theorem dX12_reset_6 : decode cX12_reset 6 = .ok (.ifCond .ne 6, 3) := by decide +kernel
theorem dX12_reset_9 : decode cX12_reset 9 = .ok (.bipush (-3), 2) := by decide +kernel
theorem dX12_reset_11 : decode cX12_reset 11 = .ok (.ireturn, 1) := by decide +kernel
theorem dX12_reset_12 : decode cX12_reset 12 = .ok (.aload_n 0, 1) := by decide +kernel
theorem dX12_reset_13 : decode cX12_reset 13 = .ok (.getfield 67, 3) := by decide +kernel
theorem dX12_reset_16 : decode cX12_reset 16 = .ok (.istore_n 2, 1) := by decide +kernel
theorem dX12_reset_17 : decode cX12_reset 17 = .ok (.aload_n 0, 1) := by decide +kernel
theorem dX12_reset_18 : decode cX12_reset 18 = .ok (.iload_n 1, 1) := by decide +kernel
theorem dX12_reset_19 : decode cX12_reset 19 = .ok (.putfield 67, 3) := by decide +kernel
theorem dX12_reset_22 : decode cX12_reset 22 = .ok (.aload_n 0, 1) := by decide +kernel
theorem dX12_reset_23 : decode cX12_reset 23 = .ok (.invokevirtual 71, 3) := by decide +kernel
theorem dX12_reset_26 : decode cX12_reset 26 = .ok (.iload_n 2, 1) := by decide +kernel
theorem dX12_reset_27 : decode cX12_reset 27 = .ok (.ireturn, 1) := by decide +kernel
theorem dX12_headers_0 : decode cX12_headers 0 = .ok (.iconst 1, 1) := by decide +kernel
theorem dX12_headers_1 : decode cX12_headers 1 = .ok (.aload_n 0, 1) := by decide +kernel
theorem dX12_headers_2 : decode cX12_headers 2 = .ok (.getfield 67, 3) := by decide +kernel
theorem dX12_headers_5 : decode cX12_headers 5 = .ok (.ishl, 1) := by decide +kernel
theorem dX12_headers_6 : decode cX12_headers 6 = .ok (.ireturn, 1) := by decide +kernel
theorem dX12_noHeader_0 : decode cX12_noHeader 0 = .ok (.iload_n 1, 1) := by decide +kernel
theorem dX12_noHeader_1 : decode cX12_noHeader 1 = .ok (.iconst 0, 1) := by decide +kernel
theorem dX12_noHeader_2 : decode cX12_noHeader 2 = .ok (.aload_n 0, 1) := by decide +kernel
theorem dX12_noHeader_3 : decode cX12_noHeader 3 = .ok (.invokevirtual 98, 3) := by decide +kernel
theorem dX12_noHeader_6 : decode cX12_noHeader 6 = .ok (.iconst 1, 1) := by decide +kernel
theorem dX12_noHeader_7 : decode cX12_noHeader 7 = .ok (.isub, 1) := by decide +kernel
theorem dX12_noHeader_8 : decode cX12_noHeader 8 = .ok (.invokestatic 94, 3) := by decide +kernel
theorem dX12_noHeader_11 : decode cX12_noHeader 11 = .ok (.ifCond .ne 7, 3) := by decide +kernel
theorem dX12_noHeader_14 : decode cX12_noHeader 14 = .ok (.iconst 1, 1) := by decide +kernel
theorem dX12_noHeader_15 : decode cX12_noHeader 15 = .ok (.goto 4, 3) := by decide +kernel
theorem dX12_noHeader_18 : decode cX12_noHeader 18 = .ok (.iconst 0, 1) := by decide +kernel
theorem dX12_noHeader_19 : decode cX12_noHeader 19 = .ok (.ireturn, 1) := by decide +kernel
theorem dX12_noBox_0 : decode cX12_noBox 0 = .ok (.iload_n 0, 1) := by decide +kernel
theorem dX12_noBox_1 : decode cX12_noBox 1 = .ok (.iconst 0, 1) := by decide +kernel
theorem dX12_noBox_2 : decode cX12_noBox 2 = .ok (.iconst 5, 1) := by decide +kernel
theorem dX12_noBox_3 : decode cX12_noBox 3 = .ok (.invokestatic 94, 3) := by decide +kernel
theorem dX12_noBox_6 : decode cX12_noBox 6 = .ok (.ifCond .ne 7, 3) := by decide +kernel
theorem dX12_noBox_9 : decode cX12_noBox 9 = .ok (.iconst 1, 1) := by decide +kernel
theorem dX12_noBox_10 : decode cX12_noBox 10 = .ok (.goto 4, 3) := by decide +kernel
theorem dX12_noBox_13 : decode cX12_noBox 13 = .ok (.iconst 0, 1) := by decide +kernel
theorem dX12_noBox_14 : decode cX12_noBox 14 = .ok (.ireturn, 1) := by decide +kernel
theorem dX12_noPlace_0 : decode cX12_noPlace 0 = .ok (.iload_n 0, 1) := by decide +kernel
theorem dX12_noPlace_1 : decode cX12_noPlace 1 = .ok (.invokestatic 102, 3) := by decide +kernel
theorem dX12_noPlace_4 : decode cX12_noPlace 4 = .ok (.ifCond .ne 12, 3) := by decide +kernel
theorem dX12_noPlace_7 : decode cX12_noPlace 7 = .ok (.iload_n 1, 1) := by decide +kernel
theorem dX12_noPlace_8 : decode cX12_noPlace 8 = .ok (.iconst 0, 1) := by decide +kernel
theorem dX12_noPlace_9 : decode cX12_noPlace 9 = .ok (.iconst 3, 1) := by decide +kernel
theorem dX12_noPlace_10 : decode cX12_noPlace 10 = .ok (.invokestatic 94, 3) := by decide +kernel
theorem dX12_noPlace_13 : decode cX12_noPlace 13 = .ok (.ifCond .ne 7, 3) := by decide +kernel
theorem dX12_noPlace_16 : decode cX12_noPlace 16 = .ok (.iconst 1, 1) := by decide +kernel
theorem dX12_noPlace_17 : decode cX12_noPlace 17 = .ok (.goto 4, 3) := by decide +kernel
theorem dX12_noPlace_20 : decode cX12_noPlace 20 = .ok (.iconst 0, 1) := by decide +kernel
theorem dX12_noPlace_21 : decode cX12_noPlace 21 = .ok (.ireturn, 1) := by decide +kernel
theorem dX12_connect_0 : decode cX12_connect 0 = .ok (.iload_n 1, 1) := by decide +kernel
theorem dX12_connect_1 : decode cX12_connect 1 = .ok (.iload_n 2, 1) := by decide +kernel
theorem dX12_connect_2 : decode cX12_connect 2 = .ok (.invokestatic 106, 3) := by decide +kernel
theorem dX12_connect_5 : decode cX12_connect 5 = .ok (.ifCond .ne 12, 3) := by decide +kernel
theorem dX12_connect_8 : decode cX12_connect 8 = .ok (.iload_n 3, 1) := by decide +kernel
theorem dX12_connect_9 : decode cX12_connect 9 = .ok (.iload 4, 2) := by decide +kernel
theorem dX12_connect_11 : decode cX12_connect 11 = .ok (.invokestatic 106, 3) := by decide +kernel
theorem dX12_connect_14 : decode cX12_connect 14 = .ok (.ifCond .eq 5, 3) := by decide +kernel
theorem dX12_connect_17 : decode cX12_connect 17 = .ok (.iconst (-1), 1) := by decide +kernel
theorem dX12_connect_18 : decode cX12_connect 18 = .ok (.ireturn, 1) := by decide +kernel
theorem dX12_connect_19 : decode cX12_connect 19 = .ok (.iconst 4, 1) := by decide +kernel
theorem dX12_connect_20 : decode cX12_connect 20 = .ok (.iload_n 1, 1) := by decide +kernel
theorem dX12_connect_21 : decode cX12_connect 21 = .ok (.imul, 1) := by decide +kernel
theorem dX12_connect_22 : decode cX12_connect 22 = .ok (.iload_n 2, 1) := by decide +kernel
theorem dX12_connect_23 : decode cX12_connect 23 = .ok (.iadd, 1) := by decide +kernel
theorem dX12_connect_24 : decode cX12_connect 24 = .ok (.istore 5, 2) := by decide +kernel
theorem dX12_connect_26 : decode cX12_connect 26 = .ok (.iconst 4, 1) := by decide +kernel
theorem dX12_connect_27 : decode cX12_connect 27 = .ok (.iload_n 3, 1) := by decide +kernel
theorem dX12_connect_28 : decode cX12_connect 28 = .ok (.imul, 1) := by decide +kernel
theorem dX12_connect_29 : decode cX12_connect 29 = .ok (.iload 4, 2) := by decide +kernel
theorem dX12_connect_31 : decode cX12_connect 31 = .ok (.iadd, 1) := by decide +kernel
theorem dX12_connect_32 : decode cX12_connect 32 = .ok (.istore 6, 2) := by decide +kernel
theorem dX12_connect_34 : decode cX12_connect 34 = .ok (.iload 5, 2) := by decide +kernel
theorem dX12_connect_36 : decode cX12_connect 36 = .ok (.iload 6, 2) := by decide +kernel
theorem dX12_connect_38 : decode cX12_connect 38 = .ok (.if_icmp .eq 23, 3) := by decide +kernel
theorem dX12_connect_41 : decode cX12_connect 41 = .ok (.aload_n 0, 1) := by decide +kernel
theorem dX12_connect_42 : decode cX12_connect 42 = .ok (.getfield 7, 3) := by decide +kernel
theorem dX12_connect_45 : decode cX12_connect 45 = .ok (.iload 5, 2) := by decide +kernel
theorem dX12_connect_47 : decode cX12_connect 47 = .ok (.iaload, 1) := by decide +kernel
theorem dX12_connect_48 : decode cX12_connect 48 = .ok (.ifCond .ge 13, 3) := by decide +kernel
theorem dX12_connect_51 : decode cX12_connect 51 = .ok (.aload_n 0, 1) := by decide +kernel
theorem dX12_connect_52 : decode cX12_connect 52 = .ok (.getfield 7, 3) := by decide +kernel
theorem dX12_connect_55 : decode cX12_connect 55 = .ok (.iload 6, 2) := by decide +kernel
theorem dX12_connect_57 : decode cX12_connect 57 = .ok (.iaload, 1) := by decide +kernel
theorem dX12_connect_58 : decode cX12_connect 58 = .ok (.ifCond .lt 6, 3) := by decide +kernel
theorem dX12_connect_61 : decode cX12_connect 61 = .ok (.bipush (-4), 2) := by decide +kernel
theorem dX12_connect_63 : decode cX12_connect 63 = .ok (.ireturn, 1) := by decide +kernel
theorem dX12_connect_64 : decode cX12_connect 64 = .ok (.aload_n 0, 1) := by decide +kernel
theorem dX12_connect_65 : decode cX12_connect 65 = .ok (.getfield 7, 3) := by decide +kernel
theorem dX12_connect_68 : decode cX12_connect 68 = .ok (.iload 5, 2) := by decide +kernel
theorem dX12_connect_70 : decode cX12_connect 70 = .ok (.iload 6, 2) := by decide +kernel
theorem dX12_connect_72 : decode cX12_connect 72 = .ok (.iastore, 1) := by decide +kernel
theorem dX12_connect_73 : decode cX12_connect 73 = .ok (.aload_n 0, 1) := by decide +kernel
theorem dX12_connect_74 : decode cX12_connect 74 = .ok (.getfield 7, 3) := by decide +kernel
theorem dX12_connect_77 : decode cX12_connect 77 = .ok (.iload 6, 2) := by decide +kernel
theorem dX12_connect_79 : decode cX12_connect 79 = .ok (.iload 5, 2) := by decide +kernel
theorem dX12_connect_81 : decode cX12_connect 81 = .ok (.iastore, 1) := by decide +kernel
theorem dX12_connect_82 : decode cX12_connect 82 = .ok (.aload_n 0, 1) := by decide +kernel
theorem dX12_connect_83 : decode cX12_connect 83 = .ok (.dup, 1) := by decide +kernel
theorem dX12_connect_84 : decode cX12_connect 84 = .ok (.getfield 76, 3) := by decide +kernel
theorem dX12_connect_87 : decode cX12_connect 87 = .ok (.iconst 1, 1) := by decide +kernel
theorem dX12_connect_88 : decode cX12_connect 88 = .ok (.iadd, 1) := by decide +kernel
theorem dX12_connect_89 : decode cX12_connect 89 = .ok (.putfield 76, 3) := by decide +kernel
theorem dX12_connect_92 : decode cX12_connect 92 = .ok (.aload_n 0, 1) := by decide +kernel
theorem dX12_connect_93 : decode cX12_connect 93 = .ok (.getfield 76, 3) := by decide +kernel
theorem dX12_connect_96 : decode cX12_connect 96 = .ok (.ireturn, 1) := by decide +kernel
theorem dX12_disconnect_0 : decode cX12_disconnect 0 = .ok (.iload_n 1, 1) := by decide +kernel
theorem dX12_disconnect_1 : decode cX12_disconnect 1 = .ok (.iload_n 2, 1) := by decide +kernel
theorem dX12_disconnect_2 : decode cX12_disconnect 2 = .ok (.invokestatic 106, 3) := by decide +kernel
theorem dX12_disconnect_5 : decode cX12_disconnect 5 = .ok (.ifCond .eq 5, 3) := by decide +kernel
theorem dX12_disconnect_8 : decode cX12_disconnect 8 = .ok (.iconst (-1), 1) := by decide +kernel
theorem dX12_disconnect_9 : decode cX12_disconnect 9 = .ok (.ireturn, 1) := by decide +kernel
theorem dX12_disconnect_10 : decode cX12_disconnect 10 = .ok (.iconst 4, 1) := by decide +kernel
theorem dX12_disconnect_11 : decode cX12_disconnect 11 = .ok (.iload_n 1, 1) := by decide +kernel
theorem dX12_disconnect_12 : decode cX12_disconnect 12 = .ok (.imul, 1) := by decide +kernel
theorem dX12_disconnect_13 : decode cX12_disconnect 13 = .ok (.iload_n 2, 1) := by decide +kernel
theorem dX12_disconnect_14 : decode cX12_disconnect 14 = .ok (.iadd, 1) := by decide +kernel
theorem dX12_disconnect_15 : decode cX12_disconnect 15 = .ok (.istore_n 3, 1) := by decide +kernel
theorem dX12_disconnect_16 : decode cX12_disconnect 16 = .ok (.aload_n 0, 1) := by decide +kernel
theorem dX12_disconnect_17 : decode cX12_disconnect 17 = .ok (.getfield 7, 3) := by decide +kernel
theorem dX12_disconnect_20 : decode cX12_disconnect 20 = .ok (.iload_n 3, 1) := by decide +kernel
theorem dX12_disconnect_21 : decode cX12_disconnect 21 = .ok (.iaload, 1) := by decide +kernel
theorem dX12_disconnect_22 : decode cX12_disconnect 22 = .ok (.ifCond .ge 6, 3) := by decide +kernel
theorem dX12_disconnect_25 : decode cX12_disconnect 25 = .ok (.bipush (-6), 2) := by decide +kernel
theorem dX12_disconnect_27 : decode cX12_disconnect 27 = .ok (.ireturn, 1) := by decide +kernel
theorem dX12_disconnect_28 : decode cX12_disconnect 28 = .ok (.aload_n 0, 1) := by decide +kernel
theorem dX12_disconnect_29 : decode cX12_disconnect 29 = .ok (.getfield 7, 3) := by decide +kernel
theorem dX12_disconnect_32 : decode cX12_disconnect 32 = .ok (.aload_n 0, 1) := by decide +kernel
theorem dX12_disconnect_33 : decode cX12_disconnect 33 = .ok (.getfield 7, 3) := by decide +kernel
theorem dX12_disconnect_36 : decode cX12_disconnect 36 = .ok (.iload_n 3, 1) := by decide +kernel
theorem dX12_disconnect_37 : decode cX12_disconnect 37 = .ok (.iaload, 1) := by decide +kernel
theorem dX12_disconnect_38 : decode cX12_disconnect 38 = .ok (.iconst (-1), 1) := by decide +kernel
theorem dX12_disconnect_39 : decode cX12_disconnect 39 = .ok (.iastore, 1) := by decide +kernel
theorem dX12_disconnect_40 : decode cX12_disconnect 40 = .ok (.aload_n 0, 1) := by decide +kernel
theorem dX12_disconnect_41 : decode cX12_disconnect 41 = .ok (.getfield 7, 3) := by decide +kernel
theorem dX12_disconnect_44 : decode cX12_disconnect 44 = .ok (.iload_n 3, 1) := by decide +kernel
theorem dX12_disconnect_45 : decode cX12_disconnect 45 = .ok (.iconst (-1), 1) := by decide +kernel
theorem dX12_disconnect_46 : decode cX12_disconnect 46 = .ok (.iastore, 1) := by decide +kernel
theorem dX12_disconnect_47 : decode cX12_disconnect 47 = .ok (.aload_n 0, 1) := by decide +kernel
theorem dX12_disconnect_48 : decode cX12_disconnect 48 = .ok (.dup, 1) := by decide +kernel
theorem dX12_disconnect_49 : decode cX12_disconnect 49 = .ok (.getfield 76, 3) := by decide +kernel
theorem dX12_disconnect_52 : decode cX12_disconnect 52 = .ok (.iconst 1, 1) := by decide +kernel
theorem dX12_disconnect_53 : decode cX12_disconnect 53 = .ok (.isub, 1) := by decide +kernel
theorem dX12_disconnect_54 : decode cX12_disconnect 54 = .ok (.putfield 76, 3) := by decide +kernel
theorem dX12_disconnect_57 : decode cX12_disconnect 57 = .ok (.aload_n 0, 1) := by decide +kernel
theorem dX12_disconnect_58 : decode cX12_disconnect 58 = .ok (.getfield 76, 3) := by decide +kernel
theorem dX12_disconnect_61 : decode cX12_disconnect 61 = .ok (.ireturn, 1) := by decide +kernel
theorem dX12_other_0 : decode cX12_other 0 = .ok (.iload_n 1, 1) := by decide +kernel
theorem dX12_other_1 : decode cX12_other 1 = .ok (.iload_n 2, 1) := by decide +kernel
theorem dX12_other_2 : decode cX12_other 2 = .ok (.invokestatic 106, 3) := by decide +kernel
theorem dX12_other_5 : decode cX12_other 5 = .ok (.ifCond .eq 5, 3) := by decide +kernel
theorem dX12_other_8 : decode cX12_other 8 = .ok (.iconst (-1), 1) := by decide +kernel
theorem dX12_other_9 : decode cX12_other 9 = .ok (.ireturn, 1) := by decide +kernel
theorem dX12_other_10 : decode cX12_other 10 = .ok (.aload_n 0, 1) := by decide +kernel
theorem dX12_other_11 : decode cX12_other 11 = .ok (.getfield 7, 3) := by decide +kernel
theorem dX12_other_14 : decode cX12_other 14 = .ok (.iconst 4, 1) := by decide +kernel
theorem dX12_other_15 : decode cX12_other 15 = .ok (.iload_n 1, 1) := by decide +kernel
theorem dX12_other_16 : decode cX12_other 16 = .ok (.imul, 1) := by decide +kernel
theorem dX12_other_17 : decode cX12_other 17 = .ok (.iload_n 2, 1) := by decide +kernel
theorem dX12_other_18 : decode cX12_other 18 = .ok (.iadd, 1) := by decide +kernel
theorem dX12_other_19 : decode cX12_other 19 = .ok (.iaload, 1) := by decide +kernel
theorem dX12_other_20 : decode cX12_other 20 = .ok (.istore_n 3, 1) := by decide +kernel
theorem dX12_other_21 : decode cX12_other 21 = .ok (.iload_n 3, 1) := by decide +kernel
theorem dX12_other_22 : decode cX12_other 22 = .ok (.ifCond .ge 8, 3) := by decide +kernel
theorem dX12_other_25 : decode cX12_other 25 = .ok (.bipush (-6), 2) := by decide +kernel
theorem dX12_other_27 : decode cX12_other 27 = .ok (.goto 13, 3) := by decide +kernel
theorem dX12_other_30 : decode cX12_other 30 = .ok (.bipush 10, 2) := by decide +kernel
theorem dX12_other_32 : decode cX12_other 32 = .ok (.iload_n 3, 1) := by decide +kernel
theorem dX12_other_33 : decode cX12_other 33 = .ok (.iconst 4, 1) := by decide +kernel
theorem dX12_other_34 : decode cX12_other 34 = .ok (.idiv, 1) := by decide +kernel
theorem dX12_other_35 : decode cX12_other 35 = .ok (.imul, 1) := by decide +kernel
theorem dX12_other_36 : decode cX12_other 36 = .ok (.iload_n 3, 1) := by decide +kernel
theorem dX12_other_37 : decode cX12_other 37 = .ok (.iconst 4, 1) := by decide +kernel
theorem dX12_other_38 : decode cX12_other 38 = .ok (.irem, 1) := by decide +kernel
theorem dX12_other_39 : decode cX12_other 39 = .ok (.iadd, 1) := by decide +kernel
theorem dX12_other_40 : decode cX12_other 40 = .ok (.ireturn, 1) := by decide +kernel
theorem dX12_many_0 : decode cX12_many 0 = .ok (.aload_n 0, 1) := by decide +kernel
theorem dX12_many_1 : decode cX12_many 1 = .ok (.getfield 13, 3) := by decide +kernel
theorem dX12_many_4 : decode cX12_many 4 = .ok (.sipush 252, 3) := by decide +kernel
theorem dX12_many_7 : decode cX12_many 7 = .ok (.iload_n 1, 1) := by decide +kernel
theorem dX12_many_8 : decode cX12_many 8 = .ok (.iadd, 1) := by decide +kernel
theorem dX12_many_9 : decode cX12_many 9 = .ok (.iaload, 1) := by decide +kernel
theorem dX12_many_10 : decode cX12_many 10 = .ok (.ireturn, 1) := by decide +kernel
theorem dX12_of_0 : decode cX12_of 0 = .ok (.aload_n 0, 1) := by decide +kernel
theorem dX12_of_1 : decode cX12_of 1 = .ok (.getfield 13, 3) := by decide +kernel
theorem dX12_of_4 : decode cX12_of 4 = .ok (.bipush 7, 2) := by decide +kernel
theorem dX12_of_6 : decode cX12_of 6 = .ok (.bipush 6, 2) := by decide +kernel
theorem dX12_of_8 : decode cX12_of 8 = .ok (.iload_n 1, 1) := by decide +kernel
theorem dX12_of_9 : decode cX12_of 9 = .ok (.imul, 1) := by decide +kernel
theorem dX12_of_10 : decode cX12_of 10 = .ok (.iload_n 2, 1) := by decide +kernel
theorem dX12_of_11 : decode cX12_of 11 = .ok (.iadd, 1) := by decide +kernel
theorem dX12_of_12 : decode cX12_of 12 = .ok (.imul, 1) := by decide +kernel
theorem dX12_of_13 : decode cX12_of 13 = .ok (.iload_n 3, 1) := by decide +kernel
theorem dX12_of_14 : decode cX12_of 14 = .ok (.iadd, 1) := by decide +kernel
theorem dX12_of_15 : decode cX12_of 15 = .ok (.iaload, 1) := by decide +kernel
theorem dX12_of_16 : decode cX12_of 16 = .ok (.ireturn, 1) := by decide +kernel
theorem dX12_put_0 : decode cX12_put 0 = .ok (.aload_n 0, 1) := by decide +kernel
theorem dX12_put_1 : decode cX12_put 1 = .ok (.getfield 13, 3) := by decide +kernel
theorem dX12_put_4 : decode cX12_put 4 = .ok (.bipush 7, 2) := by decide +kernel
theorem dX12_put_6 : decode cX12_put 6 = .ok (.bipush 6, 2) := by decide +kernel
theorem dX12_put_8 : decode cX12_put 8 = .ok (.iload_n 1, 1) := by decide +kernel
theorem dX12_put_9 : decode cX12_put 9 = .ok (.imul, 1) := by decide +kernel
theorem dX12_put_10 : decode cX12_put 10 = .ok (.iload_n 2, 1) := by decide +kernel
theorem dX12_put_11 : decode cX12_put 11 = .ok (.iadd, 1) := by decide +kernel
theorem dX12_put_12 : decode cX12_put 12 = .ok (.imul, 1) := by decide +kernel
theorem dX12_put_13 : decode cX12_put 13 = .ok (.iload_n 3, 1) := by decide +kernel
theorem dX12_put_14 : decode cX12_put 14 = .ok (.iadd, 1) := by decide +kernel
theorem dX12_put_15 : decode cX12_put 15 = .ok (.iload 4, 2) := by decide +kernel
theorem dX12_put_17 : decode cX12_put 17 = .ok (.iastore, 1) := by decide +kernel
theorem dX12_put_18 : decode cX12_put 18 = .ok (.return_, 1) := by decide +kernel
theorem dX12_noRule_0 : decode cX12_noRule 0 = .ok (.iload_n 2, 1) := by decide +kernel
theorem dX12_noRule_1 : decode cX12_noRule 1 = .ok (.iconst 0, 1) := by decide +kernel
theorem dX12_noRule_2 : decode cX12_noRule 2 = .ok (.aload_n 0, 1) := by decide +kernel
theorem dX12_noRule_3 : decode cX12_noRule 3 = .ok (.iload_n 1, 1) := by decide +kernel
theorem dX12_noRule_4 : decode cX12_noRule 4 = .ok (.invokevirtual 110, 3) := by decide +kernel
theorem dX12_noRule_7 : decode cX12_noRule 7 = .ok (.iconst 1, 1) := by decide +kernel
theorem dX12_noRule_8 : decode cX12_noRule 8 = .ok (.isub, 1) := by decide +kernel
theorem dX12_noRule_9 : decode cX12_noRule 9 = .ok (.invokestatic 94, 3) := by decide +kernel
theorem dX12_noRule_12 : decode cX12_noRule 12 = .ok (.ifCond .ne 7, 3) := by decide +kernel
theorem dX12_noRule_15 : decode cX12_noRule 15 = .ok (.iconst 1, 1) := by decide +kernel
theorem dX12_noRule_16 : decode cX12_noRule 16 = .ok (.goto 4, 3) := by decide +kernel
theorem dX12_noRule_19 : decode cX12_noRule 19 = .ok (.iconst 0, 1) := by decide +kernel
theorem dX12_noRule_20 : decode cX12_noRule 20 = .ok (.ireturn, 1) := by decide +kernel
theorem dX12_keep_0 : decode cX12_keep 0 = .ok (.aload_n 0, 1) := by decide +kernel
theorem dX12_keep_1 : decode cX12_keep 1 = .ok (.getfield 91, 3) := by decide +kernel
theorem dX12_keep_4 : decode cX12_keep 4 = .ok (.bipush 12, 2) := by decide +kernel
theorem dX12_keep_6 : decode cX12_keep 6 = .ok (.if_icmp .ne 49, 3) := by decide +kernel
theorem dX12_keep_9 : decode cX12_keep 9 = .ok (.aload_n 0, 1) := by decide +kernel
theorem dX12_keep_10 : decode cX12_keep 10 = .ok (.dup, 1) := by decide +kernel
theorem dX12_keep_11 : decode cX12_keep 11 = .ok (.getfield 91, 3) := by decide +kernel
theorem dX12_keep_14 : decode cX12_keep 14 = .ok (.iconst 1, 1) := by decide +kernel
theorem dX12_keep_15 : decode cX12_keep 15 = .ok (.isub, 1) := by decide +kernel
theorem dX12_keep_16 : decode cX12_keep 16 = .ok (.putfield 91, 3) := by decide +kernel
theorem dX12_keep_19 : decode cX12_keep 19 = .ok (.iconst 0, 1) := by decide +kernel
theorem dX12_keep_20 : decode cX12_keep 20 = .ok (.istore_n 1, 1) := by decide +kernel
theorem dX12_keep_21 : decode cX12_keep 21 = .ok (.iload_n 1, 1) := by decide +kernel
theorem dX12_keep_22 : decode cX12_keep 22 = .ok (.sipush 258, 3) := by decide +kernel
theorem dX12_keep_25 : decode cX12_keep 25 = .ok (.aload_n 0, 1) := by decide +kernel
theorem dX12_keep_26 : decode cX12_keep 26 = .ok (.getfield 91, 3) := by decide +kernel
theorem dX12_keep_29 : decode cX12_keep 29 = .ok (.imul, 1) := by decide +kernel
theorem dX12_keep_30 : decode cX12_keep 30 = .ok (.if_icmp .ge 25, 3) := by decide +kernel
theorem dX12_keep_33 : decode cX12_keep 33 = .ok (.aload_n 0, 1) := by decide +kernel
theorem dX12_keep_34 : decode cX12_keep 34 = .ok (.getfield 16, 3) := by decide +kernel
theorem dX12_keep_37 : decode cX12_keep 37 = .ok (.iload_n 1, 1) := by decide +kernel
theorem dX12_keep_38 : decode cX12_keep 38 = .ok (.aload_n 0, 1) := by decide +kernel
theorem dX12_keep_39 : decode cX12_keep 39 = .ok (.getfield 16, 3) := by decide +kernel
theorem dX12_keep_42 : decode cX12_keep 42 = .ok (.iload_n 1, 1) := by decide +kernel
theorem dX12_keep_43 : decode cX12_keep 43 = .ok (.sipush 258, 3) := by decide +kernel
theorem dX12_keep_46 : decode cX12_keep 46 = .ok (.iadd, 1) := by decide +kernel
theorem dX12_keep_47 : decode cX12_keep 47 = .ok (.iaload, 1) := by decide +kernel
theorem dX12_keep_48 : decode cX12_keep 48 = .ok (.iastore, 1) := by decide +kernel
theorem dX12_keep_49 : decode cX12_keep 49 = .ok (.iinc 1 1, 3) := by decide +kernel
theorem dX12_keep_52 : decode cX12_keep 52 = .ok (.goto (-31), 3) := by decide +kernel
theorem dX12_keep_55 : decode cX12_keep 55 = .ok (.iconst 0, 1) := by decide +kernel
theorem dX12_keep_56 : decode cX12_keep 56 = .ok (.istore_n 1, 1) := by decide +kernel
theorem dX12_keep_57 : decode cX12_keep 57 = .ok (.iload_n 1, 1) := by decide +kernel
theorem dX12_keep_58 : decode cX12_keep 58 = .ok (.sipush 258, 3) := by decide +kernel
theorem dX12_keep_61 : decode cX12_keep 61 = .ok (.if_icmp .ge 30, 3) := by decide +kernel
theorem dX12_keep_64 : decode cX12_keep 64 = .ok (.aload_n 0, 1) := by decide +kernel
theorem dX12_keep_65 : decode cX12_keep 65 = .ok (.getfield 16, 3) := by decide +kernel
theorem dX12_keep_68 : decode cX12_keep 68 = .ok (.sipush 258, 3) := by decide +kernel
theorem dX12_keep_71 : decode cX12_keep 71 = .ok (.aload_n 0, 1) := by decide +kernel
theorem dX12_keep_72 : decode cX12_keep 72 = .ok (.getfield 91, 3) := by decide +kernel
theorem dX12_keep_75 : decode cX12_keep 75 = .ok (.imul, 1) := by decide +kernel
theorem dX12_keep_76 : decode cX12_keep 76 = .ok (.iload_n 1, 1) := by decide +kernel
theorem dX12_keep_77 : decode cX12_keep 77 = .ok (.iadd, 1) := by decide +kernel
theorem dX12_keep_78 : decode cX12_keep 78 = .ok (.aload_n 0, 1) := by decide +kernel
theorem dX12_keep_79 : decode cX12_keep 79 = .ok (.getfield 13, 3) := by decide +kernel
theorem dX12_keep_82 : decode cX12_keep 82 = .ok (.iload_n 1, 1) := by decide +kernel
theorem dX12_keep_83 : decode cX12_keep 83 = .ok (.iaload, 1) := by decide +kernel
theorem dX12_keep_84 : decode cX12_keep 84 = .ok (.iastore, 1) := by decide +kernel
theorem dX12_keep_85 : decode cX12_keep 85 = .ok (.iinc 1 1, 3) := by decide +kernel
theorem dX12_keep_88 : decode cX12_keep 88 = .ok (.goto (-31), 3) := by decide +kernel
theorem dX12_keep_91 : decode cX12_keep 91 = .ok (.aload_n 0, 1) := by decide +kernel
theorem dX12_keep_92 : decode cX12_keep 92 = .ok (.dup, 1) := by decide +kernel
theorem dX12_keep_93 : decode cX12_keep 93 = .ok (.getfield 91, 3) := by decide +kernel
theorem dX12_keep_96 : decode cX12_keep 96 = .ok (.iconst 1, 1) := by decide +kernel
theorem dX12_keep_97 : decode cX12_keep 97 = .ok (.iadd, 1) := by decide +kernel
theorem dX12_keep_98 : decode cX12_keep 98 = .ok (.putfield 91, 3) := by decide +kernel
theorem dX12_keep_101 : decode cX12_keep 101 = .ok (.return_, 1) := by decide +kernel
theorem dX12_undo_0 : decode cX12_undo 0 = .ok (.aload_n 0, 1) := by decide +kernel
theorem dX12_undo_1 : decode cX12_undo 1 = .ok (.getfield 91, 3) := by decide +kernel
theorem dX12_undo_4 : decode cX12_undo 4 = .ok (.ifCond .ne 6, 3) := by decide +kernel
theorem dX12_undo_7 : decode cX12_undo 7 = .ok (.bipush (-6), 2) := by decide +kernel
theorem dX12_undo_9 : decode cX12_undo 9 = .ok (.ireturn, 1) := by decide +kernel
theorem dX12_undo_10 : decode cX12_undo 10 = .ok (.aload_n 0, 1) := by decide +kernel
theorem dX12_undo_11 : decode cX12_undo 11 = .ok (.dup, 1) := by decide +kernel
theorem dX12_undo_12 : decode cX12_undo 12 = .ok (.getfield 91, 3) := by decide +kernel
theorem dX12_undo_15 : decode cX12_undo 15 = .ok (.iconst 1, 1) := by decide +kernel
theorem dX12_undo_16 : decode cX12_undo 16 = .ok (.isub, 1) := by decide +kernel
theorem dX12_undo_17 : decode cX12_undo 17 = .ok (.putfield 91, 3) := by decide +kernel
theorem dX12_undo_20 : decode cX12_undo 20 = .ok (.iconst 0, 1) := by decide +kernel
theorem dX12_undo_21 : decode cX12_undo 21 = .ok (.istore_n 1, 1) := by decide +kernel
theorem dX12_undo_22 : decode cX12_undo 22 = .ok (.iload_n 1, 1) := by decide +kernel
theorem dX12_undo_23 : decode cX12_undo 23 = .ok (.sipush 258, 3) := by decide +kernel
theorem dX12_undo_26 : decode cX12_undo 26 = .ok (.if_icmp .ge 30, 3) := by decide +kernel
theorem dX12_undo_29 : decode cX12_undo 29 = .ok (.aload_n 0, 1) := by decide +kernel
theorem dX12_undo_30 : decode cX12_undo 30 = .ok (.getfield 13, 3) := by decide +kernel
theorem dX12_undo_33 : decode cX12_undo 33 = .ok (.iload_n 1, 1) := by decide +kernel
theorem dX12_undo_34 : decode cX12_undo 34 = .ok (.aload_n 0, 1) := by decide +kernel
theorem dX12_undo_35 : decode cX12_undo 35 = .ok (.getfield 16, 3) := by decide +kernel
theorem dX12_undo_38 : decode cX12_undo 38 = .ok (.sipush 258, 3) := by decide +kernel
theorem dX12_undo_41 : decode cX12_undo 41 = .ok (.aload_n 0, 1) := by decide +kernel
theorem dX12_undo_42 : decode cX12_undo 42 = .ok (.getfield 91, 3) := by decide +kernel
theorem dX12_undo_45 : decode cX12_undo 45 = .ok (.imul, 1) := by decide +kernel
theorem dX12_undo_46 : decode cX12_undo 46 = .ok (.iload_n 1, 1) := by decide +kernel
theorem dX12_undo_47 : decode cX12_undo 47 = .ok (.iadd, 1) := by decide +kernel
theorem dX12_undo_48 : decode cX12_undo 48 = .ok (.iaload, 1) := by decide +kernel
theorem dX12_undo_49 : decode cX12_undo 49 = .ok (.iastore, 1) := by decide +kernel
theorem dX12_undo_50 : decode cX12_undo 50 = .ok (.iinc 1 1, 3) := by decide +kernel
theorem dX12_undo_53 : decode cX12_undo 53 = .ok (.goto (-31), 3) := by decide +kernel
theorem dX12_undo_56 : decode cX12_undo 56 = .ok (.aload_n 0, 1) := by decide +kernel
theorem dX12_undo_57 : decode cX12_undo 57 = .ok (.getfield 91, 3) := by decide +kernel
theorem dX12_undo_60 : decode cX12_undo 60 = .ok (.ireturn, 1) := by decide +kernel
theorem dX12_open_0 : decode cX12_open 0 = .ok (.aload_n 0, 1) := by decide +kernel
theorem dX12_open_1 : decode cX12_open 1 = .ok (.iload_n 1, 1) := by decide +kernel
theorem dX12_open_2 : decode cX12_open 2 = .ok (.invokevirtual 110, 3) := by decide +kernel
theorem dX12_open_5 : decode cX12_open 5 = .ok (.istore_n 3, 1) := by decide +kernel
theorem dX12_open_6 : decode cX12_open 6 = .ok (.iload_n 3, 1) := by decide +kernel
theorem dX12_open_7 : decode cX12_open 7 = .ok (.iload_n 2, 1) := by decide +kernel
theorem dX12_open_8 : decode cX12_open 8 = .ok (.if_icmp .le 43, 3) := by decide +kernel
theorem dX12_open_11 : decode cX12_open 11 = .ok (.iconst 0, 1) := by decide +kernel
theorem dX12_open_12 : decode cX12_open 12 = .ok (.istore 4, 2) := by decide +kernel
theorem dX12_open_14 : decode cX12_open 14 = .ok (.iload 4, 2) := by decide +kernel
theorem dX12_open_16 : decode cX12_open 16 = .ok (.bipush 7, 2) := by decide +kernel
theorem dX12_open_18 : decode cX12_open 18 = .ok (.if_icmp .ge 27, 3) := by decide +kernel
theorem dX12_open_21 : decode cX12_open 21 = .ok (.aload_n 0, 1) := by decide +kernel
theorem dX12_open_22 : decode cX12_open 22 = .ok (.iload_n 1, 1) := by decide +kernel
theorem dX12_open_23 : decode cX12_open 23 = .ok (.iload_n 3, 1) := by decide +kernel
theorem dX12_open_24 : decode cX12_open 24 = .ok (.iload 4, 2) := by decide +kernel
theorem dX12_open_26 : decode cX12_open 26 = .ok (.aload_n 0, 1) := by decide +kernel
theorem dX12_open_27 : decode cX12_open 27 = .ok (.iload_n 1, 1) := by decide +kernel
theorem dX12_open_28 : decode cX12_open 28 = .ok (.iload_n 3, 1) := by decide +kernel
theorem dX12_open_29 : decode cX12_open 29 = .ok (.iconst 1, 1) := by decide +kernel
theorem dX12_open_30 : decode cX12_open 30 = .ok (.isub, 1) := by decide +kernel
theorem dX12_open_31 : decode cX12_open 31 = .ok (.iload 4, 2) := by decide +kernel
theorem dX12_open_33 : decode cX12_open 33 = .ok (.invokevirtual 114, 3) := by decide +kernel
theorem dX12_open_36 : decode cX12_open 36 = .ok (.invokevirtual 118, 3) := by decide +kernel
theorem dX12_open_39 : decode cX12_open 39 = .ok (.iinc 4 1, 3) := by decide +kernel
theorem dX12_open_42 : decode cX12_open 42 = .ok (.goto (-28), 3) := by decide +kernel
theorem dX12_open_45 : decode cX12_open 45 = .ok (.iinc 3 (-1), 3) := by decide +kernel
theorem dX12_open_48 : decode cX12_open 48 = .ok (.goto (-42), 3) := by decide +kernel
theorem dX12_open_51 : decode cX12_open 51 = .ok (.aload_n 0, 1) := by decide +kernel
theorem dX12_open_52 : decode cX12_open 52 = .ok (.getfield 13, 3) := by decide +kernel
theorem dX12_open_55 : decode cX12_open 55 = .ok (.sipush 252, 3) := by decide +kernel
theorem dX12_open_58 : decode cX12_open 58 = .ok (.iload_n 1, 1) := by decide +kernel
theorem dX12_open_59 : decode cX12_open 59 = .ok (.iadd, 1) := by decide +kernel
theorem dX12_open_60 : decode cX12_open 60 = .ok (.dup2, 1) := by decide +kernel
theorem dX12_open_61 : decode cX12_open 61 = .ok (.iaload, 1) := by decide +kernel
theorem dX12_open_62 : decode cX12_open 62 = .ok (.iconst 1, 1) := by decide +kernel
theorem dX12_open_63 : decode cX12_open 63 = .ok (.iadd, 1) := by decide +kernel
theorem dX12_open_64 : decode cX12_open 64 = .ok (.iastore, 1) := by decide +kernel
theorem dX12_open_65 : decode cX12_open 65 = .ok (.return_, 1) := by decide +kernel
theorem dX12_close_0 : decode cX12_close 0 = .ok (.aload_n 0, 1) := by decide +kernel
theorem dX12_close_1 : decode cX12_close 1 = .ok (.getfield 13, 3) := by decide +kernel
theorem dX12_close_4 : decode cX12_close 4 = .ok (.sipush 252, 3) := by decide +kernel
theorem dX12_close_7 : decode cX12_close 7 = .ok (.iload_n 1, 1) := by decide +kernel
theorem dX12_close_8 : decode cX12_close 8 = .ok (.iadd, 1) := by decide +kernel
theorem dX12_close_9 : decode cX12_close 9 = .ok (.dup2, 1) := by decide +kernel
theorem dX12_close_10 : decode cX12_close 10 = .ok (.iaload, 1) := by decide +kernel
theorem dX12_close_11 : decode cX12_close 11 = .ok (.iconst 1, 1) := by decide +kernel
theorem dX12_close_12 : decode cX12_close 12 = .ok (.isub, 1) := by decide +kernel
theorem dX12_close_13 : decode cX12_close 13 = .ok (.iastore, 1) := by decide +kernel
theorem dX12_close_14 : decode cX12_close 14 = .ok (.iload_n 2, 1) := by decide +kernel
theorem dX12_close_15 : decode cX12_close 15 = .ok (.istore_n 3, 1) := by decide +kernel
theorem dX12_close_16 : decode cX12_close 16 = .ok (.iload_n 3, 1) := by decide +kernel
theorem dX12_close_17 : decode cX12_close 17 = .ok (.aload_n 0, 1) := by decide +kernel
theorem dX12_close_18 : decode cX12_close 18 = .ok (.iload_n 1, 1) := by decide +kernel
theorem dX12_close_19 : decode cX12_close 19 = .ok (.invokevirtual 110, 3) := by decide +kernel
theorem dX12_close_22 : decode cX12_close 22 = .ok (.if_icmp .ge 43, 3) := by decide +kernel
theorem dX12_close_25 : decode cX12_close 25 = .ok (.iconst 0, 1) := by decide +kernel
theorem dX12_close_26 : decode cX12_close 26 = .ok (.istore 4, 2) := by decide +kernel
theorem dX12_close_28 : decode cX12_close 28 = .ok (.iload 4, 2) := by decide +kernel
theorem dX12_close_30 : decode cX12_close 30 = .ok (.bipush 7, 2) := by decide +kernel
theorem dX12_close_32 : decode cX12_close 32 = .ok (.if_icmp .ge 27, 3) := by decide +kernel
theorem dX12_close_35 : decode cX12_close 35 = .ok (.aload_n 0, 1) := by decide +kernel
theorem dX12_close_36 : decode cX12_close 36 = .ok (.iload_n 1, 1) := by decide +kernel
theorem dX12_close_37 : decode cX12_close 37 = .ok (.iload_n 3, 1) := by decide +kernel
theorem dX12_close_38 : decode cX12_close 38 = .ok (.iload 4, 2) := by decide +kernel
theorem dX12_close_40 : decode cX12_close 40 = .ok (.aload_n 0, 1) := by decide +kernel
theorem dX12_close_41 : decode cX12_close 41 = .ok (.iload_n 1, 1) := by decide +kernel
theorem dX12_close_42 : decode cX12_close 42 = .ok (.iload_n 3, 1) := by decide +kernel
theorem dX12_close_43 : decode cX12_close 43 = .ok (.iconst 1, 1) := by decide +kernel
theorem dX12_close_44 : decode cX12_close 44 = .ok (.iadd, 1) := by decide +kernel
theorem dX12_close_45 : decode cX12_close 45 = .ok (.iload 4, 2) := by decide +kernel
theorem dX12_close_47 : decode cX12_close 47 = .ok (.invokevirtual 114, 3) := by decide +kernel
theorem dX12_close_50 : decode cX12_close 50 = .ok (.invokevirtual 118, 3) := by decide +kernel
theorem dX12_close_53 : decode cX12_close 53 = .ok (.iinc 4 1, 3) := by decide +kernel
theorem dX12_close_56 : decode cX12_close 56 = .ok (.goto (-28), 3) := by decide +kernel
theorem dX12_close_59 : decode cX12_close 59 = .ok (.iinc 3 1, 3) := by decide +kernel
theorem dX12_close_62 : decode cX12_close 62 = .ok (.goto (-46), 3) := by decide +kernel
theorem dX12_close_65 : decode cX12_close 65 = .ok (.return_, 1) := by decide +kernel
theorem dX12_insert_0 : decode cX12_insert 0 = .ok (.iload_n 1, 1) := by decide +kernel
theorem dX12_insert_1 : decode cX12_insert 1 = .ok (.invokestatic 102, 3) := by decide +kernel
theorem dX12_insert_4 : decode cX12_insert 4 = .ok (.ifCond .eq 5, 3) := by decide +kernel
theorem dX12_insert_7 : decode cX12_insert 7 = .ok (.iconst (-1), 1) := by decide +kernel
theorem dX12_insert_8 : decode cX12_insert 8 = .ok (.ireturn, 1) := by decide +kernel
theorem dX12_insert_9 : decode cX12_insert 9 = .ok (.iload_n 2, 1) := by decide +kernel
theorem dX12_insert_10 : decode cX12_insert 10 = .ok (.iconst 0, 1) := by decide +kernel
theorem dX12_insert_11 : decode cX12_insert 11 = .ok (.aload_n 0, 1) := by decide +kernel
theorem dX12_insert_12 : decode cX12_insert 12 = .ok (.iload_n 1, 1) := by decide +kernel
theorem dX12_insert_13 : decode cX12_insert 13 = .ok (.invokevirtual 110, 3) := by decide +kernel
theorem dX12_insert_16 : decode cX12_insert 16 = .ok (.invokestatic 94, 3) := by decide +kernel
theorem dX12_insert_19 : decode cX12_insert 19 = .ok (.ifCond .eq 42, 3) := by decide +kernel
theorem dX12_insert_22 : decode cX12_insert 22 = .ok (.iload_n 3, 1) := by decide +kernel
theorem dX12_insert_23 : decode cX12_insert 23 = .ok (.iconst 1, 1) := by decide +kernel
theorem dX12_insert_24 : decode cX12_insert 24 = .ok (.bipush 15, 2) := by decide +kernel
theorem dX12_insert_26 : decode cX12_insert 26 = .ok (.invokestatic 94, 3) := by decide +kernel
theorem dX12_insert_29 : decode cX12_insert 29 = .ok (.ifCond .eq 32, 3) := by decide +kernel
theorem dX12_insert_32 : decode cX12_insert 32 = .ok (.aload_n 0, 1) := by decide +kernel
theorem dX12_insert_33 : decode cX12_insert 33 = .ok (.iload 4, 2) := by decide +kernel
theorem dX12_insert_35 : decode cX12_insert 35 = .ok (.invokevirtual 122, 3) := by decide +kernel
theorem dX12_insert_38 : decode cX12_insert 38 = .ok (.ifCond .ne 23, 3) := by decide +kernel
theorem dX12_insert_41 : decode cX12_insert 41 = .ok (.aload_n 0, 1) := by decide +kernel
theorem dX12_insert_42 : decode cX12_insert 42 = .ok (.iload 5, 2) := by decide +kernel
theorem dX12_insert_44 : decode cX12_insert 44 = .ok (.invokevirtual 122, 3) := by decide +kernel
theorem dX12_insert_47 : decode cX12_insert 47 = .ok (.ifCond .ne 14, 3) := by decide +kernel
theorem dX12_insert_50 : decode cX12_insert 50 = .ok (.iload 6, 2) := by decide +kernel
theorem dX12_insert_52 : decode cX12_insert 52 = .ok (.iconst 0, 1) := by decide +kernel
theorem dX12_insert_53 : decode cX12_insert 53 = .ok (.bipush 15, 2) := by decide +kernel
theorem dX12_insert_55 : decode cX12_insert 55 = .ok (.invokestatic 94, 3) := by decide +kernel
theorem dX12_insert_58 : decode cX12_insert 58 = .ok (.ifCond .ne 6, 3) := by decide +kernel
theorem dX12_insert_61 : decode cX12_insert 61 = .ok (.bipush (-3), 2) := by decide +kernel
theorem dX12_insert_63 : decode cX12_insert 63 = .ok (.ireturn, 1) := by decide +kernel
theorem dX12_insert_64 : decode cX12_insert 64 = .ok (.aload_n 0, 1) := by decide +kernel
theorem dX12_insert_65 : decode cX12_insert 65 = .ok (.iload_n 1, 1) := by decide +kernel
theorem dX12_insert_66 : decode cX12_insert 66 = .ok (.invokevirtual 110, 3) := by decide +kernel
theorem dX12_insert_69 : decode cX12_insert 69 = .ok (.bipush 6, 2) := by decide +kernel
theorem dX12_insert_71 : decode cX12_insert 71 = .ok (.if_icmp .ne 6, 3) := by decide +kernel
theorem dX12_insert_74 : decode cX12_insert 74 = .ok (.bipush (-5), 2) := by decide +kernel
theorem dX12_insert_76 : decode cX12_insert 76 = .ok (.ireturn, 1) := by decide +kernel
theorem dX12_insert_77 : decode cX12_insert 77 = .ok (.aload_n 0, 1) := by decide +kernel
theorem dX12_insert_78 : decode cX12_insert 78 = .ok (.invokevirtual 125, 3) := by decide +kernel
theorem dX12_insert_81 : decode cX12_insert 81 = .ok (.aload_n 0, 1) := by decide +kernel
theorem dX12_insert_82 : decode cX12_insert 82 = .ok (.iload_n 1, 1) := by decide +kernel
theorem dX12_insert_83 : decode cX12_insert 83 = .ok (.iload_n 2, 1) := by decide +kernel
theorem dX12_insert_84 : decode cX12_insert 84 = .ok (.invokevirtual 128, 3) := by decide +kernel
theorem dX12_insert_87 : decode cX12_insert 87 = .ok (.aload_n 0, 1) := by decide +kernel
theorem dX12_insert_88 : decode cX12_insert 88 = .ok (.iload_n 1, 1) := by decide +kernel
theorem dX12_insert_89 : decode cX12_insert 89 = .ok (.iload_n 2, 1) := by decide +kernel
theorem dX12_insert_90 : decode cX12_insert 90 = .ok (.iconst 0, 1) := by decide +kernel
theorem dX12_insert_91 : decode cX12_insert 91 = .ok (.iload_n 3, 1) := by decide +kernel
theorem dX12_insert_92 : decode cX12_insert 92 = .ok (.invokevirtual 118, 3) := by decide +kernel
theorem dX12_insert_95 : decode cX12_insert 95 = .ok (.aload_n 0, 1) := by decide +kernel
theorem dX12_insert_96 : decode cX12_insert 96 = .ok (.iload_n 1, 1) := by decide +kernel
theorem dX12_insert_97 : decode cX12_insert 97 = .ok (.iload_n 2, 1) := by decide +kernel
theorem dX12_insert_98 : decode cX12_insert 98 = .ok (.iconst 1, 1) := by decide +kernel
theorem dX12_insert_99 : decode cX12_insert 99 = .ok (.iload 4, 2) := by decide +kernel
theorem dX12_insert_101 : decode cX12_insert 101 = .ok (.invokevirtual 118, 3) := by decide +kernel
theorem dX12_insert_104 : decode cX12_insert 104 = .ok (.aload_n 0, 1) := by decide +kernel
theorem dX12_insert_105 : decode cX12_insert 105 = .ok (.iload_n 1, 1) := by decide +kernel
theorem dX12_insert_106 : decode cX12_insert 106 = .ok (.iload_n 2, 1) := by decide +kernel
theorem dX12_insert_107 : decode cX12_insert 107 = .ok (.iconst 2, 1) := by decide +kernel
theorem dX12_insert_108 : decode cX12_insert 108 = .ok (.iload 5, 2) := by decide +kernel
theorem dX12_insert_110 : decode cX12_insert 110 = .ok (.iload 4, 2) := by decide +kernel
theorem dX12_insert_112 : decode cX12_insert 112 = .ok (.iand, 1) := by decide +kernel
theorem dX12_insert_113 : decode cX12_insert 113 = .ok (.invokevirtual 118, 3) := by decide +kernel
theorem dX12_insert_116 : decode cX12_insert 116 = .ok (.aload_n 0, 1) := by decide +kernel
theorem dX12_insert_117 : decode cX12_insert 117 = .ok (.iload_n 1, 1) := by decide +kernel
theorem dX12_insert_118 : decode cX12_insert 118 = .ok (.iload_n 2, 1) := by decide +kernel
theorem dX12_insert_119 : decode cX12_insert 119 = .ok (.iconst 3, 1) := by decide +kernel
theorem dX12_insert_120 : decode cX12_insert 120 = .ok (.iload 6, 2) := by decide +kernel
theorem dX12_insert_122 : decode cX12_insert 122 = .ok (.invokevirtual 118, 3) := by decide +kernel
theorem dX12_insert_125 : decode cX12_insert 125 = .ok (.aload_n 0, 1) := by decide +kernel
theorem dX12_insert_126 : decode cX12_insert 126 = .ok (.iload_n 1, 1) := by decide +kernel
theorem dX12_insert_127 : decode cX12_insert 127 = .ok (.iload_n 2, 1) := by decide +kernel
theorem dX12_insert_128 : decode cX12_insert 128 = .ok (.iconst 4, 1) := by decide +kernel
theorem dX12_insert_129 : decode cX12_insert 129 = .ok (.iconst 0, 1) := by decide +kernel
theorem dX12_insert_130 : decode cX12_insert 130 = .ok (.invokevirtual 118, 3) := by decide +kernel
theorem dX12_insert_133 : decode cX12_insert 133 = .ok (.aload_n 0, 1) := by decide +kernel
theorem dX12_insert_134 : decode cX12_insert 134 = .ok (.iload_n 1, 1) := by decide +kernel
theorem dX12_insert_135 : decode cX12_insert 135 = .ok (.iload_n 2, 1) := by decide +kernel
theorem dX12_insert_136 : decode cX12_insert 136 = .ok (.iconst 5, 1) := by decide +kernel
theorem dX12_insert_137 : decode cX12_insert 137 = .ok (.iconst 0, 1) := by decide +kernel
theorem dX12_insert_138 : decode cX12_insert 138 = .ok (.invokevirtual 118, 3) := by decide +kernel
theorem dX12_insert_141 : decode cX12_insert 141 = .ok (.aload_n 0, 1) := by decide +kernel
theorem dX12_insert_142 : decode cX12_insert 142 = .ok (.iload_n 1, 1) := by decide +kernel
theorem dX12_insert_143 : decode cX12_insert 143 = .ok (.iload_n 2, 1) := by decide +kernel
theorem dX12_insert_144 : decode cX12_insert 144 = .ok (.bipush 6, 2) := by decide +kernel
theorem dX12_insert_146 : decode cX12_insert 146 = .ok (.iconst 1, 1) := by decide +kernel
theorem dX12_insert_147 : decode cX12_insert 147 = .ok (.invokevirtual 118, 3) := by decide +kernel
theorem dX12_insert_150 : decode cX12_insert 150 = .ok (.aload_n 0, 1) := by decide +kernel
theorem dX12_insert_151 : decode cX12_insert 151 = .ok (.iload_n 1, 1) := by decide +kernel
theorem dX12_insert_152 : decode cX12_insert 152 = .ok (.invokevirtual 110, 3) := by decide +kernel
theorem dX12_insert_155 : decode cX12_insert 155 = .ok (.ireturn, 1) := by decide +kernel
theorem dX12_insertDrop_0 : decode cX12_insertDrop 0 = .ok (.aload_n 0, 1) := by decide +kernel
theorem dX12_insertDrop_1 : decode cX12_insertDrop 1 = .ok (.iload_n 1, 1) := by decide +kernel
theorem dX12_insertDrop_2 : decode cX12_insertDrop 2 = .ok (.iload_n 2, 1) := by decide +kernel
theorem dX12_insertDrop_3 : decode cX12_insertDrop 3 = .ok (.iload_n 3, 1) := by decide +kernel
theorem dX12_insertDrop_4 : decode cX12_insertDrop 4 = .ok (.iload 4, 2) := by decide +kernel
theorem dX12_insertDrop_6 : decode cX12_insertDrop 6 = .ok (.iload 5, 2) := by decide +kernel
theorem dX12_insertDrop_8 : decode cX12_insertDrop 8 = .ok (.iconst 0, 1) := by decide +kernel
theorem dX12_insertDrop_9 : decode cX12_insertDrop 9 = .ok (.invokevirtual 132, 3) := by decide +kernel
theorem dX12_insertDrop_12 : decode cX12_insertDrop 12 = .ok (.ireturn, 1) := by decide +kernel
theorem dX12_insertForward_0 : decode cX12_insertForward 0 = .ok (.aload_n 0, 1) := by decide +kernel
theorem dX12_insertForward_1 : decode cX12_insertForward 1 = .ok (.iload_n 1, 1) := by decide +kernel
theorem dX12_insertForward_2 : decode cX12_insertForward 2 = .ok (.iload_n 2, 1) := by decide +kernel
theorem dX12_insertForward_3 : decode cX12_insertForward 3 = .ok (.iload_n 3, 1) := by decide +kernel
theorem dX12_insertForward_4 : decode cX12_insertForward 4 = .ok (.iload 4, 2) := by decide +kernel
theorem dX12_insertForward_6 : decode cX12_insertForward 6 = .ok (.iload 5, 2) := by decide +kernel
theorem dX12_insertForward_8 : decode cX12_insertForward 8 = .ok (.iload 6, 2) := by decide +kernel
theorem dX12_insertForward_10 : decode cX12_insertForward 10 = .ok (.ifCond .ne 8, 3) := by decide +kernel
theorem dX12_insertForward_13 : decode cX12_insertForward 13 = .ok (.bipush 99, 2) := by decide +kernel
theorem dX12_insertForward_15 : decode cX12_insertForward 15 = .ok (.goto 5, 3) := by decide +kernel
theorem dX12_insertForward_18 : decode cX12_insertForward 18 = .ok (.iload 6, 2) := by decide +kernel
theorem dX12_insertForward_20 : decode cX12_insertForward 20 = .ok (.invokevirtual 132, 3) := by decide +kernel
theorem dX12_insertForward_23 : decode cX12_insertForward 23 = .ok (.ireturn, 1) := by decide +kernel
theorem dX12_ruleBarred_0 : decode cX12_ruleBarred 0 = .ok (.iload_n 1, 1) := by decide +kernel
theorem dX12_ruleBarred_1 : decode cX12_ruleBarred 1 = .ok (.invokestatic 102, 3) := by decide +kernel
theorem dX12_ruleBarred_4 : decode cX12_ruleBarred 4 = .ok (.ifCond .eq 7, 3) := by decide +kernel
theorem dX12_ruleBarred_7 : decode cX12_ruleBarred 7 = .ok (.iconst (-1), 1) := by decide +kernel
theorem dX12_ruleBarred_8 : decode cX12_ruleBarred 8 = .ok (.goto 18, 3) := by decide +kernel
theorem dX12_ruleBarred_11 : decode cX12_ruleBarred 11 = .ok (.aload_n 0, 1) := by decide +kernel
theorem dX12_ruleBarred_12 : decode cX12_ruleBarred 12 = .ok (.iload_n 1, 1) := by decide +kernel
theorem dX12_ruleBarred_13 : decode cX12_ruleBarred 13 = .ok (.iload_n 2, 1) := by decide +kernel
theorem dX12_ruleBarred_14 : decode cX12_ruleBarred 14 = .ok (.invokevirtual 136, 3) := by decide +kernel
theorem dX12_ruleBarred_17 : decode cX12_ruleBarred 17 = .ok (.ifCond .eq 8, 3) := by decide +kernel
theorem dX12_ruleBarred_20 : decode cX12_ruleBarred 20 = .ok (.bipush (-2), 2) := by decide +kernel
theorem dX12_ruleBarred_22 : decode cX12_ruleBarred 22 = .ok (.goto 4, 3) := by decide +kernel
theorem dX12_ruleBarred_25 : decode cX12_ruleBarred 25 = .ok (.iconst 0, 1) := by decide +kernel
theorem dX12_ruleBarred_26 : decode cX12_ruleBarred 26 = .ok (.ireturn, 1) := by decide +kernel
theorem dX12_setRewriting_0 : decode cX12_setRewriting 0 = .ok (.aload_n 0, 1) := by decide +kernel
theorem dX12_setRewriting_1 : decode cX12_setRewriting 1 = .ok (.iload_n 1, 1) := by decide +kernel
theorem dX12_setRewriting_2 : decode cX12_setRewriting 2 = .ok (.iload_n 2, 1) := by decide +kernel
theorem dX12_setRewriting_3 : decode cX12_setRewriting 3 = .ok (.invokevirtual 139, 3) := by decide +kernel
theorem dX12_setRewriting_6 : decode cX12_setRewriting 6 = .ok (.istore 5, 2) := by decide +kernel
theorem dX12_setRewriting_8 : decode cX12_setRewriting 8 = .ok (.iload 5, 2) := by decide +kernel
theorem dX12_setRewriting_10 : decode cX12_setRewriting 10 = .ok (.ifCond .ge 6, 3) := by decide +kernel
theorem dX12_setRewriting_13 : decode cX12_setRewriting 13 = .ok (.iload 5, 2) := by decide +kernel
theorem dX12_setRewriting_15 : decode cX12_setRewriting 15 = .ok (.ireturn, 1) := by decide +kernel
theorem dX12_setRewriting_16 : decode cX12_setRewriting 16 = .ok (.aload_n 0, 1) := by decide +kernel
theorem dX12_setRewriting_17 : decode cX12_setRewriting 17 = .ok (.iload_n 3, 1) := by decide +kernel
theorem dX12_setRewriting_18 : decode cX12_setRewriting 18 = .ok (.invokevirtual 122, 3) := by decide +kernel
theorem dX12_setRewriting_21 : decode cX12_setRewriting 21 = .ok (.ifCond .ne 12, 3) := by decide +kernel
theorem dX12_setRewriting_24 : decode cX12_setRewriting 24 = .ok (.aload_n 0, 1) := by decide +kernel
theorem dX12_setRewriting_25 : decode cX12_setRewriting 25 = .ok (.iload 4, 2) := by decide +kernel
theorem dX12_setRewriting_27 : decode cX12_setRewriting 27 = .ok (.invokevirtual 122, 3) := by decide +kernel
theorem dX12_setRewriting_30 : decode cX12_setRewriting 30 = .ok (.ifCond .eq 6, 3) := by decide +kernel
theorem dX12_setRewriting_33 : decode cX12_setRewriting 33 = .ok (.bipush (-3), 2) := by decide +kernel
theorem dX12_setRewriting_35 : decode cX12_setRewriting 35 = .ok (.ireturn, 1) := by decide +kernel
theorem dX12_setRewriting_36 : decode cX12_setRewriting 36 = .ok (.aload_n 0, 1) := by decide +kernel
theorem dX12_setRewriting_37 : decode cX12_setRewriting 37 = .ok (.iload_n 1, 1) := by decide +kernel
theorem dX12_setRewriting_38 : decode cX12_setRewriting 38 = .ok (.iload_n 2, 1) := by decide +kernel
theorem dX12_setRewriting_39 : decode cX12_setRewriting 39 = .ok (.iconst 3, 1) := by decide +kernel
theorem dX12_setRewriting_40 : decode cX12_setRewriting 40 = .ok (.invokevirtual 114, 3) := by decide +kernel
theorem dX12_setRewriting_43 : decode cX12_setRewriting 43 = .ok (.ifCond .ne 6, 3) := by decide +kernel
theorem dX12_setRewriting_46 : decode cX12_setRewriting 46 = .ok (.bipush (-4), 2) := by decide +kernel
theorem dX12_setRewriting_48 : decode cX12_setRewriting 48 = .ok (.ireturn, 1) := by decide +kernel
theorem dX12_setRewriting_49 : decode cX12_setRewriting 49 = .ok (.aload_n 0, 1) := by decide +kernel
theorem dX12_setRewriting_50 : decode cX12_setRewriting 50 = .ok (.invokevirtual 125, 3) := by decide +kernel
theorem dX12_setRewriting_53 : decode cX12_setRewriting 53 = .ok (.aload_n 0, 1) := by decide +kernel
theorem dX12_setRewriting_54 : decode cX12_setRewriting 54 = .ok (.iload_n 1, 1) := by decide +kernel
theorem dX12_setRewriting_55 : decode cX12_setRewriting 55 = .ok (.iload_n 2, 1) := by decide +kernel
theorem dX12_setRewriting_56 : decode cX12_setRewriting 56 = .ok (.iconst 4, 1) := by decide +kernel
theorem dX12_setRewriting_57 : decode cX12_setRewriting 57 = .ok (.invokevirtual 114, 3) := by decide +kernel
theorem dX12_setRewriting_60 : decode cX12_setRewriting 60 = .ok (.iload_n 3, 1) := by decide +kernel
theorem dX12_setRewriting_61 : decode cX12_setRewriting 61 = .ok (.if_icmp .ne 17, 3) := by decide +kernel
theorem dX12_setRewriting_64 : decode cX12_setRewriting 64 = .ok (.aload_n 0, 1) := by decide +kernel
theorem dX12_setRewriting_65 : decode cX12_setRewriting 65 = .ok (.iload_n 1, 1) := by decide +kernel
theorem dX12_setRewriting_66 : decode cX12_setRewriting 66 = .ok (.iload_n 2, 1) := by decide +kernel
theorem dX12_setRewriting_67 : decode cX12_setRewriting 67 = .ok (.iconst 5, 1) := by decide +kernel
theorem dX12_setRewriting_68 : decode cX12_setRewriting 68 = .ok (.invokevirtual 114, 3) := by decide +kernel
theorem dX12_setRewriting_71 : decode cX12_setRewriting 71 = .ok (.iload 4, 2) := by decide +kernel
theorem dX12_setRewriting_73 : decode cX12_setRewriting 73 = .ok (.iload_n 3, 1) := by decide +kernel
theorem dX12_setRewriting_74 : decode cX12_setRewriting 74 = .ok (.iand, 1) := by decide +kernel
theorem dX12_setRewriting_75 : decode cX12_setRewriting 75 = .ok (.if_icmp .eq 7, 3) := by decide +kernel
theorem dX12_setRewriting_78 : decode cX12_setRewriting 78 = .ok (.iconst 1, 1) := by decide +kernel
theorem dX12_setRewriting_79 : decode cX12_setRewriting 79 = .ok (.goto 4, 3) := by decide +kernel
theorem dX12_setRewriting_82 : decode cX12_setRewriting 82 = .ok (.iconst 0, 1) := by decide +kernel
theorem dX12_setRewriting_83 : decode cX12_setRewriting 83 = .ok (.istore 6, 2) := by decide +kernel
theorem dX12_setRewriting_85 : decode cX12_setRewriting 85 = .ok (.aload_n 0, 1) := by decide +kernel
theorem dX12_setRewriting_86 : decode cX12_setRewriting 86 = .ok (.iload_n 1, 1) := by decide +kernel
theorem dX12_setRewriting_87 : decode cX12_setRewriting 87 = .ok (.iload_n 2, 1) := by decide +kernel
theorem dX12_setRewriting_88 : decode cX12_setRewriting 88 = .ok (.iconst 4, 1) := by decide +kernel
theorem dX12_setRewriting_89 : decode cX12_setRewriting 89 = .ok (.iload_n 3, 1) := by decide +kernel
theorem dX12_setRewriting_90 : decode cX12_setRewriting 90 = .ok (.invokevirtual 118, 3) := by decide +kernel
theorem dX12_setRewriting_93 : decode cX12_setRewriting 93 = .ok (.aload_n 0, 1) := by decide +kernel
theorem dX12_setRewriting_94 : decode cX12_setRewriting 94 = .ok (.iload_n 1, 1) := by decide +kernel
theorem dX12_setRewriting_95 : decode cX12_setRewriting 95 = .ok (.iload_n 2, 1) := by decide +kernel
theorem dX12_setRewriting_96 : decode cX12_setRewriting 96 = .ok (.iconst 5, 1) := by decide +kernel
theorem dX12_setRewriting_97 : decode cX12_setRewriting 97 = .ok (.iload 4, 2) := by decide +kernel
theorem dX12_setRewriting_99 : decode cX12_setRewriting 99 = .ok (.iload_n 3, 1) := by decide +kernel
theorem dX12_setRewriting_100 : decode cX12_setRewriting 100 = .ok (.iand, 1) := by decide +kernel
theorem dX12_setRewriting_101 : decode cX12_setRewriting 101 = .ok (.invokevirtual 118, 3) := by decide +kernel
theorem dX12_setRewriting_104 : decode cX12_setRewriting 104 = .ok (.iload 6, 2) := by decide +kernel
theorem dX12_setRewriting_106 : decode cX12_setRewriting 106 = .ok (.ireturn, 1) := by decide +kernel
theorem dX12_removeRule_0 : decode cX12_removeRule 0 = .ok (.aload_n 0, 1) := by decide +kernel
theorem dX12_removeRule_1 : decode cX12_removeRule 1 = .ok (.iload_n 1, 1) := by decide +kernel
theorem dX12_removeRule_2 : decode cX12_removeRule 2 = .ok (.iload_n 2, 1) := by decide +kernel
theorem dX12_removeRule_3 : decode cX12_removeRule 3 = .ok (.invokevirtual 139, 3) := by decide +kernel
theorem dX12_removeRule_6 : decode cX12_removeRule 6 = .ok (.istore_n 3, 1) := by decide +kernel
theorem dX12_removeRule_7 : decode cX12_removeRule 7 = .ok (.iload_n 3, 1) := by decide +kernel
theorem dX12_removeRule_8 : decode cX12_removeRule 8 = .ok (.ifCond .ge 5, 3) := by decide +kernel
theorem dX12_removeRule_11 : decode cX12_removeRule 11 = .ok (.iload_n 3, 1) := by decide +kernel
theorem dX12_removeRule_12 : decode cX12_removeRule 12 = .ok (.ireturn, 1) := by decide +kernel
theorem dX12_removeRule_13 : decode cX12_removeRule 13 = .ok (.aload_n 0, 1) := by decide +kernel
theorem dX12_removeRule_14 : decode cX12_removeRule 14 = .ok (.invokevirtual 125, 3) := by decide +kernel
theorem dX12_removeRule_17 : decode cX12_removeRule 17 = .ok (.aload_n 0, 1) := by decide +kernel
theorem dX12_removeRule_18 : decode cX12_removeRule 18 = .ok (.iload_n 1, 1) := by decide +kernel
theorem dX12_removeRule_19 : decode cX12_removeRule 19 = .ok (.iload_n 2, 1) := by decide +kernel
theorem dX12_removeRule_20 : decode cX12_removeRule 20 = .ok (.invokevirtual 143, 3) := by decide +kernel
theorem dX12_removeRule_23 : decode cX12_removeRule 23 = .ok (.aload_n 0, 1) := by decide +kernel
theorem dX12_removeRule_24 : decode cX12_removeRule 24 = .ok (.iload_n 1, 1) := by decide +kernel
theorem dX12_removeRule_25 : decode cX12_removeRule 25 = .ok (.invokevirtual 110, 3) := by decide +kernel
theorem dX12_removeRule_28 : decode cX12_removeRule 28 = .ok (.ireturn, 1) := by decide +kernel
theorem dX12_moveRule_0 : decode cX12_moveRule 0 = .ok (.aload_n 0, 1) := by decide +kernel
theorem dX12_moveRule_1 : decode cX12_moveRule 1 = .ok (.iload_n 1, 1) := by decide +kernel
theorem dX12_moveRule_2 : decode cX12_moveRule 2 = .ok (.iload_n 2, 1) := by decide +kernel
theorem dX12_moveRule_3 : decode cX12_moveRule 3 = .ok (.invokevirtual 139, 3) := by decide +kernel
theorem dX12_moveRule_6 : decode cX12_moveRule 6 = .ok (.istore 4, 2) := by decide +kernel
theorem dX12_moveRule_8 : decode cX12_moveRule 8 = .ok (.iload 4, 2) := by decide +kernel
theorem dX12_moveRule_10 : decode cX12_moveRule 10 = .ok (.ifCond .ge 6, 3) := by decide +kernel
theorem dX12_moveRule_13 : decode cX12_moveRule 13 = .ok (.iload 4, 2) := by decide +kernel
theorem dX12_moveRule_15 : decode cX12_moveRule 15 = .ok (.ireturn, 1) := by decide +kernel
theorem dX12_moveRule_16 : decode cX12_moveRule 16 = .ok (.aload_n 0, 1) := by decide +kernel
theorem dX12_moveRule_17 : decode cX12_moveRule 17 = .ok (.iload_n 1, 1) := by decide +kernel
theorem dX12_moveRule_18 : decode cX12_moveRule 18 = .ok (.iload_n 3, 1) := by decide +kernel
theorem dX12_moveRule_19 : decode cX12_moveRule 19 = .ok (.invokevirtual 136, 3) := by decide +kernel
theorem dX12_moveRule_22 : decode cX12_moveRule 22 = .ok (.ifCond .eq 6, 3) := by decide +kernel
theorem dX12_moveRule_25 : decode cX12_moveRule 25 = .ok (.bipush (-2), 2) := by decide +kernel
theorem dX12_moveRule_27 : decode cX12_moveRule 27 = .ok (.ireturn, 1) := by decide +kernel
theorem dX12_moveRule_28 : decode cX12_moveRule 28 = .ok (.aload_n 0, 1) := by decide +kernel
theorem dX12_moveRule_29 : decode cX12_moveRule 29 = .ok (.invokevirtual 125, 3) := by decide +kernel
theorem dX12_moveRule_32 : decode cX12_moveRule 32 = .ok (.iconst 0, 1) := by decide +kernel
theorem dX12_moveRule_33 : decode cX12_moveRule 33 = .ok (.istore 5, 2) := by decide +kernel
theorem dX12_moveRule_35 : decode cX12_moveRule 35 = .ok (.iload 5, 2) := by decide +kernel
theorem dX12_moveRule_37 : decode cX12_moveRule 37 = .ok (.bipush 7, 2) := by decide +kernel
theorem dX12_moveRule_39 : decode cX12_moveRule 39 = .ok (.if_icmp .ge 24, 3) := by decide +kernel
theorem dX12_moveRule_42 : decode cX12_moveRule 42 = .ok (.aload_n 0, 1) := by decide +kernel
theorem dX12_moveRule_43 : decode cX12_moveRule 43 = .ok (.getfield 19, 3) := by decide +kernel
theorem dX12_moveRule_46 : decode cX12_moveRule 46 = .ok (.iload 5, 2) := by decide +kernel
theorem dX12_moveRule_48 : decode cX12_moveRule 48 = .ok (.aload_n 0, 1) := by decide +kernel
theorem dX12_moveRule_49 : decode cX12_moveRule 49 = .ok (.iload_n 1, 1) := by decide +kernel
theorem dX12_moveRule_50 : decode cX12_moveRule 50 = .ok (.iload_n 2, 1) := by decide +kernel
theorem dX12_moveRule_51 : decode cX12_moveRule 51 = .ok (.iload 5, 2) := by decide +kernel
theorem dX12_moveRule_53 : decode cX12_moveRule 53 = .ok (.invokevirtual 114, 3) := by decide +kernel
theorem dX12_moveRule_56 : decode cX12_moveRule 56 = .ok (.iastore, 1) := by decide +kernel
theorem dX12_moveRule_57 : decode cX12_moveRule 57 = .ok (.iinc 5 1, 3) := by decide +kernel
theorem dX12_moveRule_60 : decode cX12_moveRule 60 = .ok (.goto (-25), 3) := by decide +kernel
theorem dX12_moveRule_63 : decode cX12_moveRule 63 = .ok (.aload_n 0, 1) := by decide +kernel
theorem dX12_moveRule_64 : decode cX12_moveRule 64 = .ok (.iload_n 1, 1) := by decide +kernel
theorem dX12_moveRule_65 : decode cX12_moveRule 65 = .ok (.iload_n 2, 1) := by decide +kernel
theorem dX12_moveRule_66 : decode cX12_moveRule 66 = .ok (.invokevirtual 143, 3) := by decide +kernel
theorem dX12_moveRule_69 : decode cX12_moveRule 69 = .ok (.aload_n 0, 1) := by decide +kernel
theorem dX12_moveRule_70 : decode cX12_moveRule 70 = .ok (.iload_n 1, 1) := by decide +kernel
theorem dX12_moveRule_71 : decode cX12_moveRule 71 = .ok (.iload_n 3, 1) := by decide +kernel
theorem dX12_moveRule_72 : decode cX12_moveRule 72 = .ok (.invokevirtual 128, 3) := by decide +kernel
theorem dX12_moveRule_75 : decode cX12_moveRule 75 = .ok (.iconst 0, 1) := by decide +kernel
theorem dX12_moveRule_76 : decode cX12_moveRule 76 = .ok (.istore 5, 2) := by decide +kernel
theorem dX12_moveRule_78 : decode cX12_moveRule 78 = .ok (.iload 5, 2) := by decide +kernel
theorem dX12_moveRule_80 : decode cX12_moveRule 80 = .ok (.bipush 7, 2) := by decide +kernel
theorem dX12_moveRule_82 : decode cX12_moveRule 82 = .ok (.if_icmp .ge 24, 3) := by decide +kernel
theorem dX12_moveRule_85 : decode cX12_moveRule 85 = .ok (.aload_n 0, 1) := by decide +kernel
theorem dX12_moveRule_86 : decode cX12_moveRule 86 = .ok (.iload_n 1, 1) := by decide +kernel
theorem dX12_moveRule_87 : decode cX12_moveRule 87 = .ok (.iload_n 3, 1) := by decide +kernel
theorem dX12_moveRule_88 : decode cX12_moveRule 88 = .ok (.iload 5, 2) := by decide +kernel
theorem dX12_moveRule_90 : decode cX12_moveRule 90 = .ok (.aload_n 0, 1) := by decide +kernel
theorem dX12_moveRule_91 : decode cX12_moveRule 91 = .ok (.getfield 19, 3) := by decide +kernel
theorem dX12_moveRule_94 : decode cX12_moveRule 94 = .ok (.iload 5, 2) := by decide +kernel
theorem dX12_moveRule_96 : decode cX12_moveRule 96 = .ok (.iaload, 1) := by decide +kernel
theorem dX12_moveRule_97 : decode cX12_moveRule 97 = .ok (.invokevirtual 118, 3) := by decide +kernel
theorem dX12_moveRule_100 : decode cX12_moveRule 100 = .ok (.iinc 5 1, 3) := by decide +kernel
theorem dX12_moveRule_103 : decode cX12_moveRule 103 = .ok (.goto (-25), 3) := by decide +kernel
theorem dX12_moveRule_106 : decode cX12_moveRule 106 = .ok (.iload_n 2, 1) := by decide +kernel
theorem dX12_moveRule_107 : decode cX12_moveRule 107 = .ok (.iload_n 3, 1) := by decide +kernel
theorem dX12_moveRule_108 : decode cX12_moveRule 108 = .ok (.if_icmp .ne 7, 3) := by decide +kernel
theorem dX12_moveRule_111 : decode cX12_moveRule 111 = .ok (.iconst 0, 1) := by decide +kernel
theorem dX12_moveRule_112 : decode cX12_moveRule 112 = .ok (.goto 4, 3) := by decide +kernel
theorem dX12_moveRule_115 : decode cX12_moveRule 115 = .ok (.iconst 1, 1) := by decide +kernel
theorem dX12_moveRule_116 : decode cX12_moveRule 116 = .ok (.ireturn, 1) := by decide +kernel
theorem dX12_switchRule_0 : decode cX12_switchRule 0 = .ok (.aload_n 0, 1) := by decide +kernel
theorem dX12_switchRule_1 : decode cX12_switchRule 1 = .ok (.iload_n 1, 1) := by decide +kernel
theorem dX12_switchRule_2 : decode cX12_switchRule 2 = .ok (.iload_n 2, 1) := by decide +kernel
theorem dX12_switchRule_3 : decode cX12_switchRule 3 = .ok (.invokevirtual 139, 3) := by decide +kernel
theorem dX12_switchRule_6 : decode cX12_switchRule 6 = .ok (.istore 4, 2) := by decide +kernel
theorem dX12_switchRule_8 : decode cX12_switchRule 8 = .ok (.iload 4, 2) := by decide +kernel
theorem dX12_switchRule_10 : decode cX12_switchRule 10 = .ok (.ifCond .ge 6, 3) := by decide +kernel
theorem dX12_switchRule_13 : decode cX12_switchRule 13 = .ok (.iload 4, 2) := by decide +kernel
theorem dX12_switchRule_15 : decode cX12_switchRule 15 = .ok (.ireturn, 1) := by decide +kernel
theorem dX12_switchRule_16 : decode cX12_switchRule 16 = .ok (.aload_n 0, 1) := by decide +kernel
theorem dX12_switchRule_17 : decode cX12_switchRule 17 = .ok (.invokevirtual 125, 3) := by decide +kernel
theorem dX12_switchRule_20 : decode cX12_switchRule 20 = .ok (.iload_n 3, 1) := by decide +kernel
theorem dX12_switchRule_21 : decode cX12_switchRule 21 = .ok (.ifCond .eq 7, 3) := by decide +kernel
theorem dX12_switchRule_24 : decode cX12_switchRule 24 = .ok (.iconst 1, 1) := by decide +kernel
theorem dX12_switchRule_25 : decode cX12_switchRule 25 = .ok (.goto 4, 3) := by decide +kernel
theorem dX12_switchRule_28 : decode cX12_switchRule 28 = .ok (.iconst 0, 1) := by decide +kernel
theorem dX12_switchRule_29 : decode cX12_switchRule 29 = .ok (.istore 5, 2) := by decide +kernel
theorem dX12_switchRule_31 : decode cX12_switchRule 31 = .ok (.aload_n 0, 1) := by decide +kernel
theorem dX12_switchRule_32 : decode cX12_switchRule 32 = .ok (.iload_n 1, 1) := by decide +kernel
theorem dX12_switchRule_33 : decode cX12_switchRule 33 = .ok (.iload_n 2, 1) := by decide +kernel
theorem dX12_switchRule_34 : decode cX12_switchRule 34 = .ok (.bipush 6, 2) := by decide +kernel
theorem dX12_switchRule_36 : decode cX12_switchRule 36 = .ok (.invokevirtual 114, 3) := by decide +kernel
theorem dX12_switchRule_39 : decode cX12_switchRule 39 = .ok (.iload 5, 2) := by decide +kernel
theorem dX12_switchRule_41 : decode cX12_switchRule 41 = .ok (.if_icmp .ne 7, 3) := by decide +kernel
theorem dX12_switchRule_44 : decode cX12_switchRule 44 = .ok (.iconst 0, 1) := by decide +kernel
theorem dX12_switchRule_45 : decode cX12_switchRule 45 = .ok (.goto 4, 3) := by decide +kernel
theorem dX12_switchRule_48 : decode cX12_switchRule 48 = .ok (.iconst 1, 1) := by decide +kernel
theorem dX12_switchRule_49 : decode cX12_switchRule 49 = .ok (.istore 6, 2) := by decide +kernel
theorem dX12_switchRule_51 : decode cX12_switchRule 51 = .ok (.aload_n 0, 1) := by decide +kernel
theorem dX12_switchRule_52 : decode cX12_switchRule 52 = .ok (.iload_n 1, 1) := by decide +kernel
theorem dX12_switchRule_53 : decode cX12_switchRule 53 = .ok (.iload_n 2, 1) := by decide +kernel
theorem dX12_switchRule_54 : decode cX12_switchRule 54 = .ok (.bipush 6, 2) := by decide +kernel
theorem dX12_switchRule_56 : decode cX12_switchRule 56 = .ok (.iload 5, 2) := by decide +kernel
theorem dX12_switchRule_58 : decode cX12_switchRule 58 = .ok (.invokevirtual 118, 3) := by decide +kernel
theorem dX12_switchRule_61 : decode cX12_switchRule 61 = .ok (.iload 6, 2) := by decide +kernel
theorem dX12_switchRule_63 : decode cX12_switchRule 63 = .ok (.ireturn, 1) := by decide +kernel
theorem dX12_rule_0 : decode cX12_rule 0 = .ok (.aload_n 0, 1) := by decide +kernel
theorem dX12_rule_1 : decode cX12_rule 1 = .ok (.iload_n 1, 1) := by decide +kernel
theorem dX12_rule_2 : decode cX12_rule 2 = .ok (.iload_n 2, 1) := by decide +kernel
theorem dX12_rule_3 : decode cX12_rule 3 = .ok (.invokevirtual 139, 3) := by decide +kernel
theorem dX12_rule_6 : decode cX12_rule 6 = .ok (.istore 4, 2) := by decide +kernel
theorem dX12_rule_8 : decode cX12_rule 8 = .ok (.iload 4, 2) := by decide +kernel
theorem dX12_rule_10 : decode cX12_rule 10 = .ok (.ifCond .ge 6, 3) := by decide +kernel
theorem dX12_rule_13 : decode cX12_rule 13 = .ok (.iload 4, 2) := by decide +kernel
theorem dX12_rule_15 : decode cX12_rule 15 = .ok (.ireturn, 1) := by decide +kernel
theorem dX12_rule_16 : decode cX12_rule 16 = .ok (.iload_n 3, 1) := by decide +kernel
theorem dX12_rule_17 : decode cX12_rule 17 = .ok (.iconst 0, 1) := by decide +kernel
theorem dX12_rule_18 : decode cX12_rule 18 = .ok (.bipush 6, 2) := by decide +kernel
theorem dX12_rule_20 : decode cX12_rule 20 = .ok (.invokestatic 94, 3) := by decide +kernel
theorem dX12_rule_23 : decode cX12_rule 23 = .ok (.ifCond .eq 13, 3) := by decide +kernel
theorem dX12_rule_26 : decode cX12_rule 26 = .ok (.aload_n 0, 1) := by decide +kernel
theorem dX12_rule_27 : decode cX12_rule 27 = .ok (.iload_n 1, 1) := by decide +kernel
theorem dX12_rule_28 : decode cX12_rule 28 = .ok (.iload_n 2, 1) := by decide +kernel
theorem dX12_rule_29 : decode cX12_rule 29 = .ok (.iload_n 3, 1) := by decide +kernel
theorem dX12_rule_30 : decode cX12_rule 30 = .ok (.invokevirtual 114, 3) := by decide +kernel
theorem dX12_rule_33 : decode cX12_rule 33 = .ok (.goto 5, 3) := by decide +kernel
theorem dX12_rule_36 : decode cX12_rule 36 = .ok (.bipush (-3), 2) := by decide +kernel
theorem dX12_rule_38 : decode cX12_rule 38 = .ok (.ireturn, 1) := by decide +kernel
theorem dX12_count_0 : decode cX12_count 0 = .ok (.iconst 0, 1) := by decide +kernel
theorem dX12_count_1 : decode cX12_count 1 = .ok (.istore_n 2, 1) := by decide +kernel
theorem dX12_count_2 : decode cX12_count 2 = .ok (.iconst 0, 1) := by decide +kernel
theorem dX12_count_3 : decode cX12_count 3 = .ok (.istore_n 3, 1) := by decide +kernel
theorem dX12_count_4 : decode cX12_count 4 = .ok (.iload_n 3, 1) := by decide +kernel
theorem dX12_count_5 : decode cX12_count 5 = .ok (.bipush 6, 2) := by decide +kernel
theorem dX12_count_7 : decode cX12_count 7 = .ok (.if_icmp .ge 17, 3) := by decide +kernel
theorem dX12_count_10 : decode cX12_count 10 = .ok (.iload_n 2, 1) := by decide +kernel
theorem dX12_count_11 : decode cX12_count 11 = .ok (.aload_n 0, 1) := by decide +kernel
theorem dX12_count_12 : decode cX12_count 12 = .ok (.iload_n 3, 1) := by decide +kernel
theorem dX12_count_13 : decode cX12_count 13 = .ok (.invokevirtual 110, 3) := by decide +kernel
theorem dX12_count_16 : decode cX12_count 16 = .ok (.iadd, 1) := by decide +kernel
theorem dX12_count_17 : decode cX12_count 17 = .ok (.istore_n 2, 1) := by decide +kernel
theorem dX12_count_18 : decode cX12_count 18 = .ok (.iinc 3 1, 3) := by decide +kernel
theorem dX12_count_21 : decode cX12_count 21 = .ok (.goto (-17), 3) := by decide +kernel
theorem dX12_count_24 : decode cX12_count 24 = .ok (.iload_n 1, 1) := by decide +kernel
theorem dX12_count_25 : decode cX12_count 25 = .ok (.tableswitch 57 0 4 #[35, 40, 45, 47, 52], 35) := by decide +kernel
theorem dX12_count_60 : decode cX12_count 60 = .ok (.aload_n 0, 1) := by decide +kernel
theorem dX12_count_61 : decode cX12_count 61 = .ok (.getfield 67, 3) := by decide +kernel
theorem dX12_count_64 : decode cX12_count 64 = .ok (.ireturn, 1) := by decide +kernel
theorem dX12_count_65 : decode cX12_count 65 = .ok (.aload_n 0, 1) := by decide +kernel
theorem dX12_count_66 : decode cX12_count 66 = .ok (.getfield 76, 3) := by decide +kernel
theorem dX12_count_69 : decode cX12_count 69 = .ok (.ireturn, 1) := by decide +kernel
theorem dX12_count_70 : decode cX12_count 70 = .ok (.iload_n 2, 1) := by decide +kernel
theorem dX12_count_71 : decode cX12_count 71 = .ok (.ireturn, 1) := by decide +kernel
theorem dX12_count_72 : decode cX12_count 72 = .ok (.aload_n 0, 1) := by decide +kernel
theorem dX12_count_73 : decode cX12_count 73 = .ok (.getfield 88, 3) := by decide +kernel
theorem dX12_count_76 : decode cX12_count 76 = .ok (.ireturn, 1) := by decide +kernel
theorem dX12_count_77 : decode cX12_count 77 = .ok (.aload_n 0, 1) := by decide +kernel
theorem dX12_count_78 : decode cX12_count 78 = .ok (.getfield 91, 3) := by decide +kernel
theorem dX12_count_81 : decode cX12_count 81 = .ok (.ireturn, 1) := by decide +kernel
theorem dX12_count_82 : decode cX12_count 82 = .ok (.bipush (-3), 2) := by decide +kernel
theorem dX12_count_84 : decode cX12_count 84 = .ok (.ireturn, 1) := by decide +kernel
theorem dX12_matches_0 : decode cX12_matches 0 = .ok (.aload_n 0, 1) := by decide +kernel
theorem dX12_matches_1 : decode cX12_matches 1 = .ok (.iload_n 1, 1) := by decide +kernel
theorem dX12_matches_2 : decode cX12_matches 2 = .ok (.iload_n 2, 1) := by decide +kernel
theorem dX12_matches_3 : decode cX12_matches 3 = .ok (.bipush 6, 2) := by decide +kernel
theorem dX12_matches_5 : decode cX12_matches 5 = .ok (.invokevirtual 114, 3) := by decide +kernel
theorem dX12_matches_8 : decode cX12_matches 8 = .ok (.iconst 1, 1) := by decide +kernel
theorem dX12_matches_9 : decode cX12_matches 9 = .ok (.if_icmp .ne 42, 3) := by decide +kernel
theorem dX12_matches_12 : decode cX12_matches 12 = .ok (.aload_n 0, 1) := by decide +kernel
theorem dX12_matches_13 : decode cX12_matches 13 = .ok (.iload_n 1, 1) := by decide +kernel
theorem dX12_matches_14 : decode cX12_matches 14 = .ok (.iload_n 2, 1) := by decide +kernel
theorem dX12_matches_15 : decode cX12_matches 15 = .ok (.iconst 0, 1) := by decide +kernel
theorem dX12_matches_16 : decode cX12_matches 16 = .ok (.invokevirtual 114, 3) := by decide +kernel
theorem dX12_matches_19 : decode cX12_matches 19 = .ok (.iload_n 3, 1) := by decide +kernel
theorem dX12_matches_20 : decode cX12_matches 20 = .ok (.ishr, 1) := by decide +kernel
theorem dX12_matches_21 : decode cX12_matches 21 = .ok (.iconst 1, 1) := by decide +kernel
theorem dX12_matches_22 : decode cX12_matches 22 = .ok (.iand, 1) := by decide +kernel
theorem dX12_matches_23 : decode cX12_matches 23 = .ok (.iconst 1, 1) := by decide +kernel
theorem dX12_matches_24 : decode cX12_matches 24 = .ok (.if_icmp .ne 27, 3) := by decide +kernel
theorem dX12_matches_27 : decode cX12_matches 27 = .ok (.iload 4, 2) := by decide +kernel
theorem dX12_matches_29 : decode cX12_matches 29 = .ok (.aload_n 0, 1) := by decide +kernel
theorem dX12_matches_30 : decode cX12_matches 30 = .ok (.iload_n 1, 1) := by decide +kernel
theorem dX12_matches_31 : decode cX12_matches 31 = .ok (.iload_n 2, 1) := by decide +kernel
theorem dX12_matches_32 : decode cX12_matches 32 = .ok (.iconst 1, 1) := by decide +kernel
theorem dX12_matches_33 : decode cX12_matches 33 = .ok (.invokevirtual 114, 3) := by decide +kernel
theorem dX12_matches_36 : decode cX12_matches 36 = .ok (.iand, 1) := by decide +kernel
theorem dX12_matches_37 : decode cX12_matches 37 = .ok (.aload_n 0, 1) := by decide +kernel
theorem dX12_matches_38 : decode cX12_matches 38 = .ok (.iload_n 1, 1) := by decide +kernel
theorem dX12_matches_39 : decode cX12_matches 39 = .ok (.iload_n 2, 1) := by decide +kernel
theorem dX12_matches_40 : decode cX12_matches 40 = .ok (.iconst 2, 1) := by decide +kernel
theorem dX12_matches_41 : decode cX12_matches 41 = .ok (.invokevirtual 114, 3) := by decide +kernel
theorem dX12_matches_44 : decode cX12_matches 44 = .ok (.if_icmp .ne 7, 3) := by decide +kernel
theorem dX12_matches_47 : decode cX12_matches 47 = .ok (.iconst 1, 1) := by decide +kernel
theorem dX12_matches_48 : decode cX12_matches 48 = .ok (.goto 4, 3) := by decide +kernel
theorem dX12_matches_51 : decode cX12_matches 51 = .ok (.iconst 0, 1) := by decide +kernel
theorem dX12_matches_52 : decode cX12_matches 52 = .ok (.ireturn, 1) := by decide +kernel
theorem dX12_handler_0 : decode cX12_handler 0 = .ok (.iconst 0, 1) := by decide +kernel
theorem dX12_handler_1 : decode cX12_handler 1 = .ok (.istore 4, 2) := by decide +kernel
theorem dX12_handler_3 : decode cX12_handler 3 = .ok (.iload 4, 2) := by decide +kernel
theorem dX12_handler_5 : decode cX12_handler 5 = .ok (.aload_n 0, 1) := by decide +kernel
theorem dX12_handler_6 : decode cX12_handler 6 = .ok (.iload_n 1, 1) := by decide +kernel
theorem dX12_handler_7 : decode cX12_handler 7 = .ok (.invokevirtual 110, 3) := by decide +kernel
theorem dX12_handler_10 : decode cX12_handler 10 = .ok (.if_icmp .ge 24, 3) := by decide +kernel
theorem dX12_handler_13 : decode cX12_handler 13 = .ok (.aload_n 0, 1) := by decide +kernel
theorem dX12_handler_14 : decode cX12_handler 14 = .ok (.iload_n 1, 1) := by decide +kernel
theorem dX12_handler_15 : decode cX12_handler 15 = .ok (.iload 4, 2) := by decide +kernel
theorem dX12_handler_17 : decode cX12_handler 17 = .ok (.iload_n 2, 1) := by decide +kernel
theorem dX12_handler_18 : decode cX12_handler 18 = .ok (.iload_n 3, 1) := by decide +kernel
theorem dX12_handler_19 : decode cX12_handler 19 = .ok (.invokevirtual 146, 3) := by decide +kernel
theorem dX12_handler_22 : decode cX12_handler 22 = .ok (.ifCond .eq 6, 3) := by decide +kernel
theorem dX12_handler_25 : decode cX12_handler 25 = .ok (.iload 4, 2) := by decide +kernel
theorem dX12_handler_27 : decode cX12_handler 27 = .ok (.ireturn, 1) := by decide +kernel
theorem dX12_handler_28 : decode cX12_handler 28 = .ok (.iinc 4 1, 3) := by decide +kernel
theorem dX12_handler_31 : decode cX12_handler 31 = .ok (.goto (-28), 3) := by decide +kernel
theorem dX12_handler_34 : decode cX12_handler 34 = .ok (.iconst (-1), 1) := by decide +kernel
theorem dX12_handler_35 : decode cX12_handler 35 = .ok (.ireturn, 1) := by decide +kernel
theorem dX12_shadowed_0 : decode cX12_shadowed 0 = .ok (.iload_n 1, 1) := by decide +kernel
theorem dX12_shadowed_1 : decode cX12_shadowed 1 = .ok (.invokestatic 102, 3) := by decide +kernel
theorem dX12_shadowed_4 : decode cX12_shadowed 4 = .ok (.ifCond .eq 5, 3) := by decide +kernel
theorem dX12_shadowed_7 : decode cX12_shadowed 7 = .ok (.iconst (-1), 1) := by decide +kernel
theorem dX12_shadowed_8 : decode cX12_shadowed 8 = .ok (.ireturn, 1) := by decide +kernel
theorem dX12_shadowed_9 : decode cX12_shadowed 9 = .ok (.iconst 0, 1) := by decide +kernel
theorem dX12_shadowed_10 : decode cX12_shadowed 10 = .ok (.istore_n 2, 1) := by decide +kernel
theorem dX12_shadowed_11 : decode cX12_shadowed 11 = .ok (.iconst 0, 1) := by decide +kernel
theorem dX12_shadowed_12 : decode cX12_shadowed 12 = .ok (.istore_n 3, 1) := by decide +kernel
theorem dX12_shadowed_13 : decode cX12_shadowed 13 = .ok (.iload_n 3, 1) := by decide +kernel
theorem dX12_shadowed_14 : decode cX12_shadowed 14 = .ok (.aload_n 0, 1) := by decide +kernel
theorem dX12_shadowed_15 : decode cX12_shadowed 15 = .ok (.iload_n 1, 1) := by decide +kernel
theorem dX12_shadowed_16 : decode cX12_shadowed 16 = .ok (.invokevirtual 110, 3) := by decide +kernel
theorem dX12_shadowed_19 : decode cX12_shadowed 19 = .ok (.if_icmp .ge 22, 3) := by decide +kernel
theorem dX12_shadowed_22 : decode cX12_shadowed 22 = .ok (.iload_n 2, 1) := by decide +kernel
theorem dX12_shadowed_23 : decode cX12_shadowed 23 = .ok (.aload_n 0, 1) := by decide +kernel
theorem dX12_shadowed_24 : decode cX12_shadowed 24 = .ok (.iload_n 1, 1) := by decide +kernel
theorem dX12_shadowed_25 : decode cX12_shadowed 25 = .ok (.iload_n 3, 1) := by decide +kernel
theorem dX12_shadowed_26 : decode cX12_shadowed 26 = .ok (.bipush 6, 2) := by decide +kernel
theorem dX12_shadowed_28 : decode cX12_shadowed 28 = .ok (.invokevirtual 114, 3) := by decide +kernel
theorem dX12_shadowed_31 : decode cX12_shadowed 31 = .ok (.iload_n 3, 1) := by decide +kernel
theorem dX12_shadowed_32 : decode cX12_shadowed 32 = .ok (.ishl, 1) := by decide +kernel
theorem dX12_shadowed_33 : decode cX12_shadowed 33 = .ok (.ior, 1) := by decide +kernel
theorem dX12_shadowed_34 : decode cX12_shadowed 34 = .ok (.istore_n 2, 1) := by decide +kernel
theorem dX12_shadowed_35 : decode cX12_shadowed 35 = .ok (.iinc 3 1, 3) := by decide +kernel
theorem dX12_shadowed_38 : decode cX12_shadowed 38 = .ok (.goto (-25), 3) := by decide +kernel
theorem dX12_shadowed_41 : decode cX12_shadowed 41 = .ok (.iconst 0, 1) := by decide +kernel
theorem dX12_shadowed_42 : decode cX12_shadowed 42 = .ok (.istore_n 3, 1) := by decide +kernel
theorem dX12_shadowed_43 : decode cX12_shadowed 43 = .ok (.iload_n 3, 1) := by decide +kernel
theorem dX12_shadowed_44 : decode cX12_shadowed 44 = .ok (.iconst 4, 1) := by decide +kernel
theorem dX12_shadowed_45 : decode cX12_shadowed 45 = .ok (.if_icmp .ge 55, 3) := by decide +kernel
theorem dX12_shadowed_48 : decode cX12_shadowed 48 = .ok (.iconst 0, 1) := by decide +kernel
theorem dX12_shadowed_49 : decode cX12_shadowed 49 = .ok (.istore 4, 2) := by decide +kernel
theorem dX12_shadowed_51 : decode cX12_shadowed 51 = .ok (.iload 4, 2) := by decide +kernel
theorem dX12_shadowed_53 : decode cX12_shadowed 53 = .ok (.aload_n 0, 1) := by decide +kernel
theorem dX12_shadowed_54 : decode cX12_shadowed 54 = .ok (.invokevirtual 98, 3) := by decide +kernel
theorem dX12_shadowed_57 : decode cX12_shadowed 57 = .ok (.if_icmp .ge 37, 3) := by decide +kernel
theorem dX12_shadowed_60 : decode cX12_shadowed 60 = .ok (.aload_n 0, 1) := by decide +kernel
theorem dX12_shadowed_61 : decode cX12_shadowed 61 = .ok (.iload_n 1, 1) := by decide +kernel
theorem dX12_shadowed_62 : decode cX12_shadowed 62 = .ok (.iload_n 3, 1) := by decide +kernel
theorem dX12_shadowed_63 : decode cX12_shadowed 63 = .ok (.iload 4, 2) := by decide +kernel
theorem dX12_shadowed_65 : decode cX12_shadowed 65 = .ok (.invokevirtual 150, 3) := by decide +kernel
theorem dX12_shadowed_68 : decode cX12_shadowed 68 = .ok (.istore 5, 2) := by decide +kernel
theorem dX12_shadowed_70 : decode cX12_shadowed 70 = .ok (.iload_n 2, 1) := by decide +kernel
theorem dX12_shadowed_71 : decode cX12_shadowed 71 = .ok (.iload 5, 2) := by decide +kernel
theorem dX12_shadowed_73 : decode cX12_shadowed 73 = .ok (.ifCond .ge 7, 3) := by decide +kernel
theorem dX12_shadowed_76 : decode cX12_shadowed 76 = .ok (.iconst (-1), 1) := by decide +kernel
theorem dX12_shadowed_77 : decode cX12_shadowed 77 = .ok (.goto 9, 3) := by decide +kernel
theorem dX12_shadowed_80 : decode cX12_shadowed 80 = .ok (.iconst 1, 1) := by decide +kernel
theorem dX12_shadowed_81 : decode cX12_shadowed 81 = .ok (.iload 5, 2) := by decide +kernel
theorem dX12_shadowed_83 : decode cX12_shadowed 83 = .ok (.ishl, 1) := by decide +kernel
theorem dX12_shadowed_84 : decode cX12_shadowed 84 = .ok (.iconst (-1), 1) := by decide +kernel
theorem dX12_shadowed_85 : decode cX12_shadowed 85 = .ok (.ixor, 1) := by decide +kernel
theorem dX12_shadowed_86 : decode cX12_shadowed 86 = .ok (.iand, 1) := by decide +kernel
theorem dX12_shadowed_87 : decode cX12_shadowed 87 = .ok (.istore_n 2, 1) := by decide +kernel
theorem dX12_shadowed_88 : decode cX12_shadowed 88 = .ok (.iinc 4 1, 3) := by decide +kernel
theorem dX12_shadowed_91 : decode cX12_shadowed 91 = .ok (.goto (-40), 3) := by decide +kernel
theorem dX12_shadowed_94 : decode cX12_shadowed 94 = .ok (.iinc 3 1, 3) := by decide +kernel
theorem dX12_shadowed_97 : decode cX12_shadowed 97 = .ok (.goto (-54), 3) := by decide +kernel
theorem dX12_shadowed_100 : decode cX12_shadowed 100 = .ok (.iload_n 2, 1) := by decide +kernel
theorem dX12_shadowed_101 : decode cX12_shadowed 101 = .ok (.ireturn, 1) := by decide +kernel
theorem dX12_injected_0 : decode cX12_injected 0 = .ok (.lconst 0, 1) := by decide +kernel
theorem dX12_injected_1 : decode cX12_injected 1 = .ok (.lstore_n 1, 1) := by decide +kernel
theorem dX12_injected_2 : decode cX12_injected 2 = .ok (.iconst 0, 1) := by decide +kernel
theorem dX12_injected_3 : decode cX12_injected 3 = .ok (.istore_n 3, 1) := by decide +kernel
theorem dX12_injected_4 : decode cX12_injected 4 = .ok (.iload_n 3, 1) := by decide +kernel
theorem dX12_injected_5 : decode cX12_injected 5 = .ok (.aload_n 0, 1) := by decide +kernel
theorem dX12_injected_6 : decode cX12_injected 6 = .ok (.invokevirtual 98, 3) := by decide +kernel
theorem dX12_injected_9 : decode cX12_injected 9 = .ok (.if_icmp .ge 27, 3) := by decide +kernel
theorem dX12_injected_12 : decode cX12_injected 12 = .ok (.lload_n 1, 1) := by decide +kernel
theorem dX12_injected_13 : decode cX12_injected 13 = .ok (.aload_n 0, 1) := by decide +kernel
theorem dX12_injected_14 : decode cX12_injected 14 = .ok (.iload_n 3, 1) := by decide +kernel
theorem dX12_injected_15 : decode cX12_injected 15 = .ok (.invokevirtual 153, 3) := by decide +kernel
theorem dX12_injected_18 : decode cX12_injected 18 = .ok (.ifCond .eq 9, 3) := by decide +kernel
theorem dX12_injected_21 : decode cX12_injected 21 = .ok (.lconst 1, 1) := by decide +kernel
theorem dX12_injected_22 : decode cX12_injected 22 = .ok (.iload_n 3, 1) := by decide +kernel
theorem dX12_injected_23 : decode cX12_injected 23 = .ok (.lshl, 1) := by decide +kernel
theorem dX12_injected_24 : decode cX12_injected 24 = .ok (.goto 4, 3) := by decide +kernel
theorem dX12_injected_27 : decode cX12_injected 27 = .ok (.lconst 0, 1) := by decide +kernel
theorem dX12_injected_28 : decode cX12_injected 28 = .ok (.lor, 1) := by decide +kernel
theorem dX12_injected_29 : decode cX12_injected 29 = .ok (.lstore_n 1, 1) := by decide +kernel
theorem dX12_injected_30 : decode cX12_injected 30 = .ok (.iinc 3 1, 3) := by decide +kernel
theorem dX12_injected_33 : decode cX12_injected 33 = .ok (.goto (-29), 3) := by decide +kernel
theorem dX12_injected_36 : decode cX12_injected 36 = .ok (.lload_n 1, 1) := by decide +kernel
theorem dX12_injected_37 : decode cX12_injected 37 = .ok (.lreturn, 1) := by decide +kernel
theorem dX12_isInjected_0 : decode cX12_isInjected 0 = .ok (.aload_n 0, 1) := by decide +kernel
theorem dX12_isInjected_1 : decode cX12_isInjected 1 = .ok (.iload_n 1, 1) := by decide +kernel
theorem dX12_isInjected_2 : decode cX12_isInjected 2 = .ok (.invokevirtual 122, 3) := by decide +kernel
theorem dX12_isInjected_5 : decode cX12_isInjected 5 = .ok (.ifCond .ne 20, 3) := by decide +kernel
theorem dX12_isInjected_8 : decode cX12_isInjected 8 = .ok (.iload_n 1, 1) := by decide +kernel
theorem dX12_isInjected_9 : decode cX12_isInjected 9 = .ok (.aload_n 0, 1) := by decide +kernel
theorem dX12_isInjected_10 : decode cX12_isInjected 10 = .ok (.getfield 82, 3) := by decide +kernel
theorem dX12_isInjected_13 : decode cX12_isInjected 13 = .ok (.iand, 1) := by decide +kernel
theorem dX12_isInjected_14 : decode cX12_isInjected 14 = .ok (.aload_n 0, 1) := by decide +kernel
theorem dX12_isInjected_15 : decode cX12_isInjected 15 = .ok (.getfield 85, 3) := by decide +kernel
theorem dX12_isInjected_18 : decode cX12_isInjected 18 = .ok (.if_icmp .ne 7, 3) := by decide +kernel
theorem dX12_isInjected_21 : decode cX12_isInjected 21 = .ok (.iconst 1, 1) := by decide +kernel
theorem dX12_isInjected_22 : decode cX12_isInjected 22 = .ok (.goto 4, 3) := by decide +kernel
theorem dX12_isInjected_25 : decode cX12_isInjected 25 = .ok (.iconst 0, 1) := by decide +kernel
theorem dX12_isInjected_26 : decode cX12_isInjected 26 = .ok (.ireturn, 1) := by decide +kernel
theorem dX12_rewritten_0 : decode cX12_rewritten 0 = .ok (.iload_n 3, 1) := by decide +kernel
theorem dX12_rewritten_1 : decode cX12_rewritten 1 = .ok (.aload_n 0, 1) := by decide +kernel
theorem dX12_rewritten_2 : decode cX12_rewritten 2 = .ok (.iload_n 1, 1) := by decide +kernel
theorem dX12_rewritten_3 : decode cX12_rewritten 3 = .ok (.iload_n 2, 1) := by decide +kernel
theorem dX12_rewritten_4 : decode cX12_rewritten 4 = .ok (.iconst 4, 1) := by decide +kernel
theorem dX12_rewritten_5 : decode cX12_rewritten 5 = .ok (.invokevirtual 114, 3) := by decide +kernel
theorem dX12_rewritten_8 : decode cX12_rewritten 8 = .ok (.iconst (-1), 1) := by decide +kernel
theorem dX12_rewritten_9 : decode cX12_rewritten 9 = .ok (.ixor, 1) := by decide +kernel
theorem dX12_rewritten_10 : decode cX12_rewritten 10 = .ok (.iand, 1) := by decide +kernel
theorem dX12_rewritten_11 : decode cX12_rewritten 11 = .ok (.aload_n 0, 1) := by decide +kernel
theorem dX12_rewritten_12 : decode cX12_rewritten 12 = .ok (.iload_n 1, 1) := by decide +kernel
theorem dX12_rewritten_13 : decode cX12_rewritten 13 = .ok (.iload_n 2, 1) := by decide +kernel
theorem dX12_rewritten_14 : decode cX12_rewritten 14 = .ok (.iconst 5, 1) := by decide +kernel
theorem dX12_rewritten_15 : decode cX12_rewritten 15 = .ok (.invokevirtual 114, 3) := by decide +kernel
theorem dX12_rewritten_18 : decode cX12_rewritten 18 = .ok (.ior, 1) := by decide +kernel
theorem dX12_rewritten_19 : decode cX12_rewritten 19 = .ok (.ireturn, 1) := by decide +kernel
theorem dX12_goOn_0 : decode cX12_goOn 0 = .ok (.iload_n 1, 1) := by decide +kernel
theorem dX12_goOn_1 : decode cX12_goOn 1 = .ok (.iconst 4, 1) := by decide +kernel
theorem dX12_goOn_2 : decode cX12_goOn 2 = .ok (.idiv, 1) := by decide +kernel
theorem dX12_goOn_3 : decode cX12_goOn 3 = .ok (.istore_n 3, 1) := by decide +kernel
theorem dX12_goOn_4 : decode cX12_goOn 4 = .ok (.aload_n 0, 1) := by decide +kernel
theorem dX12_goOn_5 : decode cX12_goOn 5 = .ok (.iload_n 3, 1) := by decide +kernel
theorem dX12_goOn_6 : decode cX12_goOn 6 = .ok (.iload_n 1, 1) := by decide +kernel
theorem dX12_goOn_7 : decode cX12_goOn 7 = .ok (.iconst 4, 1) := by decide +kernel
theorem dX12_goOn_8 : decode cX12_goOn 8 = .ok (.irem, 1) := by decide +kernel
theorem dX12_goOn_9 : decode cX12_goOn 9 = .ok (.iload_n 2, 1) := by decide +kernel
theorem dX12_goOn_10 : decode cX12_goOn 10 = .ok (.invokevirtual 150, 3) := by decide +kernel
theorem dX12_goOn_13 : decode cX12_goOn 13 = .ok (.istore 4, 2) := by decide +kernel
theorem dX12_goOn_15 : decode cX12_goOn 15 = .ok (.iload 4, 2) := by decide +kernel
theorem dX12_goOn_17 : decode cX12_goOn 17 = .ok (.ifCond .ge 4, 3) := by decide +kernel
theorem dX12_goOn_20 : decode cX12_goOn 20 = .ok (.return_, 1) := by decide +kernel
theorem dX12_goOn_21 : decode cX12_goOn 21 = .ok (.lconst 1, 1) := by decide +kernel
theorem dX12_goOn_22 : decode cX12_goOn 22 = .ok (.aload_n 0, 1) := by decide +kernel
theorem dX12_goOn_23 : decode cX12_goOn 23 = .ok (.iload_n 3, 1) := by decide +kernel
theorem dX12_goOn_24 : decode cX12_goOn 24 = .ok (.iload 4, 2) := by decide +kernel
theorem dX12_goOn_26 : decode cX12_goOn 26 = .ok (.iload_n 2, 1) := by decide +kernel
theorem dX12_goOn_27 : decode cX12_goOn 27 = .ok (.invokevirtual 156, 3) := by decide +kernel
theorem dX12_goOn_30 : decode cX12_goOn 30 = .ok (.lshl, 1) := by decide +kernel
theorem dX12_goOn_31 : decode cX12_goOn 31 = .ok (.lstore 5, 2) := by decide +kernel
theorem dX12_goOn_33 : decode cX12_goOn 33 = .ok (.iconst 0, 1) := by decide +kernel
theorem dX12_goOn_34 : decode cX12_goOn 34 = .ok (.istore 7, 2) := by decide +kernel
theorem dX12_goOn_36 : decode cX12_goOn 36 = .ok (.iload 7, 2) := by decide +kernel
theorem dX12_goOn_38 : decode cX12_goOn 38 = .ok (.iconst 4, 1) := by decide +kernel
theorem dX12_goOn_39 : decode cX12_goOn 39 = .ok (.if_icmp .ge 76, 3) := by decide +kernel
theorem dX12_goOn_42 : decode cX12_goOn 42 = .ok (.aload_n 0, 1) := by decide +kernel
theorem dX12_goOn_43 : decode cX12_goOn 43 = .ok (.iload_n 3, 1) := by decide +kernel
theorem dX12_goOn_44 : decode cX12_goOn 44 = .ok (.iload 4, 2) := by decide +kernel
theorem dX12_goOn_46 : decode cX12_goOn 46 = .ok (.iconst 3, 1) := by decide +kernel
theorem dX12_goOn_47 : decode cX12_goOn 47 = .ok (.invokevirtual 114, 3) := by decide +kernel
theorem dX12_goOn_50 : decode cX12_goOn 50 = .ok (.iload 7, 2) := by decide +kernel
theorem dX12_goOn_52 : decode cX12_goOn 52 = .ok (.ishr, 1) := by decide +kernel
theorem dX12_goOn_53 : decode cX12_goOn 53 = .ok (.iconst 1, 1) := by decide +kernel
theorem dX12_goOn_54 : decode cX12_goOn 54 = .ok (.iand, 1) := by decide +kernel
theorem dX12_goOn_55 : decode cX12_goOn 55 = .ok (.iconst 1, 1) := by decide +kernel
theorem dX12_goOn_56 : decode cX12_goOn 56 = .ok (.if_icmp .ne 53, 3) := by decide +kernel
theorem dX12_goOn_59 : decode cX12_goOn 59 = .ok (.iconst 4, 1) := by decide +kernel
theorem dX12_goOn_60 : decode cX12_goOn 60 = .ok (.iload_n 3, 1) := by decide +kernel
theorem dX12_goOn_61 : decode cX12_goOn 61 = .ok (.imul, 1) := by decide +kernel
theorem dX12_goOn_62 : decode cX12_goOn 62 = .ok (.iload 7, 2) := by decide +kernel
theorem dX12_goOn_64 : decode cX12_goOn 64 = .ok (.iadd, 1) := by decide +kernel
theorem dX12_goOn_65 : decode cX12_goOn 65 = .ok (.istore 8, 2) := by decide +kernel
theorem dX12_goOn_67 : decode cX12_goOn 67 = .ok (.aload_n 0, 1) := by decide +kernel
theorem dX12_goOn_68 : decode cX12_goOn 68 = .ok (.getfield 7, 3) := by decide +kernel
theorem dX12_goOn_71 : decode cX12_goOn 71 = .ok (.iload 8, 2) := by decide +kernel
theorem dX12_goOn_73 : decode cX12_goOn 73 = .ok (.iaload, 1) := by decide +kernel
theorem dX12_goOn_74 : decode cX12_goOn 74 = .ok (.ifCond .ge 18, 3) := by decide +kernel
theorem dX12_goOn_77 : decode cX12_goOn 77 = .ok (.aload_n 0, 1) := by decide +kernel
theorem dX12_goOn_78 : decode cX12_goOn 78 = .ok (.getfield 29, 3) := by decide +kernel
theorem dX12_goOn_81 : decode cX12_goOn 81 = .ok (.iload 8, 2) := by decide +kernel
theorem dX12_goOn_83 : decode cX12_goOn 83 = .ok (.dup2, 1) := by decide +kernel
theorem dX12_goOn_84 : decode cX12_goOn 84 = .ok (.laload, 1) := by decide +kernel
theorem dX12_goOn_85 : decode cX12_goOn 85 = .ok (.lload 5, 2) := by decide +kernel
theorem dX12_goOn_87 : decode cX12_goOn 87 = .ok (.lor, 1) := by decide +kernel
theorem dX12_goOn_88 : decode cX12_goOn 88 = .ok (.lastore, 1) := by decide +kernel
theorem dX12_goOn_89 : decode cX12_goOn 89 = .ok (.goto 20, 3) := by decide +kernel
theorem dX12_goOn_92 : decode cX12_goOn 92 = .ok (.aload_n 0, 1) := by decide +kernel
theorem dX12_goOn_93 : decode cX12_goOn 93 = .ok (.getfield 22, 3) := by decide +kernel
theorem dX12_goOn_96 : decode cX12_goOn 96 = .ok (.aload_n 0, 1) := by decide +kernel
theorem dX12_goOn_97 : decode cX12_goOn 97 = .ok (.getfield 7, 3) := by decide +kernel
theorem dX12_goOn_100 : decode cX12_goOn 100 = .ok (.iload 8, 2) := by decide +kernel
theorem dX12_goOn_102 : decode cX12_goOn 102 = .ok (.iaload, 1) := by decide +kernel
theorem dX12_goOn_103 : decode cX12_goOn 103 = .ok (.dup2, 1) := by decide +kernel
theorem dX12_goOn_104 : decode cX12_goOn 104 = .ok (.laload, 1) := by decide +kernel
theorem dX12_goOn_105 : decode cX12_goOn 105 = .ok (.lload 5, 2) := by decide +kernel
theorem dX12_goOn_107 : decode cX12_goOn 107 = .ok (.lor, 1) := by decide +kernel
theorem dX12_goOn_108 : decode cX12_goOn 108 = .ok (.lastore, 1) := by decide +kernel
theorem dX12_goOn_109 : decode cX12_goOn 109 = .ok (.iinc 7 1, 3) := by decide +kernel
theorem dX12_goOn_112 : decode cX12_goOn 112 = .ok (.goto (-76), 3) := by decide +kernel
theorem dX12_goOn_115 : decode cX12_goOn 115 = .ok (.return_, 1) := by decide +kernel
theorem dX12_spread_0 : decode cX12_spread 0 = .ok (.iconst 0, 1) := by decide +kernel
theorem dX12_spread_1 : decode cX12_spread 1 = .ok (.istore 4, 2) := by decide +kernel
theorem dX12_spread_3 : decode cX12_spread 3 = .ok (.iload 4, 2) := by decide +kernel
theorem dX12_spread_5 : decode cX12_spread 5 = .ok (.bipush 24, 2) := by decide +kernel
theorem dX12_spread_7 : decode cX12_spread 7 = .ok (.if_icmp .ge 33, 3) := by decide +kernel
theorem dX12_spread_10 : decode cX12_spread 10 = .ok (.aload_n 0, 1) := by decide +kernel
theorem dX12_spread_11 : decode cX12_spread 11 = .ok (.getfield 22, 3) := by decide +kernel
theorem dX12_spread_14 : decode cX12_spread 14 = .ok (.iload 4, 2) := by decide +kernel
theorem dX12_spread_16 : decode cX12_spread 16 = .ok (.lconst 0, 1) := by decide +kernel
theorem dX12_spread_17 : decode cX12_spread 17 = .ok (.lastore, 1) := by decide +kernel
theorem dX12_spread_18 : decode cX12_spread 18 = .ok (.aload_n 0, 1) := by decide +kernel
theorem dX12_spread_19 : decode cX12_spread 19 = .ok (.getfield 26, 3) := by decide +kernel
theorem dX12_spread_22 : decode cX12_spread 22 = .ok (.iload 4, 2) := by decide +kernel
theorem dX12_spread_24 : decode cX12_spread 24 = .ok (.lconst 0, 1) := by decide +kernel
theorem dX12_spread_25 : decode cX12_spread 25 = .ok (.lastore, 1) := by decide +kernel
theorem dX12_spread_26 : decode cX12_spread 26 = .ok (.aload_n 0, 1) := by decide +kernel
theorem dX12_spread_27 : decode cX12_spread 27 = .ok (.getfield 29, 3) := by decide +kernel
theorem dX12_spread_30 : decode cX12_spread 30 = .ok (.iload 4, 2) := by decide +kernel
theorem dX12_spread_32 : decode cX12_spread 32 = .ok (.lconst 0, 1) := by decide +kernel
theorem dX12_spread_33 : decode cX12_spread 33 = .ok (.lastore, 1) := by decide +kernel
theorem dX12_spread_34 : decode cX12_spread 34 = .ok (.iinc 4 1, 3) := by decide +kernel
theorem dX12_spread_37 : decode cX12_spread 37 = .ok (.goto (-34), 3) := by decide +kernel
theorem dX12_spread_40 : decode cX12_spread 40 = .ok (.aload_n 0, 1) := by decide +kernel
theorem dX12_spread_41 : decode cX12_spread 41 = .ok (.getfield 22, 3) := by decide +kernel
theorem dX12_spread_44 : decode cX12_spread 44 = .ok (.iload_n 1, 1) := by decide +kernel
theorem dX12_spread_45 : decode cX12_spread 45 = .ok (.lload_n 2, 1) := by decide +kernel
theorem dX12_spread_46 : decode cX12_spread 46 = .ok (.lastore, 1) := by decide +kernel
theorem dX12_spread_47 : decode cX12_spread 47 = .ok (.iconst 1, 1) := by decide +kernel
theorem dX12_spread_48 : decode cX12_spread 48 = .ok (.istore 4, 2) := by decide +kernel
theorem dX12_spread_50 : decode cX12_spread 50 = .ok (.iload 4, 2) := by decide +kernel
theorem dX12_spread_52 : decode cX12_spread 52 = .ok (.ifCond .eq 122, 3) := by decide +kernel
theorem dX12_spread_55 : decode cX12_spread 55 = .ok (.iconst 0, 1) := by decide +kernel
theorem dX12_spread_56 : decode cX12_spread 56 = .ok (.istore 4, 2) := by decide +kernel
theorem dX12_spread_58 : decode cX12_spread 58 = .ok (.iconst 0, 1) := by decide +kernel
theorem dX12_spread_59 : decode cX12_spread 59 = .ok (.istore 5, 2) := by decide +kernel
theorem dX12_spread_61 : decode cX12_spread 61 = .ok (.iload 5, 2) := by decide +kernel
theorem dX12_spread_63 : decode cX12_spread 63 = .ok (.bipush 24, 2) := by decide +kernel
theorem dX12_spread_65 : decode cX12_spread 65 = .ok (.if_icmp .ge 106, 3) := by decide +kernel
theorem dX12_spread_68 : decode cX12_spread 68 = .ok (.aload_n 0, 1) := by decide +kernel
theorem dX12_spread_69 : decode cX12_spread 69 = .ok (.getfield 22, 3) := by decide +kernel
theorem dX12_spread_72 : decode cX12_spread 72 = .ok (.iload 5, 2) := by decide +kernel
theorem dX12_spread_74 : decode cX12_spread 74 = .ok (.laload, 1) := by decide +kernel
theorem dX12_spread_75 : decode cX12_spread 75 = .ok (.aload_n 0, 1) := by decide +kernel
theorem dX12_spread_76 : decode cX12_spread 76 = .ok (.getfield 26, 3) := by decide +kernel
theorem dX12_spread_79 : decode cX12_spread 79 = .ok (.iload 5, 2) := by decide +kernel
theorem dX12_spread_81 : decode cX12_spread 81 = .ok (.laload, 1) := by decide +kernel
theorem dX12_spread_82 : decode cX12_spread 82 = .ok (.ldc2_w 159, 3) := by decide +kernel
theorem dX12_spread_85 : decode cX12_spread 85 = .ok (.lxor, 1) := by decide +kernel
theorem dX12_spread_86 : decode cX12_spread 86 = .ok (.land, 1) := by decide +kernel
theorem dX12_spread_87 : decode cX12_spread 87 = .ok (.lstore 6, 2) := by decide +kernel
theorem dX12_spread_89 : decode cX12_spread 89 = .ok (.aload_n 0, 1) := by decide +kernel
theorem dX12_spread_90 : decode cX12_spread 90 = .ok (.getfield 26, 3) := by decide +kernel
theorem dX12_spread_93 : decode cX12_spread 93 = .ok (.iload 5, 2) := by decide +kernel
theorem dX12_spread_95 : decode cX12_spread 95 = .ok (.dup2, 1) := by decide +kernel
theorem dX12_spread_96 : decode cX12_spread 96 = .ok (.laload, 1) := by decide +kernel
theorem dX12_spread_97 : decode cX12_spread 97 = .ok (.lload 6, 2) := by decide +kernel
theorem dX12_spread_99 : decode cX12_spread 99 = .ok (.lor, 1) := by decide +kernel
theorem dX12_spread_100 : decode cX12_spread 100 = .ok (.lastore, 1) := by decide +kernel
theorem dX12_spread_101 : decode cX12_spread 101 = .ok (.iload 4, 2) := by decide +kernel
theorem dX12_spread_103 : decode cX12_spread 103 = .ok (.ifCond .ne 10, 3) := by decide +kernel
theorem dX12_spread_106 : decode cX12_spread 106 = .ok (.lload 6, 2) := by decide +kernel
theorem dX12_spread_108 : decode cX12_spread 108 = .ok (.lconst 0, 1) := by decide +kernel
theorem dX12_spread_109 : decode cX12_spread 109 = .ok (.lcmp, 1) := by decide +kernel
theorem dX12_spread_110 : decode cX12_spread 110 = .ok (.ifCond .eq 7, 3) := by decide +kernel
theorem dX12_spread_113 : decode cX12_spread 113 = .ok (.iconst 1, 1) := by decide +kernel
theorem dX12_spread_114 : decode cX12_spread 114 = .ok (.goto 4, 3) := by decide +kernel
theorem dX12_spread_117 : decode cX12_spread 117 = .ok (.iconst 0, 1) := by decide +kernel
theorem dX12_spread_118 : decode cX12_spread 118 = .ok (.istore 4, 2) := by decide +kernel
theorem dX12_spread_120 : decode cX12_spread 120 = .ok (.iconst 0, 1) := by decide +kernel
theorem dX12_spread_121 : decode cX12_spread 121 = .ok (.istore 8, 2) := by decide +kernel
theorem dX12_spread_123 : decode cX12_spread 123 = .ok (.iload 8, 2) := by decide +kernel
theorem dX12_spread_125 : decode cX12_spread 125 = .ok (.aload_n 0, 1) := by decide +kernel
theorem dX12_spread_126 : decode cX12_spread 126 = .ok (.invokevirtual 98, 3) := by decide +kernel
theorem dX12_spread_129 : decode cX12_spread 129 = .ok (.if_icmp .ge 36, 3) := by decide +kernel
theorem dX12_spread_132 : decode cX12_spread 132 = .ok (.lload 6, 2) := by decide +kernel
theorem dX12_spread_134 : decode cX12_spread 134 = .ok (.lconst 0, 1) := by decide +kernel
theorem dX12_spread_135 : decode cX12_spread 135 = .ok (.lcmp, 1) := by decide +kernel
theorem dX12_spread_136 : decode cX12_spread 136 = .ok (.ifCond .eq 29, 3) := by decide +kernel
theorem dX12_spread_139 : decode cX12_spread 139 = .ok (.lload 6, 2) := by decide +kernel
theorem dX12_spread_141 : decode cX12_spread 141 = .ok (.iload 8, 2) := by decide +kernel
theorem dX12_spread_143 : decode cX12_spread 143 = .ok (.lshr, 1) := by decide +kernel
theorem dX12_spread_144 : decode cX12_spread 144 = .ok (.lconst 1, 1) := by decide +kernel
theorem dX12_spread_145 : decode cX12_spread 145 = .ok (.land, 1) := by decide +kernel
theorem dX12_spread_146 : decode cX12_spread 146 = .ok (.lconst 1, 1) := by decide +kernel
theorem dX12_spread_147 : decode cX12_spread 147 = .ok (.lcmp, 1) := by decide +kernel
theorem dX12_spread_148 : decode cX12_spread 148 = .ok (.ifCond .ne 11, 3) := by decide +kernel
theorem dX12_spread_151 : decode cX12_spread 151 = .ok (.aload_n 0, 1) := by decide +kernel
theorem dX12_spread_152 : decode cX12_spread 152 = .ok (.iload 5, 2) := by decide +kernel
theorem dX12_spread_154 : decode cX12_spread 154 = .ok (.iload 8, 2) := by decide +kernel
theorem dX12_spread_156 : decode cX12_spread 156 = .ok (.invokevirtual 161, 3) := by decide +kernel
theorem dX12_spread_159 : decode cX12_spread 159 = .ok (.iinc 8 1, 3) := by decide +kernel
theorem dX12_spread_162 : decode cX12_spread 162 = .ok (.goto (-39), 3) := by decide +kernel
theorem dX12_spread_165 : decode cX12_spread 165 = .ok (.iinc 5 1, 3) := by decide +kernel
theorem dX12_spread_168 : decode cX12_spread 168 = .ok (.goto (-107), 3) := by decide +kernel
theorem dX12_spread_171 : decode cX12_spread 171 = .ok (.goto (-121), 3) := by decide +kernel
theorem dX12_spread_174 : decode cX12_spread 174 = .ok (.return_, 1) := by decide +kernel
theorem dX12_spreadAll_0 : decode cX12_spreadAll 0 = .ok (.aload_n 0, 1) := by decide +kernel
theorem dX12_spreadAll_1 : decode cX12_spreadAll 1 = .ok (.aload_n 0, 1) := by decide +kernel
theorem dX12_spreadAll_2 : decode cX12_spreadAll 2 = .ok (.getfield 79, 3) := by decide +kernel
theorem dX12_spreadAll_5 : decode cX12_spreadAll 5 = .ok (.aload_n 0, 1) := by decide +kernel
theorem dX12_spreadAll_6 : decode cX12_spreadAll 6 = .ok (.invokevirtual 164, 3) := by decide +kernel
theorem dX12_spreadAll_9 : decode cX12_spreadAll 9 = .ok (.invokevirtual 168, 3) := by decide +kernel
theorem dX12_spreadAll_12 : decode cX12_spreadAll 12 = .ok (.return_, 1) := by decide +kernel
theorem dX12_inject_0 : decode cX12_inject 0 = .ok (.iload_n 1, 1) := by decide +kernel
theorem dX12_inject_1 : decode cX12_inject 1 = .ok (.iload_n 2, 1) := by decide +kernel
theorem dX12_inject_2 : decode cX12_inject 2 = .ok (.invokestatic 106, 3) := by decide +kernel
theorem dX12_inject_5 : decode cX12_inject 5 = .ok (.ifCond .eq 5, 3) := by decide +kernel
theorem dX12_inject_8 : decode cX12_inject 8 = .ok (.iconst (-1), 1) := by decide +kernel
theorem dX12_inject_9 : decode cX12_inject 9 = .ok (.ireturn, 1) := by decide +kernel
theorem dX12_inject_10 : decode cX12_inject 10 = .ok (.aload_n 0, 1) := by decide +kernel
theorem dX12_inject_11 : decode cX12_inject 11 = .ok (.iload_n 3, 1) := by decide +kernel
theorem dX12_inject_12 : decode cX12_inject 12 = .ok (.invokevirtual 122, 3) := by decide +kernel
theorem dX12_inject_15 : decode cX12_inject 15 = .ok (.ifCond .ne 12, 3) := by decide +kernel
theorem dX12_inject_18 : decode cX12_inject 18 = .ok (.aload_n 0, 1) := by decide +kernel
theorem dX12_inject_19 : decode cX12_inject 19 = .ok (.iload 4, 2) := by decide +kernel
theorem dX12_inject_21 : decode cX12_inject 21 = .ok (.invokevirtual 122, 3) := by decide +kernel
theorem dX12_inject_24 : decode cX12_inject 24 = .ok (.ifCond .eq 6, 3) := by decide +kernel
theorem dX12_inject_27 : decode cX12_inject 27 = .ok (.bipush (-3), 2) := by decide +kernel
theorem dX12_inject_29 : decode cX12_inject 29 = .ok (.ireturn, 1) := by decide +kernel
theorem dX12_inject_30 : decode cX12_inject 30 = .ok (.aload_n 0, 1) := by decide +kernel
theorem dX12_inject_31 : decode cX12_inject 31 = .ok (.iconst 4, 1) := by decide +kernel
theorem dX12_inject_32 : decode cX12_inject 32 = .ok (.iload_n 1, 1) := by decide +kernel
theorem dX12_inject_33 : decode cX12_inject 33 = .ok (.imul, 1) := by decide +kernel
theorem dX12_inject_34 : decode cX12_inject 34 = .ok (.iload_n 2, 1) := by decide +kernel
theorem dX12_inject_35 : decode cX12_inject 35 = .ok (.iadd, 1) := by decide +kernel
theorem dX12_inject_36 : decode cX12_inject 36 = .ok (.putfield 79, 3) := by decide +kernel
theorem dX12_inject_39 : decode cX12_inject 39 = .ok (.aload_n 0, 1) := by decide +kernel
theorem dX12_inject_40 : decode cX12_inject 40 = .ok (.iload_n 3, 1) := by decide +kernel
theorem dX12_inject_41 : decode cX12_inject 41 = .ok (.putfield 82, 3) := by decide +kernel
theorem dX12_inject_44 : decode cX12_inject 44 = .ok (.aload_n 0, 1) := by decide +kernel
theorem dX12_inject_45 : decode cX12_inject 45 = .ok (.iload 4, 2) := by decide +kernel
theorem dX12_inject_47 : decode cX12_inject 47 = .ok (.iload_n 3, 1) := by decide +kernel
theorem dX12_inject_48 : decode cX12_inject 48 = .ok (.iand, 1) := by decide +kernel
theorem dX12_inject_49 : decode cX12_inject 49 = .ok (.putfield 85, 3) := by decide +kernel
theorem dX12_inject_52 : decode cX12_inject 52 = .ok (.aload_n 0, 1) := by decide +kernel
theorem dX12_inject_53 : decode cX12_inject 53 = .ok (.invokevirtual 164, 3) := by decide +kernel
theorem dX12_inject_56 : decode cX12_inject 56 = .ok (.invokestatic 172, 3) := by decide +kernel
theorem dX12_inject_59 : decode cX12_inject 59 = .ok (.ireturn, 1) := by decide +kernel
theorem dX12_size_0 : decode cX12_size 0 = .ok (.iconst 0, 1) := by decide +kernel
theorem dX12_size_1 : decode cX12_size 1 = .ok (.istore_n 2, 1) := by decide +kernel
theorem dX12_size_2 : decode cX12_size 2 = .ok (.lload_n 0, 1) := by decide +kernel
theorem dX12_size_3 : decode cX12_size 3 = .ok (.lstore_n 3, 1) := by decide +kernel
theorem dX12_size_4 : decode cX12_size 4 = .ok (.lload_n 3, 1) := by decide +kernel
theorem dX12_size_5 : decode cX12_size 5 = .ok (.lconst 0, 1) := by decide +kernel
theorem dX12_size_6 : decode cX12_size 6 = .ok (.lcmp, 1) := by decide +kernel
theorem dX12_size_7 : decode cX12_size 7 = .ok (.ifCond .eq 15, 3) := by decide +kernel
theorem dX12_size_10 : decode cX12_size 10 = .ok (.iinc 2 1, 3) := by decide +kernel
theorem dX12_size_13 : decode cX12_size 13 = .ok (.lload_n 3, 1) := by decide +kernel
theorem dX12_size_14 : decode cX12_size 14 = .ok (.lload_n 3, 1) := by decide +kernel
theorem dX12_size_15 : decode cX12_size 15 = .ok (.lconst 1, 1) := by decide +kernel
theorem dX12_size_16 : decode cX12_size 16 = .ok (.lsub, 1) := by decide +kernel
theorem dX12_size_17 : decode cX12_size 17 = .ok (.land, 1) := by decide +kernel
theorem dX12_size_18 : decode cX12_size 18 = .ok (.lstore_n 3, 1) := by decide +kernel
theorem dX12_size_19 : decode cX12_size 19 = .ok (.goto (-15), 3) := by decide +kernel
theorem dX12_size_22 : decode cX12_size 22 = .ok (.iload_n 2, 1) := by decide +kernel
theorem dX12_size_23 : decode cX12_size 23 = .ok (.ireturn, 1) := by decide +kernel
theorem dX12_arriving_0 : decode cX12_arriving 0 = .ok (.iload_n 1, 1) := by decide +kernel
theorem dX12_arriving_1 : decode cX12_arriving 1 = .ok (.iload_n 2, 1) := by decide +kernel
theorem dX12_arriving_2 : decode cX12_arriving 2 = .ok (.invokestatic 106, 3) := by decide +kernel
theorem dX12_arriving_5 : decode cX12_arriving 5 = .ok (.ifCond .eq 7, 3) := by decide +kernel
theorem dX12_arriving_8 : decode cX12_arriving 8 = .ok (.invokestatic 176, 3) := by decide +kernel
theorem dX12_arriving_11 : decode cX12_arriving 11 = .ok (.lreturn, 1) := by decide +kernel
theorem dX12_arriving_12 : decode cX12_arriving 12 = .ok (.aload_n 0, 1) := by decide +kernel
theorem dX12_arriving_13 : decode cX12_arriving 13 = .ok (.invokevirtual 179, 3) := by decide +kernel
theorem dX12_arriving_16 : decode cX12_arriving 16 = .ok (.aload_n 0, 1) := by decide +kernel
theorem dX12_arriving_17 : decode cX12_arriving 17 = .ok (.getfield 22, 3) := by decide +kernel
theorem dX12_arriving_20 : decode cX12_arriving 20 = .ok (.iconst 4, 1) := by decide +kernel
theorem dX12_arriving_21 : decode cX12_arriving 21 = .ok (.iload_n 1, 1) := by decide +kernel
theorem dX12_arriving_22 : decode cX12_arriving 22 = .ok (.imul, 1) := by decide +kernel
theorem dX12_arriving_23 : decode cX12_arriving 23 = .ok (.iload_n 2, 1) := by decide +kernel
theorem dX12_arriving_24 : decode cX12_arriving 24 = .ok (.iadd, 1) := by decide +kernel
theorem dX12_arriving_25 : decode cX12_arriving 25 = .ok (.laload, 1) := by decide +kernel
theorem dX12_arriving_26 : decode cX12_arriving 26 = .ok (.lreturn, 1) := by decide +kernel
theorem dX12_delivered_0 : decode cX12_delivered 0 = .ok (.iload_n 1, 1) := by decide +kernel
theorem dX12_delivered_1 : decode cX12_delivered 1 = .ok (.iload_n 2, 1) := by decide +kernel
theorem dX12_delivered_2 : decode cX12_delivered 2 = .ok (.invokestatic 106, 3) := by decide +kernel
theorem dX12_delivered_5 : decode cX12_delivered 5 = .ok (.ifCond .eq 7, 3) := by decide +kernel
theorem dX12_delivered_8 : decode cX12_delivered 8 = .ok (.invokestatic 176, 3) := by decide +kernel
theorem dX12_delivered_11 : decode cX12_delivered 11 = .ok (.lreturn, 1) := by decide +kernel
theorem dX12_delivered_12 : decode cX12_delivered 12 = .ok (.aload_n 0, 1) := by decide +kernel
theorem dX12_delivered_13 : decode cX12_delivered 13 = .ok (.invokevirtual 179, 3) := by decide +kernel
theorem dX12_delivered_16 : decode cX12_delivered 16 = .ok (.aload_n 0, 1) := by decide +kernel
theorem dX12_delivered_17 : decode cX12_delivered 17 = .ok (.getfield 29, 3) := by decide +kernel
theorem dX12_delivered_20 : decode cX12_delivered 20 = .ok (.iconst 4, 1) := by decide +kernel
theorem dX12_delivered_21 : decode cX12_delivered 21 = .ok (.iload_n 1, 1) := by decide +kernel
theorem dX12_delivered_22 : decode cX12_delivered 22 = .ok (.imul, 1) := by decide +kernel
theorem dX12_delivered_23 : decode cX12_delivered 23 = .ok (.iload_n 2, 1) := by decide +kernel
theorem dX12_delivered_24 : decode cX12_delivered 24 = .ok (.iadd, 1) := by decide +kernel
theorem dX12_delivered_25 : decode cX12_delivered 25 = .ok (.laload, 1) := by decide +kernel
theorem dX12_delivered_26 : decode cX12_delivered 26 = .ok (.lreturn, 1) := by decide +kernel
theorem dX12_handledBy_0 : decode cX12_handledBy 0 = .ok (.iconst 0, 1) := by decide +kernel
theorem dX12_handledBy_1 : decode cX12_handledBy 1 = .ok (.istore_n 3, 1) := by decide +kernel
theorem dX12_handledBy_2 : decode cX12_handledBy 2 = .ok (.iconst 0, 1) := by decide +kernel
theorem dX12_handledBy_3 : decode cX12_handledBy 3 = .ok (.istore 4, 2) := by decide +kernel
theorem dX12_handledBy_5 : decode cX12_handledBy 5 = .ok (.iload 4, 2) := by decide +kernel
theorem dX12_handledBy_7 : decode cX12_handledBy 7 = .ok (.iconst 4, 1) := by decide +kernel
theorem dX12_handledBy_8 : decode cX12_handledBy 8 = .ok (.if_icmp .ge 69, 3) := by decide +kernel
theorem dX12_handledBy_11 : decode cX12_handledBy 11 = .ok (.iconst 0, 1) := by decide +kernel
theorem dX12_handledBy_12 : decode cX12_handledBy 12 = .ok (.istore 5, 2) := by decide +kernel
theorem dX12_handledBy_14 : decode cX12_handledBy 14 = .ok (.iload 5, 2) := by decide +kernel
theorem dX12_handledBy_16 : decode cX12_handledBy 16 = .ok (.aload_n 0, 1) := by decide +kernel
theorem dX12_handledBy_17 : decode cX12_handledBy 17 = .ok (.invokevirtual 98, 3) := by decide +kernel
theorem dX12_handledBy_20 : decode cX12_handledBy 20 = .ok (.if_icmp .ge 51, 3) := by decide +kernel
theorem dX12_handledBy_23 : decode cX12_handledBy 23 = .ok (.iload_n 3, 1) := by decide +kernel
theorem dX12_handledBy_24 : decode cX12_handledBy 24 = .ok (.aload_n 0, 1) := by decide +kernel
theorem dX12_handledBy_25 : decode cX12_handledBy 25 = .ok (.getfield 22, 3) := by decide +kernel
theorem dX12_handledBy_28 : decode cX12_handledBy 28 = .ok (.iconst 4, 1) := by decide +kernel
theorem dX12_handledBy_29 : decode cX12_handledBy 29 = .ok (.iload_n 1, 1) := by decide +kernel
theorem dX12_handledBy_30 : decode cX12_handledBy 30 = .ok (.imul, 1) := by decide +kernel
theorem dX12_handledBy_31 : decode cX12_handledBy 31 = .ok (.iload 4, 2) := by decide +kernel
theorem dX12_handledBy_33 : decode cX12_handledBy 33 = .ok (.iadd, 1) := by decide +kernel
theorem dX12_handledBy_34 : decode cX12_handledBy 34 = .ok (.laload, 1) := by decide +kernel
theorem dX12_handledBy_35 : decode cX12_handledBy 35 = .ok (.iload 5, 2) := by decide +kernel
theorem dX12_handledBy_37 : decode cX12_handledBy 37 = .ok (.lshr, 1) := by decide +kernel
theorem dX12_handledBy_38 : decode cX12_handledBy 38 = .ok (.lconst 1, 1) := by decide +kernel
theorem dX12_handledBy_39 : decode cX12_handledBy 39 = .ok (.land, 1) := by decide +kernel
theorem dX12_handledBy_40 : decode cX12_handledBy 40 = .ok (.lconst 1, 1) := by decide +kernel
theorem dX12_handledBy_41 : decode cX12_handledBy 41 = .ok (.lcmp, 1) := by decide +kernel
theorem dX12_handledBy_42 : decode cX12_handledBy 42 = .ok (.ifCond .ne 20, 3) := by decide +kernel
theorem dX12_handledBy_45 : decode cX12_handledBy 45 = .ok (.aload_n 0, 1) := by decide +kernel
theorem dX12_handledBy_46 : decode cX12_handledBy 46 = .ok (.iload_n 1, 1) := by decide +kernel
theorem dX12_handledBy_47 : decode cX12_handledBy 47 = .ok (.iload 4, 2) := by decide +kernel
theorem dX12_handledBy_49 : decode cX12_handledBy 49 = .ok (.iload 5, 2) := by decide +kernel
theorem dX12_handledBy_51 : decode cX12_handledBy 51 = .ok (.invokevirtual 150, 3) := by decide +kernel
theorem dX12_handledBy_54 : decode cX12_handledBy 54 = .ok (.iload_n 2, 1) := by decide +kernel
theorem dX12_handledBy_55 : decode cX12_handledBy 55 = .ok (.if_icmp .ne 7, 3) := by decide +kernel
theorem dX12_handledBy_58 : decode cX12_handledBy 58 = .ok (.iconst 1, 1) := by decide +kernel
theorem dX12_handledBy_59 : decode cX12_handledBy 59 = .ok (.goto 4, 3) := by decide +kernel
theorem dX12_handledBy_62 : decode cX12_handledBy 62 = .ok (.iconst 0, 1) := by decide +kernel
theorem dX12_handledBy_63 : decode cX12_handledBy 63 = .ok (.iadd, 1) := by decide +kernel
theorem dX12_handledBy_64 : decode cX12_handledBy 64 = .ok (.istore_n 3, 1) := by decide +kernel
theorem dX12_handledBy_65 : decode cX12_handledBy 65 = .ok (.iinc 5 1, 3) := by decide +kernel
theorem dX12_handledBy_68 : decode cX12_handledBy 68 = .ok (.goto (-54), 3) := by decide +kernel
theorem dX12_handledBy_71 : decode cX12_handledBy 71 = .ok (.iinc 4 1, 3) := by decide +kernel
theorem dX12_handledBy_74 : decode cX12_handledBy 74 = .ok (.goto (-69), 3) := by decide +kernel
theorem dX12_handledBy_77 : decode cX12_handledBy 77 = .ok (.iload_n 3, 1) := by decide +kernel
theorem dX12_handledBy_78 : decode cX12_handledBy 78 = .ok (.ireturn, 1) := by decide +kernel
theorem dX12_arrivals_0 : decode cX12_arrivals 0 = .ok (.iload_n 1, 1) := by decide +kernel
theorem dX12_arrivals_1 : decode cX12_arrivals 1 = .ok (.invokestatic 102, 3) := by decide +kernel
theorem dX12_arrivals_4 : decode cX12_arrivals 4 = .ok (.ifCond .eq 5, 3) := by decide +kernel
theorem dX12_arrivals_7 : decode cX12_arrivals 7 = .ok (.iconst (-1), 1) := by decide +kernel
theorem dX12_arrivals_8 : decode cX12_arrivals 8 = .ok (.ireturn, 1) := by decide +kernel
theorem dX12_arrivals_9 : decode cX12_arrivals 9 = .ok (.iload_n 2, 1) := by decide +kernel
theorem dX12_arrivals_10 : decode cX12_arrivals 10 = .ok (.iconst 0, 1) := by decide +kernel
theorem dX12_arrivals_11 : decode cX12_arrivals 11 = .ok (.iconst 2, 1) := by decide +kernel
theorem dX12_arrivals_12 : decode cX12_arrivals 12 = .ok (.invokestatic 94, 3) := by decide +kernel
theorem dX12_arrivals_15 : decode cX12_arrivals 15 = .ok (.ifCond .ne 6, 3) := by decide +kernel
theorem dX12_arrivals_18 : decode cX12_arrivals 18 = .ok (.bipush (-3), 2) := by decide +kernel
theorem dX12_arrivals_20 : decode cX12_arrivals 20 = .ok (.ireturn, 1) := by decide +kernel
theorem dX12_arrivals_21 : decode cX12_arrivals 21 = .ok (.aload_n 0, 1) := by decide +kernel
theorem dX12_arrivals_22 : decode cX12_arrivals 22 = .ok (.invokevirtual 179, 3) := by decide +kernel
theorem dX12_arrivals_25 : decode cX12_arrivals 25 = .ok (.aload_n 0, 1) := by decide +kernel
theorem dX12_arrivals_26 : decode cX12_arrivals 26 = .ok (.iload_n 1, 1) := by decide +kernel
theorem dX12_arrivals_27 : decode cX12_arrivals 27 = .ok (.iconst (-1), 1) := by decide +kernel
theorem dX12_arrivals_28 : decode cX12_arrivals 28 = .ok (.invokevirtual 182, 3) := by decide +kernel
theorem dX12_arrivals_31 : decode cX12_arrivals 31 = .ok (.istore_n 3, 1) := by decide +kernel
theorem dX12_arrivals_32 : decode cX12_arrivals 32 = .ok (.iload_n 2, 1) := by decide +kernel
theorem dX12_arrivals_33 : decode cX12_arrivals 33 = .ok (.iconst 2, 1) := by decide +kernel
theorem dX12_arrivals_34 : decode cX12_arrivals 34 = .ok (.if_icmp .ne 5, 3) := by decide +kernel
theorem dX12_arrivals_37 : decode cX12_arrivals 37 = .ok (.iload_n 3, 1) := by decide +kernel
theorem dX12_arrivals_38 : decode cX12_arrivals 38 = .ok (.ireturn, 1) := by decide +kernel
theorem dX12_arrivals_39 : decode cX12_arrivals 39 = .ok (.iload_n 2, 1) := by decide +kernel
theorem dX12_arrivals_40 : decode cX12_arrivals 40 = .ok (.ifCond .ne 7, 3) := by decide +kernel
theorem dX12_arrivals_43 : decode cX12_arrivals 43 = .ok (.iload_n 3, 1) := by decide +kernel
theorem dX12_arrivals_44 : decode cX12_arrivals 44 = .ok (.goto 4, 3) := by decide +kernel
theorem dX12_arrivals_47 : decode cX12_arrivals 47 = .ok (.iconst 0, 1) := by decide +kernel
theorem dX12_arrivals_48 : decode cX12_arrivals 48 = .ok (.istore 4, 2) := by decide +kernel
theorem dX12_arrivals_50 : decode cX12_arrivals 50 = .ok (.iconst 0, 1) := by decide +kernel
theorem dX12_arrivals_51 : decode cX12_arrivals 51 = .ok (.istore 5, 2) := by decide +kernel
theorem dX12_arrivals_53 : decode cX12_arrivals 53 = .ok (.iload 5, 2) := by decide +kernel
theorem dX12_arrivals_55 : decode cX12_arrivals 55 = .ok (.aload_n 0, 1) := by decide +kernel
theorem dX12_arrivals_56 : decode cX12_arrivals 56 = .ok (.iload_n 1, 1) := by decide +kernel
theorem dX12_arrivals_57 : decode cX12_arrivals 57 = .ok (.invokevirtual 110, 3) := by decide +kernel
theorem dX12_arrivals_60 : decode cX12_arrivals 60 = .ok (.if_icmp .ge 40, 3) := by decide +kernel
theorem dX12_arrivals_63 : decode cX12_arrivals 63 = .ok (.iload 4, 2) := by decide +kernel
theorem dX12_arrivals_65 : decode cX12_arrivals 65 = .ok (.iload_n 2, 1) := by decide +kernel
theorem dX12_arrivals_66 : decode cX12_arrivals 66 = .ok (.ifCond .eq 14, 3) := by decide +kernel
theorem dX12_arrivals_69 : decode cX12_arrivals 69 = .ok (.aload_n 0, 1) := by decide +kernel
theorem dX12_arrivals_70 : decode cX12_arrivals 70 = .ok (.iload_n 1, 1) := by decide +kernel
theorem dX12_arrivals_71 : decode cX12_arrivals 71 = .ok (.iload 5, 2) := by decide +kernel
theorem dX12_arrivals_73 : decode cX12_arrivals 73 = .ok (.iconst 3, 1) := by decide +kernel
theorem dX12_arrivals_74 : decode cX12_arrivals 74 = .ok (.invokevirtual 114, 3) := by decide +kernel
theorem dX12_arrivals_77 : decode cX12_arrivals 77 = .ok (.ifCond .ne 13, 3) := by decide +kernel
theorem dX12_arrivals_80 : decode cX12_arrivals 80 = .ok (.aload_n 0, 1) := by decide +kernel
theorem dX12_arrivals_81 : decode cX12_arrivals 81 = .ok (.iload_n 1, 1) := by decide +kernel
theorem dX12_arrivals_82 : decode cX12_arrivals 82 = .ok (.iload 5, 2) := by decide +kernel
theorem dX12_arrivals_84 : decode cX12_arrivals 84 = .ok (.invokevirtual 182, 3) := by decide +kernel
theorem dX12_arrivals_87 : decode cX12_arrivals 87 = .ok (.goto 4, 3) := by decide +kernel
theorem dX12_arrivals_90 : decode cX12_arrivals 90 = .ok (.iconst 0, 1) := by decide +kernel
theorem dX12_arrivals_91 : decode cX12_arrivals 91 = .ok (.iadd, 1) := by decide +kernel
theorem dX12_arrivals_92 : decode cX12_arrivals 92 = .ok (.istore 4, 2) := by decide +kernel
theorem dX12_arrivals_94 : decode cX12_arrivals 94 = .ok (.iinc 5 1, 3) := by decide +kernel
theorem dX12_arrivals_97 : decode cX12_arrivals 97 = .ok (.goto (-44), 3) := by decide +kernel
theorem dX12_arrivals_100 : decode cX12_arrivals 100 = .ok (.iload 4, 2) := by decide +kernel
theorem dX12_arrivals_102 : decode cX12_arrivals 102 = .ok (.ireturn, 1) := by decide +kernel
theorem dX12_hits_0 : decode cX12_hits 0 = .ok (.aload_n 0, 1) := by decide +kernel
theorem dX12_hits_1 : decode cX12_hits 1 = .ok (.iload_n 1, 1) := by decide +kernel
theorem dX12_hits_2 : decode cX12_hits 2 = .ok (.iload_n 2, 1) := by decide +kernel
theorem dX12_hits_3 : decode cX12_hits 3 = .ok (.invokevirtual 139, 3) := by decide +kernel
theorem dX12_hits_6 : decode cX12_hits 6 = .ok (.istore_n 3, 1) := by decide +kernel
theorem dX12_hits_7 : decode cX12_hits 7 = .ok (.iload_n 3, 1) := by decide +kernel
theorem dX12_hits_8 : decode cX12_hits 8 = .ok (.ifCond .ge 5, 3) := by decide +kernel
theorem dX12_hits_11 : decode cX12_hits 11 = .ok (.iload_n 3, 1) := by decide +kernel
theorem dX12_hits_12 : decode cX12_hits 12 = .ok (.ireturn, 1) := by decide +kernel
theorem dX12_hits_13 : decode cX12_hits 13 = .ok (.aload_n 0, 1) := by decide +kernel
theorem dX12_hits_14 : decode cX12_hits 14 = .ok (.invokevirtual 179, 3) := by decide +kernel
theorem dX12_hits_17 : decode cX12_hits 17 = .ok (.aload_n 0, 1) := by decide +kernel
theorem dX12_hits_18 : decode cX12_hits 18 = .ok (.iload_n 1, 1) := by decide +kernel
theorem dX12_hits_19 : decode cX12_hits 19 = .ok (.iload_n 2, 1) := by decide +kernel
theorem dX12_hits_20 : decode cX12_hits 20 = .ok (.invokevirtual 182, 3) := by decide +kernel
theorem dX12_hits_23 : decode cX12_hits 23 = .ok (.ireturn, 1) := by decide +kernel
theorem dX12_cubeOf_0 : decode cX12_cubeOf 0 = .ok (.lconst 0, 1) := by decide +kernel
theorem dX12_cubeOf_1 : decode cX12_cubeOf 1 = .ok (.lstore_n 3, 1) := by decide +kernel
theorem dX12_cubeOf_2 : decode cX12_cubeOf 2 = .ok (.iconst 0, 1) := by decide +kernel
theorem dX12_cubeOf_3 : decode cX12_cubeOf 3 = .ok (.istore 5, 2) := by decide +kernel
theorem dX12_cubeOf_5 : decode cX12_cubeOf 5 = .ok (.iload 5, 2) := by decide +kernel
theorem dX12_cubeOf_7 : decode cX12_cubeOf 7 = .ok (.aload_n 0, 1) := by decide +kernel
theorem dX12_cubeOf_8 : decode cX12_cubeOf 8 = .ok (.invokevirtual 98, 3) := by decide +kernel
theorem dX12_cubeOf_11 : decode cX12_cubeOf 11 = .ok (.if_icmp .ge 30, 3) := by decide +kernel
theorem dX12_cubeOf_14 : decode cX12_cubeOf 14 = .ok (.lload_n 3, 1) := by decide +kernel
theorem dX12_cubeOf_15 : decode cX12_cubeOf 15 = .ok (.iload 5, 2) := by decide +kernel
theorem dX12_cubeOf_17 : decode cX12_cubeOf 17 = .ok (.iload_n 1, 1) := by decide +kernel
theorem dX12_cubeOf_18 : decode cX12_cubeOf 18 = .ok (.iand, 1) := by decide +kernel
theorem dX12_cubeOf_19 : decode cX12_cubeOf 19 = .ok (.iload_n 2, 1) := by decide +kernel
theorem dX12_cubeOf_20 : decode cX12_cubeOf 20 = .ok (.iload_n 1, 1) := by decide +kernel
theorem dX12_cubeOf_21 : decode cX12_cubeOf 21 = .ok (.iand, 1) := by decide +kernel
theorem dX12_cubeOf_22 : decode cX12_cubeOf 22 = .ok (.if_icmp .ne 10, 3) := by decide +kernel
theorem dX12_cubeOf_25 : decode cX12_cubeOf 25 = .ok (.lconst 1, 1) := by decide +kernel
theorem dX12_cubeOf_26 : decode cX12_cubeOf 26 = .ok (.iload 5, 2) := by decide +kernel
theorem dX12_cubeOf_28 : decode cX12_cubeOf 28 = .ok (.lshl, 1) := by decide +kernel
theorem dX12_cubeOf_29 : decode cX12_cubeOf 29 = .ok (.goto 4, 3) := by decide +kernel
theorem dX12_cubeOf_32 : decode cX12_cubeOf 32 = .ok (.lconst 0, 1) := by decide +kernel
theorem dX12_cubeOf_33 : decode cX12_cubeOf 33 = .ok (.lor, 1) := by decide +kernel
theorem dX12_cubeOf_34 : decode cX12_cubeOf 34 = .ok (.lstore_n 3, 1) := by decide +kernel
theorem dX12_cubeOf_35 : decode cX12_cubeOf 35 = .ok (.iinc 5 1, 3) := by decide +kernel
theorem dX12_cubeOf_38 : decode cX12_cubeOf 38 = .ok (.goto (-33), 3) := by decide +kernel
theorem dX12_cubeOf_41 : decode cX12_cubeOf 41 = .ok (.lload_n 3, 1) := by decide +kernel
theorem dX12_cubeOf_42 : decode cX12_cubeOf 42 = .ok (.lreturn, 1) := by decide +kernel
theorem dX12_cube_0 : decode cX12_cube 0 = .ok (.iload_n 1, 1) := by decide +kernel
theorem dX12_cube_1 : decode cX12_cube 1 = .ok (.iload_n 2, 1) := by decide +kernel
theorem dX12_cube_2 : decode cX12_cube 2 = .ok (.invokestatic 106, 3) := by decide +kernel
theorem dX12_cube_5 : decode cX12_cube 5 = .ok (.ifCond .eq 5, 3) := by decide +kernel
theorem dX12_cube_8 : decode cX12_cube 8 = .ok (.iconst (-1), 1) := by decide +kernel
theorem dX12_cube_9 : decode cX12_cube 9 = .ok (.ireturn, 1) := by decide +kernel
theorem dX12_cube_10 : decode cX12_cube 10 = .ok (.iload_n 3, 1) := by decide +kernel
theorem dX12_cube_11 : decode cX12_cube 11 = .ok (.ifCond .lt 13, 3) := by decide +kernel
theorem dX12_cube_14 : decode cX12_cube 14 = .ok (.iload 4, 2) := by decide +kernel
theorem dX12_cube_16 : decode cX12_cube 16 = .ok (.iconst 0, 1) := by decide +kernel
theorem dX12_cube_17 : decode cX12_cube 17 = .ok (.iconst 1, 1) := by decide +kernel
theorem dX12_cube_18 : decode cX12_cube 18 = .ok (.invokestatic 94, 3) := by decide +kernel
theorem dX12_cube_21 : decode cX12_cube 21 = .ok (.ifCond .ne 6, 3) := by decide +kernel
theorem dX12_cube_24 : decode cX12_cube 24 = .ok (.bipush (-3), 2) := by decide +kernel
theorem dX12_cube_26 : decode cX12_cube 26 = .ok (.ireturn, 1) := by decide +kernel
theorem dX12_cube_27 : decode cX12_cube 27 = .ok (.aload_n 0, 1) := by decide +kernel
theorem dX12_cube_28 : decode cX12_cube 28 = .ok (.invokevirtual 179, 3) := by decide +kernel
theorem dX12_cube_31 : decode cX12_cube 31 = .ok (.aload_n 0, 1) := by decide +kernel
theorem dX12_cube_32 : decode cX12_cube 32 = .ok (.getfield 22, 3) := by decide +kernel
theorem dX12_cube_35 : decode cX12_cube 35 = .ok (.iconst 4, 1) := by decide +kernel
theorem dX12_cube_36 : decode cX12_cube 36 = .ok (.iload_n 1, 1) := by decide +kernel
theorem dX12_cube_37 : decode cX12_cube 37 = .ok (.imul, 1) := by decide +kernel
theorem dX12_cube_38 : decode cX12_cube 38 = .ok (.iload_n 2, 1) := by decide +kernel
theorem dX12_cube_39 : decode cX12_cube 39 = .ok (.iadd, 1) := by decide +kernel
theorem dX12_cube_40 : decode cX12_cube 40 = .ok (.laload, 1) := by decide +kernel
theorem dX12_cube_41 : decode cX12_cube 41 = .ok (.lstore 5, 2) := by decide +kernel
theorem dX12_cube_43 : decode cX12_cube 43 = .ok (.lload 5, 2) := by decide +kernel
theorem dX12_cube_45 : decode cX12_cube 45 = .ok (.lstore 7, 2) := by decide +kernel
theorem dX12_cube_47 : decode cX12_cube 47 = .ok (.iconst 0, 1) := by decide +kernel
theorem dX12_cube_48 : decode cX12_cube 48 = .ok (.istore 9, 2) := by decide +kernel
theorem dX12_cube_50 : decode cX12_cube 50 = .ok (.lload 7, 2) := by decide +kernel
theorem dX12_cube_52 : decode cX12_cube 52 = .ok (.lconst 0, 1) := by decide +kernel
theorem dX12_cube_53 : decode cX12_cube 53 = .ok (.lcmp, 1) := by decide +kernel
theorem dX12_cube_54 : decode cX12_cube 54 = .ok (.ifCond .eq 138, 3) := by decide +kernel
theorem dX12_cube_57 : decode cX12_cube 57 = .ok (.iconst 0, 1) := by decide +kernel
theorem dX12_cube_58 : decode cX12_cube 58 = .ok (.istore 10, 2) := by decide +kernel
theorem dX12_cube_60 : decode cX12_cube 60 = .ok (.lload 7, 2) := by decide +kernel
theorem dX12_cube_62 : decode cX12_cube 62 = .ok (.iload 10, 2) := by decide +kernel
theorem dX12_cube_64 : decode cX12_cube 64 = .ok (.lshr, 1) := by decide +kernel
theorem dX12_cube_65 : decode cX12_cube 65 = .ok (.lconst 1, 1) := by decide +kernel
theorem dX12_cube_66 : decode cX12_cube 66 = .ok (.land, 1) := by decide +kernel
theorem dX12_cube_67 : decode cX12_cube 67 = .ok (.lconst 0, 1) := by decide +kernel
theorem dX12_cube_68 : decode cX12_cube 68 = .ok (.lcmp, 1) := by decide +kernel
theorem dX12_cube_69 : decode cX12_cube 69 = .ok (.ifCond .ne 9, 3) := by decide +kernel
theorem dX12_cube_72 : decode cX12_cube 72 = .ok (.iinc 10 1, 3) := by decide +kernel
theorem dX12_cube_75 : decode cX12_cube 75 = .ok (.goto (-15), 3) := by decide +kernel
theorem dX12_cube_78 : decode cX12_cube 78 = .ok (.aload_n 0, 1) := by decide +kernel
theorem dX12_cube_79 : decode cX12_cube 79 = .ok (.invokevirtual 98, 3) := by decide +kernel
theorem dX12_cube_82 : decode cX12_cube 82 = .ok (.iconst 1, 1) := by decide +kernel
theorem dX12_cube_83 : decode cX12_cube 83 = .ok (.isub, 1) := by decide +kernel
theorem dX12_cube_84 : decode cX12_cube 84 = .ok (.istore 11, 2) := by decide +kernel
theorem dX12_cube_86 : decode cX12_cube 86 = .ok (.iconst 0, 1) := by decide +kernel
theorem dX12_cube_87 : decode cX12_cube 87 = .ok (.istore 12, 2) := by decide +kernel
theorem dX12_cube_89 : decode cX12_cube 89 = .ok (.iload 12, 2) := by decide +kernel
theorem dX12_cube_91 : decode cX12_cube 91 = .ok (.aload_n 0, 1) := by decide +kernel
theorem dX12_cube_92 : decode cX12_cube 92 = .ok (.getfield 67, 3) := by decide +kernel
theorem dX12_cube_95 : decode cX12_cube 95 = .ok (.if_icmp .ge 52, 3) := by decide +kernel
theorem dX12_cube_98 : decode cX12_cube 98 = .ok (.aload_n 0, 1) := by decide +kernel
theorem dX12_cube_99 : decode cX12_cube 99 = .ok (.iload 11, 2) := by decide +kernel
theorem dX12_cube_101 : decode cX12_cube 101 = .ok (.iconst 1, 1) := by decide +kernel
theorem dX12_cube_102 : decode cX12_cube 102 = .ok (.iload 12, 2) := by decide +kernel
theorem dX12_cube_104 : decode cX12_cube 104 = .ok (.ishl, 1) := by decide +kernel
theorem dX12_cube_105 : decode cX12_cube 105 = .ok (.iconst (-1), 1) := by decide +kernel
theorem dX12_cube_106 : decode cX12_cube 106 = .ok (.ixor, 1) := by decide +kernel
theorem dX12_cube_107 : decode cX12_cube 107 = .ok (.iand, 1) := by decide +kernel
theorem dX12_cube_108 : decode cX12_cube 108 = .ok (.iload 10, 2) := by decide +kernel
theorem dX12_cube_110 : decode cX12_cube 110 = .ok (.invokevirtual 185, 3) := by decide +kernel
theorem dX12_cube_113 : decode cX12_cube 113 = .ok (.lload 5, 2) := by decide +kernel
theorem dX12_cube_115 : decode cX12_cube 115 = .ok (.ldc2_w 159, 3) := by decide +kernel
theorem dX12_cube_118 : decode cX12_cube 118 = .ok (.lxor, 1) := by decide +kernel
theorem dX12_cube_119 : decode cX12_cube 119 = .ok (.land, 1) := by decide +kernel
theorem dX12_cube_120 : decode cX12_cube 120 = .ok (.lconst 0, 1) := by decide +kernel
theorem dX12_cube_121 : decode cX12_cube 121 = .ok (.lcmp, 1) := by decide +kernel
theorem dX12_cube_122 : decode cX12_cube 122 = .ok (.ifCond .ne 15, 3) := by decide +kernel
theorem dX12_cube_125 : decode cX12_cube 125 = .ok (.iload 11, 2) := by decide +kernel
theorem dX12_cube_127 : decode cX12_cube 127 = .ok (.iconst 1, 1) := by decide +kernel
theorem dX12_cube_128 : decode cX12_cube 128 = .ok (.iload 12, 2) := by decide +kernel
theorem dX12_cube_130 : decode cX12_cube 130 = .ok (.ishl, 1) := by decide +kernel
theorem dX12_cube_131 : decode cX12_cube 131 = .ok (.iconst (-1), 1) := by decide +kernel
theorem dX12_cube_132 : decode cX12_cube 132 = .ok (.ixor, 1) := by decide +kernel
theorem dX12_cube_133 : decode cX12_cube 133 = .ok (.iand, 1) := by decide +kernel
theorem dX12_cube_134 : decode cX12_cube 134 = .ok (.goto 5, 3) := by decide +kernel
theorem dX12_cube_137 : decode cX12_cube 137 = .ok (.iload 11, 2) := by decide +kernel
theorem dX12_cube_139 : decode cX12_cube 139 = .ok (.istore 11, 2) := by decide +kernel
theorem dX12_cube_141 : decode cX12_cube 141 = .ok (.iinc 12 1, 3) := by decide +kernel
theorem dX12_cube_144 : decode cX12_cube 144 = .ok (.goto (-55), 3) := by decide +kernel
theorem dX12_cube_147 : decode cX12_cube 147 = .ok (.iload 9, 2) := by decide +kernel
theorem dX12_cube_149 : decode cX12_cube 149 = .ok (.iload_n 3, 1) := by decide +kernel
theorem dX12_cube_150 : decode cX12_cube 150 = .ok (.if_icmp .ne 19, 3) := by decide +kernel
theorem dX12_cube_153 : decode cX12_cube 153 = .ok (.iload 4, 2) := by decide +kernel
theorem dX12_cube_155 : decode cX12_cube 155 = .ok (.ifCond .ne 8, 3) := by decide +kernel
theorem dX12_cube_158 : decode cX12_cube 158 = .ok (.iload 11, 2) := by decide +kernel
theorem dX12_cube_160 : decode cX12_cube 160 = .ok (.goto 8, 3) := by decide +kernel
theorem dX12_cube_163 : decode cX12_cube 163 = .ok (.iload 10, 2) := by decide +kernel
theorem dX12_cube_165 : decode cX12_cube 165 = .ok (.iload 11, 2) := by decide +kernel
theorem dX12_cube_167 : decode cX12_cube 167 = .ok (.iand, 1) := by decide +kernel
theorem dX12_cube_168 : decode cX12_cube 168 = .ok (.ireturn, 1) := by decide +kernel
theorem dX12_cube_169 : decode cX12_cube 169 = .ok (.lload 7, 2) := by decide +kernel
theorem dX12_cube_171 : decode cX12_cube 171 = .ok (.aload_n 0, 1) := by decide +kernel
theorem dX12_cube_172 : decode cX12_cube 172 = .ok (.iload 11, 2) := by decide +kernel
theorem dX12_cube_174 : decode cX12_cube 174 = .ok (.iload 10, 2) := by decide +kernel
theorem dX12_cube_176 : decode cX12_cube 176 = .ok (.invokevirtual 185, 3) := by decide +kernel
theorem dX12_cube_179 : decode cX12_cube 179 = .ok (.ldc2_w 159, 3) := by decide +kernel
theorem dX12_cube_182 : decode cX12_cube 182 = .ok (.lxor, 1) := by decide +kernel
theorem dX12_cube_183 : decode cX12_cube 183 = .ok (.land, 1) := by decide +kernel
theorem dX12_cube_184 : decode cX12_cube 184 = .ok (.lstore 7, 2) := by decide +kernel
theorem dX12_cube_186 : decode cX12_cube 186 = .ok (.iinc 9 1, 3) := by decide +kernel
theorem dX12_cube_189 : decode cX12_cube 189 = .ok (.goto (-139), 3) := by decide +kernel
theorem dX12_cube_192 : decode cX12_cube 192 = .ok (.bipush (-6), 2) := by decide +kernel
theorem dX12_cube_194 : decode cX12_cube 194 = .ok (.ireturn, 1) := by decide +kernel
theorem dX12_origin_0 : decode cX12_origin 0 = .ok (.iload_n 1, 1) := by decide +kernel
theorem dX12_origin_1 : decode cX12_origin 1 = .ok (.iload_n 2, 1) := by decide +kernel
theorem dX12_origin_2 : decode cX12_origin 2 = .ok (.invokestatic 106, 3) := by decide +kernel
theorem dX12_origin_5 : decode cX12_origin 5 = .ok (.ifCond .eq 5, 3) := by decide +kernel
theorem dX12_origin_8 : decode cX12_origin 8 = .ok (.iconst (-1), 1) := by decide +kernel
theorem dX12_origin_9 : decode cX12_origin 9 = .ok (.ireturn, 1) := by decide +kernel
theorem dX12_origin_10 : decode cX12_origin 10 = .ok (.aload_n 0, 1) := by decide +kernel
theorem dX12_origin_11 : decode cX12_origin 11 = .ok (.iload_n 3, 1) := by decide +kernel
theorem dX12_origin_12 : decode cX12_origin 12 = .ok (.invokevirtual 122, 3) := by decide +kernel
theorem dX12_origin_15 : decode cX12_origin 15 = .ok (.ifCond .eq 6, 3) := by decide +kernel
theorem dX12_origin_18 : decode cX12_origin 18 = .ok (.bipush (-3), 2) := by decide +kernel
theorem dX12_origin_20 : decode cX12_origin 20 = .ok (.ireturn, 1) := by decide +kernel
theorem dX12_origin_21 : decode cX12_origin 21 = .ok (.iconst 0, 1) := by decide +kernel
theorem dX12_origin_22 : decode cX12_origin 22 = .ok (.istore 4, 2) := by decide +kernel
theorem dX12_origin_24 : decode cX12_origin 24 = .ok (.iload 4, 2) := by decide +kernel
theorem dX12_origin_26 : decode cX12_origin 26 = .ok (.aload_n 0, 1) := by decide +kernel
theorem dX12_origin_27 : decode cX12_origin 27 = .ok (.invokevirtual 98, 3) := by decide +kernel
theorem dX12_origin_30 : decode cX12_origin 30 = .ok (.if_icmp .ge 52, 3) := by decide +kernel
theorem dX12_origin_33 : decode cX12_origin 33 = .ok (.aload_n 0, 1) := by decide +kernel
theorem dX12_origin_34 : decode cX12_origin 34 = .ok (.iload 4, 2) := by decide +kernel
theorem dX12_origin_36 : decode cX12_origin 36 = .ok (.invokevirtual 153, 3) := by decide +kernel
theorem dX12_origin_39 : decode cX12_origin 39 = .ok (.ifCond .eq 37, 3) := by decide +kernel
theorem dX12_origin_42 : decode cX12_origin 42 = .ok (.aload_n 0, 1) := by decide +kernel
theorem dX12_origin_43 : decode cX12_origin 43 = .ok (.aload_n 0, 1) := by decide +kernel
theorem dX12_origin_44 : decode cX12_origin 44 = .ok (.getfield 79, 3) := by decide +kernel
theorem dX12_origin_47 : decode cX12_origin 47 = .ok (.lconst 1, 1) := by decide +kernel
theorem dX12_origin_48 : decode cX12_origin 48 = .ok (.iload 4, 2) := by decide +kernel
theorem dX12_origin_50 : decode cX12_origin 50 = .ok (.lshl, 1) := by decide +kernel
theorem dX12_origin_51 : decode cX12_origin 51 = .ok (.invokevirtual 168, 3) := by decide +kernel
theorem dX12_origin_54 : decode cX12_origin 54 = .ok (.aload_n 0, 1) := by decide +kernel
theorem dX12_origin_55 : decode cX12_origin 55 = .ok (.getfield 22, 3) := by decide +kernel
theorem dX12_origin_58 : decode cX12_origin 58 = .ok (.iconst 4, 1) := by decide +kernel
theorem dX12_origin_59 : decode cX12_origin 59 = .ok (.iload_n 1, 1) := by decide +kernel
theorem dX12_origin_60 : decode cX12_origin 60 = .ok (.imul, 1) := by decide +kernel
theorem dX12_origin_61 : decode cX12_origin 61 = .ok (.iload_n 2, 1) := by decide +kernel
theorem dX12_origin_62 : decode cX12_origin 62 = .ok (.iadd, 1) := by decide +kernel
theorem dX12_origin_63 : decode cX12_origin 63 = .ok (.laload, 1) := by decide +kernel
theorem dX12_origin_64 : decode cX12_origin 64 = .ok (.iload_n 3, 1) := by decide +kernel
theorem dX12_origin_65 : decode cX12_origin 65 = .ok (.lshr, 1) := by decide +kernel
theorem dX12_origin_66 : decode cX12_origin 66 = .ok (.lconst 1, 1) := by decide +kernel
theorem dX12_origin_67 : decode cX12_origin 67 = .ok (.land, 1) := by decide +kernel
theorem dX12_origin_68 : decode cX12_origin 68 = .ok (.lconst 1, 1) := by decide +kernel
theorem dX12_origin_69 : decode cX12_origin 69 = .ok (.lcmp, 1) := by decide +kernel
theorem dX12_origin_70 : decode cX12_origin 70 = .ok (.ifCond .ne 6, 3) := by decide +kernel
theorem dX12_origin_73 : decode cX12_origin 73 = .ok (.iload 4, 2) := by decide +kernel
theorem dX12_origin_75 : decode cX12_origin 75 = .ok (.ireturn, 1) := by decide +kernel
theorem dX12_origin_76 : decode cX12_origin 76 = .ok (.iinc 4 1, 3) := by decide +kernel
theorem dX12_origin_79 : decode cX12_origin 79 = .ok (.goto (-55), 3) := by decide +kernel
theorem dX12_origin_82 : decode cX12_origin 82 = .ok (.bipush (-6), 2) := by decide +kernel
theorem dX12_origin_84 : decode cX12_origin 84 = .ok (.ireturn, 1) := by decide +kernel
theorem dX12_distance_0 : decode cX12_distance 0 = .ok (.aload_n 0, 1) := by decide +kernel
theorem dX12_distance_1 : decode cX12_distance 1 = .ok (.iload_n 1, 1) := by decide +kernel
theorem dX12_distance_2 : decode cX12_distance 2 = .ok (.invokevirtual 153, 3) := by decide +kernel
theorem dX12_distance_5 : decode cX12_distance 5 = .ok (.ifCond .ne 6, 3) := by decide +kernel
theorem dX12_distance_8 : decode cX12_distance 8 = .ok (.bipush (-3), 2) := by decide +kernel
theorem dX12_distance_10 : decode cX12_distance 10 = .ok (.ireturn, 1) := by decide +kernel
theorem dX12_distance_11 : decode cX12_distance 11 = .ok (.iload_n 2, 1) := by decide +kernel
theorem dX12_distance_12 : decode cX12_distance 12 = .ok (.iload_n 3, 1) := by decide +kernel
theorem dX12_distance_13 : decode cX12_distance 13 = .ok (.invokestatic 106, 3) := by decide +kernel
theorem dX12_distance_16 : decode cX12_distance 16 = .ok (.ifCond .eq 5, 3) := by decide +kernel
theorem dX12_distance_19 : decode cX12_distance 19 = .ok (.iconst (-1), 1) := by decide +kernel
theorem dX12_distance_20 : decode cX12_distance 20 = .ok (.ireturn, 1) := by decide +kernel
theorem dX12_distance_21 : decode cX12_distance 21 = .ok (.iconst 0, 1) := by decide +kernel
theorem dX12_distance_22 : decode cX12_distance 22 = .ok (.istore 4, 2) := by decide +kernel
theorem dX12_distance_24 : decode cX12_distance 24 = .ok (.iload 4, 2) := by decide +kernel
theorem dX12_distance_26 : decode cX12_distance 26 = .ok (.bipush 24, 2) := by decide +kernel
theorem dX12_distance_28 : decode cX12_distance 28 = .ok (.if_icmp .ge 25, 3) := by decide +kernel
theorem dX12_distance_31 : decode cX12_distance 31 = .ok (.aload_n 0, 1) := by decide +kernel
theorem dX12_distance_32 : decode cX12_distance 32 = .ok (.getfield 22, 3) := by decide +kernel
theorem dX12_distance_35 : decode cX12_distance 35 = .ok (.iload 4, 2) := by decide +kernel
theorem dX12_distance_37 : decode cX12_distance 37 = .ok (.lconst 0, 1) := by decide +kernel
theorem dX12_distance_38 : decode cX12_distance 38 = .ok (.lastore, 1) := by decide +kernel
theorem dX12_distance_39 : decode cX12_distance 39 = .ok (.aload_n 0, 1) := by decide +kernel
theorem dX12_distance_40 : decode cX12_distance 40 = .ok (.getfield 26, 3) := by decide +kernel
theorem dX12_distance_43 : decode cX12_distance 43 = .ok (.iload 4, 2) := by decide +kernel
theorem dX12_distance_45 : decode cX12_distance 45 = .ok (.lconst 0, 1) := by decide +kernel
theorem dX12_distance_46 : decode cX12_distance 46 = .ok (.lastore, 1) := by decide +kernel
theorem dX12_distance_47 : decode cX12_distance 47 = .ok (.iinc 4 1, 3) := by decide +kernel
theorem dX12_distance_50 : decode cX12_distance 50 = .ok (.goto (-26), 3) := by decide +kernel
theorem dX12_distance_53 : decode cX12_distance 53 = .ok (.aload_n 0, 1) := by decide +kernel
theorem dX12_distance_54 : decode cX12_distance 54 = .ok (.getfield 22, 3) := by decide +kernel
theorem dX12_distance_57 : decode cX12_distance 57 = .ok (.aload_n 0, 1) := by decide +kernel
theorem dX12_distance_58 : decode cX12_distance 58 = .ok (.getfield 79, 3) := by decide +kernel
theorem dX12_distance_61 : decode cX12_distance 61 = .ok (.lconst 1, 1) := by decide +kernel
theorem dX12_distance_62 : decode cX12_distance 62 = .ok (.iload_n 1, 1) := by decide +kernel
theorem dX12_distance_63 : decode cX12_distance 63 = .ok (.lshl, 1) := by decide +kernel
theorem dX12_distance_64 : decode cX12_distance 64 = .ok (.lastore, 1) := by decide +kernel
theorem dX12_distance_65 : decode cX12_distance 65 = .ok (.iconst 1, 1) := by decide +kernel
theorem dX12_distance_66 : decode cX12_distance 66 = .ok (.istore 4, 2) := by decide +kernel
theorem dX12_distance_68 : decode cX12_distance 68 = .ok (.iconst 0, 1) := by decide +kernel
theorem dX12_distance_69 : decode cX12_distance 69 = .ok (.istore 5, 2) := by decide +kernel
theorem dX12_distance_71 : decode cX12_distance 71 = .ok (.iload 4, 2) := by decide +kernel
theorem dX12_distance_73 : decode cX12_distance 73 = .ok (.ifCond .eq 172, 3) := by decide +kernel
theorem dX12_distance_76 : decode cX12_distance 76 = .ok (.aload_n 0, 1) := by decide +kernel
theorem dX12_distance_77 : decode cX12_distance 77 = .ok (.getfield 22, 3) := by decide +kernel
theorem dX12_distance_80 : decode cX12_distance 80 = .ok (.iconst 4, 1) := by decide +kernel
theorem dX12_distance_81 : decode cX12_distance 81 = .ok (.iload_n 2, 1) := by decide +kernel
theorem dX12_distance_82 : decode cX12_distance 82 = .ok (.imul, 1) := by decide +kernel
theorem dX12_distance_83 : decode cX12_distance 83 = .ok (.iload_n 3, 1) := by decide +kernel
theorem dX12_distance_84 : decode cX12_distance 84 = .ok (.iadd, 1) := by decide +kernel
theorem dX12_distance_85 : decode cX12_distance 85 = .ok (.laload, 1) := by decide +kernel
theorem dX12_distance_86 : decode cX12_distance 86 = .ok (.lconst 0, 1) := by decide +kernel
theorem dX12_distance_87 : decode cX12_distance 87 = .ok (.lcmp, 1) := by decide +kernel
theorem dX12_distance_88 : decode cX12_distance 88 = .ok (.ifCond .eq 6, 3) := by decide +kernel
theorem dX12_distance_91 : decode cX12_distance 91 = .ok (.iload 5, 2) := by decide +kernel
theorem dX12_distance_93 : decode cX12_distance 93 = .ok (.ireturn, 1) := by decide +kernel
theorem dX12_distance_94 : decode cX12_distance 94 = .ok (.iconst 0, 1) := by decide +kernel
theorem dX12_distance_95 : decode cX12_distance 95 = .ok (.istore 4, 2) := by decide +kernel
theorem dX12_distance_97 : decode cX12_distance 97 = .ok (.iconst 0, 1) := by decide +kernel
theorem dX12_distance_98 : decode cX12_distance 98 = .ok (.istore 6, 2) := by decide +kernel
theorem dX12_distance_100 : decode cX12_distance 100 = .ok (.iload 6, 2) := by decide +kernel
theorem dX12_distance_102 : decode cX12_distance 102 = .ok (.bipush 24, 2) := by decide +kernel
theorem dX12_distance_104 : decode cX12_distance 104 = .ok (.if_icmp .ge 76, 3) := by decide +kernel
theorem dX12_distance_107 : decode cX12_distance 107 = .ok (.aload_n 0, 1) := by decide +kernel
theorem dX12_distance_108 : decode cX12_distance 108 = .ok (.getfield 32, 3) := by decide +kernel
theorem dX12_distance_111 : decode cX12_distance 111 = .ok (.iload 6, 2) := by decide +kernel
theorem dX12_distance_113 : decode cX12_distance 113 = .ok (.aload_n 0, 1) := by decide +kernel
theorem dX12_distance_114 : decode cX12_distance 114 = .ok (.getfield 22, 3) := by decide +kernel
theorem dX12_distance_117 : decode cX12_distance 117 = .ok (.iload 6, 2) := by decide +kernel
theorem dX12_distance_119 : decode cX12_distance 119 = .ok (.laload, 1) := by decide +kernel
theorem dX12_distance_120 : decode cX12_distance 120 = .ok (.aload_n 0, 1) := by decide +kernel
theorem dX12_distance_121 : decode cX12_distance 121 = .ok (.getfield 26, 3) := by decide +kernel
theorem dX12_distance_124 : decode cX12_distance 124 = .ok (.iload 6, 2) := by decide +kernel
theorem dX12_distance_126 : decode cX12_distance 126 = .ok (.laload, 1) := by decide +kernel
theorem dX12_distance_127 : decode cX12_distance 127 = .ok (.ldc2_w 159, 3) := by decide +kernel
theorem dX12_distance_130 : decode cX12_distance 130 = .ok (.lxor, 1) := by decide +kernel
theorem dX12_distance_131 : decode cX12_distance 131 = .ok (.land, 1) := by decide +kernel
theorem dX12_distance_132 : decode cX12_distance 132 = .ok (.lastore, 1) := by decide +kernel
theorem dX12_distance_133 : decode cX12_distance 133 = .ok (.aload_n 0, 1) := by decide +kernel
theorem dX12_distance_134 : decode cX12_distance 134 = .ok (.getfield 26, 3) := by decide +kernel
theorem dX12_distance_137 : decode cX12_distance 137 = .ok (.iload 6, 2) := by decide +kernel
theorem dX12_distance_139 : decode cX12_distance 139 = .ok (.dup2, 1) := by decide +kernel
theorem dX12_distance_140 : decode cX12_distance 140 = .ok (.laload, 1) := by decide +kernel
theorem dX12_distance_141 : decode cX12_distance 141 = .ok (.aload_n 0, 1) := by decide +kernel
theorem dX12_distance_142 : decode cX12_distance 142 = .ok (.getfield 32, 3) := by decide +kernel
theorem dX12_distance_145 : decode cX12_distance 145 = .ok (.iload 6, 2) := by decide +kernel
theorem dX12_distance_147 : decode cX12_distance 147 = .ok (.laload, 1) := by decide +kernel
theorem dX12_distance_148 : decode cX12_distance 148 = .ok (.lor, 1) := by decide +kernel
theorem dX12_distance_149 : decode cX12_distance 149 = .ok (.lastore, 1) := by decide +kernel
theorem dX12_distance_150 : decode cX12_distance 150 = .ok (.iload 4, 2) := by decide +kernel
theorem dX12_distance_152 : decode cX12_distance 152 = .ok (.ifCond .ne 15, 3) := by decide +kernel
theorem dX12_distance_155 : decode cX12_distance 155 = .ok (.aload_n 0, 1) := by decide +kernel
theorem dX12_distance_156 : decode cX12_distance 156 = .ok (.getfield 32, 3) := by decide +kernel
theorem dX12_distance_159 : decode cX12_distance 159 = .ok (.iload 6, 2) := by decide +kernel
theorem dX12_distance_161 : decode cX12_distance 161 = .ok (.laload, 1) := by decide +kernel
theorem dX12_distance_162 : decode cX12_distance 162 = .ok (.lconst 0, 1) := by decide +kernel
theorem dX12_distance_163 : decode cX12_distance 163 = .ok (.lcmp, 1) := by decide +kernel
theorem dX12_distance_164 : decode cX12_distance 164 = .ok (.ifCond .eq 7, 3) := by decide +kernel
theorem dX12_distance_167 : decode cX12_distance 167 = .ok (.iconst 1, 1) := by decide +kernel
theorem dX12_distance_168 : decode cX12_distance 168 = .ok (.goto 4, 3) := by decide +kernel
theorem dX12_distance_171 : decode cX12_distance 171 = .ok (.iconst 0, 1) := by decide +kernel
theorem dX12_distance_172 : decode cX12_distance 172 = .ok (.istore 4, 2) := by decide +kernel
theorem dX12_distance_174 : decode cX12_distance 174 = .ok (.iinc 6 1, 3) := by decide +kernel
theorem dX12_distance_177 : decode cX12_distance 177 = .ok (.goto (-77), 3) := by decide +kernel
theorem dX12_distance_180 : decode cX12_distance 180 = .ok (.iconst 0, 1) := by decide +kernel
theorem dX12_distance_181 : decode cX12_distance 181 = .ok (.istore 6, 2) := by decide +kernel
theorem dX12_distance_183 : decode cX12_distance 183 = .ok (.iload 6, 2) := by decide +kernel
theorem dX12_distance_185 : decode cX12_distance 185 = .ok (.bipush 24, 2) := by decide +kernel
theorem dX12_distance_187 : decode cX12_distance 187 = .ok (.if_icmp .ge 52, 3) := by decide +kernel
theorem dX12_distance_190 : decode cX12_distance 190 = .ok (.iconst 0, 1) := by decide +kernel
theorem dX12_distance_191 : decode cX12_distance 191 = .ok (.istore 7, 2) := by decide +kernel
theorem dX12_distance_193 : decode cX12_distance 193 = .ok (.iload 7, 2) := by decide +kernel
theorem dX12_distance_195 : decode cX12_distance 195 = .ok (.aload_n 0, 1) := by decide +kernel
theorem dX12_distance_196 : decode cX12_distance 196 = .ok (.invokevirtual 98, 3) := by decide +kernel
theorem dX12_distance_199 : decode cX12_distance 199 = .ok (.if_icmp .ge 34, 3) := by decide +kernel
theorem dX12_distance_202 : decode cX12_distance 202 = .ok (.aload_n 0, 1) := by decide +kernel
theorem dX12_distance_203 : decode cX12_distance 203 = .ok (.getfield 32, 3) := by decide +kernel
theorem dX12_distance_206 : decode cX12_distance 206 = .ok (.iload 6, 2) := by decide +kernel
theorem dX12_distance_208 : decode cX12_distance 208 = .ok (.laload, 1) := by decide +kernel
theorem dX12_distance_209 : decode cX12_distance 209 = .ok (.iload 7, 2) := by decide +kernel
theorem dX12_distance_211 : decode cX12_distance 211 = .ok (.lshr, 1) := by decide +kernel
theorem dX12_distance_212 : decode cX12_distance 212 = .ok (.lconst 1, 1) := by decide +kernel
theorem dX12_distance_213 : decode cX12_distance 213 = .ok (.land, 1) := by decide +kernel
theorem dX12_distance_214 : decode cX12_distance 214 = .ok (.lconst 1, 1) := by decide +kernel
theorem dX12_distance_215 : decode cX12_distance 215 = .ok (.lcmp, 1) := by decide +kernel
theorem dX12_distance_216 : decode cX12_distance 216 = .ok (.ifCond .ne 11, 3) := by decide +kernel
theorem dX12_distance_219 : decode cX12_distance 219 = .ok (.aload_n 0, 1) := by decide +kernel
theorem dX12_distance_220 : decode cX12_distance 220 = .ok (.iload 6, 2) := by decide +kernel
theorem dX12_distance_222 : decode cX12_distance 222 = .ok (.iload 7, 2) := by decide +kernel
theorem dX12_distance_224 : decode cX12_distance 224 = .ok (.invokevirtual 161, 3) := by decide +kernel
theorem dX12_distance_227 : decode cX12_distance 227 = .ok (.iinc 7 1, 3) := by decide +kernel
theorem dX12_distance_230 : decode cX12_distance 230 = .ok (.goto (-37), 3) := by decide +kernel
theorem dX12_distance_233 : decode cX12_distance 233 = .ok (.iinc 6 1, 3) := by decide +kernel
theorem dX12_distance_236 : decode cX12_distance 236 = .ok (.goto (-53), 3) := by decide +kernel
theorem dX12_distance_239 : decode cX12_distance 239 = .ok (.iinc 5 1, 3) := by decide +kernel
theorem dX12_distance_242 : decode cX12_distance 242 = .ok (.goto (-171), 3) := by decide +kernel
theorem dX12_distance_245 : decode cX12_distance 245 = .ok (.bipush (-6), 2) := by decide +kernel
theorem dX12_distance_247 : decode cX12_distance 247 = .ok (.ireturn, 1) := by decide +kernel
theorem dX12_wasThere_0 : decode cX12_wasThere 0 = .ok (.iconst 0, 1) := by decide +kernel
theorem dX12_wasThere_1 : decode cX12_wasThere 1 = .ok (.istore_n 2, 1) := by decide +kernel
theorem dX12_wasThere_2 : decode cX12_wasThere 2 = .ok (.iload_n 2, 1) := by decide +kernel
theorem dX12_wasThere_3 : decode cX12_wasThere 3 = .ok (.aload_n 0, 1) := by decide +kernel
theorem dX12_wasThere_4 : decode cX12_wasThere 4 = .ok (.getfield 189, 3) := by decide +kernel
theorem dX12_wasThere_7 : decode cX12_wasThere 7 = .ok (.if_icmp .ge 21, 3) := by decide +kernel
theorem dX12_wasThere_10 : decode cX12_wasThere 10 = .ok (.aload_n 0, 1) := by decide +kernel
theorem dX12_wasThere_11 : decode cX12_wasThere 11 = .ok (.getfield 35, 3) := by decide +kernel
theorem dX12_wasThere_14 : decode cX12_wasThere 14 = .ok (.iload_n 2, 1) := by decide +kernel
theorem dX12_wasThere_15 : decode cX12_wasThere 15 = .ok (.iaload, 1) := by decide +kernel
theorem dX12_wasThere_16 : decode cX12_wasThere 16 = .ok (.iload_n 1, 1) := by decide +kernel
theorem dX12_wasThere_17 : decode cX12_wasThere 17 = .ok (.if_icmp .ne 5, 3) := by decide +kernel
theorem dX12_wasThere_20 : decode cX12_wasThere 20 = .ok (.iconst 1, 1) := by decide +kernel
theorem dX12_wasThere_21 : decode cX12_wasThere 21 = .ok (.ireturn, 1) := by decide +kernel
theorem dX12_wasThere_22 : decode cX12_wasThere 22 = .ok (.iinc 2 1, 3) := by decide +kernel
theorem dX12_wasThere_25 : decode cX12_wasThere 25 = .ok (.goto (-23), 3) := by decide +kernel
theorem dX12_wasThere_28 : decode cX12_wasThere 28 = .ok (.iconst 0, 1) := by decide +kernel
theorem dX12_wasThere_29 : decode cX12_wasThere 29 = .ok (.ireturn, 1) := by decide +kernel
theorem dX12_follow_0 : decode cX12_follow 0 = .ok (.aload_n 0, 1) := by decide +kernel
theorem dX12_follow_1 : decode cX12_follow 1 = .ok (.iconst 0, 1) := by decide +kernel
theorem dX12_follow_2 : decode cX12_follow 2 = .ok (.putfield 189, 3) := by decide +kernel
theorem dX12_follow_5 : decode cX12_follow 5 = .ok (.aload_n 0, 1) := by decide +kernel
theorem dX12_follow_6 : decode cX12_follow 6 = .ok (.getfield 79, 3) := by decide +kernel
theorem dX12_follow_9 : decode cX12_follow 9 = .ok (.istore_n 2, 1) := by decide +kernel
theorem dX12_follow_10 : decode cX12_follow 10 = .ok (.iload_n 1, 1) := by decide +kernel
theorem dX12_follow_11 : decode cX12_follow 11 = .ok (.istore_n 3, 1) := by decide +kernel
theorem dX12_follow_12 : decode cX12_follow 12 = .ok (.iconst 1, 1) := by decide +kernel
theorem dX12_follow_13 : decode cX12_follow 13 = .ok (.istore 4, 2) := by decide +kernel
theorem dX12_follow_15 : decode cX12_follow 15 = .ok (.iload 4, 2) := by decide +kernel
theorem dX12_follow_17 : decode cX12_follow 17 = .ok (.ifCond .eq 178, 3) := by decide +kernel
theorem dX12_follow_20 : decode cX12_follow 20 = .ok (.aload_n 0, 1) := by decide +kernel
theorem dX12_follow_21 : decode cX12_follow 21 = .ok (.getfield 35, 3) := by decide +kernel
theorem dX12_follow_24 : decode cX12_follow 24 = .ok (.aload_n 0, 1) := by decide +kernel
theorem dX12_follow_25 : decode cX12_follow 25 = .ok (.getfield 189, 3) := by decide +kernel
theorem dX12_follow_28 : decode cX12_follow 28 = .ok (.bipush 32, 2) := by decide +kernel
theorem dX12_follow_30 : decode cX12_follow 30 = .ok (.iload_n 2, 1) := by decide +kernel
theorem dX12_follow_31 : decode cX12_follow 31 = .ok (.imul, 1) := by decide +kernel
theorem dX12_follow_32 : decode cX12_follow 32 = .ok (.iload_n 3, 1) := by decide +kernel
theorem dX12_follow_33 : decode cX12_follow 33 = .ok (.iadd, 1) := by decide +kernel
theorem dX12_follow_34 : decode cX12_follow 34 = .ok (.iastore, 1) := by decide +kernel
theorem dX12_follow_35 : decode cX12_follow 35 = .ok (.aload_n 0, 1) := by decide +kernel
theorem dX12_follow_36 : decode cX12_follow 36 = .ok (.dup, 1) := by decide +kernel
theorem dX12_follow_37 : decode cX12_follow 37 = .ok (.getfield 189, 3) := by decide +kernel
theorem dX12_follow_40 : decode cX12_follow 40 = .ok (.iconst 1, 1) := by decide +kernel
theorem dX12_follow_41 : decode cX12_follow 41 = .ok (.iadd, 1) := by decide +kernel
theorem dX12_follow_42 : decode cX12_follow 42 = .ok (.putfield 189, 3) := by decide +kernel
theorem dX12_follow_45 : decode cX12_follow 45 = .ok (.iload_n 2, 1) := by decide +kernel
theorem dX12_follow_46 : decode cX12_follow 46 = .ok (.iconst 4, 1) := by decide +kernel
theorem dX12_follow_47 : decode cX12_follow 47 = .ok (.idiv, 1) := by decide +kernel
theorem dX12_follow_48 : decode cX12_follow 48 = .ok (.istore 5, 2) := by decide +kernel
theorem dX12_follow_50 : decode cX12_follow 50 = .ok (.aload_n 0, 1) := by decide +kernel
theorem dX12_follow_51 : decode cX12_follow 51 = .ok (.iload 5, 2) := by decide +kernel
theorem dX12_follow_53 : decode cX12_follow 53 = .ok (.iload_n 2, 1) := by decide +kernel
theorem dX12_follow_54 : decode cX12_follow 54 = .ok (.iconst 4, 1) := by decide +kernel
theorem dX12_follow_55 : decode cX12_follow 55 = .ok (.irem, 1) := by decide +kernel
theorem dX12_follow_56 : decode cX12_follow 56 = .ok (.iload_n 3, 1) := by decide +kernel
theorem dX12_follow_57 : decode cX12_follow 57 = .ok (.invokevirtual 150, 3) := by decide +kernel
theorem dX12_follow_60 : decode cX12_follow 60 = .ok (.istore 6, 2) := by decide +kernel
theorem dX12_follow_62 : decode cX12_follow 62 = .ok (.iload 6, 2) := by decide +kernel
theorem dX12_follow_64 : decode cX12_follow 64 = .ok (.ifCond .ge 7, 3) := by decide +kernel
theorem dX12_follow_67 : decode cX12_follow 67 = .ok (.iconst 0, 1) := by decide +kernel
theorem dX12_follow_68 : decode cX12_follow 68 = .ok (.goto 12, 3) := by decide +kernel
theorem dX12_follow_71 : decode cX12_follow 71 = .ok (.aload_n 0, 1) := by decide +kernel
theorem dX12_follow_72 : decode cX12_follow 72 = .ok (.iload 5, 2) := by decide +kernel
theorem dX12_follow_74 : decode cX12_follow 74 = .ok (.iload 6, 2) := by decide +kernel
theorem dX12_follow_76 : decode cX12_follow 76 = .ok (.iconst 3, 1) := by decide +kernel
theorem dX12_follow_77 : decode cX12_follow 77 = .ok (.invokevirtual 114, 3) := by decide +kernel
theorem dX12_follow_80 : decode cX12_follow 80 = .ok (.istore 7, 2) := by decide +kernel
theorem dX12_follow_82 : decode cX12_follow 82 = .ok (.iload 7, 2) := by decide +kernel
theorem dX12_follow_84 : decode cX12_follow 84 = .ok (.ifCond .eq 7, 3) := by decide +kernel
theorem dX12_follow_87 : decode cX12_follow 87 = .ok (.iconst 1, 1) := by decide +kernel
theorem dX12_follow_88 : decode cX12_follow 88 = .ok (.goto 4, 3) := by decide +kernel
theorem dX12_follow_91 : decode cX12_follow 91 = .ok (.iconst 0, 1) := by decide +kernel
theorem dX12_follow_92 : decode cX12_follow 92 = .ok (.istore 4, 2) := by decide +kernel
theorem dX12_follow_94 : decode cX12_follow 94 = .ok (.aload_n 0, 1) := by decide +kernel
theorem dX12_follow_95 : decode cX12_follow 95 = .ok (.iload 6, 2) := by decide +kernel
theorem dX12_follow_97 : decode cX12_follow 97 = .ok (.ifCond .ge 7, 3) := by decide +kernel
theorem dX12_follow_100 : decode cX12_follow 100 = .ok (.iconst 2, 1) := by decide +kernel
theorem dX12_follow_101 : decode cX12_follow 101 = .ok (.goto 4, 3) := by decide +kernel
theorem dX12_follow_104 : decode cX12_follow 104 = .ok (.iconst 1, 1) := by decide +kernel
theorem dX12_follow_105 : decode cX12_follow 105 = .ok (.putfield 192, 3) := by decide +kernel
theorem dX12_follow_108 : decode cX12_follow 108 = .ok (.iload 4, 2) := by decide +kernel
theorem dX12_follow_110 : decode cX12_follow 110 = .ok (.ifCond .eq 82, 3) := by decide +kernel
theorem dX12_follow_113 : decode cX12_follow 113 = .ok (.iconst 0, 1) := by decide +kernel
theorem dX12_follow_114 : decode cX12_follow 114 = .ok (.istore 8, 2) := by decide +kernel
theorem dX12_follow_116 : decode cX12_follow 116 = .ok (.iload 7, 2) := by decide +kernel
theorem dX12_follow_118 : decode cX12_follow 118 = .ok (.iload 8, 2) := by decide +kernel
theorem dX12_follow_120 : decode cX12_follow 120 = .ok (.ishr, 1) := by decide +kernel
theorem dX12_follow_121 : decode cX12_follow 121 = .ok (.iconst 1, 1) := by decide +kernel
theorem dX12_follow_122 : decode cX12_follow 122 = .ok (.iand, 1) := by decide +kernel
theorem dX12_follow_123 : decode cX12_follow 123 = .ok (.ifCond .ne 9, 3) := by decide +kernel
theorem dX12_follow_126 : decode cX12_follow 126 = .ok (.iinc 8 1, 3) := by decide +kernel
theorem dX12_follow_129 : decode cX12_follow 129 = .ok (.goto (-13), 3) := by decide +kernel
theorem dX12_follow_132 : decode cX12_follow 132 = .ok (.aload_n 0, 1) := by decide +kernel
theorem dX12_follow_133 : decode cX12_follow 133 = .ok (.iload 5, 2) := by decide +kernel
theorem dX12_follow_135 : decode cX12_follow 135 = .ok (.iload 6, 2) := by decide +kernel
theorem dX12_follow_137 : decode cX12_follow 137 = .ok (.iload_n 3, 1) := by decide +kernel
theorem dX12_follow_138 : decode cX12_follow 138 = .ok (.invokevirtual 156, 3) := by decide +kernel
theorem dX12_follow_141 : decode cX12_follow 141 = .ok (.istore_n 3, 1) := by decide +kernel
theorem dX12_follow_142 : decode cX12_follow 142 = .ok (.aload_n 0, 1) := by decide +kernel
theorem dX12_follow_143 : decode cX12_follow 143 = .ok (.getfield 7, 3) := by decide +kernel
theorem dX12_follow_146 : decode cX12_follow 146 = .ok (.iconst 4, 1) := by decide +kernel
theorem dX12_follow_147 : decode cX12_follow 147 = .ok (.iload 5, 2) := by decide +kernel
theorem dX12_follow_149 : decode cX12_follow 149 = .ok (.imul, 1) := by decide +kernel
theorem dX12_follow_150 : decode cX12_follow 150 = .ok (.iload 8, 2) := by decide +kernel
theorem dX12_follow_152 : decode cX12_follow 152 = .ok (.iadd, 1) := by decide +kernel
theorem dX12_follow_153 : decode cX12_follow 153 = .ok (.iaload, 1) := by decide +kernel
theorem dX12_follow_154 : decode cX12_follow 154 = .ok (.istore_n 2, 1) := by decide +kernel
theorem dX12_follow_155 : decode cX12_follow 155 = .ok (.aload_n 0, 1) := by decide +kernel
theorem dX12_follow_156 : decode cX12_follow 156 = .ok (.iload_n 2, 1) := by decide +kernel
theorem dX12_follow_157 : decode cX12_follow 157 = .ok (.ifCond .ge 7, 3) := by decide +kernel
theorem dX12_follow_160 : decode cX12_follow 160 = .ok (.iconst 0, 1) := by decide +kernel
theorem dX12_follow_161 : decode cX12_follow 161 = .ok (.goto 4, 3) := by decide +kernel
theorem dX12_follow_164 : decode cX12_follow 164 = .ok (.iconst 3, 1) := by decide +kernel
theorem dX12_follow_165 : decode cX12_follow 165 = .ok (.putfield 192, 3) := by decide +kernel
theorem dX12_follow_168 : decode cX12_follow 168 = .ok (.iload_n 2, 1) := by decide +kernel
theorem dX12_follow_169 : decode cX12_follow 169 = .ok (.ifCond .lt 20, 3) := by decide +kernel
theorem dX12_follow_172 : decode cX12_follow 172 = .ok (.aload_n 0, 1) := by decide +kernel
theorem dX12_follow_173 : decode cX12_follow 173 = .ok (.bipush 32, 2) := by decide +kernel
theorem dX12_follow_175 : decode cX12_follow 175 = .ok (.iload_n 2, 1) := by decide +kernel
theorem dX12_follow_176 : decode cX12_follow 176 = .ok (.imul, 1) := by decide +kernel
theorem dX12_follow_177 : decode cX12_follow 177 = .ok (.iload_n 3, 1) := by decide +kernel
theorem dX12_follow_178 : decode cX12_follow 178 = .ok (.iadd, 1) := by decide +kernel
theorem dX12_follow_179 : decode cX12_follow 179 = .ok (.invokevirtual 195, 3) := by decide +kernel
theorem dX12_follow_182 : decode cX12_follow 182 = .ok (.ifCond .ne 7, 3) := by decide +kernel
theorem dX12_follow_185 : decode cX12_follow 185 = .ok (.iconst 1, 1) := by decide +kernel
theorem dX12_follow_186 : decode cX12_follow 186 = .ok (.goto 4, 3) := by decide +kernel
theorem dX12_follow_189 : decode cX12_follow 189 = .ok (.iconst 0, 1) := by decide +kernel
theorem dX12_follow_190 : decode cX12_follow 190 = .ok (.istore 4, 2) := by decide +kernel
theorem dX12_follow_192 : decode cX12_follow 192 = .ok (.goto (-177), 3) := by decide +kernel
theorem dX12_follow_195 : decode cX12_follow 195 = .ok (.return_, 1) := by decide +kernel
theorem dX12_trace_0 : decode cX12_trace 0 = .ok (.aload_n 0, 1) := by decide +kernel
theorem dX12_trace_1 : decode cX12_trace 1 = .ok (.iload_n 1, 1) := by decide +kernel
theorem dX12_trace_2 : decode cX12_trace 2 = .ok (.invokevirtual 153, 3) := by decide +kernel
theorem dX12_trace_5 : decode cX12_trace 5 = .ok (.ifCond .eq 7, 3) := by decide +kernel
theorem dX12_trace_8 : decode cX12_trace 8 = .ok (.iload_n 2, 1) := by decide +kernel
theorem dX12_trace_9 : decode cX12_trace 9 = .ok (.ifCond .ge 6, 3) := by decide +kernel
theorem dX12_trace_12 : decode cX12_trace 12 = .ok (.bipush (-3), 2) := by decide +kernel
theorem dX12_trace_14 : decode cX12_trace 14 = .ok (.ireturn, 1) := by decide +kernel
theorem dX12_trace_15 : decode cX12_trace 15 = .ok (.aload_n 0, 1) := by decide +kernel
theorem dX12_trace_16 : decode cX12_trace 16 = .ok (.iload_n 1, 1) := by decide +kernel
theorem dX12_trace_17 : decode cX12_trace 17 = .ok (.invokevirtual 198, 3) := by decide +kernel
theorem dX12_trace_20 : decode cX12_trace 20 = .ok (.iload_n 2, 1) := by decide +kernel
theorem dX12_trace_21 : decode cX12_trace 21 = .ok (.aload_n 0, 1) := by decide +kernel
theorem dX12_trace_22 : decode cX12_trace 22 = .ok (.getfield 189, 3) := by decide +kernel
theorem dX12_trace_25 : decode cX12_trace 25 = .ok (.if_icmp .lt 6, 3) := by decide +kernel
theorem dX12_trace_28 : decode cX12_trace 28 = .ok (.bipush (-6), 2) := by decide +kernel
theorem dX12_trace_30 : decode cX12_trace 30 = .ok (.ireturn, 1) := by decide +kernel
theorem dX12_trace_31 : decode cX12_trace 31 = .ok (.aload_n 0, 1) := by decide +kernel
theorem dX12_trace_32 : decode cX12_trace 32 = .ok (.getfield 35, 3) := by decide +kernel
theorem dX12_trace_35 : decode cX12_trace 35 = .ok (.iload_n 2, 1) := by decide +kernel
theorem dX12_trace_36 : decode cX12_trace 36 = .ok (.iaload, 1) := by decide +kernel
theorem dX12_trace_37 : decode cX12_trace 37 = .ok (.bipush 32, 2) := by decide +kernel
theorem dX12_trace_39 : decode cX12_trace 39 = .ok (.idiv, 1) := by decide +kernel
theorem dX12_trace_40 : decode cX12_trace 40 = .ok (.istore_n 3, 1) := by decide +kernel
theorem dX12_trace_41 : decode cX12_trace 41 = .ok (.sipush 1000, 3) := by decide +kernel
theorem dX12_trace_44 : decode cX12_trace 44 = .ok (.iload_n 3, 1) := by decide +kernel
theorem dX12_trace_45 : decode cX12_trace 45 = .ok (.iconst 4, 1) := by decide +kernel
theorem dX12_trace_46 : decode cX12_trace 46 = .ok (.idiv, 1) := by decide +kernel
theorem dX12_trace_47 : decode cX12_trace 47 = .ok (.imul, 1) := by decide +kernel
theorem dX12_trace_48 : decode cX12_trace 48 = .ok (.bipush 100, 2) := by decide +kernel
theorem dX12_trace_50 : decode cX12_trace 50 = .ok (.iload_n 3, 1) := by decide +kernel
theorem dX12_trace_51 : decode cX12_trace 51 = .ok (.iconst 4, 1) := by decide +kernel
theorem dX12_trace_52 : decode cX12_trace 52 = .ok (.irem, 1) := by decide +kernel
theorem dX12_trace_53 : decode cX12_trace 53 = .ok (.imul, 1) := by decide +kernel
theorem dX12_trace_54 : decode cX12_trace 54 = .ok (.iadd, 1) := by decide +kernel
theorem dX12_trace_55 : decode cX12_trace 55 = .ok (.aload_n 0, 1) := by decide +kernel
theorem dX12_trace_56 : decode cX12_trace 56 = .ok (.getfield 35, 3) := by decide +kernel
theorem dX12_trace_59 : decode cX12_trace 59 = .ok (.iload_n 2, 1) := by decide +kernel
theorem dX12_trace_60 : decode cX12_trace 60 = .ok (.iaload, 1) := by decide +kernel
theorem dX12_trace_61 : decode cX12_trace 61 = .ok (.bipush 32, 2) := by decide +kernel
theorem dX12_trace_63 : decode cX12_trace 63 = .ok (.irem, 1) := by decide +kernel
theorem dX12_trace_64 : decode cX12_trace 64 = .ok (.iadd, 1) := by decide +kernel
theorem dX12_trace_65 : decode cX12_trace 65 = .ok (.ireturn, 1) := by decide +kernel
theorem dX12_traceEnd_0 : decode cX12_traceEnd 0 = .ok (.aload_n 0, 1) := by decide +kernel
theorem dX12_traceEnd_1 : decode cX12_traceEnd 1 = .ok (.iload_n 1, 1) := by decide +kernel
theorem dX12_traceEnd_2 : decode cX12_traceEnd 2 = .ok (.invokevirtual 153, 3) := by decide +kernel
theorem dX12_traceEnd_5 : decode cX12_traceEnd 5 = .ok (.ifCond .ne 6, 3) := by decide +kernel
theorem dX12_traceEnd_8 : decode cX12_traceEnd 8 = .ok (.bipush (-3), 2) := by decide +kernel
theorem dX12_traceEnd_10 : decode cX12_traceEnd 10 = .ok (.ireturn, 1) := by decide +kernel
theorem dX12_traceEnd_11 : decode cX12_traceEnd 11 = .ok (.aload_n 0, 1) := by decide +kernel
theorem dX12_traceEnd_12 : decode cX12_traceEnd 12 = .ok (.iload_n 1, 1) := by decide +kernel
theorem dX12_traceEnd_13 : decode cX12_traceEnd 13 = .ok (.invokevirtual 198, 3) := by decide +kernel
theorem dX12_traceEnd_16 : decode cX12_traceEnd 16 = .ok (.aload_n 0, 1) := by decide +kernel
theorem dX12_traceEnd_17 : decode cX12_traceEnd 17 = .ok (.getfield 192, 3) := by decide +kernel
theorem dX12_traceEnd_20 : decode cX12_traceEnd 20 = .ok (.ireturn, 1) := by decide +kernel
theorem dX12_isSafe_0 : decode cX12_isSafe 0 = .ok (.iload_n 1, 1) := by decide +kernel
theorem dX12_isSafe_1 : decode cX12_isSafe 1 = .ok (.iconst 4, 1) := by decide +kernel
theorem dX12_isSafe_2 : decode cX12_isSafe 2 = .ok (.idiv, 1) := by decide +kernel
theorem dX12_isSafe_3 : decode cX12_isSafe 3 = .ok (.istore_n 3, 1) := by decide +kernel
theorem dX12_isSafe_4 : decode cX12_isSafe 4 = .ok (.aload_n 0, 1) := by decide +kernel
theorem dX12_isSafe_5 : decode cX12_isSafe 5 = .ok (.iload_n 3, 1) := by decide +kernel
theorem dX12_isSafe_6 : decode cX12_isSafe 6 = .ok (.iload_n 1, 1) := by decide +kernel
theorem dX12_isSafe_7 : decode cX12_isSafe 7 = .ok (.iconst 4, 1) := by decide +kernel
theorem dX12_isSafe_8 : decode cX12_isSafe 8 = .ok (.irem, 1) := by decide +kernel
theorem dX12_isSafe_9 : decode cX12_isSafe 9 = .ok (.iload_n 2, 1) := by decide +kernel
theorem dX12_isSafe_10 : decode cX12_isSafe 10 = .ok (.invokevirtual 150, 3) := by decide +kernel
theorem dX12_isSafe_13 : decode cX12_isSafe 13 = .ok (.istore 4, 2) := by decide +kernel
theorem dX12_isSafe_15 : decode cX12_isSafe 15 = .ok (.iconst 1, 1) := by decide +kernel
theorem dX12_isSafe_16 : decode cX12_isSafe 16 = .ok (.istore 5, 2) := by decide +kernel
theorem dX12_isSafe_18 : decode cX12_isSafe 18 = .ok (.iconst 0, 1) := by decide +kernel
theorem dX12_isSafe_19 : decode cX12_isSafe 19 = .ok (.istore 6, 2) := by decide +kernel
theorem dX12_isSafe_21 : decode cX12_isSafe 21 = .ok (.iload 6, 2) := by decide +kernel
theorem dX12_isSafe_23 : decode cX12_isSafe 23 = .ok (.iconst 4, 1) := by decide +kernel
theorem dX12_isSafe_24 : decode cX12_isSafe 24 = .ok (.if_icmp .ge 96, 3) := by decide +kernel
theorem dX12_isSafe_27 : decode cX12_isSafe 27 = .ok (.iload 4, 2) := by decide +kernel
theorem dX12_isSafe_29 : decode cX12_isSafe 29 = .ok (.ifCond .lt 91, 3) := by decide +kernel
theorem dX12_isSafe_32 : decode cX12_isSafe 32 = .ok (.aload_n 0, 1) := by decide +kernel
theorem dX12_isSafe_33 : decode cX12_isSafe 33 = .ok (.getfield 7, 3) := by decide +kernel
theorem dX12_isSafe_36 : decode cX12_isSafe 36 = .ok (.iconst 4, 1) := by decide +kernel
theorem dX12_isSafe_37 : decode cX12_isSafe 37 = .ok (.iload_n 3, 1) := by decide +kernel
theorem dX12_isSafe_38 : decode cX12_isSafe 38 = .ok (.imul, 1) := by decide +kernel
theorem dX12_isSafe_39 : decode cX12_isSafe 39 = .ok (.iload 6, 2) := by decide +kernel
theorem dX12_isSafe_41 : decode cX12_isSafe 41 = .ok (.iadd, 1) := by decide +kernel
theorem dX12_isSafe_42 : decode cX12_isSafe 42 = .ok (.iaload, 1) := by decide +kernel
theorem dX12_isSafe_43 : decode cX12_isSafe 43 = .ok (.istore 7, 2) := by decide +kernel
theorem dX12_isSafe_45 : decode cX12_isSafe 45 = .ok (.aload_n 0, 1) := by decide +kernel
theorem dX12_isSafe_46 : decode cX12_isSafe 46 = .ok (.iload_n 3, 1) := by decide +kernel
theorem dX12_isSafe_47 : decode cX12_isSafe 47 = .ok (.iload 4, 2) := by decide +kernel
theorem dX12_isSafe_49 : decode cX12_isSafe 49 = .ok (.iconst 3, 1) := by decide +kernel
theorem dX12_isSafe_50 : decode cX12_isSafe 50 = .ok (.invokevirtual 114, 3) := by decide +kernel
theorem dX12_isSafe_53 : decode cX12_isSafe 53 = .ok (.iload 6, 2) := by decide +kernel
theorem dX12_isSafe_55 : decode cX12_isSafe 55 = .ok (.ishr, 1) := by decide +kernel
theorem dX12_isSafe_56 : decode cX12_isSafe 56 = .ok (.iconst 1, 1) := by decide +kernel
theorem dX12_isSafe_57 : decode cX12_isSafe 57 = .ok (.iand, 1) := by decide +kernel
theorem dX12_isSafe_58 : decode cX12_isSafe 58 = .ok (.iconst 1, 1) := by decide +kernel
theorem dX12_isSafe_59 : decode cX12_isSafe 59 = .ok (.if_icmp .ne 12, 3) := by decide +kernel
theorem dX12_isSafe_62 : decode cX12_isSafe 62 = .ok (.iload 7, 2) := by decide +kernel
theorem dX12_isSafe_64 : decode cX12_isSafe 64 = .ok (.ifCond .lt 7, 3) := by decide +kernel
theorem dX12_isSafe_67 : decode cX12_isSafe 67 = .ok (.iconst 1, 1) := by decide +kernel
theorem dX12_isSafe_68 : decode cX12_isSafe 68 = .ok (.goto 4, 3) := by decide +kernel
theorem dX12_isSafe_71 : decode cX12_isSafe 71 = .ok (.iconst 0, 1) := by decide +kernel
theorem dX12_isSafe_72 : decode cX12_isSafe 72 = .ok (.istore 8, 2) := by decide +kernel
theorem dX12_isSafe_74 : decode cX12_isSafe 74 = .ok (.iload 5, 2) := by decide +kernel
theorem dX12_isSafe_76 : decode cX12_isSafe 76 = .ok (.ifCond .eq 35, 3) := by decide +kernel
theorem dX12_isSafe_79 : decode cX12_isSafe 79 = .ok (.iload 8, 2) := by decide +kernel
theorem dX12_isSafe_81 : decode cX12_isSafe 81 = .ok (.ifCond .eq 26, 3) := by decide +kernel
theorem dX12_isSafe_84 : decode cX12_isSafe 84 = .ok (.aload_n 0, 1) := by decide +kernel
theorem dX12_isSafe_85 : decode cX12_isSafe 85 = .ok (.getfield 38, 3) := by decide +kernel
theorem dX12_isSafe_88 : decode cX12_isSafe 88 = .ok (.iload 7, 2) := by decide +kernel
theorem dX12_isSafe_90 : decode cX12_isSafe 90 = .ok (.laload, 1) := by decide +kernel
theorem dX12_isSafe_91 : decode cX12_isSafe 91 = .ok (.aload_n 0, 1) := by decide +kernel
theorem dX12_isSafe_92 : decode cX12_isSafe 92 = .ok (.iload_n 3, 1) := by decide +kernel
theorem dX12_isSafe_93 : decode cX12_isSafe 93 = .ok (.iload 4, 2) := by decide +kernel
theorem dX12_isSafe_95 : decode cX12_isSafe 95 = .ok (.iload_n 2, 1) := by decide +kernel
theorem dX12_isSafe_96 : decode cX12_isSafe 96 = .ok (.invokevirtual 156, 3) := by decide +kernel
theorem dX12_isSafe_99 : decode cX12_isSafe 99 = .ok (.lshr, 1) := by decide +kernel
theorem dX12_isSafe_100 : decode cX12_isSafe 100 = .ok (.lconst 1, 1) := by decide +kernel
theorem dX12_isSafe_101 : decode cX12_isSafe 101 = .ok (.land, 1) := by decide +kernel
theorem dX12_isSafe_102 : decode cX12_isSafe 102 = .ok (.lconst 1, 1) := by decide +kernel
theorem dX12_isSafe_103 : decode cX12_isSafe 103 = .ok (.lcmp, 1) := by decide +kernel
theorem dX12_isSafe_104 : decode cX12_isSafe 104 = .ok (.ifCond .ne 7, 3) := by decide +kernel
theorem dX12_isSafe_107 : decode cX12_isSafe 107 = .ok (.iconst 1, 1) := by decide +kernel
theorem dX12_isSafe_108 : decode cX12_isSafe 108 = .ok (.goto 4, 3) := by decide +kernel
theorem dX12_isSafe_111 : decode cX12_isSafe 111 = .ok (.iconst 0, 1) := by decide +kernel
theorem dX12_isSafe_112 : decode cX12_isSafe 112 = .ok (.istore 5, 2) := by decide +kernel
theorem dX12_isSafe_114 : decode cX12_isSafe 114 = .ok (.iinc 6 1, 3) := by decide +kernel
theorem dX12_isSafe_117 : decode cX12_isSafe 117 = .ok (.goto (-96), 3) := by decide +kernel
theorem dX12_isSafe_120 : decode cX12_isSafe 120 = .ok (.iload 5, 2) := by decide +kernel
theorem dX12_isSafe_122 : decode cX12_isSafe 122 = .ok (.ireturn, 1) := by decide +kernel
theorem dX12_loops_0 : decode cX12_loops 0 = .ok (.iconst 0, 1) := by decide +kernel
theorem dX12_loops_1 : decode cX12_loops 1 = .ok (.istore_n 1, 1) := by decide +kernel
theorem dX12_loops_2 : decode cX12_loops 2 = .ok (.iload_n 1, 1) := by decide +kernel
theorem dX12_loops_3 : decode cX12_loops 3 = .ok (.bipush 24, 2) := by decide +kernel
theorem dX12_loops_5 : decode cX12_loops 5 = .ok (.if_icmp .ge 16, 3) := by decide +kernel
theorem dX12_loops_8 : decode cX12_loops 8 = .ok (.aload_n 0, 1) := by decide +kernel
theorem dX12_loops_9 : decode cX12_loops 9 = .ok (.getfield 38, 3) := by decide +kernel
theorem dX12_loops_12 : decode cX12_loops 12 = .ok (.iload_n 1, 1) := by decide +kernel
theorem dX12_loops_13 : decode cX12_loops 13 = .ok (.lconst 0, 1) := by decide +kernel
theorem dX12_loops_14 : decode cX12_loops 14 = .ok (.lastore, 1) := by decide +kernel
theorem dX12_loops_15 : decode cX12_loops 15 = .ok (.iinc 1 1, 3) := by decide +kernel
theorem dX12_loops_18 : decode cX12_loops 18 = .ok (.goto (-16), 3) := by decide +kernel
theorem dX12_loops_21 : decode cX12_loops 21 = .ok (.iconst 1, 1) := by decide +kernel
theorem dX12_loops_22 : decode cX12_loops 22 = .ok (.istore_n 1, 1) := by decide +kernel
theorem dX12_loops_23 : decode cX12_loops 23 = .ok (.iload_n 1, 1) := by decide +kernel
theorem dX12_loops_24 : decode cX12_loops 24 = .ok (.ifCond .eq 76, 3) := by decide +kernel
theorem dX12_loops_27 : decode cX12_loops 27 = .ok (.iconst 0, 1) := by decide +kernel
theorem dX12_loops_28 : decode cX12_loops 28 = .ok (.istore_n 1, 1) := by decide +kernel
theorem dX12_loops_29 : decode cX12_loops 29 = .ok (.iconst 0, 1) := by decide +kernel
theorem dX12_loops_30 : decode cX12_loops 30 = .ok (.istore_n 2, 1) := by decide +kernel
theorem dX12_loops_31 : decode cX12_loops 31 = .ok (.iload_n 2, 1) := by decide +kernel
theorem dX12_loops_32 : decode cX12_loops 32 = .ok (.bipush 24, 2) := by decide +kernel
theorem dX12_loops_34 : decode cX12_loops 34 = .ok (.if_icmp .ge 63, 3) := by decide +kernel
theorem dX12_loops_37 : decode cX12_loops 37 = .ok (.iconst 0, 1) := by decide +kernel
theorem dX12_loops_38 : decode cX12_loops 38 = .ok (.istore_n 3, 1) := by decide +kernel
theorem dX12_loops_39 : decode cX12_loops 39 = .ok (.iload_n 3, 1) := by decide +kernel
theorem dX12_loops_40 : decode cX12_loops 40 = .ok (.aload_n 0, 1) := by decide +kernel
theorem dX12_loops_41 : decode cX12_loops 41 = .ok (.invokevirtual 98, 3) := by decide +kernel
theorem dX12_loops_44 : decode cX12_loops 44 = .ok (.if_icmp .ge 47, 3) := by decide +kernel
theorem dX12_loops_47 : decode cX12_loops 47 = .ok (.aload_n 0, 1) := by decide +kernel
theorem dX12_loops_48 : decode cX12_loops 48 = .ok (.getfield 38, 3) := by decide +kernel
theorem dX12_loops_51 : decode cX12_loops 51 = .ok (.iload_n 2, 1) := by decide +kernel
theorem dX12_loops_52 : decode cX12_loops 52 = .ok (.laload, 1) := by decide +kernel
theorem dX12_loops_53 : decode cX12_loops 53 = .ok (.iload_n 3, 1) := by decide +kernel
theorem dX12_loops_54 : decode cX12_loops 54 = .ok (.lshr, 1) := by decide +kernel
theorem dX12_loops_55 : decode cX12_loops 55 = .ok (.lconst 1, 1) := by decide +kernel
theorem dX12_loops_56 : decode cX12_loops 56 = .ok (.land, 1) := by decide +kernel
theorem dX12_loops_57 : decode cX12_loops 57 = .ok (.lconst 0, 1) := by decide +kernel
theorem dX12_loops_58 : decode cX12_loops 58 = .ok (.lcmp, 1) := by decide +kernel
theorem dX12_loops_59 : decode cX12_loops 59 = .ok (.ifCond .ne 26, 3) := by decide +kernel
theorem dX12_loops_62 : decode cX12_loops 62 = .ok (.aload_n 0, 1) := by decide +kernel
theorem dX12_loops_63 : decode cX12_loops 63 = .ok (.iload_n 2, 1) := by decide +kernel
theorem dX12_loops_64 : decode cX12_loops 64 = .ok (.iload_n 3, 1) := by decide +kernel
theorem dX12_loops_65 : decode cX12_loops 65 = .ok (.invokevirtual 202, 3) := by decide +kernel
theorem dX12_loops_68 : decode cX12_loops 68 = .ok (.ifCond .eq 17, 3) := by decide +kernel
theorem dX12_loops_71 : decode cX12_loops 71 = .ok (.aload_n 0, 1) := by decide +kernel
theorem dX12_loops_72 : decode cX12_loops 72 = .ok (.getfield 38, 3) := by decide +kernel
theorem dX12_loops_75 : decode cX12_loops 75 = .ok (.iload_n 2, 1) := by decide +kernel
theorem dX12_loops_76 : decode cX12_loops 76 = .ok (.dup2, 1) := by decide +kernel
theorem dX12_loops_77 : decode cX12_loops 77 = .ok (.laload, 1) := by decide +kernel
theorem dX12_loops_78 : decode cX12_loops 78 = .ok (.lconst 1, 1) := by decide +kernel
theorem dX12_loops_79 : decode cX12_loops 79 = .ok (.iload_n 3, 1) := by decide +kernel
theorem dX12_loops_80 : decode cX12_loops 80 = .ok (.lshl, 1) := by decide +kernel
theorem dX12_loops_81 : decode cX12_loops 81 = .ok (.lor, 1) := by decide +kernel
theorem dX12_loops_82 : decode cX12_loops 82 = .ok (.lastore, 1) := by decide +kernel
theorem dX12_loops_83 : decode cX12_loops 83 = .ok (.iconst 1, 1) := by decide +kernel
theorem dX12_loops_84 : decode cX12_loops 84 = .ok (.istore_n 1, 1) := by decide +kernel
theorem dX12_loops_85 : decode cX12_loops 85 = .ok (.iinc 3 1, 3) := by decide +kernel
theorem dX12_loops_88 : decode cX12_loops 88 = .ok (.goto (-49), 3) := by decide +kernel
theorem dX12_loops_91 : decode cX12_loops 91 = .ok (.iinc 2 1, 3) := by decide +kernel
theorem dX12_loops_94 : decode cX12_loops 94 = .ok (.goto (-63), 3) := by decide +kernel
theorem dX12_loops_97 : decode cX12_loops 97 = .ok (.goto (-74), 3) := by decide +kernel
theorem dX12_loops_100 : decode cX12_loops 100 = .ok (.aload_n 0, 1) := by decide +kernel
theorem dX12_loops_101 : decode cX12_loops 101 = .ok (.invokevirtual 164, 3) := by decide +kernel
theorem dX12_loops_104 : decode cX12_loops 104 = .ok (.aload_n 0, 1) := by decide +kernel
theorem dX12_loops_105 : decode cX12_loops 105 = .ok (.getfield 38, 3) := by decide +kernel
theorem dX12_loops_108 : decode cX12_loops 108 = .ok (.aload_n 0, 1) := by decide +kernel
theorem dX12_loops_109 : decode cX12_loops 109 = .ok (.getfield 79, 3) := by decide +kernel
theorem dX12_loops_112 : decode cX12_loops 112 = .ok (.laload, 1) := by decide +kernel
theorem dX12_loops_113 : decode cX12_loops 113 = .ok (.ldc2_w 159, 3) := by decide +kernel
theorem dX12_loops_116 : decode cX12_loops 116 = .ok (.lxor, 1) := by decide +kernel
theorem dX12_loops_117 : decode cX12_loops 117 = .ok (.land, 1) := by decide +kernel
theorem dX12_loops_118 : decode cX12_loops 118 = .ok (.lreturn, 1) := by decide +kernel
theorem dX12_isOn_0 : decode cX12_isOn 0 = .ok (.iload_n 1, 1) := by decide +kernel
theorem dX12_isOn_1 : decode cX12_isOn 1 = .ok (.bipush 6, 2) := by decide +kernel
theorem dX12_isOn_3 : decode cX12_isOn 3 = .ok (.irem, 1) := by decide +kernel
theorem dX12_isOn_4 : decode cX12_isOn 4 = .ok (.aload_n 0, 1) := by decide +kernel
theorem dX12_isOn_5 : decode cX12_isOn 5 = .ok (.iload_n 1, 1) := by decide +kernel
theorem dX12_isOn_6 : decode cX12_isOn 6 = .ok (.bipush 6, 2) := by decide +kernel
theorem dX12_isOn_8 : decode cX12_isOn 8 = .ok (.idiv, 1) := by decide +kernel
theorem dX12_isOn_9 : decode cX12_isOn 9 = .ok (.invokevirtual 110, 3) := by decide +kernel
theorem dX12_isOn_12 : decode cX12_isOn 12 = .ok (.if_icmp .ge 25, 3) := by decide +kernel
theorem dX12_isOn_15 : decode cX12_isOn 15 = .ok (.aload_n 0, 1) := by decide +kernel
theorem dX12_isOn_16 : decode cX12_isOn 16 = .ok (.iload_n 1, 1) := by decide +kernel
theorem dX12_isOn_17 : decode cX12_isOn 17 = .ok (.bipush 6, 2) := by decide +kernel
theorem dX12_isOn_19 : decode cX12_isOn 19 = .ok (.idiv, 1) := by decide +kernel
theorem dX12_isOn_20 : decode cX12_isOn 20 = .ok (.iload_n 1, 1) := by decide +kernel
theorem dX12_isOn_21 : decode cX12_isOn 21 = .ok (.bipush 6, 2) := by decide +kernel
theorem dX12_isOn_23 : decode cX12_isOn 23 = .ok (.irem, 1) := by decide +kernel
theorem dX12_isOn_24 : decode cX12_isOn 24 = .ok (.bipush 6, 2) := by decide +kernel
theorem dX12_isOn_26 : decode cX12_isOn 26 = .ok (.invokevirtual 114, 3) := by decide +kernel
theorem dX12_isOn_29 : decode cX12_isOn 29 = .ok (.iconst 1, 1) := by decide +kernel
theorem dX12_isOn_30 : decode cX12_isOn 30 = .ok (.if_icmp .ne 7, 3) := by decide +kernel
theorem dX12_isOn_33 : decode cX12_isOn 33 = .ok (.iconst 1, 1) := by decide +kernel
theorem dX12_isOn_34 : decode cX12_isOn 34 = .ok (.goto 4, 3) := by decide +kernel
theorem dX12_isOn_37 : decode cX12_isOn 37 = .ok (.iconst 0, 1) := by decide +kernel
theorem dX12_isOn_38 : decode cX12_isOn 38 = .ok (.ireturn, 1) := by decide +kernel
theorem dX12_turn_0 : decode cX12_turn 0 = .ok (.aload_n 0, 1) := by decide +kernel
theorem dX12_turn_1 : decode cX12_turn 1 = .ok (.iload_n 1, 1) := by decide +kernel
theorem dX12_turn_2 : decode cX12_turn 2 = .ok (.bipush 6, 2) := by decide +kernel
theorem dX12_turn_4 : decode cX12_turn 4 = .ok (.idiv, 1) := by decide +kernel
theorem dX12_turn_5 : decode cX12_turn 5 = .ok (.iload_n 1, 1) := by decide +kernel
theorem dX12_turn_6 : decode cX12_turn 6 = .ok (.bipush 6, 2) := by decide +kernel
theorem dX12_turn_8 : decode cX12_turn 8 = .ok (.irem, 1) := by decide +kernel
theorem dX12_turn_9 : decode cX12_turn 9 = .ok (.bipush 6, 2) := by decide +kernel
theorem dX12_turn_11 : decode cX12_turn 11 = .ok (.iload_n 2, 1) := by decide +kernel
theorem dX12_turn_12 : decode cX12_turn 12 = .ok (.invokevirtual 118, 3) := by decide +kernel
theorem dX12_turn_15 : decode cX12_turn 15 = .ok (.return_, 1) := by decide +kernel
theorem dX12_isStopped_0 : decode cX12_isStopped 0 = .ok (.aload_n 0, 1) := by decide +kernel
theorem dX12_isStopped_1 : decode cX12_isStopped 1 = .ok (.invokevirtual 179, 3) := by decide +kernel
theorem dX12_isStopped_4 : decode cX12_isStopped 4 = .ok (.aload_n 0, 1) := by decide +kernel
theorem dX12_isStopped_5 : decode cX12_isStopped 5 = .ok (.getfield 29, 3) := by decide +kernel
theorem dX12_isStopped_8 : decode cX12_isStopped 8 = .ok (.iload_n 1, 1) := by decide +kernel
theorem dX12_isStopped_9 : decode cX12_isStopped 9 = .ok (.laload, 1) := by decide +kernel
theorem dX12_isStopped_10 : decode cX12_isStopped 10 = .ok (.lconst 0, 1) := by decide +kernel
theorem dX12_isStopped_11 : decode cX12_isStopped 11 = .ok (.lcmp, 1) := by decide +kernel
theorem dX12_isStopped_12 : decode cX12_isStopped 12 = .ok (.ifCond .ne 7, 3) := by decide +kernel
theorem dX12_isStopped_15 : decode cX12_isStopped 15 = .ok (.iconst 1, 1) := by decide +kernel
theorem dX12_isStopped_16 : decode cX12_isStopped 16 = .ok (.goto 4, 3) := by decide +kernel
theorem dX12_isStopped_19 : decode cX12_isStopped 19 = .ok (.iconst 0, 1) := by decide +kernel
theorem dX12_isStopped_20 : decode cX12_isStopped 20 = .ok (.ireturn, 1) := by decide +kernel
theorem dX12_findCut_0 : decode cX12_findCut 0 = .ok (.iconst 0, 1) := by decide +kernel
theorem dX12_findCut_1 : decode cX12_findCut 1 = .ok (.istore_n 3, 1) := by decide +kernel
theorem dX12_findCut_2 : decode cX12_findCut 2 = .ok (.iload_n 3, 1) := by decide +kernel
theorem dX12_findCut_3 : decode cX12_findCut 3 = .ok (.iload_n 2, 1) := by decide +kernel
theorem dX12_findCut_4 : decode cX12_findCut 4 = .ok (.if_icmp .ge 16, 3) := by decide +kernel
theorem dX12_findCut_7 : decode cX12_findCut 7 = .ok (.aload_n 0, 1) := by decide +kernel
theorem dX12_findCut_8 : decode cX12_findCut 8 = .ok (.getfield 41, 3) := by decide +kernel
theorem dX12_findCut_11 : decode cX12_findCut 11 = .ok (.iload_n 3, 1) := by decide +kernel
theorem dX12_findCut_12 : decode cX12_findCut 12 = .ok (.iconst (-1), 1) := by decide +kernel
theorem dX12_findCut_13 : decode cX12_findCut 13 = .ok (.iastore, 1) := by decide +kernel
theorem dX12_findCut_14 : decode cX12_findCut 14 = .ok (.iinc 3 1, 3) := by decide +kernel
theorem dX12_findCut_17 : decode cX12_findCut 17 = .ok (.goto (-15), 3) := by decide +kernel
theorem dX12_findCut_20 : decode cX12_findCut 20 = .ok (.iconst 0, 1) := by decide +kernel
theorem dX12_findCut_21 : decode cX12_findCut 21 = .ok (.istore_n 3, 1) := by decide +kernel
theorem dX12_findCut_22 : decode cX12_findCut 22 = .ok (.iload_n 2, 1) := by decide +kernel
theorem dX12_findCut_23 : decode cX12_findCut 23 = .ok (.ifCond .ne 15, 3) := by decide +kernel
theorem dX12_findCut_26 : decode cX12_findCut 26 = .ok (.aload_n 0, 1) := by decide +kernel
theorem dX12_findCut_27 : decode cX12_findCut 27 = .ok (.iload_n 1, 1) := by decide +kernel
theorem dX12_findCut_28 : decode cX12_findCut 28 = .ok (.invokevirtual 205, 3) := by decide +kernel
theorem dX12_findCut_31 : decode cX12_findCut 31 = .ok (.ifCond .eq 7, 3) := by decide +kernel
theorem dX12_findCut_34 : decode cX12_findCut 34 = .ok (.iconst 1, 1) := by decide +kernel
theorem dX12_findCut_35 : decode cX12_findCut 35 = .ok (.goto 4, 3) := by decide +kernel
theorem dX12_findCut_38 : decode cX12_findCut 38 = .ok (.iconst 0, 1) := by decide +kernel
theorem dX12_findCut_39 : decode cX12_findCut 39 = .ok (.istore 4, 2) := by decide +kernel
theorem dX12_findCut_41 : decode cX12_findCut 41 = .ok (.iload_n 3, 1) := by decide +kernel
theorem dX12_findCut_42 : decode cX12_findCut 42 = .ok (.ifCond .lt 180, 3) := by decide +kernel
theorem dX12_findCut_45 : decode cX12_findCut 45 = .ok (.iload_n 3, 1) := by decide +kernel
theorem dX12_findCut_46 : decode cX12_findCut 46 = .ok (.iload_n 2, 1) := by decide +kernel
theorem dX12_findCut_47 : decode cX12_findCut 47 = .ok (.if_icmp .ge 175, 3) := by decide +kernel
theorem dX12_findCut_50 : decode cX12_findCut 50 = .ok (.iload 4, 2) := by decide +kernel
theorem dX12_findCut_52 : decode cX12_findCut 52 = .ok (.ifCond .ne 170, 3) := by decide +kernel
theorem dX12_findCut_55 : decode cX12_findCut 55 = .ok (.aload_n 0, 1) := by decide +kernel
theorem dX12_findCut_56 : decode cX12_findCut 56 = .ok (.getfield 41, 3) := by decide +kernel
theorem dX12_findCut_59 : decode cX12_findCut 59 = .ok (.iload_n 3, 1) := by decide +kernel
theorem dX12_findCut_60 : decode cX12_findCut 60 = .ok (.iaload, 1) := by decide +kernel
theorem dX12_findCut_61 : decode cX12_findCut 61 = .ok (.ifCond .lt 17, 3) := by decide +kernel
theorem dX12_findCut_64 : decode cX12_findCut 64 = .ok (.aload_n 0, 1) := by decide +kernel
theorem dX12_findCut_65 : decode cX12_findCut 65 = .ok (.aload_n 0, 1) := by decide +kernel
theorem dX12_findCut_66 : decode cX12_findCut 66 = .ok (.getfield 41, 3) := by decide +kernel
theorem dX12_findCut_69 : decode cX12_findCut 69 = .ok (.iload_n 3, 1) := by decide +kernel
theorem dX12_findCut_70 : decode cX12_findCut 70 = .ok (.iaload, 1) := by decide +kernel
theorem dX12_findCut_71 : decode cX12_findCut 71 = .ok (.iconst 1, 1) := by decide +kernel
theorem dX12_findCut_72 : decode cX12_findCut 72 = .ok (.invokevirtual 208, 3) := by decide +kernel
theorem dX12_findCut_75 : decode cX12_findCut 75 = .ok (.goto 25, 3) := by decide +kernel
theorem dX12_findCut_78 : decode cX12_findCut 78 = .ok (.aload_n 0, 1) := by decide +kernel
theorem dX12_findCut_79 : decode cX12_findCut 79 = .ok (.getfield 41, 3) := by decide +kernel
theorem dX12_findCut_82 : decode cX12_findCut 82 = .ok (.iload_n 3, 1) := by decide +kernel
theorem dX12_findCut_83 : decode cX12_findCut 83 = .ok (.iload_n 3, 1) := by decide +kernel
theorem dX12_findCut_84 : decode cX12_findCut 84 = .ok (.ifCond .ne 7, 3) := by decide +kernel
theorem dX12_findCut_87 : decode cX12_findCut 87 = .ok (.iconst (-1), 1) := by decide +kernel
theorem dX12_findCut_88 : decode cX12_findCut 88 = .ok (.goto 11, 3) := by decide +kernel
theorem dX12_findCut_91 : decode cX12_findCut 91 = .ok (.aload_n 0, 1) := by decide +kernel
theorem dX12_findCut_92 : decode cX12_findCut 92 = .ok (.getfield 41, 3) := by decide +kernel
theorem dX12_findCut_95 : decode cX12_findCut 95 = .ok (.iload_n 3, 1) := by decide +kernel
theorem dX12_findCut_96 : decode cX12_findCut 96 = .ok (.iconst 1, 1) := by decide +kernel
theorem dX12_findCut_97 : decode cX12_findCut 97 = .ok (.isub, 1) := by decide +kernel
theorem dX12_findCut_98 : decode cX12_findCut 98 = .ok (.iaload, 1) := by decide +kernel
theorem dX12_findCut_99 : decode cX12_findCut 99 = .ok (.iastore, 1) := by decide +kernel
theorem dX12_findCut_100 : decode cX12_findCut 100 = .ok (.aload_n 0, 1) := by decide +kernel
theorem dX12_findCut_101 : decode cX12_findCut 101 = .ok (.getfield 41, 3) := by decide +kernel
theorem dX12_findCut_104 : decode cX12_findCut 104 = .ok (.iload_n 3, 1) := by decide +kernel
theorem dX12_findCut_105 : decode cX12_findCut 105 = .ok (.dup2, 1) := by decide +kernel
theorem dX12_findCut_106 : decode cX12_findCut 106 = .ok (.iaload, 1) := by decide +kernel
theorem dX12_findCut_107 : decode cX12_findCut 107 = .ok (.iconst 1, 1) := by decide +kernel
theorem dX12_findCut_108 : decode cX12_findCut 108 = .ok (.iadd, 1) := by decide +kernel
theorem dX12_findCut_109 : decode cX12_findCut 109 = .ok (.iastore, 1) := by decide +kernel
theorem dX12_findCut_110 : decode cX12_findCut 110 = .ok (.aload_n 0, 1) := by decide +kernel
theorem dX12_findCut_111 : decode cX12_findCut 111 = .ok (.getfield 41, 3) := by decide +kernel
theorem dX12_findCut_114 : decode cX12_findCut 114 = .ok (.iload_n 3, 1) := by decide +kernel
theorem dX12_findCut_115 : decode cX12_findCut 115 = .ok (.iaload, 1) := by decide +kernel
theorem dX12_findCut_116 : decode cX12_findCut 116 = .ok (.bipush 36, 2) := by decide +kernel
theorem dX12_findCut_118 : decode cX12_findCut 118 = .ok (.if_icmp .ge 29, 3) := by decide +kernel
theorem dX12_findCut_121 : decode cX12_findCut 121 = .ok (.aload_n 0, 1) := by decide +kernel
theorem dX12_findCut_122 : decode cX12_findCut 122 = .ok (.aload_n 0, 1) := by decide +kernel
theorem dX12_findCut_123 : decode cX12_findCut 123 = .ok (.getfield 41, 3) := by decide +kernel
theorem dX12_findCut_126 : decode cX12_findCut 126 = .ok (.iload_n 3, 1) := by decide +kernel
theorem dX12_findCut_127 : decode cX12_findCut 127 = .ok (.iaload, 1) := by decide +kernel
theorem dX12_findCut_128 : decode cX12_findCut 128 = .ok (.invokevirtual 211, 3) := by decide +kernel
theorem dX12_findCut_131 : decode cX12_findCut 131 = .ok (.ifCond .ne 16, 3) := by decide +kernel
theorem dX12_findCut_134 : decode cX12_findCut 134 = .ok (.aload_n 0, 1) := by decide +kernel
theorem dX12_findCut_135 : decode cX12_findCut 135 = .ok (.getfield 41, 3) := by decide +kernel
theorem dX12_findCut_138 : decode cX12_findCut 138 = .ok (.iload_n 3, 1) := by decide +kernel
theorem dX12_findCut_139 : decode cX12_findCut 139 = .ok (.dup2, 1) := by decide +kernel
theorem dX12_findCut_140 : decode cX12_findCut 140 = .ok (.iaload, 1) := by decide +kernel
theorem dX12_findCut_141 : decode cX12_findCut 141 = .ok (.iconst 1, 1) := by decide +kernel
theorem dX12_findCut_142 : decode cX12_findCut 142 = .ok (.iadd, 1) := by decide +kernel
theorem dX12_findCut_143 : decode cX12_findCut 143 = .ok (.iastore, 1) := by decide +kernel
theorem dX12_findCut_144 : decode cX12_findCut 144 = .ok (.goto (-34), 3) := by decide +kernel
theorem dX12_findCut_147 : decode cX12_findCut 147 = .ok (.aload_n 0, 1) := by decide +kernel
theorem dX12_findCut_148 : decode cX12_findCut 148 = .ok (.getfield 41, 3) := by decide +kernel
theorem dX12_findCut_151 : decode cX12_findCut 151 = .ok (.iload_n 3, 1) := by decide +kernel
theorem dX12_findCut_152 : decode cX12_findCut 152 = .ok (.iaload, 1) := by decide +kernel
theorem dX12_findCut_153 : decode cX12_findCut 153 = .ok (.bipush 36, 2) := by decide +kernel
theorem dX12_findCut_155 : decode cX12_findCut 155 = .ok (.if_icmp .ne 16, 3) := by decide +kernel
theorem dX12_findCut_158 : decode cX12_findCut 158 = .ok (.aload_n 0, 1) := by decide +kernel
theorem dX12_findCut_159 : decode cX12_findCut 159 = .ok (.getfield 41, 3) := by decide +kernel
theorem dX12_findCut_162 : decode cX12_findCut 162 = .ok (.iload_n 3, 1) := by decide +kernel
theorem dX12_findCut_163 : decode cX12_findCut 163 = .ok (.iconst (-1), 1) := by decide +kernel
theorem dX12_findCut_164 : decode cX12_findCut 164 = .ok (.iastore, 1) := by decide +kernel
theorem dX12_findCut_165 : decode cX12_findCut 165 = .ok (.iinc 3 (-1), 3) := by decide +kernel
theorem dX12_findCut_168 : decode cX12_findCut 168 = .ok (.goto (-127), 3) := by decide +kernel
theorem dX12_findCut_171 : decode cX12_findCut 171 = .ok (.aload_n 0, 1) := by decide +kernel
theorem dX12_findCut_172 : decode cX12_findCut 172 = .ok (.aload_n 0, 1) := by decide +kernel
theorem dX12_findCut_173 : decode cX12_findCut 173 = .ok (.getfield 41, 3) := by decide +kernel
theorem dX12_findCut_176 : decode cX12_findCut 176 = .ok (.iload_n 3, 1) := by decide +kernel
theorem dX12_findCut_177 : decode cX12_findCut 177 = .ok (.iaload, 1) := by decide +kernel
theorem dX12_findCut_178 : decode cX12_findCut 178 = .ok (.iconst 0, 1) := by decide +kernel
theorem dX12_findCut_179 : decode cX12_findCut 179 = .ok (.invokevirtual 208, 3) := by decide +kernel
theorem dX12_findCut_182 : decode cX12_findCut 182 = .ok (.iload_n 3, 1) := by decide +kernel
theorem dX12_findCut_183 : decode cX12_findCut 183 = .ok (.iload_n 2, 1) := by decide +kernel
theorem dX12_findCut_184 : decode cX12_findCut 184 = .ok (.iconst 1, 1) := by decide +kernel
theorem dX12_findCut_185 : decode cX12_findCut 185 = .ok (.isub, 1) := by decide +kernel
theorem dX12_findCut_186 : decode cX12_findCut 186 = .ok (.if_icmp .ne 15, 3) := by decide +kernel
theorem dX12_findCut_189 : decode cX12_findCut 189 = .ok (.aload_n 0, 1) := by decide +kernel
theorem dX12_findCut_190 : decode cX12_findCut 190 = .ok (.iload_n 1, 1) := by decide +kernel
theorem dX12_findCut_191 : decode cX12_findCut 191 = .ok (.invokevirtual 205, 3) := by decide +kernel
theorem dX12_findCut_194 : decode cX12_findCut 194 = .ok (.ifCond .eq 7, 3) := by decide +kernel
theorem dX12_findCut_197 : decode cX12_findCut 197 = .ok (.iconst 1, 1) := by decide +kernel
theorem dX12_findCut_198 : decode cX12_findCut 198 = .ok (.goto 4, 3) := by decide +kernel
theorem dX12_findCut_201 : decode cX12_findCut 201 = .ok (.iconst 0, 1) := by decide +kernel
theorem dX12_findCut_202 : decode cX12_findCut 202 = .ok (.istore 4, 2) := by decide +kernel
theorem dX12_findCut_204 : decode cX12_findCut 204 = .ok (.iload_n 3, 1) := by decide +kernel
theorem dX12_findCut_205 : decode cX12_findCut 205 = .ok (.iload_n 3, 1) := by decide +kernel
theorem dX12_findCut_206 : decode cX12_findCut 206 = .ok (.iload_n 2, 1) := by decide +kernel
theorem dX12_findCut_207 : decode cX12_findCut 207 = .ok (.iconst 1, 1) := by decide +kernel
theorem dX12_findCut_208 : decode cX12_findCut 208 = .ok (.isub, 1) := by decide +kernel
theorem dX12_findCut_209 : decode cX12_findCut 209 = .ok (.if_icmp .ge 7, 3) := by decide +kernel
theorem dX12_findCut_212 : decode cX12_findCut 212 = .ok (.iconst 1, 1) := by decide +kernel
theorem dX12_findCut_213 : decode cX12_findCut 213 = .ok (.goto 4, 3) := by decide +kernel
theorem dX12_findCut_216 : decode cX12_findCut 216 = .ok (.iconst 0, 1) := by decide +kernel
theorem dX12_findCut_217 : decode cX12_findCut 217 = .ok (.iadd, 1) := by decide +kernel
theorem dX12_findCut_218 : decode cX12_findCut 218 = .ok (.istore_n 3, 1) := by decide +kernel
theorem dX12_findCut_219 : decode cX12_findCut 219 = .ok (.goto (-178), 3) := by decide +kernel
theorem dX12_findCut_222 : decode cX12_findCut 222 = .ok (.iconst 0, 1) := by decide +kernel
theorem dX12_findCut_223 : decode cX12_findCut 223 = .ok (.istore 5, 2) := by decide +kernel
theorem dX12_findCut_225 : decode cX12_findCut 225 = .ok (.iload 5, 2) := by decide +kernel
theorem dX12_findCut_227 : decode cX12_findCut 227 = .ok (.iload_n 2, 1) := by decide +kernel
theorem dX12_findCut_228 : decode cX12_findCut 228 = .ok (.if_icmp .ge 31, 3) := by decide +kernel
theorem dX12_findCut_231 : decode cX12_findCut 231 = .ok (.aload_n 0, 1) := by decide +kernel
theorem dX12_findCut_232 : decode cX12_findCut 232 = .ok (.getfield 41, 3) := by decide +kernel
theorem dX12_findCut_235 : decode cX12_findCut 235 = .ok (.iload 5, 2) := by decide +kernel
theorem dX12_findCut_237 : decode cX12_findCut 237 = .ok (.iaload, 1) := by decide +kernel
theorem dX12_findCut_238 : decode cX12_findCut 238 = .ok (.ifCond .lt 15, 3) := by decide +kernel
theorem dX12_findCut_241 : decode cX12_findCut 241 = .ok (.aload_n 0, 1) := by decide +kernel
theorem dX12_findCut_242 : decode cX12_findCut 242 = .ok (.aload_n 0, 1) := by decide +kernel
theorem dX12_findCut_243 : decode cX12_findCut 243 = .ok (.getfield 41, 3) := by decide +kernel
theorem dX12_findCut_246 : decode cX12_findCut 246 = .ok (.iload 5, 2) := by decide +kernel
theorem dX12_findCut_248 : decode cX12_findCut 248 = .ok (.iaload, 1) := by decide +kernel
theorem dX12_findCut_249 : decode cX12_findCut 249 = .ok (.iconst 1, 1) := by decide +kernel
theorem dX12_findCut_250 : decode cX12_findCut 250 = .ok (.invokevirtual 208, 3) := by decide +kernel
theorem dX12_findCut_253 : decode cX12_findCut 253 = .ok (.iinc 5 1, 3) := by decide +kernel
theorem dX12_findCut_256 : decode cX12_findCut 256 = .ok (.goto (-31), 3) := by decide +kernel
theorem dX12_findCut_259 : decode cX12_findCut 259 = .ok (.iload 4, 2) := by decide +kernel
theorem dX12_findCut_261 : decode cX12_findCut 261 = .ok (.ireturn, 1) := by decide +kernel
theorem dX12_findSize_0 : decode cX12_findSize 0 = .ok (.iconst 0, 1) := by decide +kernel
theorem dX12_findSize_1 : decode cX12_findSize 1 = .ok (.istore_n 2, 1) := by decide +kernel
theorem dX12_findSize_2 : decode cX12_findSize 2 = .ok (.iload_n 2, 1) := by decide +kernel
theorem dX12_findSize_3 : decode cX12_findSize 3 = .ok (.iconst 4, 1) := by decide +kernel
theorem dX12_findSize_4 : decode cX12_findSize 4 = .ok (.if_icmp .ge 20, 3) := by decide +kernel
theorem dX12_findSize_7 : decode cX12_findSize 7 = .ok (.aload_n 0, 1) := by decide +kernel
theorem dX12_findSize_8 : decode cX12_findSize 8 = .ok (.iload_n 1, 1) := by decide +kernel
theorem dX12_findSize_9 : decode cX12_findSize 9 = .ok (.iload_n 2, 1) := by decide +kernel
theorem dX12_findSize_10 : decode cX12_findSize 10 = .ok (.invokevirtual 214, 3) := by decide +kernel
theorem dX12_findSize_13 : decode cX12_findSize 13 = .ok (.ifCond .eq 5, 3) := by decide +kernel
theorem dX12_findSize_16 : decode cX12_findSize 16 = .ok (.iload_n 2, 1) := by decide +kernel
theorem dX12_findSize_17 : decode cX12_findSize 17 = .ok (.ireturn, 1) := by decide +kernel
theorem dX12_findSize_18 : decode cX12_findSize 18 = .ok (.iinc 2 1, 3) := by decide +kernel
theorem dX12_findSize_21 : decode cX12_findSize 21 = .ok (.goto (-19), 3) := by decide +kernel
theorem dX12_findSize_24 : decode cX12_findSize 24 = .ok (.bipush (-6), 2) := by decide +kernel
theorem dX12_findSize_26 : decode cX12_findSize 26 = .ok (.ireturn, 1) := by decide +kernel
theorem dX12_cutSize_0 : decode cX12_cutSize 0 = .ok (.iload_n 1, 1) := by decide +kernel
theorem dX12_cutSize_1 : decode cX12_cutSize 1 = .ok (.iload_n 2, 1) := by decide +kernel
theorem dX12_cutSize_2 : decode cX12_cutSize 2 = .ok (.invokestatic 106, 3) := by decide +kernel
theorem dX12_cutSize_5 : decode cX12_cutSize 5 = .ok (.ifCond .eq 7, 3) := by decide +kernel
theorem dX12_cutSize_8 : decode cX12_cutSize 8 = .ok (.iconst (-1), 1) := by decide +kernel
theorem dX12_cutSize_9 : decode cX12_cutSize 9 = .ok (.goto 12, 3) := by decide +kernel
theorem dX12_cutSize_12 : decode cX12_cutSize 12 = .ok (.aload_n 0, 1) := by decide +kernel
theorem dX12_cutSize_13 : decode cX12_cutSize 13 = .ok (.iconst 4, 1) := by decide +kernel
theorem dX12_cutSize_14 : decode cX12_cutSize 14 = .ok (.iload_n 1, 1) := by decide +kernel
theorem dX12_cutSize_15 : decode cX12_cutSize 15 = .ok (.imul, 1) := by decide +kernel
theorem dX12_cutSize_16 : decode cX12_cutSize 16 = .ok (.iload_n 2, 1) := by decide +kernel
theorem dX12_cutSize_17 : decode cX12_cutSize 17 = .ok (.iadd, 1) := by decide +kernel
theorem dX12_cutSize_18 : decode cX12_cutSize 18 = .ok (.invokevirtual 217, 3) := by decide +kernel
theorem dX12_cutSize_21 : decode cX12_cutSize 21 = .ok (.ireturn, 1) := by decide +kernel
theorem dX12_cutRule_0 : decode cX12_cutRule 0 = .ok (.iload_n 1, 1) := by decide +kernel
theorem dX12_cutRule_1 : decode cX12_cutRule 1 = .ok (.iload_n 2, 1) := by decide +kernel
theorem dX12_cutRule_2 : decode cX12_cutRule 2 = .ok (.invokestatic 106, 3) := by decide +kernel
theorem dX12_cutRule_5 : decode cX12_cutRule 5 = .ok (.ifCond .eq 5, 3) := by decide +kernel
theorem dX12_cutRule_8 : decode cX12_cutRule 8 = .ok (.iconst (-1), 1) := by decide +kernel
theorem dX12_cutRule_9 : decode cX12_cutRule 9 = .ok (.ireturn, 1) := by decide +kernel
theorem dX12_cutRule_10 : decode cX12_cutRule 10 = .ok (.iload_n 3, 1) := by decide +kernel
theorem dX12_cutRule_11 : decode cX12_cutRule 11 = .ok (.ifCond .ge 6, 3) := by decide +kernel
theorem dX12_cutRule_14 : decode cX12_cutRule 14 = .ok (.bipush (-3), 2) := by decide +kernel
theorem dX12_cutRule_16 : decode cX12_cutRule 16 = .ok (.ireturn, 1) := by decide +kernel
theorem dX12_cutRule_17 : decode cX12_cutRule 17 = .ok (.aload_n 0, 1) := by decide +kernel
theorem dX12_cutRule_18 : decode cX12_cutRule 18 = .ok (.iconst 4, 1) := by decide +kernel
theorem dX12_cutRule_19 : decode cX12_cutRule 19 = .ok (.iload_n 1, 1) := by decide +kernel
theorem dX12_cutRule_20 : decode cX12_cutRule 20 = .ok (.imul, 1) := by decide +kernel
theorem dX12_cutRule_21 : decode cX12_cutRule 21 = .ok (.iload_n 2, 1) := by decide +kernel
theorem dX12_cutRule_22 : decode cX12_cutRule 22 = .ok (.iadd, 1) := by decide +kernel
theorem dX12_cutRule_23 : decode cX12_cutRule 23 = .ok (.invokevirtual 217, 3) := by decide +kernel
theorem dX12_cutRule_26 : decode cX12_cutRule 26 = .ok (.istore 4, 2) := by decide +kernel
theorem dX12_cutRule_28 : decode cX12_cutRule 28 = .ok (.iload_n 3, 1) := by decide +kernel
theorem dX12_cutRule_29 : decode cX12_cutRule 29 = .ok (.iload 4, 2) := by decide +kernel
theorem dX12_cutRule_31 : decode cX12_cutRule 31 = .ok (.if_icmp .ge 28, 3) := by decide +kernel
theorem dX12_cutRule_34 : decode cX12_cutRule 34 = .ok (.bipush 10, 2) := by decide +kernel
theorem dX12_cutRule_36 : decode cX12_cutRule 36 = .ok (.aload_n 0, 1) := by decide +kernel
theorem dX12_cutRule_37 : decode cX12_cutRule 37 = .ok (.getfield 41, 3) := by decide +kernel
theorem dX12_cutRule_40 : decode cX12_cutRule 40 = .ok (.iload_n 3, 1) := by decide +kernel
theorem dX12_cutRule_41 : decode cX12_cutRule 41 = .ok (.iaload, 1) := by decide +kernel
theorem dX12_cutRule_42 : decode cX12_cutRule 42 = .ok (.bipush 6, 2) := by decide +kernel
theorem dX12_cutRule_44 : decode cX12_cutRule 44 = .ok (.idiv, 1) := by decide +kernel
theorem dX12_cutRule_45 : decode cX12_cutRule 45 = .ok (.imul, 1) := by decide +kernel
theorem dX12_cutRule_46 : decode cX12_cutRule 46 = .ok (.aload_n 0, 1) := by decide +kernel
theorem dX12_cutRule_47 : decode cX12_cutRule 47 = .ok (.getfield 41, 3) := by decide +kernel
theorem dX12_cutRule_50 : decode cX12_cutRule 50 = .ok (.iload_n 3, 1) := by decide +kernel
theorem dX12_cutRule_51 : decode cX12_cutRule 51 = .ok (.iaload, 1) := by decide +kernel
theorem dX12_cutRule_52 : decode cX12_cutRule 52 = .ok (.bipush 6, 2) := by decide +kernel
theorem dX12_cutRule_54 : decode cX12_cutRule 54 = .ok (.irem, 1) := by decide +kernel
theorem dX12_cutRule_55 : decode cX12_cutRule 55 = .ok (.iadd, 1) := by decide +kernel
theorem dX12_cutRule_56 : decode cX12_cutRule 56 = .ok (.goto 5, 3) := by decide +kernel
theorem dX12_cutRule_59 : decode cX12_cutRule 59 = .ok (.bipush (-6), 2) := by decide +kernel
theorem dX12_cutRule_61 : decode cX12_cutRule 61 = .ok (.ireturn, 1) := by decide +kernel
theorem dX12_addPolicy_0 : decode cX12_addPolicy 0 = .ok (.iload_n 2, 1) := by decide +kernel
theorem dX12_addPolicy_1 : decode cX12_addPolicy 1 = .ok (.iload_n 3, 1) := by decide +kernel
theorem dX12_addPolicy_2 : decode cX12_addPolicy 2 = .ok (.invokestatic 106, 3) := by decide +kernel
theorem dX12_addPolicy_5 : decode cX12_addPolicy 5 = .ok (.ifCond .ne 13, 3) := by decide +kernel
theorem dX12_addPolicy_8 : decode cX12_addPolicy 8 = .ok (.iload 4, 2) := by decide +kernel
theorem dX12_addPolicy_10 : decode cX12_addPolicy 10 = .ok (.iload 5, 2) := by decide +kernel
theorem dX12_addPolicy_12 : decode cX12_addPolicy 12 = .ok (.invokestatic 106, 3) := by decide +kernel
theorem dX12_addPolicy_15 : decode cX12_addPolicy 15 = .ok (.ifCond .eq 5, 3) := by decide +kernel
theorem dX12_addPolicy_18 : decode cX12_addPolicy 18 = .ok (.iconst (-1), 1) := by decide +kernel
theorem dX12_addPolicy_19 : decode cX12_addPolicy 19 = .ok (.ireturn, 1) := by decide +kernel
theorem dX12_addPolicy_20 : decode cX12_addPolicy 20 = .ok (.aload_n 0, 1) := by decide +kernel
theorem dX12_addPolicy_21 : decode cX12_addPolicy 21 = .ok (.getfield 88, 3) := by decide +kernel
theorem dX12_addPolicy_24 : decode cX12_addPolicy 24 = .ok (.bipush 8, 2) := by decide +kernel
theorem dX12_addPolicy_26 : decode cX12_addPolicy 26 = .ok (.if_icmp .ne 6, 3) := by decide +kernel
theorem dX12_addPolicy_29 : decode cX12_addPolicy 29 = .ok (.bipush (-5), 2) := by decide +kernel
theorem dX12_addPolicy_31 : decode cX12_addPolicy 31 = .ok (.ireturn, 1) := by decide +kernel
theorem dX12_addPolicy_32 : decode cX12_addPolicy 32 = .ok (.aload_n 0, 1) := by decide +kernel
theorem dX12_addPolicy_33 : decode cX12_addPolicy 33 = .ok (.getfield 44, 3) := by decide +kernel
theorem dX12_addPolicy_36 : decode cX12_addPolicy 36 = .ok (.aload_n 0, 1) := by decide +kernel
theorem dX12_addPolicy_37 : decode cX12_addPolicy 37 = .ok (.getfield 88, 3) := by decide +kernel
theorem dX12_addPolicy_40 : decode cX12_addPolicy 40 = .ok (.iload_n 1, 1) := by decide +kernel
theorem dX12_addPolicy_41 : decode cX12_addPolicy 41 = .ok (.bastore, 1) := by decide +kernel
theorem dX12_addPolicy_42 : decode cX12_addPolicy 42 = .ok (.aload_n 0, 1) := by decide +kernel
theorem dX12_addPolicy_43 : decode cX12_addPolicy 43 = .ok (.getfield 48, 3) := by decide +kernel
theorem dX12_addPolicy_46 : decode cX12_addPolicy 46 = .ok (.aload_n 0, 1) := by decide +kernel
theorem dX12_addPolicy_47 : decode cX12_addPolicy 47 = .ok (.getfield 88, 3) := by decide +kernel
theorem dX12_addPolicy_50 : decode cX12_addPolicy 50 = .ok (.iconst 4, 1) := by decide +kernel
theorem dX12_addPolicy_51 : decode cX12_addPolicy 51 = .ok (.iload_n 2, 1) := by decide +kernel
theorem dX12_addPolicy_52 : decode cX12_addPolicy 52 = .ok (.imul, 1) := by decide +kernel
theorem dX12_addPolicy_53 : decode cX12_addPolicy 53 = .ok (.iload_n 3, 1) := by decide +kernel
theorem dX12_addPolicy_54 : decode cX12_addPolicy 54 = .ok (.iadd, 1) := by decide +kernel
theorem dX12_addPolicy_55 : decode cX12_addPolicy 55 = .ok (.iastore, 1) := by decide +kernel
theorem dX12_addPolicy_56 : decode cX12_addPolicy 56 = .ok (.aload_n 0, 1) := by decide +kernel
theorem dX12_addPolicy_57 : decode cX12_addPolicy 57 = .ok (.getfield 51, 3) := by decide +kernel
theorem dX12_addPolicy_60 : decode cX12_addPolicy 60 = .ok (.aload_n 0, 1) := by decide +kernel
theorem dX12_addPolicy_61 : decode cX12_addPolicy 61 = .ok (.getfield 88, 3) := by decide +kernel
theorem dX12_addPolicy_64 : decode cX12_addPolicy 64 = .ok (.iconst 4, 1) := by decide +kernel
theorem dX12_addPolicy_65 : decode cX12_addPolicy 65 = .ok (.iload 4, 2) := by decide +kernel
theorem dX12_addPolicy_67 : decode cX12_addPolicy 67 = .ok (.imul, 1) := by decide +kernel
theorem dX12_addPolicy_68 : decode cX12_addPolicy 68 = .ok (.iload 5, 2) := by decide +kernel
theorem dX12_addPolicy_70 : decode cX12_addPolicy 70 = .ok (.iadd, 1) := by decide +kernel
theorem dX12_addPolicy_71 : decode cX12_addPolicy 71 = .ok (.iastore, 1) := by decide +kernel
theorem dX12_addPolicy_72 : decode cX12_addPolicy 72 = .ok (.aload_n 0, 1) := by decide +kernel
theorem dX12_addPolicy_73 : decode cX12_addPolicy 73 = .ok (.getfield 54, 3) := by decide +kernel
theorem dX12_addPolicy_76 : decode cX12_addPolicy 76 = .ok (.aload_n 0, 1) := by decide +kernel
theorem dX12_addPolicy_77 : decode cX12_addPolicy 77 = .ok (.getfield 88, 3) := by decide +kernel
theorem dX12_addPolicy_80 : decode cX12_addPolicy 80 = .ok (.iconst 0, 1) := by decide +kernel
theorem dX12_addPolicy_81 : decode cX12_addPolicy 81 = .ok (.iastore, 1) := by decide +kernel
theorem dX12_addPolicy_82 : decode cX12_addPolicy 82 = .ok (.aload_n 0, 1) := by decide +kernel
theorem dX12_addPolicy_83 : decode cX12_addPolicy 83 = .ok (.getfield 57, 3) := by decide +kernel
theorem dX12_addPolicy_86 : decode cX12_addPolicy 86 = .ok (.aload_n 0, 1) := by decide +kernel
theorem dX12_addPolicy_87 : decode cX12_addPolicy 87 = .ok (.getfield 88, 3) := by decide +kernel
theorem dX12_addPolicy_90 : decode cX12_addPolicy 90 = .ok (.iconst 0, 1) := by decide +kernel
theorem dX12_addPolicy_91 : decode cX12_addPolicy 91 = .ok (.iastore, 1) := by decide +kernel
theorem dX12_addPolicy_92 : decode cX12_addPolicy 92 = .ok (.aload_n 0, 1) := by decide +kernel
theorem dX12_addPolicy_93 : decode cX12_addPolicy 93 = .ok (.dup, 1) := by decide +kernel
theorem dX12_addPolicy_94 : decode cX12_addPolicy 94 = .ok (.getfield 88, 3) := by decide +kernel
theorem dX12_addPolicy_97 : decode cX12_addPolicy 97 = .ok (.iconst 1, 1) := by decide +kernel
theorem dX12_addPolicy_98 : decode cX12_addPolicy 98 = .ok (.iadd, 1) := by decide +kernel
theorem dX12_addPolicy_99 : decode cX12_addPolicy 99 = .ok (.putfield 88, 3) := by decide +kernel
theorem dX12_addPolicy_102 : decode cX12_addPolicy 102 = .ok (.aload_n 0, 1) := by decide +kernel
theorem dX12_addPolicy_103 : decode cX12_addPolicy 103 = .ok (.getfield 88, 3) := by decide +kernel
theorem dX12_addPolicy_106 : decode cX12_addPolicy 106 = .ok (.iconst 1, 1) := by decide +kernel
theorem dX12_addPolicy_107 : decode cX12_addPolicy 107 = .ok (.isub, 1) := by decide +kernel
theorem dX12_addPolicy_108 : decode cX12_addPolicy 108 = .ok (.ireturn, 1) := by decide +kernel
theorem dX12_noPolicy_0 : decode cX12_noPolicy 0 = .ok (.iload_n 1, 1) := by decide +kernel
theorem dX12_noPolicy_1 : decode cX12_noPolicy 1 = .ok (.iconst 0, 1) := by decide +kernel
theorem dX12_noPolicy_2 : decode cX12_noPolicy 2 = .ok (.aload_n 0, 1) := by decide +kernel
theorem dX12_noPolicy_3 : decode cX12_noPolicy 3 = .ok (.getfield 88, 3) := by decide +kernel
theorem dX12_noPolicy_6 : decode cX12_noPolicy 6 = .ok (.iconst 1, 1) := by decide +kernel
theorem dX12_noPolicy_7 : decode cX12_noPolicy 7 = .ok (.isub, 1) := by decide +kernel
theorem dX12_noPolicy_8 : decode cX12_noPolicy 8 = .ok (.invokestatic 94, 3) := by decide +kernel
theorem dX12_noPolicy_11 : decode cX12_noPolicy 11 = .ok (.ifCond .ne 7, 3) := by decide +kernel
theorem dX12_noPolicy_14 : decode cX12_noPolicy 14 = .ok (.iconst 1, 1) := by decide +kernel
theorem dX12_noPolicy_15 : decode cX12_noPolicy 15 = .ok (.goto 4, 3) := by decide +kernel
theorem dX12_noPolicy_18 : decode cX12_noPolicy 18 = .ok (.iconst 0, 1) := by decide +kernel
theorem dX12_noPolicy_19 : decode cX12_noPolicy 19 = .ok (.ireturn, 1) := by decide +kernel
theorem dX12_setPolicyCube_0 : decode cX12_setPolicyCube 0 = .ok (.aload_n 0, 1) := by decide +kernel
theorem dX12_setPolicyCube_1 : decode cX12_setPolicyCube 1 = .ok (.iload_n 1, 1) := by decide +kernel
theorem dX12_setPolicyCube_2 : decode cX12_setPolicyCube 2 = .ok (.invokevirtual 220, 3) := by decide +kernel
theorem dX12_setPolicyCube_5 : decode cX12_setPolicyCube 5 = .ok (.ifCond .ne 19, 3) := by decide +kernel
theorem dX12_setPolicyCube_8 : decode cX12_setPolicyCube 8 = .ok (.aload_n 0, 1) := by decide +kernel
theorem dX12_setPolicyCube_9 : decode cX12_setPolicyCube 9 = .ok (.iload_n 2, 1) := by decide +kernel
theorem dX12_setPolicyCube_10 : decode cX12_setPolicyCube 10 = .ok (.invokevirtual 122, 3) := by decide +kernel
theorem dX12_setPolicyCube_13 : decode cX12_setPolicyCube 13 = .ok (.ifCond .ne 11, 3) := by decide +kernel
theorem dX12_setPolicyCube_16 : decode cX12_setPolicyCube 16 = .ok (.aload_n 0, 1) := by decide +kernel
theorem dX12_setPolicyCube_17 : decode cX12_setPolicyCube 17 = .ok (.iload_n 3, 1) := by decide +kernel
theorem dX12_setPolicyCube_18 : decode cX12_setPolicyCube 18 = .ok (.invokevirtual 122, 3) := by decide +kernel
theorem dX12_setPolicyCube_21 : decode cX12_setPolicyCube 21 = .ok (.ifCond .eq 6, 3) := by decide +kernel
theorem dX12_setPolicyCube_24 : decode cX12_setPolicyCube 24 = .ok (.bipush (-3), 2) := by decide +kernel
theorem dX12_setPolicyCube_26 : decode cX12_setPolicyCube 26 = .ok (.ireturn, 1) := by decide +kernel
theorem dX12_setPolicyCube_27 : decode cX12_setPolicyCube 27 = .ok (.aload_n 0, 1) := by decide +kernel
theorem dX12_setPolicyCube_28 : decode cX12_setPolicyCube 28 = .ok (.getfield 54, 3) := by decide +kernel
theorem dX12_setPolicyCube_31 : decode cX12_setPolicyCube 31 = .ok (.iload_n 1, 1) := by decide +kernel
theorem dX12_setPolicyCube_32 : decode cX12_setPolicyCube 32 = .ok (.iload_n 2, 1) := by decide +kernel
theorem dX12_setPolicyCube_33 : decode cX12_setPolicyCube 33 = .ok (.iastore, 1) := by decide +kernel
theorem dX12_setPolicyCube_34 : decode cX12_setPolicyCube 34 = .ok (.aload_n 0, 1) := by decide +kernel
theorem dX12_setPolicyCube_35 : decode cX12_setPolicyCube 35 = .ok (.getfield 57, 3) := by decide +kernel
theorem dX12_setPolicyCube_38 : decode cX12_setPolicyCube 38 = .ok (.iload_n 1, 1) := by decide +kernel
theorem dX12_setPolicyCube_39 : decode cX12_setPolicyCube 39 = .ok (.iload_n 3, 1) := by decide +kernel
theorem dX12_setPolicyCube_40 : decode cX12_setPolicyCube 40 = .ok (.iload_n 2, 1) := by decide +kernel
theorem dX12_setPolicyCube_41 : decode cX12_setPolicyCube 41 = .ok (.iand, 1) := by decide +kernel
theorem dX12_setPolicyCube_42 : decode cX12_setPolicyCube 42 = .ok (.iastore, 1) := by decide +kernel
theorem dX12_setPolicyCube_43 : decode cX12_setPolicyCube 43 = .ok (.aload_n 0, 1) := by decide +kernel
theorem dX12_setPolicyCube_44 : decode cX12_setPolicyCube 44 = .ok (.iload_n 2, 1) := by decide +kernel
theorem dX12_setPolicyCube_45 : decode cX12_setPolicyCube 45 = .ok (.iload_n 3, 1) := by decide +kernel
theorem dX12_setPolicyCube_46 : decode cX12_setPolicyCube 46 = .ok (.invokevirtual 185, 3) := by decide +kernel
theorem dX12_setPolicyCube_49 : decode cX12_setPolicyCube 49 = .ok (.invokestatic 172, 3) := by decide +kernel
theorem dX12_setPolicyCube_52 : decode cX12_setPolicyCube 52 = .ok (.ireturn, 1) := by decide +kernel
theorem dX12_against_0 : decode cX12_against 0 = .ok (.lconst 0, 1) := by decide +kernel
theorem dX12_against_1 : decode cX12_against 1 = .ok (.lstore_n 2, 1) := by decide +kernel
theorem dX12_against_2 : decode cX12_against 2 = .ok (.iconst 0, 1) := by decide +kernel
theorem dX12_against_3 : decode cX12_against 3 = .ok (.istore 4, 2) := by decide +kernel
theorem dX12_against_5 : decode cX12_against 5 = .ok (.iload 4, 2) := by decide +kernel
theorem dX12_against_7 : decode cX12_against 7 = .ok (.aload_n 0, 1) := by decide +kernel
theorem dX12_against_8 : decode cX12_against 8 = .ok (.invokevirtual 98, 3) := by decide +kernel
theorem dX12_against_11 : decode cX12_against 11 = .ok (.if_icmp .ge 86, 3) := by decide +kernel
theorem dX12_against_14 : decode cX12_against 14 = .ok (.iload 4, 2) := by decide +kernel
theorem dX12_against_16 : decode cX12_against 16 = .ok (.aload_n 0, 1) := by decide +kernel
theorem dX12_against_17 : decode cX12_against 17 = .ok (.getfield 54, 3) := by decide +kernel
theorem dX12_against_20 : decode cX12_against 20 = .ok (.iload_n 1, 1) := by decide +kernel
theorem dX12_against_21 : decode cX12_against 21 = .ok (.iaload, 1) := by decide +kernel
theorem dX12_against_22 : decode cX12_against 22 = .ok (.iand, 1) := by decide +kernel
theorem dX12_against_23 : decode cX12_against 23 = .ok (.aload_n 0, 1) := by decide +kernel
theorem dX12_against_24 : decode cX12_against 24 = .ok (.getfield 57, 3) := by decide +kernel
theorem dX12_against_27 : decode cX12_against 27 = .ok (.iload_n 1, 1) := by decide +kernel
theorem dX12_against_28 : decode cX12_against 28 = .ok (.iaload, 1) := by decide +kernel
theorem dX12_against_29 : decode cX12_against 29 = .ok (.if_icmp .ne 62, 3) := by decide +kernel
theorem dX12_against_32 : decode cX12_against 32 = .ok (.aload_n 0, 1) := by decide +kernel
theorem dX12_against_33 : decode cX12_against 33 = .ok (.aload_n 0, 1) := by decide +kernel
theorem dX12_against_34 : decode cX12_against 34 = .ok (.getfield 48, 3) := by decide +kernel
theorem dX12_against_37 : decode cX12_against 37 = .ok (.iload_n 1, 1) := by decide +kernel
theorem dX12_against_38 : decode cX12_against 38 = .ok (.iaload, 1) := by decide +kernel
theorem dX12_against_39 : decode cX12_against 39 = .ok (.lconst 1, 1) := by decide +kernel
theorem dX12_against_40 : decode cX12_against 40 = .ok (.iload 4, 2) := by decide +kernel
theorem dX12_against_42 : decode cX12_against 42 = .ok (.lshl, 1) := by decide +kernel
theorem dX12_against_43 : decode cX12_against 43 = .ok (.invokevirtual 168, 3) := by decide +kernel
theorem dX12_against_46 : decode cX12_against 46 = .ok (.aload_n 0, 1) := by decide +kernel
theorem dX12_against_47 : decode cX12_against 47 = .ok (.getfield 29, 3) := by decide +kernel
theorem dX12_against_50 : decode cX12_against 50 = .ok (.aload_n 0, 1) := by decide +kernel
theorem dX12_against_51 : decode cX12_against 51 = .ok (.getfield 51, 3) := by decide +kernel
theorem dX12_against_54 : decode cX12_against 54 = .ok (.iload_n 1, 1) := by decide +kernel
theorem dX12_against_55 : decode cX12_against 55 = .ok (.iaload, 1) := by decide +kernel
theorem dX12_against_56 : decode cX12_against 56 = .ok (.laload, 1) := by decide +kernel
theorem dX12_against_57 : decode cX12_against 57 = .ok (.lconst 0, 1) := by decide +kernel
theorem dX12_against_58 : decode cX12_against 58 = .ok (.lcmp, 1) := by decide +kernel
theorem dX12_against_59 : decode cX12_against 59 = .ok (.ifCond .eq 7, 3) := by decide +kernel
theorem dX12_against_62 : decode cX12_against 62 = .ok (.iconst 1, 1) := by decide +kernel
theorem dX12_against_63 : decode cX12_against 63 = .ok (.goto 4, 3) := by decide +kernel
theorem dX12_against_66 : decode cX12_against 66 = .ok (.iconst 0, 1) := by decide +kernel
theorem dX12_against_67 : decode cX12_against 67 = .ok (.istore 5, 2) := by decide +kernel
theorem dX12_against_69 : decode cX12_against 69 = .ok (.lload_n 2, 1) := by decide +kernel
theorem dX12_against_70 : decode cX12_against 70 = .ok (.iload 5, 2) := by decide +kernel
theorem dX12_against_72 : decode cX12_against 72 = .ok (.aload_n 0, 1) := by decide +kernel
theorem dX12_against_73 : decode cX12_against 73 = .ok (.getfield 44, 3) := by decide +kernel
theorem dX12_against_76 : decode cX12_against 76 = .ok (.iload_n 1, 1) := by decide +kernel
theorem dX12_against_77 : decode cX12_against 77 = .ok (.baload, 1) := by decide +kernel
theorem dX12_against_78 : decode cX12_against 78 = .ok (.if_icmp .eq 10, 3) := by decide +kernel
theorem dX12_against_81 : decode cX12_against 81 = .ok (.lconst 1, 1) := by decide +kernel
theorem dX12_against_82 : decode cX12_against 82 = .ok (.iload 4, 2) := by decide +kernel
theorem dX12_against_84 : decode cX12_against 84 = .ok (.lshl, 1) := by decide +kernel
theorem dX12_against_85 : decode cX12_against 85 = .ok (.goto 4, 3) := by decide +kernel
theorem dX12_against_88 : decode cX12_against 88 = .ok (.lconst 0, 1) := by decide +kernel
theorem dX12_against_89 : decode cX12_against 89 = .ok (.lor, 1) := by decide +kernel
theorem dX12_against_90 : decode cX12_against 90 = .ok (.lstore_n 2, 1) := by decide +kernel
theorem dX12_against_91 : decode cX12_against 91 = .ok (.iinc 4 1, 3) := by decide +kernel
theorem dX12_against_94 : decode cX12_against 94 = .ok (.goto (-89), 3) := by decide +kernel
theorem dX12_against_97 : decode cX12_against 97 = .ok (.lload_n 2, 1) := by decide +kernel
theorem dX12_against_98 : decode cX12_against 98 = .ok (.lreturn, 1) := by decide +kernel
theorem dX12_counterexamples_0 : decode cX12_counterexamples 0 = .ok (.aload_n 0, 1) := by decide +kernel
theorem dX12_counterexamples_1 : decode cX12_counterexamples 1 = .ok (.iload_n 1, 1) := by decide +kernel
theorem dX12_counterexamples_2 : decode cX12_counterexamples 2 = .ok (.invokevirtual 220, 3) := by decide +kernel
theorem dX12_counterexamples_5 : decode cX12_counterexamples 5 = .ok (.ifCond .eq 9, 3) := by decide +kernel
theorem dX12_counterexamples_8 : decode cX12_counterexamples 8 = .ok (.invokestatic 176, 3) := by decide +kernel
theorem dX12_counterexamples_11 : decode cX12_counterexamples 11 = .ok (.goto 8, 3) := by decide +kernel
theorem dX12_counterexamples_14 : decode cX12_counterexamples 14 = .ok (.aload_n 0, 1) := by decide +kernel
theorem dX12_counterexamples_15 : decode cX12_counterexamples 15 = .ok (.iload_n 1, 1) := by decide +kernel
theorem dX12_counterexamples_16 : decode cX12_counterexamples 16 = .ok (.invokevirtual 223, 3) := by decide +kernel
theorem dX12_counterexamples_19 : decode cX12_counterexamples 19 = .ok (.lreturn, 1) := by decide +kernel
theorem dX12_violated_0 : decode cX12_violated 0 = .ok (.iconst 0, 1) := by decide +kernel
theorem dX12_violated_1 : decode cX12_violated 1 = .ok (.istore_n 1, 1) := by decide +kernel
theorem dX12_violated_2 : decode cX12_violated 2 = .ok (.iconst 0, 1) := by decide +kernel
theorem dX12_violated_3 : decode cX12_violated 3 = .ok (.istore_n 2, 1) := by decide +kernel
theorem dX12_violated_4 : decode cX12_violated 4 = .ok (.iload_n 2, 1) := by decide +kernel
theorem dX12_violated_5 : decode cX12_violated 5 = .ok (.aload_n 0, 1) := by decide +kernel
theorem dX12_violated_6 : decode cX12_violated 6 = .ok (.getfield 88, 3) := by decide +kernel
theorem dX12_violated_9 : decode cX12_violated 9 = .ok (.if_icmp .ge 29, 3) := by decide +kernel
theorem dX12_violated_12 : decode cX12_violated 12 = .ok (.iload_n 1, 1) := by decide +kernel
theorem dX12_violated_13 : decode cX12_violated 13 = .ok (.aload_n 0, 1) := by decide +kernel
theorem dX12_violated_14 : decode cX12_violated 14 = .ok (.iload_n 2, 1) := by decide +kernel
theorem dX12_violated_15 : decode cX12_violated 15 = .ok (.invokevirtual 223, 3) := by decide +kernel
theorem dX12_violated_18 : decode cX12_violated 18 = .ok (.lconst 0, 1) := by decide +kernel
theorem dX12_violated_19 : decode cX12_violated 19 = .ok (.lcmp, 1) := by decide +kernel
theorem dX12_violated_20 : decode cX12_violated 20 = .ok (.ifCond .eq 9, 3) := by decide +kernel
theorem dX12_violated_23 : decode cX12_violated 23 = .ok (.iconst 1, 1) := by decide +kernel
theorem dX12_violated_24 : decode cX12_violated 24 = .ok (.iload_n 2, 1) := by decide +kernel
theorem dX12_violated_25 : decode cX12_violated 25 = .ok (.ishl, 1) := by decide +kernel
theorem dX12_violated_26 : decode cX12_violated 26 = .ok (.goto 4, 3) := by decide +kernel
theorem dX12_violated_29 : decode cX12_violated 29 = .ok (.iconst 0, 1) := by decide +kernel
theorem dX12_violated_30 : decode cX12_violated 30 = .ok (.ior, 1) := by decide +kernel
theorem dX12_violated_31 : decode cX12_violated 31 = .ok (.istore_n 1, 1) := by decide +kernel
theorem dX12_violated_32 : decode cX12_violated 32 = .ok (.iinc 2 1, 3) := by decide +kernel
theorem dX12_violated_35 : decode cX12_violated 35 = .ok (.goto (-31), 3) := by decide +kernel
theorem dX12_violated_38 : decode cX12_violated 38 = .ok (.iload_n 1, 1) := by decide +kernel
theorem dX12_violated_39 : decode cX12_violated 39 = .ok (.ireturn, 1) := by decide +kernel
theorem dX12_clearPolicies_0 : decode cX12_clearPolicies 0 = .ok (.aload_n 0, 1) := by decide +kernel
theorem dX12_clearPolicies_1 : decode cX12_clearPolicies 1 = .ok (.getfield 88, 3) := by decide +kernel
theorem dX12_clearPolicies_4 : decode cX12_clearPolicies 4 = .ok (.istore_n 1, 1) := by decide +kernel
theorem dX12_clearPolicies_5 : decode cX12_clearPolicies 5 = .ok (.aload_n 0, 1) := by decide +kernel
theorem dX12_clearPolicies_6 : decode cX12_clearPolicies 6 = .ok (.iconst 0, 1) := by decide +kernel
theorem dX12_clearPolicies_7 : decode cX12_clearPolicies 7 = .ok (.putfield 88, 3) := by decide +kernel
theorem dX12_clearPolicies_10 : decode cX12_clearPolicies 10 = .ok (.iload_n 1, 1) := by decide +kernel
theorem dX12_clearPolicies_11 : decode cX12_clearPolicies 11 = .ok (.ireturn, 1) := by decide +kernel
theorem dX12_type_0 : decode cX12_type 0 = .ok (.aload_n 0, 1) := by decide +kernel
theorem dX12_type_1 : decode cX12_type 1 = .ok (.getfield 227, 3) := by decide +kernel
theorem dX12_type_4 : decode cX12_type 4 = .ok (.bipush 40, 2) := by decide +kernel
theorem dX12_type_6 : decode cX12_type 6 = .ok (.if_icmp .ne 6, 3) := by decide +kernel
theorem dX12_type_9 : decode cX12_type 9 = .ok (.bipush (-5), 2) := by decide +kernel
theorem dX12_type_11 : decode cX12_type 11 = .ok (.ireturn, 1) := by decide +kernel
theorem dX12_type_12 : decode cX12_type 12 = .ok (.aload_n 0, 1) := by decide +kernel
theorem dX12_type_13 : decode cX12_type 13 = .ok (.getfield 60, 3) := by decide +kernel
theorem dX12_type_16 : decode cX12_type 16 = .ok (.aload_n 0, 1) := by decide +kernel
theorem dX12_type_17 : decode cX12_type 17 = .ok (.getfield 227, 3) := by decide +kernel
theorem dX12_type_20 : decode cX12_type 20 = .ok (.iload_n 1, 1) := by decide +kernel
theorem dX12_type_21 : decode cX12_type 21 = .ok (.castore, 1) := by decide +kernel
theorem dX12_type_22 : decode cX12_type 22 = .ok (.aload_n 0, 1) := by decide +kernel
theorem dX12_type_23 : decode cX12_type 23 = .ok (.dup, 1) := by decide +kernel
theorem dX12_type_24 : decode cX12_type 24 = .ok (.getfield 227, 3) := by decide +kernel
theorem dX12_type_27 : decode cX12_type 27 = .ok (.iconst 1, 1) := by decide +kernel
theorem dX12_type_28 : decode cX12_type 28 = .ok (.iadd, 1) := by decide +kernel
theorem dX12_type_29 : decode cX12_type 29 = .ok (.putfield 227, 3) := by decide +kernel
theorem dX12_type_32 : decode cX12_type 32 = .ok (.aload_n 0, 1) := by decide +kernel
theorem dX12_type_33 : decode cX12_type 33 = .ok (.getfield 227, 3) := by decide +kernel
theorem dX12_type_36 : decode cX12_type 36 = .ok (.ireturn, 1) := by decide +kernel
theorem dX12_clearText_0 : decode cX12_clearText 0 = .ok (.aload_n 0, 1) := by decide +kernel
theorem dX12_clearText_1 : decode cX12_clearText 1 = .ok (.getfield 227, 3) := by decide +kernel
theorem dX12_clearText_4 : decode cX12_clearText 4 = .ok (.istore_n 1, 1) := by decide +kernel
theorem dX12_clearText_5 : decode cX12_clearText 5 = .ok (.aload_n 0, 1) := by decide +kernel
theorem dX12_clearText_6 : decode cX12_clearText 6 = .ok (.iconst 0, 1) := by decide +kernel
theorem dX12_clearText_7 : decode cX12_clearText 7 = .ok (.putfield 227, 3) := by decide +kernel
theorem dX12_clearText_10 : decode cX12_clearText 10 = .ok (.iload_n 1, 1) := by decide +kernel
theorem dX12_clearText_11 : decode cX12_clearText 11 = .ok (.ireturn, 1) := by decide +kernel
theorem dX12_isAt_0 : decode cX12_isAt 0 = .ok (.aload_n 0, 1) := by decide +kernel
theorem dX12_isAt_1 : decode cX12_isAt 1 = .ok (.getfield 230, 3) := by decide +kernel
theorem dX12_isAt_4 : decode cX12_isAt 4 = .ok (.aload_n 0, 1) := by decide +kernel
theorem dX12_isAt_5 : decode cX12_isAt 5 = .ok (.getfield 227, 3) := by decide +kernel
theorem dX12_isAt_8 : decode cX12_isAt 8 = .ok (.if_icmp .ge 20, 3) := by decide +kernel
theorem dX12_isAt_11 : decode cX12_isAt 11 = .ok (.aload_n 0, 1) := by decide +kernel
theorem dX12_isAt_12 : decode cX12_isAt 12 = .ok (.getfield 60, 3) := by decide +kernel
theorem dX12_isAt_15 : decode cX12_isAt 15 = .ok (.aload_n 0, 1) := by decide +kernel
theorem dX12_isAt_16 : decode cX12_isAt 16 = .ok (.getfield 230, 3) := by decide +kernel
theorem dX12_isAt_19 : decode cX12_isAt 19 = .ok (.caload, 1) := by decide +kernel
theorem dX12_isAt_20 : decode cX12_isAt 20 = .ok (.iload_n 1, 1) := by decide +kernel
theorem dX12_isAt_21 : decode cX12_isAt 21 = .ok (.if_icmp .ne 7, 3) := by decide +kernel
theorem dX12_isAt_24 : decode cX12_isAt 24 = .ok (.iconst 1, 1) := by decide +kernel
theorem dX12_isAt_25 : decode cX12_isAt 25 = .ok (.goto 4, 3) := by decide +kernel
theorem dX12_isAt_28 : decode cX12_isAt 28 = .ok (.iconst 0, 1) := by decide +kernel
theorem dX12_isAt_29 : decode cX12_isAt 29 = .ok (.ireturn, 1) := by decide +kernel
theorem dX12_expect_0 : decode cX12_expect 0 = .ok (.aload_n 0, 1) := by decide +kernel
theorem dX12_expect_1 : decode cX12_expect 1 = .ok (.aload_n 0, 1) := by decide +kernel
theorem dX12_expect_2 : decode cX12_expect 2 = .ok (.getfield 233, 3) := by decide +kernel
theorem dX12_expect_5 : decode cX12_expect 5 = .ok (.ifCond .eq 15, 3) := by decide +kernel
theorem dX12_expect_8 : decode cX12_expect 8 = .ok (.aload_n 0, 1) := by decide +kernel
theorem dX12_expect_9 : decode cX12_expect 9 = .ok (.iload_n 1, 1) := by decide +kernel
theorem dX12_expect_10 : decode cX12_expect 10 = .ok (.invokevirtual 237, 3) := by decide +kernel
theorem dX12_expect_13 : decode cX12_expect 13 = .ok (.ifCond .eq 7, 3) := by decide +kernel
theorem dX12_expect_16 : decode cX12_expect 16 = .ok (.iconst 1, 1) := by decide +kernel
theorem dX12_expect_17 : decode cX12_expect 17 = .ok (.goto 4, 3) := by decide +kernel
theorem dX12_expect_20 : decode cX12_expect 20 = .ok (.iconst 0, 1) := by decide +kernel
theorem dX12_expect_21 : decode cX12_expect 21 = .ok (.putfield 233, 3) := by decide +kernel
theorem dX12_expect_24 : decode cX12_expect 24 = .ok (.aload_n 0, 1) := by decide +kernel
theorem dX12_expect_25 : decode cX12_expect 25 = .ok (.dup, 1) := by decide +kernel
theorem dX12_expect_26 : decode cX12_expect 26 = .ok (.getfield 230, 3) := by decide +kernel
theorem dX12_expect_29 : decode cX12_expect 29 = .ok (.aload_n 0, 1) := by decide +kernel
theorem dX12_expect_30 : decode cX12_expect 30 = .ok (.getfield 233, 3) := by decide +kernel
theorem dX12_expect_33 : decode cX12_expect 33 = .ok (.ifCond .eq 7, 3) := by decide +kernel
theorem dX12_expect_36 : decode cX12_expect 36 = .ok (.iconst 1, 1) := by decide +kernel
theorem dX12_expect_37 : decode cX12_expect 37 = .ok (.goto 4, 3) := by decide +kernel
theorem dX12_expect_40 : decode cX12_expect 40 = .ok (.iconst 0, 1) := by decide +kernel
theorem dX12_expect_41 : decode cX12_expect 41 = .ok (.iadd, 1) := by decide +kernel
theorem dX12_expect_42 : decode cX12_expect 42 = .ok (.putfield 230, 3) := by decide +kernel
theorem dX12_expect_45 : decode cX12_expect 45 = .ok (.return_, 1) := by decide +kernel
theorem dX12_readPorts_0 : decode cX12_readPorts 0 = .ok (.iconst 0, 1) := by decide +kernel
theorem dX12_readPorts_1 : decode cX12_readPorts 1 = .ok (.istore_n 1, 1) := by decide +kernel
theorem dX12_readPorts_2 : decode cX12_readPorts 2 = .ok (.aload_n 0, 1) := by decide +kernel
theorem dX12_readPorts_3 : decode cX12_readPorts 3 = .ok (.getfield 233, 3) := by decide +kernel
theorem dX12_readPorts_6 : decode cX12_readPorts 6 = .ok (.ifCond .eq 81, 3) := by decide +kernel
theorem dX12_readPorts_9 : decode cX12_readPorts 9 = .ok (.aload_n 0, 1) := by decide +kernel
theorem dX12_readPorts_10 : decode cX12_readPorts 10 = .ok (.getfield 230, 3) := by decide +kernel
theorem dX12_readPorts_13 : decode cX12_readPorts 13 = .ok (.aload_n 0, 1) := by decide +kernel
theorem dX12_readPorts_14 : decode cX12_readPorts 14 = .ok (.getfield 227, 3) := by decide +kernel
theorem dX12_readPorts_17 : decode cX12_readPorts 17 = .ok (.if_icmp .ge 70, 3) := by decide +kernel
theorem dX12_readPorts_20 : decode cX12_readPorts 20 = .ok (.aload_n 0, 1) := by decide +kernel
theorem dX12_readPorts_21 : decode cX12_readPorts 21 = .ok (.getfield 60, 3) := by decide +kernel
theorem dX12_readPorts_24 : decode cX12_readPorts 24 = .ok (.aload_n 0, 1) := by decide +kernel
theorem dX12_readPorts_25 : decode cX12_readPorts 25 = .ok (.getfield 230, 3) := by decide +kernel
theorem dX12_readPorts_28 : decode cX12_readPorts 28 = .ok (.caload, 1) := by decide +kernel
theorem dX12_readPorts_29 : decode cX12_readPorts 29 = .ok (.bipush 48, 2) := by decide +kernel
theorem dX12_readPorts_31 : decode cX12_readPorts 31 = .ok (.bipush 51, 2) := by decide +kernel
theorem dX12_readPorts_33 : decode cX12_readPorts 33 = .ok (.invokestatic 94, 3) := by decide +kernel
theorem dX12_readPorts_36 : decode cX12_readPorts 36 = .ok (.ifCond .eq 51, 3) := by decide +kernel
theorem dX12_readPorts_39 : decode cX12_readPorts 39 = .ok (.iload_n 1, 1) := by decide +kernel
theorem dX12_readPorts_40 : decode cX12_readPorts 40 = .ok (.iconst 1, 1) := by decide +kernel
theorem dX12_readPorts_41 : decode cX12_readPorts 41 = .ok (.aload_n 0, 1) := by decide +kernel
theorem dX12_readPorts_42 : decode cX12_readPorts 42 = .ok (.getfield 60, 3) := by decide +kernel
theorem dX12_readPorts_45 : decode cX12_readPorts 45 = .ok (.aload_n 0, 1) := by decide +kernel
theorem dX12_readPorts_46 : decode cX12_readPorts 46 = .ok (.getfield 230, 3) := by decide +kernel
theorem dX12_readPorts_49 : decode cX12_readPorts 49 = .ok (.caload, 1) := by decide +kernel
theorem dX12_readPorts_50 : decode cX12_readPorts 50 = .ok (.bipush 48, 2) := by decide +kernel
theorem dX12_readPorts_52 : decode cX12_readPorts 52 = .ok (.isub, 1) := by decide +kernel
theorem dX12_readPorts_53 : decode cX12_readPorts 53 = .ok (.ishl, 1) := by decide +kernel
theorem dX12_readPorts_54 : decode cX12_readPorts 54 = .ok (.if_icmp .ge 33, 3) := by decide +kernel
theorem dX12_readPorts_57 : decode cX12_readPorts 57 = .ok (.iload_n 1, 1) := by decide +kernel
theorem dX12_readPorts_58 : decode cX12_readPorts 58 = .ok (.iconst 1, 1) := by decide +kernel
theorem dX12_readPorts_59 : decode cX12_readPorts 59 = .ok (.aload_n 0, 1) := by decide +kernel
theorem dX12_readPorts_60 : decode cX12_readPorts 60 = .ok (.getfield 60, 3) := by decide +kernel
theorem dX12_readPorts_63 : decode cX12_readPorts 63 = .ok (.aload_n 0, 1) := by decide +kernel
theorem dX12_readPorts_64 : decode cX12_readPorts 64 = .ok (.getfield 230, 3) := by decide +kernel
theorem dX12_readPorts_67 : decode cX12_readPorts 67 = .ok (.caload, 1) := by decide +kernel
theorem dX12_readPorts_68 : decode cX12_readPorts 68 = .ok (.bipush 48, 2) := by decide +kernel
theorem dX12_readPorts_70 : decode cX12_readPorts 70 = .ok (.isub, 1) := by decide +kernel
theorem dX12_readPorts_71 : decode cX12_readPorts 71 = .ok (.ishl, 1) := by decide +kernel
theorem dX12_readPorts_72 : decode cX12_readPorts 72 = .ok (.ior, 1) := by decide +kernel
theorem dX12_readPorts_73 : decode cX12_readPorts 73 = .ok (.istore_n 1, 1) := by decide +kernel
theorem dX12_readPorts_74 : decode cX12_readPorts 74 = .ok (.aload_n 0, 1) := by decide +kernel
theorem dX12_readPorts_75 : decode cX12_readPorts 75 = .ok (.dup, 1) := by decide +kernel
theorem dX12_readPorts_76 : decode cX12_readPorts 76 = .ok (.getfield 230, 3) := by decide +kernel
theorem dX12_readPorts_79 : decode cX12_readPorts 79 = .ok (.iconst 1, 1) := by decide +kernel
theorem dX12_readPorts_80 : decode cX12_readPorts 80 = .ok (.iadd, 1) := by decide +kernel
theorem dX12_readPorts_81 : decode cX12_readPorts 81 = .ok (.putfield 230, 3) := by decide +kernel
theorem dX12_readPorts_84 : decode cX12_readPorts 84 = .ok (.goto (-82), 3) := by decide +kernel
theorem dX12_readPorts_87 : decode cX12_readPorts 87 = .ok (.aload_n 0, 1) := by decide +kernel
theorem dX12_readPorts_88 : decode cX12_readPorts 88 = .ok (.aload_n 0, 1) := by decide +kernel
theorem dX12_readPorts_89 : decode cX12_readPorts 89 = .ok (.getfield 233, 3) := by decide +kernel
theorem dX12_readPorts_92 : decode cX12_readPorts 92 = .ok (.ifCond .eq 11, 3) := by decide +kernel
theorem dX12_readPorts_95 : decode cX12_readPorts 95 = .ok (.iload_n 1, 1) := by decide +kernel
theorem dX12_readPorts_96 : decode cX12_readPorts 96 = .ok (.ifCond .eq 7, 3) := by decide +kernel
theorem dX12_readPorts_99 : decode cX12_readPorts 99 = .ok (.iconst 1, 1) := by decide +kernel
theorem dX12_readPorts_100 : decode cX12_readPorts 100 = .ok (.goto 4, 3) := by decide +kernel
theorem dX12_readPorts_103 : decode cX12_readPorts 103 = .ok (.iconst 0, 1) := by decide +kernel
theorem dX12_readPorts_104 : decode cX12_readPorts 104 = .ok (.putfield 233, 3) := by decide +kernel
theorem dX12_readPorts_107 : decode cX12_readPorts 107 = .ok (.iload_n 1, 1) := by decide +kernel
theorem dX12_readPorts_108 : decode cX12_readPorts 108 = .ok (.ireturn, 1) := by decide +kernel
theorem dX12_readPattern_0 : decode cX12_readPattern 0 = .ok (.aload_n 0, 1) := by decide +kernel
theorem dX12_readPattern_1 : decode cX12_readPattern 1 = .ok (.iconst 0, 1) := by decide +kernel
theorem dX12_readPattern_2 : decode cX12_readPattern 2 = .ok (.putfield 241, 3) := by decide +kernel
theorem dX12_readPattern_5 : decode cX12_readPattern 5 = .ok (.aload_n 0, 1) := by decide +kernel
theorem dX12_readPattern_6 : decode cX12_readPattern 6 = .ok (.iconst 0, 1) := by decide +kernel
theorem dX12_readPattern_7 : decode cX12_readPattern 7 = .ok (.putfield 244, 3) := by decide +kernel
theorem dX12_readPattern_10 : decode cX12_readPattern 10 = .ok (.aload_n 0, 1) := by decide +kernel
theorem dX12_readPattern_11 : decode cX12_readPattern 11 = .ok (.getfield 67, 3) := by decide +kernel
theorem dX12_readPattern_14 : decode cX12_readPattern 14 = .ok (.iconst 1, 1) := by decide +kernel
theorem dX12_readPattern_15 : decode cX12_readPattern 15 = .ok (.isub, 1) := by decide +kernel
theorem dX12_readPattern_16 : decode cX12_readPattern 16 = .ok (.istore_n 1, 1) := by decide +kernel
theorem dX12_readPattern_17 : decode cX12_readPattern 17 = .ok (.iload_n 1, 1) := by decide +kernel
theorem dX12_readPattern_18 : decode cX12_readPattern 18 = .ok (.ifCond .lt 137, 3) := by decide +kernel
theorem dX12_readPattern_21 : decode cX12_readPattern 21 = .ok (.aload_n 0, 1) := by decide +kernel
theorem dX12_readPattern_22 : decode cX12_readPattern 22 = .ok (.getfield 233, 3) := by decide +kernel
theorem dX12_readPattern_25 : decode cX12_readPattern 25 = .ok (.ifCond .eq 130, 3) := by decide +kernel
theorem dX12_readPattern_28 : decode cX12_readPattern 28 = .ok (.aload_n 0, 1) := by decide +kernel
theorem dX12_readPattern_29 : decode cX12_readPattern 29 = .ok (.aload_n 0, 1) := by decide +kernel
theorem dX12_readPattern_30 : decode cX12_readPattern 30 = .ok (.bipush 48, 2) := by decide +kernel
theorem dX12_readPattern_32 : decode cX12_readPattern 32 = .ok (.invokevirtual 237, 3) := by decide +kernel
theorem dX12_readPattern_35 : decode cX12_readPattern 35 = .ok (.ifCond .ne 21, 3) := by decide +kernel
theorem dX12_readPattern_38 : decode cX12_readPattern 38 = .ok (.aload_n 0, 1) := by decide +kernel
theorem dX12_readPattern_39 : decode cX12_readPattern 39 = .ok (.bipush 49, 2) := by decide +kernel
theorem dX12_readPattern_41 : decode cX12_readPattern 41 = .ok (.invokevirtual 237, 3) := by decide +kernel
theorem dX12_readPattern_44 : decode cX12_readPattern 44 = .ok (.ifCond .ne 12, 3) := by decide +kernel
theorem dX12_readPattern_47 : decode cX12_readPattern 47 = .ok (.aload_n 0, 1) := by decide +kernel
theorem dX12_readPattern_48 : decode cX12_readPattern 48 = .ok (.bipush 42, 2) := by decide +kernel
theorem dX12_readPattern_50 : decode cX12_readPattern 50 = .ok (.invokevirtual 237, 3) := by decide +kernel
theorem dX12_readPattern_53 : decode cX12_readPattern 53 = .ok (.ifCond .eq 7, 3) := by decide +kernel
theorem dX12_readPattern_56 : decode cX12_readPattern 56 = .ok (.iconst 1, 1) := by decide +kernel
theorem dX12_readPattern_57 : decode cX12_readPattern 57 = .ok (.goto 4, 3) := by decide +kernel
theorem dX12_readPattern_60 : decode cX12_readPattern 60 = .ok (.iconst 0, 1) := by decide +kernel
theorem dX12_readPattern_61 : decode cX12_readPattern 61 = .ok (.putfield 233, 3) := by decide +kernel
theorem dX12_readPattern_64 : decode cX12_readPattern 64 = .ok (.aload_n 0, 1) := by decide +kernel
theorem dX12_readPattern_65 : decode cX12_readPattern 65 = .ok (.dup, 1) := by decide +kernel
theorem dX12_readPattern_66 : decode cX12_readPattern 66 = .ok (.getfield 241, 3) := by decide +kernel
theorem dX12_readPattern_69 : decode cX12_readPattern 69 = .ok (.aload_n 0, 1) := by decide +kernel
theorem dX12_readPattern_70 : decode cX12_readPattern 70 = .ok (.getfield 233, 3) := by decide +kernel
theorem dX12_readPattern_73 : decode cX12_readPattern 73 = .ok (.ifCond .eq 18, 3) := by decide +kernel
theorem dX12_readPattern_76 : decode cX12_readPattern 76 = .ok (.aload_n 0, 1) := by decide +kernel
theorem dX12_readPattern_77 : decode cX12_readPattern 77 = .ok (.bipush 42, 2) := by decide +kernel
theorem dX12_readPattern_79 : decode cX12_readPattern 79 = .ok (.invokevirtual 237, 3) := by decide +kernel
theorem dX12_readPattern_82 : decode cX12_readPattern 82 = .ok (.ifCond .ne 9, 3) := by decide +kernel
theorem dX12_readPattern_85 : decode cX12_readPattern 85 = .ok (.iconst 1, 1) := by decide +kernel
theorem dX12_readPattern_86 : decode cX12_readPattern 86 = .ok (.iload_n 1, 1) := by decide +kernel
theorem dX12_readPattern_87 : decode cX12_readPattern 87 = .ok (.ishl, 1) := by decide +kernel
theorem dX12_readPattern_88 : decode cX12_readPattern 88 = .ok (.goto 4, 3) := by decide +kernel
theorem dX12_readPattern_91 : decode cX12_readPattern 91 = .ok (.iconst 0, 1) := by decide +kernel
theorem dX12_readPattern_92 : decode cX12_readPattern 92 = .ok (.ior, 1) := by decide +kernel
theorem dX12_readPattern_93 : decode cX12_readPattern 93 = .ok (.putfield 241, 3) := by decide +kernel
theorem dX12_readPattern_96 : decode cX12_readPattern 96 = .ok (.aload_n 0, 1) := by decide +kernel
theorem dX12_readPattern_97 : decode cX12_readPattern 97 = .ok (.dup, 1) := by decide +kernel
theorem dX12_readPattern_98 : decode cX12_readPattern 98 = .ok (.getfield 244, 3) := by decide +kernel
theorem dX12_readPattern_101 : decode cX12_readPattern 101 = .ok (.aload_n 0, 1) := by decide +kernel
theorem dX12_readPattern_102 : decode cX12_readPattern 102 = .ok (.getfield 233, 3) := by decide +kernel
theorem dX12_readPattern_105 : decode cX12_readPattern 105 = .ok (.ifCond .eq 18, 3) := by decide +kernel
theorem dX12_readPattern_108 : decode cX12_readPattern 108 = .ok (.aload_n 0, 1) := by decide +kernel
theorem dX12_readPattern_109 : decode cX12_readPattern 109 = .ok (.bipush 49, 2) := by decide +kernel
theorem dX12_readPattern_111 : decode cX12_readPattern 111 = .ok (.invokevirtual 237, 3) := by decide +kernel
theorem dX12_readPattern_114 : decode cX12_readPattern 114 = .ok (.ifCond .eq 9, 3) := by decide +kernel
theorem dX12_readPattern_117 : decode cX12_readPattern 117 = .ok (.iconst 1, 1) := by decide +kernel
theorem dX12_readPattern_118 : decode cX12_readPattern 118 = .ok (.iload_n 1, 1) := by decide +kernel
theorem dX12_readPattern_119 : decode cX12_readPattern 119 = .ok (.ishl, 1) := by decide +kernel
theorem dX12_readPattern_120 : decode cX12_readPattern 120 = .ok (.goto 4, 3) := by decide +kernel
theorem dX12_readPattern_123 : decode cX12_readPattern 123 = .ok (.iconst 0, 1) := by decide +kernel
theorem dX12_readPattern_124 : decode cX12_readPattern 124 = .ok (.ior, 1) := by decide +kernel
theorem dX12_readPattern_125 : decode cX12_readPattern 125 = .ok (.putfield 244, 3) := by decide +kernel
theorem dX12_readPattern_128 : decode cX12_readPattern 128 = .ok (.aload_n 0, 1) := by decide +kernel
theorem dX12_readPattern_129 : decode cX12_readPattern 129 = .ok (.dup, 1) := by decide +kernel
theorem dX12_readPattern_130 : decode cX12_readPattern 130 = .ok (.getfield 230, 3) := by decide +kernel
theorem dX12_readPattern_133 : decode cX12_readPattern 133 = .ok (.aload_n 0, 1) := by decide +kernel
theorem dX12_readPattern_134 : decode cX12_readPattern 134 = .ok (.getfield 233, 3) := by decide +kernel
theorem dX12_readPattern_137 : decode cX12_readPattern 137 = .ok (.ifCond .eq 7, 3) := by decide +kernel
theorem dX12_readPattern_140 : decode cX12_readPattern 140 = .ok (.iconst 1, 1) := by decide +kernel
theorem dX12_readPattern_141 : decode cX12_readPattern 141 = .ok (.goto 4, 3) := by decide +kernel
theorem dX12_readPattern_144 : decode cX12_readPattern 144 = .ok (.iconst 0, 1) := by decide +kernel
theorem dX12_readPattern_145 : decode cX12_readPattern 145 = .ok (.iadd, 1) := by decide +kernel
theorem dX12_readPattern_146 : decode cX12_readPattern 146 = .ok (.putfield 230, 3) := by decide +kernel
theorem dX12_readPattern_149 : decode cX12_readPattern 149 = .ok (.iinc 1 (-1), 3) := by decide +kernel
theorem dX12_readPattern_152 : decode cX12_readPattern 152 = .ok (.goto (-135), 3) := by decide +kernel
theorem dX12_readPattern_155 : decode cX12_readPattern 155 = .ok (.return_, 1) := by decide +kernel
theorem dX12_readRule_0 : decode cX12_readRule 0 = .ok (.iload_n 1, 1) := by decide +kernel
theorem dX12_readRule_1 : decode cX12_readRule 1 = .ok (.invokestatic 102, 3) := by decide +kernel
theorem dX12_readRule_4 : decode cX12_readRule 4 = .ok (.ifCond .eq 5, 3) := by decide +kernel
theorem dX12_readRule_7 : decode cX12_readRule 7 = .ok (.iconst (-1), 1) := by decide +kernel
theorem dX12_readRule_8 : decode cX12_readRule 8 = .ok (.ireturn, 1) := by decide +kernel
theorem dX12_readRule_9 : decode cX12_readRule 9 = .ok (.aload_n 0, 1) := by decide +kernel
theorem dX12_readRule_10 : decode cX12_readRule 10 = .ok (.iconst 0, 1) := by decide +kernel
theorem dX12_readRule_11 : decode cX12_readRule 11 = .ok (.putfield 230, 3) := by decide +kernel
theorem dX12_readRule_14 : decode cX12_readRule 14 = .ok (.aload_n 0, 1) := by decide +kernel
theorem dX12_readRule_15 : decode cX12_readRule 15 = .ok (.iconst 1, 1) := by decide +kernel
theorem dX12_readRule_16 : decode cX12_readRule 16 = .ok (.putfield 233, 3) := by decide +kernel
theorem dX12_readRule_19 : decode cX12_readRule 19 = .ok (.bipush 15, 2) := by decide +kernel
theorem dX12_readRule_21 : decode cX12_readRule 21 = .ok (.istore_n 2, 1) := by decide +kernel
theorem dX12_readRule_22 : decode cX12_readRule 22 = .ok (.aload_n 0, 1) := by decide +kernel
theorem dX12_readRule_23 : decode cX12_readRule 23 = .ok (.bipush 42, 2) := by decide +kernel
theorem dX12_readRule_25 : decode cX12_readRule 25 = .ok (.invokevirtual 237, 3) := by decide +kernel
theorem dX12_readRule_28 : decode cX12_readRule 28 = .ok (.ifCond .eq 16, 3) := by decide +kernel
theorem dX12_readRule_31 : decode cX12_readRule 31 = .ok (.aload_n 0, 1) := by decide +kernel
theorem dX12_readRule_32 : decode cX12_readRule 32 = .ok (.dup, 1) := by decide +kernel
theorem dX12_readRule_33 : decode cX12_readRule 33 = .ok (.getfield 230, 3) := by decide +kernel
theorem dX12_readRule_36 : decode cX12_readRule 36 = .ok (.iconst 1, 1) := by decide +kernel
theorem dX12_readRule_37 : decode cX12_readRule 37 = .ok (.iadd, 1) := by decide +kernel
theorem dX12_readRule_38 : decode cX12_readRule 38 = .ok (.putfield 230, 3) := by decide +kernel
theorem dX12_readRule_41 : decode cX12_readRule 41 = .ok (.goto 8, 3) := by decide +kernel
theorem dX12_readRule_44 : decode cX12_readRule 44 = .ok (.aload_n 0, 1) := by decide +kernel
theorem dX12_readRule_45 : decode cX12_readRule 45 = .ok (.invokevirtual 247, 3) := by decide +kernel
theorem dX12_readRule_48 : decode cX12_readRule 48 = .ok (.istore_n 2, 1) := by decide +kernel
theorem dX12_readRule_49 : decode cX12_readRule 49 = .ok (.aload_n 0, 1) := by decide +kernel
theorem dX12_readRule_50 : decode cX12_readRule 50 = .ok (.bipush 58, 2) := by decide +kernel
theorem dX12_readRule_52 : decode cX12_readRule 52 = .ok (.invokevirtual 250, 3) := by decide +kernel
theorem dX12_readRule_55 : decode cX12_readRule 55 = .ok (.aload_n 0, 1) := by decide +kernel
theorem dX12_readRule_56 : decode cX12_readRule 56 = .ok (.invokevirtual 254, 3) := by decide +kernel
theorem dX12_readRule_59 : decode cX12_readRule 59 = .ok (.aload_n 0, 1) := by decide +kernel
theorem dX12_readRule_60 : decode cX12_readRule 60 = .ok (.getfield 241, 3) := by decide +kernel
theorem dX12_readRule_63 : decode cX12_readRule 63 = .ok (.istore_n 3, 1) := by decide +kernel
theorem dX12_readRule_64 : decode cX12_readRule 64 = .ok (.aload_n 0, 1) := by decide +kernel
theorem dX12_readRule_65 : decode cX12_readRule 65 = .ok (.getfield 244, 3) := by decide +kernel
theorem dX12_readRule_68 : decode cX12_readRule 68 = .ok (.istore 4, 2) := by decide +kernel
theorem dX12_readRule_70 : decode cX12_readRule 70 = .ok (.iconst 0, 1) := by decide +kernel
theorem dX12_readRule_71 : decode cX12_readRule 71 = .ok (.istore 5, 2) := by decide +kernel
theorem dX12_readRule_73 : decode cX12_readRule 73 = .ok (.aload_n 0, 1) := by decide +kernel
theorem dX12_readRule_74 : decode cX12_readRule 74 = .ok (.iconst 0, 1) := by decide +kernel
theorem dX12_readRule_75 : decode cX12_readRule 75 = .ok (.putfield 241, 3) := by decide +kernel
theorem dX12_readRule_78 : decode cX12_readRule 78 = .ok (.aload_n 0, 1) := by decide +kernel
theorem dX12_readRule_79 : decode cX12_readRule 79 = .ok (.iconst 0, 1) := by decide +kernel
theorem dX12_readRule_80 : decode cX12_readRule 80 = .ok (.putfield 244, 3) := by decide +kernel
theorem dX12_readRule_83 : decode cX12_readRule 83 = .ok (.aload_n 0, 1) := by decide +kernel
theorem dX12_readRule_84 : decode cX12_readRule 84 = .ok (.getfield 233, 3) := by decide +kernel
theorem dX12_readRule_87 : decode cX12_readRule 87 = .ok (.ifCond .eq 16, 3) := by decide +kernel
theorem dX12_readRule_90 : decode cX12_readRule 90 = .ok (.aload_n 0, 1) := by decide +kernel
theorem dX12_readRule_91 : decode cX12_readRule 91 = .ok (.bipush 33, 2) := by decide +kernel
theorem dX12_readRule_93 : decode cX12_readRule 93 = .ok (.invokevirtual 237, 3) := by decide +kernel
theorem dX12_readRule_96 : decode cX12_readRule 96 = .ok (.ifCond .eq 7, 3) := by decide +kernel
theorem dX12_readRule_99 : decode cX12_readRule 99 = .ok (.iconst 1, 1) := by decide +kernel
theorem dX12_readRule_100 : decode cX12_readRule 100 = .ok (.goto 4, 3) := by decide +kernel
theorem dX12_readRule_103 : decode cX12_readRule 103 = .ok (.iconst 0, 1) := by decide +kernel
theorem dX12_readRule_104 : decode cX12_readRule 104 = .ok (.istore 6, 2) := by decide +kernel
theorem dX12_readRule_106 : decode cX12_readRule 106 = .ok (.iload 6, 2) := by decide +kernel
theorem dX12_readRule_108 : decode cX12_readRule 108 = .ok (.ifCond .eq 16, 3) := by decide +kernel
theorem dX12_readRule_111 : decode cX12_readRule 111 = .ok (.aload_n 0, 1) := by decide +kernel
theorem dX12_readRule_112 : decode cX12_readRule 112 = .ok (.dup, 1) := by decide +kernel
theorem dX12_readRule_113 : decode cX12_readRule 113 = .ok (.getfield 230, 3) := by decide +kernel
theorem dX12_readRule_116 : decode cX12_readRule 116 = .ok (.iconst 1, 1) := by decide +kernel
theorem dX12_readRule_117 : decode cX12_readRule 117 = .ok (.iadd, 1) := by decide +kernel
theorem dX12_readRule_118 : decode cX12_readRule 118 = .ok (.putfield 230, 3) := by decide +kernel
theorem dX12_readRule_121 : decode cX12_readRule 121 = .ok (.goto 45, 3) := by decide +kernel
theorem dX12_readRule_124 : decode cX12_readRule 124 = .ok (.aload_n 0, 1) := by decide +kernel
theorem dX12_readRule_125 : decode cX12_readRule 125 = .ok (.bipush 62, 2) := by decide +kernel
theorem dX12_readRule_127 : decode cX12_readRule 127 = .ok (.invokevirtual 250, 3) := by decide +kernel
theorem dX12_readRule_130 : decode cX12_readRule 130 = .ok (.aload_n 0, 1) := by decide +kernel
theorem dX12_readRule_131 : decode cX12_readRule 131 = .ok (.invokevirtual 247, 3) := by decide +kernel
theorem dX12_readRule_134 : decode cX12_readRule 134 = .ok (.istore 5, 2) := by decide +kernel
theorem dX12_readRule_136 : decode cX12_readRule 136 = .ok (.aload_n 0, 1) := by decide +kernel
theorem dX12_readRule_137 : decode cX12_readRule 137 = .ok (.getfield 233, 3) := by decide +kernel
theorem dX12_readRule_140 : decode cX12_readRule 140 = .ok (.ifCond .eq 26, 3) := by decide +kernel
theorem dX12_readRule_143 : decode cX12_readRule 143 = .ok (.aload_n 0, 1) := by decide +kernel
theorem dX12_readRule_144 : decode cX12_readRule 144 = .ok (.bipush 61, 2) := by decide +kernel
theorem dX12_readRule_146 : decode cX12_readRule 146 = .ok (.invokevirtual 237, 3) := by decide +kernel
theorem dX12_readRule_149 : decode cX12_readRule 149 = .ok (.ifCond .eq 17, 3) := by decide +kernel
theorem dX12_readRule_152 : decode cX12_readRule 152 = .ok (.aload_n 0, 1) := by decide +kernel
theorem dX12_readRule_153 : decode cX12_readRule 153 = .ok (.dup, 1) := by decide +kernel
theorem dX12_readRule_154 : decode cX12_readRule 154 = .ok (.getfield 230, 3) := by decide +kernel
theorem dX12_readRule_157 : decode cX12_readRule 157 = .ok (.iconst 1, 1) := by decide +kernel
theorem dX12_readRule_158 : decode cX12_readRule 158 = .ok (.iadd, 1) := by decide +kernel
theorem dX12_readRule_159 : decode cX12_readRule 159 = .ok (.putfield 230, 3) := by decide +kernel
theorem dX12_readRule_162 : decode cX12_readRule 162 = .ok (.aload_n 0, 1) := by decide +kernel
theorem dX12_readRule_163 : decode cX12_readRule 163 = .ok (.invokevirtual 254, 3) := by decide +kernel
theorem dX12_readRule_166 : decode cX12_readRule 166 = .ok (.aload_n 0, 1) := by decide +kernel
theorem dX12_readRule_167 : decode cX12_readRule 167 = .ok (.getfield 233, 3) := by decide +kernel
theorem dX12_readRule_170 : decode cX12_readRule 170 = .ok (.ifCond .eq 14, 3) := by decide +kernel
theorem dX12_readRule_173 : decode cX12_readRule 173 = .ok (.aload_n 0, 1) := by decide +kernel
theorem dX12_readRule_174 : decode cX12_readRule 174 = .ok (.getfield 230, 3) := by decide +kernel
theorem dX12_readRule_177 : decode cX12_readRule 177 = .ok (.aload_n 0, 1) := by decide +kernel
theorem dX12_readRule_178 : decode cX12_readRule 178 = .ok (.getfield 227, 3) := by decide +kernel
theorem dX12_readRule_181 : decode cX12_readRule 181 = .ok (.if_icmp .ge 11, 3) := by decide +kernel
theorem dX12_readRule_184 : decode cX12_readRule 184 = .ok (.bipush (-100), 2) := by decide +kernel
theorem dX12_readRule_186 : decode cX12_readRule 186 = .ok (.aload_n 0, 1) := by decide +kernel
theorem dX12_readRule_187 : decode cX12_readRule 187 = .ok (.getfield 230, 3) := by decide +kernel
theorem dX12_readRule_190 : decode cX12_readRule 190 = .ok (.isub, 1) := by decide +kernel
theorem dX12_readRule_191 : decode cX12_readRule 191 = .ok (.ireturn, 1) := by decide +kernel
theorem dX12_readRule_192 : decode cX12_readRule 192 = .ok (.aload_n 0, 1) := by decide +kernel
theorem dX12_readRule_193 : decode cX12_readRule 193 = .ok (.iload_n 1, 1) := by decide +kernel
theorem dX12_readRule_194 : decode cX12_readRule 194 = .ok (.invokevirtual 110, 3) := by decide +kernel
theorem dX12_readRule_197 : decode cX12_readRule 197 = .ok (.bipush 6, 2) := by decide +kernel
theorem dX12_readRule_199 : decode cX12_readRule 199 = .ok (.if_icmp .ne 6, 3) := by decide +kernel
theorem dX12_readRule_202 : decode cX12_readRule 202 = .ok (.bipush (-5), 2) := by decide +kernel
theorem dX12_readRule_204 : decode cX12_readRule 204 = .ok (.ireturn, 1) := by decide +kernel
theorem dX12_readRule_205 : decode cX12_readRule 205 = .ok (.aload_n 0, 1) := by decide +kernel
theorem dX12_readRule_206 : decode cX12_readRule 206 = .ok (.iload_n 1, 1) := by decide +kernel
theorem dX12_readRule_207 : decode cX12_readRule 207 = .ok (.invokevirtual 110, 3) := by decide +kernel
theorem dX12_readRule_210 : decode cX12_readRule 210 = .ok (.istore 7, 2) := by decide +kernel
theorem dX12_readRule_212 : decode cX12_readRule 212 = .ok (.aload_n 0, 1) := by decide +kernel
theorem dX12_readRule_213 : decode cX12_readRule 213 = .ok (.iload_n 1, 1) := by decide +kernel
theorem dX12_readRule_214 : decode cX12_readRule 214 = .ok (.iload 7, 2) := by decide +kernel
theorem dX12_readRule_216 : decode cX12_readRule 216 = .ok (.iload_n 2, 1) := by decide +kernel
theorem dX12_readRule_217 : decode cX12_readRule 217 = .ok (.iload_n 3, 1) := by decide +kernel
theorem dX12_readRule_218 : decode cX12_readRule 218 = .ok (.iload 4, 2) := by decide +kernel
theorem dX12_readRule_220 : decode cX12_readRule 220 = .ok (.iload 5, 2) := by decide +kernel
theorem dX12_readRule_222 : decode cX12_readRule 222 = .ok (.invokevirtual 132, 3) := by decide +kernel
theorem dX12_readRule_225 : decode cX12_readRule 225 = .ok (.istore 8, 2) := by decide +kernel
theorem dX12_readRule_227 : decode cX12_readRule 227 = .ok (.aload_n 0, 1) := by decide +kernel
theorem dX12_readRule_228 : decode cX12_readRule 228 = .ok (.iload_n 1, 1) := by decide +kernel
theorem dX12_readRule_229 : decode cX12_readRule 229 = .ok (.iload 7, 2) := by decide +kernel
theorem dX12_readRule_231 : decode cX12_readRule 231 = .ok (.iconst 4, 1) := by decide +kernel
theorem dX12_readRule_232 : decode cX12_readRule 232 = .ok (.aload_n 0, 1) := by decide +kernel
theorem dX12_readRule_233 : decode cX12_readRule 233 = .ok (.getfield 241, 3) := by decide +kernel
theorem dX12_readRule_236 : decode cX12_readRule 236 = .ok (.invokevirtual 118, 3) := by decide +kernel
theorem dX12_readRule_239 : decode cX12_readRule 239 = .ok (.aload_n 0, 1) := by decide +kernel
theorem dX12_readRule_240 : decode cX12_readRule 240 = .ok (.iload_n 1, 1) := by decide +kernel
theorem dX12_readRule_241 : decode cX12_readRule 241 = .ok (.iload 7, 2) := by decide +kernel
theorem dX12_readRule_243 : decode cX12_readRule 243 = .ok (.iconst 5, 1) := by decide +kernel
theorem dX12_readRule_244 : decode cX12_readRule 244 = .ok (.aload_n 0, 1) := by decide +kernel
theorem dX12_readRule_245 : decode cX12_readRule 245 = .ok (.getfield 244, 3) := by decide +kernel
theorem dX12_readRule_248 : decode cX12_readRule 248 = .ok (.invokevirtual 118, 3) := by decide +kernel
theorem dX12_readRule_251 : decode cX12_readRule 251 = .ok (.iload 8, 2) := by decide +kernel
theorem dX12_readRule_253 : decode cX12_readRule 253 = .ok (.ireturn, 1) := by decide +kernel
theorem dX12_write_0 : decode cX12_write 0 = .ok (.aload_n 0, 1) := by decide +kernel
theorem dX12_write_1 : decode cX12_write 1 = .ok (.getfield 64, 3) := by decide +kernel
theorem dX12_write_4 : decode cX12_write 4 = .ok (.aload_n 0, 1) := by decide +kernel
theorem dX12_write_5 : decode cX12_write 5 = .ok (.getfield 257, 3) := by decide +kernel
theorem dX12_write_8 : decode cX12_write 8 = .ok (.iload_n 1, 1) := by decide +kernel
theorem dX12_write_9 : decode cX12_write 9 = .ok (.iastore, 1) := by decide +kernel
theorem dX12_write_10 : decode cX12_write 10 = .ok (.aload_n 0, 1) := by decide +kernel
theorem dX12_write_11 : decode cX12_write 11 = .ok (.dup, 1) := by decide +kernel
theorem dX12_write_12 : decode cX12_write 12 = .ok (.getfield 257, 3) := by decide +kernel
theorem dX12_write_15 : decode cX12_write 15 = .ok (.iconst 1, 1) := by decide +kernel
theorem dX12_write_16 : decode cX12_write 16 = .ok (.iadd, 1) := by decide +kernel
theorem dX12_write_17 : decode cX12_write 17 = .ok (.putfield 257, 3) := by decide +kernel
theorem dX12_write_20 : decode cX12_write 20 = .ok (.return_, 1) := by decide +kernel
theorem dX12_writePorts_0 : decode cX12_writePorts 0 = .ok (.iconst 0, 1) := by decide +kernel
theorem dX12_writePorts_1 : decode cX12_writePorts 1 = .ok (.istore_n 2, 1) := by decide +kernel
theorem dX12_writePorts_2 : decode cX12_writePorts 2 = .ok (.iload_n 2, 1) := by decide +kernel
theorem dX12_writePorts_3 : decode cX12_writePorts 3 = .ok (.iconst 4, 1) := by decide +kernel
theorem dX12_writePorts_4 : decode cX12_writePorts 4 = .ok (.if_icmp .ge 26, 3) := by decide +kernel
theorem dX12_writePorts_7 : decode cX12_writePorts 7 = .ok (.iload_n 1, 1) := by decide +kernel
theorem dX12_writePorts_8 : decode cX12_writePorts 8 = .ok (.iload_n 2, 1) := by decide +kernel
theorem dX12_writePorts_9 : decode cX12_writePorts 9 = .ok (.ishr, 1) := by decide +kernel
theorem dX12_writePorts_10 : decode cX12_writePorts 10 = .ok (.iconst 1, 1) := by decide +kernel
theorem dX12_writePorts_11 : decode cX12_writePorts 11 = .ok (.iand, 1) := by decide +kernel
theorem dX12_writePorts_12 : decode cX12_writePorts 12 = .ok (.iconst 1, 1) := by decide +kernel
theorem dX12_writePorts_13 : decode cX12_writePorts 13 = .ok (.if_icmp .ne 11, 3) := by decide +kernel
theorem dX12_writePorts_16 : decode cX12_writePorts 16 = .ok (.aload_n 0, 1) := by decide +kernel
theorem dX12_writePorts_17 : decode cX12_writePorts 17 = .ok (.bipush 48, 2) := by decide +kernel
theorem dX12_writePorts_19 : decode cX12_writePorts 19 = .ok (.iload_n 2, 1) := by decide +kernel
theorem dX12_writePorts_20 : decode cX12_writePorts 20 = .ok (.iadd, 1) := by decide +kernel
theorem dX12_writePorts_21 : decode cX12_writePorts 21 = .ok (.invokevirtual 260, 3) := by decide +kernel
theorem dX12_writePorts_24 : decode cX12_writePorts 24 = .ok (.iinc 2 1, 3) := by decide +kernel
theorem dX12_writePorts_27 : decode cX12_writePorts 27 = .ok (.goto (-25), 3) := by decide +kernel
theorem dX12_writePorts_30 : decode cX12_writePorts 30 = .ok (.return_, 1) := by decide +kernel
theorem dX12_writePattern_0 : decode cX12_writePattern 0 = .ok (.aload_n 0, 1) := by decide +kernel
theorem dX12_writePattern_1 : decode cX12_writePattern 1 = .ok (.getfield 67, 3) := by decide +kernel
theorem dX12_writePattern_4 : decode cX12_writePattern 4 = .ok (.iconst 1, 1) := by decide +kernel
theorem dX12_writePattern_5 : decode cX12_writePattern 5 = .ok (.isub, 1) := by decide +kernel
theorem dX12_writePattern_6 : decode cX12_writePattern 6 = .ok (.istore_n 3, 1) := by decide +kernel
theorem dX12_writePattern_7 : decode cX12_writePattern 7 = .ok (.iload_n 3, 1) := by decide +kernel
theorem dX12_writePattern_8 : decode cX12_writePattern 8 = .ok (.ifCond .lt 34, 3) := by decide +kernel
theorem dX12_writePattern_11 : decode cX12_writePattern 11 = .ok (.aload_n 0, 1) := by decide +kernel
theorem dX12_writePattern_12 : decode cX12_writePattern 12 = .ok (.iload_n 1, 1) := by decide +kernel
theorem dX12_writePattern_13 : decode cX12_writePattern 13 = .ok (.iload_n 3, 1) := by decide +kernel
theorem dX12_writePattern_14 : decode cX12_writePattern 14 = .ok (.ishr, 1) := by decide +kernel
theorem dX12_writePattern_15 : decode cX12_writePattern 15 = .ok (.iconst 1, 1) := by decide +kernel
theorem dX12_writePattern_16 : decode cX12_writePattern 16 = .ok (.iand, 1) := by decide +kernel
theorem dX12_writePattern_17 : decode cX12_writePattern 17 = .ok (.ifCond .ne 8, 3) := by decide +kernel
theorem dX12_writePattern_20 : decode cX12_writePattern 20 = .ok (.bipush 42, 2) := by decide +kernel
theorem dX12_writePattern_22 : decode cX12_writePattern 22 = .ok (.goto 11, 3) := by decide +kernel
theorem dX12_writePattern_25 : decode cX12_writePattern 25 = .ok (.bipush 48, 2) := by decide +kernel
theorem dX12_writePattern_27 : decode cX12_writePattern 27 = .ok (.iload_n 2, 1) := by decide +kernel
theorem dX12_writePattern_28 : decode cX12_writePattern 28 = .ok (.iload_n 3, 1) := by decide +kernel
theorem dX12_writePattern_29 : decode cX12_writePattern 29 = .ok (.ishr, 1) := by decide +kernel
theorem dX12_writePattern_30 : decode cX12_writePattern 30 = .ok (.iconst 1, 1) := by decide +kernel
theorem dX12_writePattern_31 : decode cX12_writePattern 31 = .ok (.iand, 1) := by decide +kernel
theorem dX12_writePattern_32 : decode cX12_writePattern 32 = .ok (.iadd, 1) := by decide +kernel
theorem dX12_writePattern_33 : decode cX12_writePattern 33 = .ok (.invokevirtual 260, 3) := by decide +kernel
theorem dX12_writePattern_36 : decode cX12_writePattern 36 = .ok (.iinc 3 (-1), 3) := by decide +kernel
theorem dX12_writePattern_39 : decode cX12_writePattern 39 = .ok (.goto (-32), 3) := by decide +kernel
theorem dX12_writePattern_42 : decode cX12_writePattern 42 = .ok (.return_, 1) := by decide +kernel
theorem dX12_ruleText_0 : decode cX12_ruleText 0 = .ok (.aload_n 0, 1) := by decide +kernel
theorem dX12_ruleText_1 : decode cX12_ruleText 1 = .ok (.iload_n 1, 1) := by decide +kernel
theorem dX12_ruleText_2 : decode cX12_ruleText 2 = .ok (.iload_n 2, 1) := by decide +kernel
theorem dX12_ruleText_3 : decode cX12_ruleText 3 = .ok (.invokevirtual 139, 3) := by decide +kernel
theorem dX12_ruleText_6 : decode cX12_ruleText 6 = .ok (.istore 4, 2) := by decide +kernel
theorem dX12_ruleText_8 : decode cX12_ruleText 8 = .ok (.iload 4, 2) := by decide +kernel
theorem dX12_ruleText_10 : decode cX12_ruleText 10 = .ok (.ifCond .ge 6, 3) := by decide +kernel
theorem dX12_ruleText_13 : decode cX12_ruleText 13 = .ok (.iload 4, 2) := by decide +kernel
theorem dX12_ruleText_15 : decode cX12_ruleText 15 = .ok (.ireturn, 1) := by decide +kernel
theorem dX12_ruleText_16 : decode cX12_ruleText 16 = .ok (.iload_n 3, 1) := by decide +kernel
theorem dX12_ruleText_17 : decode cX12_ruleText 17 = .ok (.ifCond .ge 6, 3) := by decide +kernel
theorem dX12_ruleText_20 : decode cX12_ruleText 20 = .ok (.bipush (-3), 2) := by decide +kernel
theorem dX12_ruleText_22 : decode cX12_ruleText 22 = .ok (.ireturn, 1) := by decide +kernel
theorem dX12_ruleText_23 : decode cX12_ruleText 23 = .ok (.aload_n 0, 1) := by decide +kernel
theorem dX12_ruleText_24 : decode cX12_ruleText 24 = .ok (.iconst 0, 1) := by decide +kernel
theorem dX12_ruleText_25 : decode cX12_ruleText 25 = .ok (.putfield 257, 3) := by decide +kernel
theorem dX12_ruleText_28 : decode cX12_ruleText 28 = .ok (.aload_n 0, 1) := by decide +kernel
theorem dX12_ruleText_29 : decode cX12_ruleText 29 = .ok (.iload_n 1, 1) := by decide +kernel
theorem dX12_ruleText_30 : decode cX12_ruleText 30 = .ok (.iload_n 2, 1) := by decide +kernel
theorem dX12_ruleText_31 : decode cX12_ruleText 31 = .ok (.iconst 0, 1) := by decide +kernel
theorem dX12_ruleText_32 : decode cX12_ruleText 32 = .ok (.invokevirtual 114, 3) := by decide +kernel
theorem dX12_ruleText_35 : decode cX12_ruleText 35 = .ok (.bipush 15, 2) := by decide +kernel
theorem dX12_ruleText_37 : decode cX12_ruleText 37 = .ok (.if_icmp .ne 12, 3) := by decide +kernel
theorem dX12_ruleText_40 : decode cX12_ruleText 40 = .ok (.aload_n 0, 1) := by decide +kernel
theorem dX12_ruleText_41 : decode cX12_ruleText 41 = .ok (.bipush 42, 2) := by decide +kernel
theorem dX12_ruleText_43 : decode cX12_ruleText 43 = .ok (.invokevirtual 260, 3) := by decide +kernel
theorem dX12_ruleText_46 : decode cX12_ruleText 46 = .ok (.goto 14, 3) := by decide +kernel
theorem dX12_ruleText_49 : decode cX12_ruleText 49 = .ok (.aload_n 0, 1) := by decide +kernel
theorem dX12_ruleText_50 : decode cX12_ruleText 50 = .ok (.aload_n 0, 1) := by decide +kernel
theorem dX12_ruleText_51 : decode cX12_ruleText 51 = .ok (.iload_n 1, 1) := by decide +kernel
theorem dX12_ruleText_52 : decode cX12_ruleText 52 = .ok (.iload_n 2, 1) := by decide +kernel
theorem dX12_ruleText_53 : decode cX12_ruleText 53 = .ok (.iconst 0, 1) := by decide +kernel
theorem dX12_ruleText_54 : decode cX12_ruleText 54 = .ok (.invokevirtual 114, 3) := by decide +kernel
theorem dX12_ruleText_57 : decode cX12_ruleText 57 = .ok (.invokevirtual 263, 3) := by decide +kernel
theorem dX12_ruleText_60 : decode cX12_ruleText 60 = .ok (.aload_n 0, 1) := by decide +kernel
theorem dX12_ruleText_61 : decode cX12_ruleText 61 = .ok (.bipush 58, 2) := by decide +kernel
theorem dX12_ruleText_63 : decode cX12_ruleText 63 = .ok (.invokevirtual 260, 3) := by decide +kernel
theorem dX12_ruleText_66 : decode cX12_ruleText 66 = .ok (.aload_n 0, 1) := by decide +kernel
theorem dX12_ruleText_67 : decode cX12_ruleText 67 = .ok (.aload_n 0, 1) := by decide +kernel
theorem dX12_ruleText_68 : decode cX12_ruleText 68 = .ok (.iload_n 1, 1) := by decide +kernel
theorem dX12_ruleText_69 : decode cX12_ruleText 69 = .ok (.iload_n 2, 1) := by decide +kernel
theorem dX12_ruleText_70 : decode cX12_ruleText 70 = .ok (.iconst 1, 1) := by decide +kernel
theorem dX12_ruleText_71 : decode cX12_ruleText 71 = .ok (.invokevirtual 114, 3) := by decide +kernel
theorem dX12_ruleText_74 : decode cX12_ruleText 74 = .ok (.aload_n 0, 1) := by decide +kernel
theorem dX12_ruleText_75 : decode cX12_ruleText 75 = .ok (.iload_n 1, 1) := by decide +kernel
theorem dX12_ruleText_76 : decode cX12_ruleText 76 = .ok (.iload_n 2, 1) := by decide +kernel
theorem dX12_ruleText_77 : decode cX12_ruleText 77 = .ok (.iconst 2, 1) := by decide +kernel
theorem dX12_ruleText_78 : decode cX12_ruleText 78 = .ok (.invokevirtual 114, 3) := by decide +kernel
theorem dX12_ruleText_81 : decode cX12_ruleText 81 = .ok (.invokevirtual 266, 3) := by decide +kernel
theorem dX12_ruleText_84 : decode cX12_ruleText 84 = .ok (.aload_n 0, 1) := by decide +kernel
theorem dX12_ruleText_85 : decode cX12_ruleText 85 = .ok (.iload_n 1, 1) := by decide +kernel
theorem dX12_ruleText_86 : decode cX12_ruleText 86 = .ok (.iload_n 2, 1) := by decide +kernel
theorem dX12_ruleText_87 : decode cX12_ruleText 87 = .ok (.iconst 3, 1) := by decide +kernel
theorem dX12_ruleText_88 : decode cX12_ruleText 88 = .ok (.invokevirtual 114, 3) := by decide +kernel
theorem dX12_ruleText_91 : decode cX12_ruleText 91 = .ok (.ifCond .ne 12, 3) := by decide +kernel
theorem dX12_ruleText_94 : decode cX12_ruleText 94 = .ok (.aload_n 0, 1) := by decide +kernel
theorem dX12_ruleText_95 : decode cX12_ruleText 95 = .ok (.bipush 33, 2) := by decide +kernel
theorem dX12_ruleText_97 : decode cX12_ruleText 97 = .ok (.invokevirtual 260, 3) := by decide +kernel
theorem dX12_ruleText_100 : decode cX12_ruleText 100 = .ok (.goto 20, 3) := by decide +kernel
theorem dX12_ruleText_103 : decode cX12_ruleText 103 = .ok (.aload_n 0, 1) := by decide +kernel
theorem dX12_ruleText_104 : decode cX12_ruleText 104 = .ok (.bipush 62, 2) := by decide +kernel
theorem dX12_ruleText_106 : decode cX12_ruleText 106 = .ok (.invokevirtual 260, 3) := by decide +kernel
theorem dX12_ruleText_109 : decode cX12_ruleText 109 = .ok (.aload_n 0, 1) := by decide +kernel
theorem dX12_ruleText_110 : decode cX12_ruleText 110 = .ok (.aload_n 0, 1) := by decide +kernel
theorem dX12_ruleText_111 : decode cX12_ruleText 111 = .ok (.iload_n 1, 1) := by decide +kernel
theorem dX12_ruleText_112 : decode cX12_ruleText 112 = .ok (.iload_n 2, 1) := by decide +kernel
theorem dX12_ruleText_113 : decode cX12_ruleText 113 = .ok (.iconst 3, 1) := by decide +kernel
theorem dX12_ruleText_114 : decode cX12_ruleText 114 = .ok (.invokevirtual 114, 3) := by decide +kernel
theorem dX12_ruleText_117 : decode cX12_ruleText 117 = .ok (.invokevirtual 263, 3) := by decide +kernel
theorem dX12_ruleText_120 : decode cX12_ruleText 120 = .ok (.aload_n 0, 1) := by decide +kernel
theorem dX12_ruleText_121 : decode cX12_ruleText 121 = .ok (.iload_n 1, 1) := by decide +kernel
theorem dX12_ruleText_122 : decode cX12_ruleText 122 = .ok (.iload_n 2, 1) := by decide +kernel
theorem dX12_ruleText_123 : decode cX12_ruleText 123 = .ok (.iconst 4, 1) := by decide +kernel
theorem dX12_ruleText_124 : decode cX12_ruleText 124 = .ok (.invokevirtual 114, 3) := by decide +kernel
theorem dX12_ruleText_127 : decode cX12_ruleText 127 = .ok (.ifCond .eq 27, 3) := by decide +kernel
theorem dX12_ruleText_130 : decode cX12_ruleText 130 = .ok (.aload_n 0, 1) := by decide +kernel
theorem dX12_ruleText_131 : decode cX12_ruleText 131 = .ok (.bipush 61, 2) := by decide +kernel
theorem dX12_ruleText_133 : decode cX12_ruleText 133 = .ok (.invokevirtual 260, 3) := by decide +kernel
theorem dX12_ruleText_136 : decode cX12_ruleText 136 = .ok (.aload_n 0, 1) := by decide +kernel
theorem dX12_ruleText_137 : decode cX12_ruleText 137 = .ok (.aload_n 0, 1) := by decide +kernel
theorem dX12_ruleText_138 : decode cX12_ruleText 138 = .ok (.iload_n 1, 1) := by decide +kernel
theorem dX12_ruleText_139 : decode cX12_ruleText 139 = .ok (.iload_n 2, 1) := by decide +kernel
theorem dX12_ruleText_140 : decode cX12_ruleText 140 = .ok (.iconst 4, 1) := by decide +kernel
theorem dX12_ruleText_141 : decode cX12_ruleText 141 = .ok (.invokevirtual 114, 3) := by decide +kernel
theorem dX12_ruleText_144 : decode cX12_ruleText 144 = .ok (.aload_n 0, 1) := by decide +kernel
theorem dX12_ruleText_145 : decode cX12_ruleText 145 = .ok (.iload_n 1, 1) := by decide +kernel
theorem dX12_ruleText_146 : decode cX12_ruleText 146 = .ok (.iload_n 2, 1) := by decide +kernel
theorem dX12_ruleText_147 : decode cX12_ruleText 147 = .ok (.iconst 5, 1) := by decide +kernel
theorem dX12_ruleText_148 : decode cX12_ruleText 148 = .ok (.invokevirtual 114, 3) := by decide +kernel
theorem dX12_ruleText_151 : decode cX12_ruleText 151 = .ok (.invokevirtual 266, 3) := by decide +kernel
theorem dX12_ruleText_154 : decode cX12_ruleText 154 = .ok (.iload_n 3, 1) := by decide +kernel
theorem dX12_ruleText_155 : decode cX12_ruleText 155 = .ok (.aload_n 0, 1) := by decide +kernel
theorem dX12_ruleText_156 : decode cX12_ruleText 156 = .ok (.getfield 257, 3) := by decide +kernel
theorem dX12_ruleText_159 : decode cX12_ruleText 159 = .ok (.if_icmp .ge 12, 3) := by decide +kernel
theorem dX12_ruleText_162 : decode cX12_ruleText 162 = .ok (.aload_n 0, 1) := by decide +kernel
theorem dX12_ruleText_163 : decode cX12_ruleText 163 = .ok (.getfield 64, 3) := by decide +kernel
theorem dX12_ruleText_166 : decode cX12_ruleText 166 = .ok (.iload_n 3, 1) := by decide +kernel
theorem dX12_ruleText_167 : decode cX12_ruleText 167 = .ok (.iaload, 1) := by decide +kernel
theorem dX12_ruleText_168 : decode cX12_ruleText 168 = .ok (.goto 5, 3) := by decide +kernel
theorem dX12_ruleText_171 : decode cX12_ruleText 171 = .ok (.bipush (-6), 2) := by decide +kernel
theorem dX12_ruleText_173 : decode cX12_ruleText 173 = .ok (.ireturn, 1) := by decide +kernel
end
section
theorem dL_law_0 : decode cL_law 0 = .ok (.new 7, 3) := by decide +kernel
theorem dL_law_3 : decode cL_law 3 = .ok (.dup, 1) := by decide +kernel
theorem dL_law_4 : decode cL_law 4 = .ok (.invokespecial 9, 3) := by decide +kernel
theorem dL_law_7 : decode cL_law 7 = .ok (.astore_n 1, 1) := by decide +kernel
theorem dL_law_8 : decode cL_law 8 = .ok (.new 10, 3) := by decide +kernel
theorem dL_law_11 : decode cL_law 11 = .ok (.dup, 1) := by decide +kernel
theorem dL_law_12 : decode cL_law 12 = .ok (.invokespecial 12, 3) := by decide +kernel
theorem dL_law_15 : decode cL_law 15 = .ok (.astore_n 2, 1) := by decide +kernel
theorem dL_law_16 : decode cL_law 16 = .ok (.iconst 0, 1) := by decide +kernel
theorem dL_law_17 : decode cL_law 17 = .ok (.istore_n 3, 1) := by decide +kernel
theorem dL_law_18 : decode cL_law 18 = .ok (.iload_n 3, 1) := by decide +kernel
theorem dL_law_19 : decode cL_law 19 = .ok (.aload_n 0, 1) := by decide +kernel
theorem dL_law_20 : decode cL_law 20 = .ok (.arraylength, 1) := by decide +kernel
theorem dL_law_21 : decode cL_law 21 = .ok (.bipush 7, 2) := by decide +kernel
theorem dL_law_23 : decode cL_law 23 = .ok (.isub, 1) := by decide +kernel
theorem dL_law_24 : decode cL_law 24 = .ok (.if_icmp .gt 1492, 3) := by decide +kernel
theorem dL_law_27 : decode cL_law 27 = .ok (.aload_n 0, 1) := by decide +kernel
theorem dL_law_28 : decode cL_law 28 = .ok (.iload_n 3, 1) := by decide +kernel
theorem dL_law_29 : decode cL_law 29 = .ok (.iaload, 1) := by decide +kernel
theorem dL_law_30 : decode cL_law 30 = .ok (.bipush 63, 2) := by decide +kernel
theorem dL_law_32 : decode cL_law 32 = .ok (.iand, 1) := by decide +kernel
theorem dL_law_33 : decode cL_law 33 = .ok (.tableswitch 1477 0 35 #[159, 182, 235, 268, 301, 364, 439, 492, 525, 568, 627, 640, 683, 706, 729, 782, 816, 850, 883, 916, 969, 1012, 1055, 1088, 1111, 1125, 1158, 1201, 1280, 1323, 1347, 1360, 1373, 1398, 1411, 1434], 159) := by decide +kernel
theorem dL_law_192 : decode cL_law 192 = .ok (.aload_n 1, 1) := by decide +kernel
theorem dL_law_193 : decode cL_law 193 = .ok (.aload_n 0, 1) := by decide +kernel
theorem dL_law_194 : decode cL_law 194 = .ok (.iload_n 3, 1) := by decide +kernel
theorem dL_law_195 : decode cL_law 195 = .ok (.iconst 1, 1) := by decide +kernel
theorem dL_law_196 : decode cL_law 196 = .ok (.iadd, 1) := by decide +kernel
theorem dL_law_197 : decode cL_law 197 = .ok (.iaload, 1) := by decide +kernel
theorem dL_law_198 : decode cL_law 198 = .ok (.invokevirtual 13, 3) := by decide +kernel
theorem dL_law_201 : decode cL_law 201 = .ok (.aload_n 2, 1) := by decide +kernel
theorem dL_law_202 : decode cL_law 202 = .ok (.aload_n 0, 1) := by decide +kernel
theorem dL_law_203 : decode cL_law 203 = .ok (.iload_n 3, 1) := by decide +kernel
theorem dL_law_204 : decode cL_law 204 = .ok (.iconst 1, 1) := by decide +kernel
theorem dL_law_205 : decode cL_law 205 = .ok (.iadd, 1) := by decide +kernel
theorem dL_law_206 : decode cL_law 206 = .ok (.iaload, 1) := by decide +kernel
theorem dL_law_207 : decode cL_law 207 = .ok (.invokevirtual 17, 3) := by decide +kernel
theorem dL_law_210 : decode cL_law 210 = .ok (.if_icmp .eq 1300, 3) := by decide +kernel
theorem dL_law_213 : decode cL_law 213 = .ok (.iconst 0, 1) := by decide +kernel
theorem dL_law_214 : decode cL_law 214 = .ok (.ireturn, 1) := by decide +kernel
theorem dL_law_215 : decode cL_law 215 = .ok (.aload_n 1, 1) := by decide +kernel
theorem dL_law_216 : decode cL_law 216 = .ok (.aload_n 0, 1) := by decide +kernel
theorem dL_law_217 : decode cL_law 217 = .ok (.iload_n 3, 1) := by decide +kernel
theorem dL_law_218 : decode cL_law 218 = .ok (.iconst 1, 1) := by decide +kernel
theorem dL_law_219 : decode cL_law 219 = .ok (.iadd, 1) := by decide +kernel
theorem dL_law_220 : decode cL_law 220 = .ok (.iaload, 1) := by decide +kernel
theorem dL_law_221 : decode cL_law 221 = .ok (.aload_n 0, 1) := by decide +kernel
theorem dL_law_222 : decode cL_law 222 = .ok (.iload_n 3, 1) := by decide +kernel
theorem dL_law_223 : decode cL_law 223 = .ok (.iconst 2, 1) := by decide +kernel
theorem dL_law_224 : decode cL_law 224 = .ok (.iadd, 1) := by decide +kernel
theorem dL_law_225 : decode cL_law 225 = .ok (.iaload, 1) := by decide +kernel
theorem dL_law_226 : decode cL_law 226 = .ok (.aload_n 0, 1) := by decide +kernel
theorem dL_law_227 : decode cL_law 227 = .ok (.iload_n 3, 1) := by decide +kernel
theorem dL_law_228 : decode cL_law 228 = .ok (.iconst 3, 1) := by decide +kernel
theorem dL_law_229 : decode cL_law 229 = .ok (.iadd, 1) := by decide +kernel
theorem dL_law_230 : decode cL_law 230 = .ok (.iaload, 1) := by decide +kernel
theorem dL_law_231 : decode cL_law 231 = .ok (.aload_n 0, 1) := by decide +kernel
theorem dL_law_232 : decode cL_law 232 = .ok (.iload_n 3, 1) := by decide +kernel
theorem dL_law_233 : decode cL_law 233 = .ok (.iconst 4, 1) := by decide +kernel
theorem dL_law_234 : decode cL_law 234 = .ok (.iadd, 1) := by decide +kernel
theorem dL_law_235 : decode cL_law 235 = .ok (.iaload, 1) := by decide +kernel
theorem dL_law_236 : decode cL_law 236 = .ok (.invokevirtual 18, 3) := by decide +kernel
theorem dL_law_239 : decode cL_law 239 = .ok (.aload_n 2, 1) := by decide +kernel
theorem dL_law_240 : decode cL_law 240 = .ok (.aload_n 0, 1) := by decide +kernel
theorem dL_law_241 : decode cL_law 241 = .ok (.iload_n 3, 1) := by decide +kernel
theorem dL_law_242 : decode cL_law 242 = .ok (.iconst 1, 1) := by decide +kernel
theorem dL_law_243 : decode cL_law 243 = .ok (.iadd, 1) := by decide +kernel
theorem dL_law_244 : decode cL_law 244 = .ok (.iaload, 1) := by decide +kernel
theorem dL_law_245 : decode cL_law 245 = .ok (.aload_n 0, 1) := by decide +kernel
theorem dL_law_246 : decode cL_law 246 = .ok (.iload_n 3, 1) := by decide +kernel
theorem dL_law_247 : decode cL_law 247 = .ok (.iconst 2, 1) := by decide +kernel
theorem dL_law_248 : decode cL_law 248 = .ok (.iadd, 1) := by decide +kernel
theorem dL_law_249 : decode cL_law 249 = .ok (.iaload, 1) := by decide +kernel
theorem dL_law_250 : decode cL_law 250 = .ok (.aload_n 0, 1) := by decide +kernel
theorem dL_law_251 : decode cL_law 251 = .ok (.iload_n 3, 1) := by decide +kernel
theorem dL_law_252 : decode cL_law 252 = .ok (.iconst 3, 1) := by decide +kernel
theorem dL_law_253 : decode cL_law 253 = .ok (.iadd, 1) := by decide +kernel
theorem dL_law_254 : decode cL_law 254 = .ok (.iaload, 1) := by decide +kernel
theorem dL_law_255 : decode cL_law 255 = .ok (.aload_n 0, 1) := by decide +kernel
theorem dL_law_256 : decode cL_law 256 = .ok (.iload_n 3, 1) := by decide +kernel
theorem dL_law_257 : decode cL_law 257 = .ok (.iconst 4, 1) := by decide +kernel
theorem dL_law_258 : decode cL_law 258 = .ok (.iadd, 1) := by decide +kernel
theorem dL_law_259 : decode cL_law 259 = .ok (.iaload, 1) := by decide +kernel
theorem dL_law_260 : decode cL_law 260 = .ok (.invokevirtual 22, 3) := by decide +kernel
theorem dL_law_263 : decode cL_law 263 = .ok (.if_icmp .eq 1247, 3) := by decide +kernel
theorem dL_law_266 : decode cL_law 266 = .ok (.iconst 0, 1) := by decide +kernel
theorem dL_law_267 : decode cL_law 267 = .ok (.ireturn, 1) := by decide +kernel
theorem dL_law_268 : decode cL_law 268 = .ok (.aload_n 1, 1) := by decide +kernel
theorem dL_law_269 : decode cL_law 269 = .ok (.aload_n 0, 1) := by decide +kernel
theorem dL_law_270 : decode cL_law 270 = .ok (.iload_n 3, 1) := by decide +kernel
theorem dL_law_271 : decode cL_law 271 = .ok (.iconst 1, 1) := by decide +kernel
theorem dL_law_272 : decode cL_law 272 = .ok (.iadd, 1) := by decide +kernel
theorem dL_law_273 : decode cL_law 273 = .ok (.iaload, 1) := by decide +kernel
theorem dL_law_274 : decode cL_law 274 = .ok (.aload_n 0, 1) := by decide +kernel
theorem dL_law_275 : decode cL_law 275 = .ok (.iload_n 3, 1) := by decide +kernel
theorem dL_law_276 : decode cL_law 276 = .ok (.iconst 2, 1) := by decide +kernel
theorem dL_law_277 : decode cL_law 277 = .ok (.iadd, 1) := by decide +kernel
theorem dL_law_278 : decode cL_law 278 = .ok (.iaload, 1) := by decide +kernel
theorem dL_law_279 : decode cL_law 279 = .ok (.invokevirtual 23, 3) := by decide +kernel
theorem dL_law_282 : decode cL_law 282 = .ok (.aload_n 2, 1) := by decide +kernel
theorem dL_law_283 : decode cL_law 283 = .ok (.aload_n 0, 1) := by decide +kernel
theorem dL_law_284 : decode cL_law 284 = .ok (.iload_n 3, 1) := by decide +kernel
theorem dL_law_285 : decode cL_law 285 = .ok (.iconst 1, 1) := by decide +kernel
theorem dL_law_286 : decode cL_law 286 = .ok (.iadd, 1) := by decide +kernel
theorem dL_law_287 : decode cL_law 287 = .ok (.iaload, 1) := by decide +kernel
theorem dL_law_288 : decode cL_law 288 = .ok (.aload_n 0, 1) := by decide +kernel
theorem dL_law_289 : decode cL_law 289 = .ok (.iload_n 3, 1) := by decide +kernel
theorem dL_law_290 : decode cL_law 290 = .ok (.iconst 2, 1) := by decide +kernel
theorem dL_law_291 : decode cL_law 291 = .ok (.iadd, 1) := by decide +kernel
theorem dL_law_292 : decode cL_law 292 = .ok (.iaload, 1) := by decide +kernel
theorem dL_law_293 : decode cL_law 293 = .ok (.invokevirtual 27, 3) := by decide +kernel
theorem dL_law_296 : decode cL_law 296 = .ok (.if_icmp .eq 1214, 3) := by decide +kernel
theorem dL_law_299 : decode cL_law 299 = .ok (.iconst 0, 1) := by decide +kernel
theorem dL_law_300 : decode cL_law 300 = .ok (.ireturn, 1) := by decide +kernel
theorem dL_law_301 : decode cL_law 301 = .ok (.aload_n 1, 1) := by decide +kernel
theorem dL_law_302 : decode cL_law 302 = .ok (.aload_n 0, 1) := by decide +kernel
theorem dL_law_303 : decode cL_law 303 = .ok (.iload_n 3, 1) := by decide +kernel
theorem dL_law_304 : decode cL_law 304 = .ok (.iconst 1, 1) := by decide +kernel
theorem dL_law_305 : decode cL_law 305 = .ok (.iadd, 1) := by decide +kernel
theorem dL_law_306 : decode cL_law 306 = .ok (.iaload, 1) := by decide +kernel
theorem dL_law_307 : decode cL_law 307 = .ok (.aload_n 0, 1) := by decide +kernel
theorem dL_law_308 : decode cL_law 308 = .ok (.iload_n 3, 1) := by decide +kernel
theorem dL_law_309 : decode cL_law 309 = .ok (.iconst 2, 1) := by decide +kernel
theorem dL_law_310 : decode cL_law 310 = .ok (.iadd, 1) := by decide +kernel
theorem dL_law_311 : decode cL_law 311 = .ok (.iaload, 1) := by decide +kernel
theorem dL_law_312 : decode cL_law 312 = .ok (.invokevirtual 28, 3) := by decide +kernel
theorem dL_law_315 : decode cL_law 315 = .ok (.aload_n 2, 1) := by decide +kernel
theorem dL_law_316 : decode cL_law 316 = .ok (.aload_n 0, 1) := by decide +kernel
theorem dL_law_317 : decode cL_law 317 = .ok (.iload_n 3, 1) := by decide +kernel
theorem dL_law_318 : decode cL_law 318 = .ok (.iconst 1, 1) := by decide +kernel
theorem dL_law_319 : decode cL_law 319 = .ok (.iadd, 1) := by decide +kernel
theorem dL_law_320 : decode cL_law 320 = .ok (.iaload, 1) := by decide +kernel
theorem dL_law_321 : decode cL_law 321 = .ok (.aload_n 0, 1) := by decide +kernel
theorem dL_law_322 : decode cL_law 322 = .ok (.iload_n 3, 1) := by decide +kernel
theorem dL_law_323 : decode cL_law 323 = .ok (.iconst 2, 1) := by decide +kernel
theorem dL_law_324 : decode cL_law 324 = .ok (.iadd, 1) := by decide +kernel
theorem dL_law_325 : decode cL_law 325 = .ok (.iaload, 1) := by decide +kernel
theorem dL_law_326 : decode cL_law 326 = .ok (.invokevirtual 31, 3) := by decide +kernel
theorem dL_law_329 : decode cL_law 329 = .ok (.if_icmp .eq 1181, 3) := by decide +kernel
theorem dL_law_332 : decode cL_law 332 = .ok (.iconst 0, 1) := by decide +kernel
theorem dL_law_333 : decode cL_law 333 = .ok (.ireturn, 1) := by decide +kernel
theorem dL_law_334 : decode cL_law 334 = .ok (.aload_n 1, 1) := by decide +kernel
theorem dL_law_335 : decode cL_law 335 = .ok (.aload_n 0, 1) := by decide +kernel
theorem dL_law_336 : decode cL_law 336 = .ok (.iload_n 3, 1) := by decide +kernel
theorem dL_law_337 : decode cL_law 337 = .ok (.iconst 1, 1) := by decide +kernel
theorem dL_law_338 : decode cL_law 338 = .ok (.iadd, 1) := by decide +kernel
theorem dL_law_339 : decode cL_law 339 = .ok (.iaload, 1) := by decide +kernel
theorem dL_law_340 : decode cL_law 340 = .ok (.aload_n 0, 1) := by decide +kernel
theorem dL_law_341 : decode cL_law 341 = .ok (.iload_n 3, 1) := by decide +kernel
theorem dL_law_342 : decode cL_law 342 = .ok (.iconst 2, 1) := by decide +kernel
theorem dL_law_343 : decode cL_law 343 = .ok (.iadd, 1) := by decide +kernel
theorem dL_law_344 : decode cL_law 344 = .ok (.iaload, 1) := by decide +kernel
theorem dL_law_345 : decode cL_law 345 = .ok (.aload_n 0, 1) := by decide +kernel
theorem dL_law_346 : decode cL_law 346 = .ok (.iload_n 3, 1) := by decide +kernel
theorem dL_law_347 : decode cL_law 347 = .ok (.iconst 3, 1) := by decide +kernel
theorem dL_law_348 : decode cL_law 348 = .ok (.iadd, 1) := by decide +kernel
theorem dL_law_349 : decode cL_law 349 = .ok (.iaload, 1) := by decide +kernel
theorem dL_law_350 : decode cL_law 350 = .ok (.aload_n 0, 1) := by decide +kernel
theorem dL_law_351 : decode cL_law 351 = .ok (.iload_n 3, 1) := by decide +kernel
theorem dL_law_352 : decode cL_law 352 = .ok (.iconst 4, 1) := by decide +kernel
theorem dL_law_353 : decode cL_law 353 = .ok (.iadd, 1) := by decide +kernel
theorem dL_law_354 : decode cL_law 354 = .ok (.iaload, 1) := by decide +kernel
theorem dL_law_355 : decode cL_law 355 = .ok (.aload_n 0, 1) := by decide +kernel
theorem dL_law_356 : decode cL_law 356 = .ok (.iload_n 3, 1) := by decide +kernel
theorem dL_law_357 : decode cL_law 357 = .ok (.iconst 5, 1) := by decide +kernel
theorem dL_law_358 : decode cL_law 358 = .ok (.iadd, 1) := by decide +kernel
theorem dL_law_359 : decode cL_law 359 = .ok (.iaload, 1) := by decide +kernel
theorem dL_law_360 : decode cL_law 360 = .ok (.invokevirtual 32, 3) := by decide +kernel
theorem dL_law_363 : decode cL_law 363 = .ok (.aload_n 2, 1) := by decide +kernel
theorem dL_law_364 : decode cL_law 364 = .ok (.aload_n 0, 1) := by decide +kernel
theorem dL_law_365 : decode cL_law 365 = .ok (.iload_n 3, 1) := by decide +kernel
theorem dL_law_366 : decode cL_law 366 = .ok (.iconst 1, 1) := by decide +kernel
theorem dL_law_367 : decode cL_law 367 = .ok (.iadd, 1) := by decide +kernel
theorem dL_law_368 : decode cL_law 368 = .ok (.iaload, 1) := by decide +kernel
theorem dL_law_369 : decode cL_law 369 = .ok (.aload_n 0, 1) := by decide +kernel
theorem dL_law_370 : decode cL_law 370 = .ok (.iload_n 3, 1) := by decide +kernel
theorem dL_law_371 : decode cL_law 371 = .ok (.iconst 2, 1) := by decide +kernel
theorem dL_law_372 : decode cL_law 372 = .ok (.iadd, 1) := by decide +kernel
theorem dL_law_373 : decode cL_law 373 = .ok (.iaload, 1) := by decide +kernel
theorem dL_law_374 : decode cL_law 374 = .ok (.aload_n 0, 1) := by decide +kernel
theorem dL_law_375 : decode cL_law 375 = .ok (.iload_n 3, 1) := by decide +kernel
theorem dL_law_376 : decode cL_law 376 = .ok (.iconst 3, 1) := by decide +kernel
theorem dL_law_377 : decode cL_law 377 = .ok (.iadd, 1) := by decide +kernel
theorem dL_law_378 : decode cL_law 378 = .ok (.iaload, 1) := by decide +kernel
theorem dL_law_379 : decode cL_law 379 = .ok (.aload_n 0, 1) := by decide +kernel
theorem dL_law_380 : decode cL_law 380 = .ok (.iload_n 3, 1) := by decide +kernel
theorem dL_law_381 : decode cL_law 381 = .ok (.iconst 4, 1) := by decide +kernel
theorem dL_law_382 : decode cL_law 382 = .ok (.iadd, 1) := by decide +kernel
theorem dL_law_383 : decode cL_law 383 = .ok (.iaload, 1) := by decide +kernel
theorem dL_law_384 : decode cL_law 384 = .ok (.aload_n 0, 1) := by decide +kernel
theorem dL_law_385 : decode cL_law 385 = .ok (.iload_n 3, 1) := by decide +kernel
theorem dL_law_386 : decode cL_law 386 = .ok (.iconst 5, 1) := by decide +kernel
theorem dL_law_387 : decode cL_law 387 = .ok (.iadd, 1) := by decide +kernel
theorem dL_law_388 : decode cL_law 388 = .ok (.iaload, 1) := by decide +kernel
theorem dL_law_389 : decode cL_law 389 = .ok (.invokevirtual 36, 3) := by decide +kernel
theorem dL_law_392 : decode cL_law 392 = .ok (.if_icmp .eq 1118, 3) := by decide +kernel
theorem dL_law_395 : decode cL_law 395 = .ok (.iconst 0, 1) := by decide +kernel
theorem dL_law_396 : decode cL_law 396 = .ok (.ireturn, 1) := by decide +kernel
theorem dL_law_397 : decode cL_law 397 = .ok (.aload_n 1, 1) := by decide +kernel
theorem dL_law_398 : decode cL_law 398 = .ok (.aload_n 0, 1) := by decide +kernel
theorem dL_law_399 : decode cL_law 399 = .ok (.iload_n 3, 1) := by decide +kernel
theorem dL_law_400 : decode cL_law 400 = .ok (.iconst 1, 1) := by decide +kernel
theorem dL_law_401 : decode cL_law 401 = .ok (.iadd, 1) := by decide +kernel
theorem dL_law_402 : decode cL_law 402 = .ok (.iaload, 1) := by decide +kernel
theorem dL_law_403 : decode cL_law 403 = .ok (.aload_n 0, 1) := by decide +kernel
theorem dL_law_404 : decode cL_law 404 = .ok (.iload_n 3, 1) := by decide +kernel
theorem dL_law_405 : decode cL_law 405 = .ok (.iconst 2, 1) := by decide +kernel
theorem dL_law_406 : decode cL_law 406 = .ok (.iadd, 1) := by decide +kernel
theorem dL_law_407 : decode cL_law 407 = .ok (.iaload, 1) := by decide +kernel
theorem dL_law_408 : decode cL_law 408 = .ok (.aload_n 0, 1) := by decide +kernel
theorem dL_law_409 : decode cL_law 409 = .ok (.iload_n 3, 1) := by decide +kernel
theorem dL_law_410 : decode cL_law 410 = .ok (.iconst 3, 1) := by decide +kernel
theorem dL_law_411 : decode cL_law 411 = .ok (.iadd, 1) := by decide +kernel
theorem dL_law_412 : decode cL_law 412 = .ok (.iaload, 1) := by decide +kernel
theorem dL_law_413 : decode cL_law 413 = .ok (.aload_n 0, 1) := by decide +kernel
theorem dL_law_414 : decode cL_law 414 = .ok (.iload_n 3, 1) := by decide +kernel
theorem dL_law_415 : decode cL_law 415 = .ok (.iconst 4, 1) := by decide +kernel
theorem dL_law_416 : decode cL_law 416 = .ok (.iadd, 1) := by decide +kernel
theorem dL_law_417 : decode cL_law 417 = .ok (.iaload, 1) := by decide +kernel
theorem dL_law_418 : decode cL_law 418 = .ok (.aload_n 0, 1) := by decide +kernel
theorem dL_law_419 : decode cL_law 419 = .ok (.iload_n 3, 1) := by decide +kernel
theorem dL_law_420 : decode cL_law 420 = .ok (.iconst 5, 1) := by decide +kernel
theorem dL_law_421 : decode cL_law 421 = .ok (.iadd, 1) := by decide +kernel
theorem dL_law_422 : decode cL_law 422 = .ok (.iaload, 1) := by decide +kernel
theorem dL_law_423 : decode cL_law 423 = .ok (.aload_n 0, 1) := by decide +kernel
theorem dL_law_424 : decode cL_law 424 = .ok (.iload_n 3, 1) := by decide +kernel
theorem dL_law_425 : decode cL_law 425 = .ok (.bipush 6, 2) := by decide +kernel
theorem dL_law_427 : decode cL_law 427 = .ok (.iadd, 1) := by decide +kernel
theorem dL_law_428 : decode cL_law 428 = .ok (.iaload, 1) := by decide +kernel
theorem dL_law_429 : decode cL_law 429 = .ok (.invokevirtual 37, 3) := by decide +kernel
theorem dL_law_432 : decode cL_law 432 = .ok (.aload_n 2, 1) := by decide +kernel
theorem dL_law_433 : decode cL_law 433 = .ok (.aload_n 0, 1) := by decide +kernel
theorem dL_law_434 : decode cL_law 434 = .ok (.iload_n 3, 1) := by decide +kernel
theorem dL_law_435 : decode cL_law 435 = .ok (.iconst 1, 1) := by decide +kernel
theorem dL_law_436 : decode cL_law 436 = .ok (.iadd, 1) := by decide +kernel
theorem dL_law_437 : decode cL_law 437 = .ok (.iaload, 1) := by decide +kernel
theorem dL_law_438 : decode cL_law 438 = .ok (.aload_n 0, 1) := by decide +kernel
theorem dL_law_439 : decode cL_law 439 = .ok (.iload_n 3, 1) := by decide +kernel
theorem dL_law_440 : decode cL_law 440 = .ok (.iconst 2, 1) := by decide +kernel
theorem dL_law_441 : decode cL_law 441 = .ok (.iadd, 1) := by decide +kernel
theorem dL_law_442 : decode cL_law 442 = .ok (.iaload, 1) := by decide +kernel
theorem dL_law_443 : decode cL_law 443 = .ok (.aload_n 0, 1) := by decide +kernel
theorem dL_law_444 : decode cL_law 444 = .ok (.iload_n 3, 1) := by decide +kernel
theorem dL_law_445 : decode cL_law 445 = .ok (.iconst 3, 1) := by decide +kernel
theorem dL_law_446 : decode cL_law 446 = .ok (.iadd, 1) := by decide +kernel
theorem dL_law_447 : decode cL_law 447 = .ok (.iaload, 1) := by decide +kernel
theorem dL_law_448 : decode cL_law 448 = .ok (.aload_n 0, 1) := by decide +kernel
theorem dL_law_449 : decode cL_law 449 = .ok (.iload_n 3, 1) := by decide +kernel
theorem dL_law_450 : decode cL_law 450 = .ok (.iconst 4, 1) := by decide +kernel
theorem dL_law_451 : decode cL_law 451 = .ok (.iadd, 1) := by decide +kernel
theorem dL_law_452 : decode cL_law 452 = .ok (.iaload, 1) := by decide +kernel
theorem dL_law_453 : decode cL_law 453 = .ok (.aload_n 0, 1) := by decide +kernel
theorem dL_law_454 : decode cL_law 454 = .ok (.iload_n 3, 1) := by decide +kernel
theorem dL_law_455 : decode cL_law 455 = .ok (.iconst 5, 1) := by decide +kernel
theorem dL_law_456 : decode cL_law 456 = .ok (.iadd, 1) := by decide +kernel
theorem dL_law_457 : decode cL_law 457 = .ok (.iaload, 1) := by decide +kernel
theorem dL_law_458 : decode cL_law 458 = .ok (.aload_n 0, 1) := by decide +kernel
theorem dL_law_459 : decode cL_law 459 = .ok (.iload_n 3, 1) := by decide +kernel
theorem dL_law_460 : decode cL_law 460 = .ok (.bipush 6, 2) := by decide +kernel
theorem dL_law_462 : decode cL_law 462 = .ok (.iadd, 1) := by decide +kernel
theorem dL_law_463 : decode cL_law 463 = .ok (.iaload, 1) := by decide +kernel
theorem dL_law_464 : decode cL_law 464 = .ok (.invokevirtual 41, 3) := by decide +kernel
theorem dL_law_467 : decode cL_law 467 = .ok (.if_icmp .eq 1043, 3) := by decide +kernel
theorem dL_law_470 : decode cL_law 470 = .ok (.iconst 0, 1) := by decide +kernel
theorem dL_law_471 : decode cL_law 471 = .ok (.ireturn, 1) := by decide +kernel
theorem dL_law_472 : decode cL_law 472 = .ok (.aload_n 1, 1) := by decide +kernel
theorem dL_law_473 : decode cL_law 473 = .ok (.aload_n 0, 1) := by decide +kernel
theorem dL_law_474 : decode cL_law 474 = .ok (.iload_n 3, 1) := by decide +kernel
theorem dL_law_475 : decode cL_law 475 = .ok (.iconst 1, 1) := by decide +kernel
theorem dL_law_476 : decode cL_law 476 = .ok (.iadd, 1) := by decide +kernel
theorem dL_law_477 : decode cL_law 477 = .ok (.iaload, 1) := by decide +kernel
theorem dL_law_478 : decode cL_law 478 = .ok (.aload_n 0, 1) := by decide +kernel
theorem dL_law_479 : decode cL_law 479 = .ok (.iload_n 3, 1) := by decide +kernel
theorem dL_law_480 : decode cL_law 480 = .ok (.iconst 2, 1) := by decide +kernel
theorem dL_law_481 : decode cL_law 481 = .ok (.iadd, 1) := by decide +kernel
theorem dL_law_482 : decode cL_law 482 = .ok (.iaload, 1) := by decide +kernel
theorem dL_law_483 : decode cL_law 483 = .ok (.aload_n 0, 1) := by decide +kernel
theorem dL_law_484 : decode cL_law 484 = .ok (.iload_n 3, 1) := by decide +kernel
theorem dL_law_485 : decode cL_law 485 = .ok (.iconst 3, 1) := by decide +kernel
theorem dL_law_486 : decode cL_law 486 = .ok (.iadd, 1) := by decide +kernel
theorem dL_law_487 : decode cL_law 487 = .ok (.iaload, 1) := by decide +kernel
theorem dL_law_488 : decode cL_law 488 = .ok (.aload_n 0, 1) := by decide +kernel
theorem dL_law_489 : decode cL_law 489 = .ok (.iload_n 3, 1) := by decide +kernel
theorem dL_law_490 : decode cL_law 490 = .ok (.iconst 4, 1) := by decide +kernel
theorem dL_law_491 : decode cL_law 491 = .ok (.iadd, 1) := by decide +kernel
theorem dL_law_492 : decode cL_law 492 = .ok (.iaload, 1) := by decide +kernel
theorem dL_law_493 : decode cL_law 493 = .ok (.invokevirtual 42, 3) := by decide +kernel
theorem dL_law_496 : decode cL_law 496 = .ok (.aload_n 2, 1) := by decide +kernel
theorem dL_law_497 : decode cL_law 497 = .ok (.aload_n 0, 1) := by decide +kernel
theorem dL_law_498 : decode cL_law 498 = .ok (.iload_n 3, 1) := by decide +kernel
theorem dL_law_499 : decode cL_law 499 = .ok (.iconst 1, 1) := by decide +kernel
theorem dL_law_500 : decode cL_law 500 = .ok (.iadd, 1) := by decide +kernel
theorem dL_law_501 : decode cL_law 501 = .ok (.iaload, 1) := by decide +kernel
theorem dL_law_502 : decode cL_law 502 = .ok (.aload_n 0, 1) := by decide +kernel
theorem dL_law_503 : decode cL_law 503 = .ok (.iload_n 3, 1) := by decide +kernel
theorem dL_law_504 : decode cL_law 504 = .ok (.iconst 2, 1) := by decide +kernel
theorem dL_law_505 : decode cL_law 505 = .ok (.iadd, 1) := by decide +kernel
theorem dL_law_506 : decode cL_law 506 = .ok (.iaload, 1) := by decide +kernel
theorem dL_law_507 : decode cL_law 507 = .ok (.aload_n 0, 1) := by decide +kernel
theorem dL_law_508 : decode cL_law 508 = .ok (.iload_n 3, 1) := by decide +kernel
theorem dL_law_509 : decode cL_law 509 = .ok (.iconst 3, 1) := by decide +kernel
theorem dL_law_510 : decode cL_law 510 = .ok (.iadd, 1) := by decide +kernel
theorem dL_law_511 : decode cL_law 511 = .ok (.iaload, 1) := by decide +kernel
theorem dL_law_512 : decode cL_law 512 = .ok (.aload_n 0, 1) := by decide +kernel
theorem dL_law_513 : decode cL_law 513 = .ok (.iload_n 3, 1) := by decide +kernel
theorem dL_law_514 : decode cL_law 514 = .ok (.iconst 4, 1) := by decide +kernel
theorem dL_law_515 : decode cL_law 515 = .ok (.iadd, 1) := by decide +kernel
theorem dL_law_516 : decode cL_law 516 = .ok (.iaload, 1) := by decide +kernel
theorem dL_law_517 : decode cL_law 517 = .ok (.invokevirtual 45, 3) := by decide +kernel
theorem dL_law_520 : decode cL_law 520 = .ok (.if_icmp .eq 990, 3) := by decide +kernel
theorem dL_law_523 : decode cL_law 523 = .ok (.iconst 0, 1) := by decide +kernel
theorem dL_law_524 : decode cL_law 524 = .ok (.ireturn, 1) := by decide +kernel
theorem dL_law_525 : decode cL_law 525 = .ok (.aload_n 1, 1) := by decide +kernel
theorem dL_law_526 : decode cL_law 526 = .ok (.aload_n 0, 1) := by decide +kernel
theorem dL_law_527 : decode cL_law 527 = .ok (.iload_n 3, 1) := by decide +kernel
theorem dL_law_528 : decode cL_law 528 = .ok (.iconst 1, 1) := by decide +kernel
theorem dL_law_529 : decode cL_law 529 = .ok (.iadd, 1) := by decide +kernel
theorem dL_law_530 : decode cL_law 530 = .ok (.iaload, 1) := by decide +kernel
theorem dL_law_531 : decode cL_law 531 = .ok (.aload_n 0, 1) := by decide +kernel
theorem dL_law_532 : decode cL_law 532 = .ok (.iload_n 3, 1) := by decide +kernel
theorem dL_law_533 : decode cL_law 533 = .ok (.iconst 2, 1) := by decide +kernel
theorem dL_law_534 : decode cL_law 534 = .ok (.iadd, 1) := by decide +kernel
theorem dL_law_535 : decode cL_law 535 = .ok (.iaload, 1) := by decide +kernel
theorem dL_law_536 : decode cL_law 536 = .ok (.invokevirtual 46, 3) := by decide +kernel
theorem dL_law_539 : decode cL_law 539 = .ok (.aload_n 2, 1) := by decide +kernel
theorem dL_law_540 : decode cL_law 540 = .ok (.aload_n 0, 1) := by decide +kernel
theorem dL_law_541 : decode cL_law 541 = .ok (.iload_n 3, 1) := by decide +kernel
theorem dL_law_542 : decode cL_law 542 = .ok (.iconst 1, 1) := by decide +kernel
theorem dL_law_543 : decode cL_law 543 = .ok (.iadd, 1) := by decide +kernel
theorem dL_law_544 : decode cL_law 544 = .ok (.iaload, 1) := by decide +kernel
theorem dL_law_545 : decode cL_law 545 = .ok (.aload_n 0, 1) := by decide +kernel
theorem dL_law_546 : decode cL_law 546 = .ok (.iload_n 3, 1) := by decide +kernel
theorem dL_law_547 : decode cL_law 547 = .ok (.iconst 2, 1) := by decide +kernel
theorem dL_law_548 : decode cL_law 548 = .ok (.iadd, 1) := by decide +kernel
theorem dL_law_549 : decode cL_law 549 = .ok (.iaload, 1) := by decide +kernel
theorem dL_law_550 : decode cL_law 550 = .ok (.invokevirtual 49, 3) := by decide +kernel
theorem dL_law_553 : decode cL_law 553 = .ok (.if_icmp .eq 957, 3) := by decide +kernel
theorem dL_law_556 : decode cL_law 556 = .ok (.iconst 0, 1) := by decide +kernel
theorem dL_law_557 : decode cL_law 557 = .ok (.ireturn, 1) := by decide +kernel
theorem dL_law_558 : decode cL_law 558 = .ok (.aload_n 1, 1) := by decide +kernel
theorem dL_law_559 : decode cL_law 559 = .ok (.aload_n 0, 1) := by decide +kernel
theorem dL_law_560 : decode cL_law 560 = .ok (.iload_n 3, 1) := by decide +kernel
theorem dL_law_561 : decode cL_law 561 = .ok (.iconst 1, 1) := by decide +kernel
theorem dL_law_562 : decode cL_law 562 = .ok (.iadd, 1) := by decide +kernel
theorem dL_law_563 : decode cL_law 563 = .ok (.iaload, 1) := by decide +kernel
theorem dL_law_564 : decode cL_law 564 = .ok (.aload_n 0, 1) := by decide +kernel
theorem dL_law_565 : decode cL_law 565 = .ok (.iload_n 3, 1) := by decide +kernel
theorem dL_law_566 : decode cL_law 566 = .ok (.iconst 2, 1) := by decide +kernel
theorem dL_law_567 : decode cL_law 567 = .ok (.iadd, 1) := by decide +kernel
theorem dL_law_568 : decode cL_law 568 = .ok (.iaload, 1) := by decide +kernel
theorem dL_law_569 : decode cL_law 569 = .ok (.aload_n 0, 1) := by decide +kernel
theorem dL_law_570 : decode cL_law 570 = .ok (.iload_n 3, 1) := by decide +kernel
theorem dL_law_571 : decode cL_law 571 = .ok (.iconst 3, 1) := by decide +kernel
theorem dL_law_572 : decode cL_law 572 = .ok (.iadd, 1) := by decide +kernel
theorem dL_law_573 : decode cL_law 573 = .ok (.iaload, 1) := by decide +kernel
theorem dL_law_574 : decode cL_law 574 = .ok (.invokevirtual 50, 3) := by decide +kernel
theorem dL_law_577 : decode cL_law 577 = .ok (.aload_n 2, 1) := by decide +kernel
theorem dL_law_578 : decode cL_law 578 = .ok (.aload_n 0, 1) := by decide +kernel
theorem dL_law_579 : decode cL_law 579 = .ok (.iload_n 3, 1) := by decide +kernel
theorem dL_law_580 : decode cL_law 580 = .ok (.iconst 1, 1) := by decide +kernel
theorem dL_law_581 : decode cL_law 581 = .ok (.iadd, 1) := by decide +kernel
theorem dL_law_582 : decode cL_law 582 = .ok (.iaload, 1) := by decide +kernel
theorem dL_law_583 : decode cL_law 583 = .ok (.aload_n 0, 1) := by decide +kernel
theorem dL_law_584 : decode cL_law 584 = .ok (.iload_n 3, 1) := by decide +kernel
theorem dL_law_585 : decode cL_law 585 = .ok (.iconst 2, 1) := by decide +kernel
theorem dL_law_586 : decode cL_law 586 = .ok (.iadd, 1) := by decide +kernel
theorem dL_law_587 : decode cL_law 587 = .ok (.iaload, 1) := by decide +kernel
theorem dL_law_588 : decode cL_law 588 = .ok (.aload_n 0, 1) := by decide +kernel
theorem dL_law_589 : decode cL_law 589 = .ok (.iload_n 3, 1) := by decide +kernel
theorem dL_law_590 : decode cL_law 590 = .ok (.iconst 3, 1) := by decide +kernel
theorem dL_law_591 : decode cL_law 591 = .ok (.iadd, 1) := by decide +kernel
theorem dL_law_592 : decode cL_law 592 = .ok (.iaload, 1) := by decide +kernel
theorem dL_law_593 : decode cL_law 593 = .ok (.invokevirtual 54, 3) := by decide +kernel
theorem dL_law_596 : decode cL_law 596 = .ok (.if_icmp .eq 914, 3) := by decide +kernel
theorem dL_law_599 : decode cL_law 599 = .ok (.iconst 0, 1) := by decide +kernel
theorem dL_law_600 : decode cL_law 600 = .ok (.ireturn, 1) := by decide +kernel
theorem dL_law_601 : decode cL_law 601 = .ok (.aload_n 1, 1) := by decide +kernel
theorem dL_law_602 : decode cL_law 602 = .ok (.aload_n 0, 1) := by decide +kernel
theorem dL_law_603 : decode cL_law 603 = .ok (.iload_n 3, 1) := by decide +kernel
theorem dL_law_604 : decode cL_law 604 = .ok (.iconst 1, 1) := by decide +kernel
theorem dL_law_605 : decode cL_law 605 = .ok (.iadd, 1) := by decide +kernel
theorem dL_law_606 : decode cL_law 606 = .ok (.iaload, 1) := by decide +kernel
theorem dL_law_607 : decode cL_law 607 = .ok (.aload_n 0, 1) := by decide +kernel
theorem dL_law_608 : decode cL_law 608 = .ok (.iload_n 3, 1) := by decide +kernel
theorem dL_law_609 : decode cL_law 609 = .ok (.iconst 2, 1) := by decide +kernel
theorem dL_law_610 : decode cL_law 610 = .ok (.iadd, 1) := by decide +kernel
theorem dL_law_611 : decode cL_law 611 = .ok (.iaload, 1) := by decide +kernel
theorem dL_law_612 : decode cL_law 612 = .ok (.aload_n 0, 1) := by decide +kernel
theorem dL_law_613 : decode cL_law 613 = .ok (.iload_n 3, 1) := by decide +kernel
theorem dL_law_614 : decode cL_law 614 = .ok (.iconst 3, 1) := by decide +kernel
theorem dL_law_615 : decode cL_law 615 = .ok (.iadd, 1) := by decide +kernel
theorem dL_law_616 : decode cL_law 616 = .ok (.iaload, 1) := by decide +kernel
theorem dL_law_617 : decode cL_law 617 = .ok (.ifCond .eq 7, 3) := by decide +kernel
theorem dL_law_620 : decode cL_law 620 = .ok (.iconst 1, 1) := by decide +kernel
theorem dL_law_621 : decode cL_law 621 = .ok (.goto 4, 3) := by decide +kernel
theorem dL_law_624 : decode cL_law 624 = .ok (.iconst 0, 1) := by decide +kernel
theorem dL_law_625 : decode cL_law 625 = .ok (.invokevirtual 55, 3) := by decide +kernel
theorem dL_law_628 : decode cL_law 628 = .ok (.aload_n 2, 1) := by decide +kernel
theorem dL_law_629 : decode cL_law 629 = .ok (.aload_n 0, 1) := by decide +kernel
theorem dL_law_630 : decode cL_law 630 = .ok (.iload_n 3, 1) := by decide +kernel
theorem dL_law_631 : decode cL_law 631 = .ok (.iconst 1, 1) := by decide +kernel
theorem dL_law_632 : decode cL_law 632 = .ok (.iadd, 1) := by decide +kernel
theorem dL_law_633 : decode cL_law 633 = .ok (.iaload, 1) := by decide +kernel
theorem dL_law_634 : decode cL_law 634 = .ok (.aload_n 0, 1) := by decide +kernel
theorem dL_law_635 : decode cL_law 635 = .ok (.iload_n 3, 1) := by decide +kernel
theorem dL_law_636 : decode cL_law 636 = .ok (.iconst 2, 1) := by decide +kernel
theorem dL_law_637 : decode cL_law 637 = .ok (.iadd, 1) := by decide +kernel
theorem dL_law_638 : decode cL_law 638 = .ok (.iaload, 1) := by decide +kernel
theorem dL_law_639 : decode cL_law 639 = .ok (.aload_n 0, 1) := by decide +kernel
theorem dL_law_640 : decode cL_law 640 = .ok (.iload_n 3, 1) := by decide +kernel
theorem dL_law_641 : decode cL_law 641 = .ok (.iconst 3, 1) := by decide +kernel
theorem dL_law_642 : decode cL_law 642 = .ok (.iadd, 1) := by decide +kernel
theorem dL_law_643 : decode cL_law 643 = .ok (.iaload, 1) := by decide +kernel
theorem dL_law_644 : decode cL_law 644 = .ok (.ifCond .eq 7, 3) := by decide +kernel
theorem dL_law_647 : decode cL_law 647 = .ok (.iconst 1, 1) := by decide +kernel
theorem dL_law_648 : decode cL_law 648 = .ok (.goto 4, 3) := by decide +kernel
theorem dL_law_651 : decode cL_law 651 = .ok (.iconst 0, 1) := by decide +kernel
theorem dL_law_652 : decode cL_law 652 = .ok (.invokevirtual 59, 3) := by decide +kernel
theorem dL_law_655 : decode cL_law 655 = .ok (.if_icmp .eq 855, 3) := by decide +kernel
theorem dL_law_658 : decode cL_law 658 = .ok (.iconst 0, 1) := by decide +kernel
theorem dL_law_659 : decode cL_law 659 = .ok (.ireturn, 1) := by decide +kernel
theorem dL_law_660 : decode cL_law 660 = .ok (.aload_n 1, 1) := by decide +kernel
theorem dL_law_661 : decode cL_law 661 = .ok (.invokevirtual 60, 3) := by decide +kernel
theorem dL_law_664 : decode cL_law 664 = .ok (.aload_n 2, 1) := by decide +kernel
theorem dL_law_665 : decode cL_law 665 = .ok (.invokevirtual 64, 3) := by decide +kernel
theorem dL_law_668 : decode cL_law 668 = .ok (.if_icmp .eq 842, 3) := by decide +kernel
theorem dL_law_671 : decode cL_law 671 = .ok (.iconst 0, 1) := by decide +kernel
theorem dL_law_672 : decode cL_law 672 = .ok (.ireturn, 1) := by decide +kernel
theorem dL_law_673 : decode cL_law 673 = .ok (.aload_n 1, 1) := by decide +kernel
theorem dL_law_674 : decode cL_law 674 = .ok (.aload_n 0, 1) := by decide +kernel
theorem dL_law_675 : decode cL_law 675 = .ok (.iload_n 3, 1) := by decide +kernel
theorem dL_law_676 : decode cL_law 676 = .ok (.iconst 1, 1) := by decide +kernel
theorem dL_law_677 : decode cL_law 677 = .ok (.iadd, 1) := by decide +kernel
theorem dL_law_678 : decode cL_law 678 = .ok (.iaload, 1) := by decide +kernel
theorem dL_law_679 : decode cL_law 679 = .ok (.aload_n 0, 1) := by decide +kernel
theorem dL_law_680 : decode cL_law 680 = .ok (.iload_n 3, 1) := by decide +kernel
theorem dL_law_681 : decode cL_law 681 = .ok (.iconst 2, 1) := by decide +kernel
theorem dL_law_682 : decode cL_law 682 = .ok (.iadd, 1) := by decide +kernel
theorem dL_law_683 : decode cL_law 683 = .ok (.iaload, 1) := by decide +kernel
theorem dL_law_684 : decode cL_law 684 = .ok (.aload_n 0, 1) := by decide +kernel
theorem dL_law_685 : decode cL_law 685 = .ok (.iload_n 3, 1) := by decide +kernel
theorem dL_law_686 : decode cL_law 686 = .ok (.iconst 3, 1) := by decide +kernel
theorem dL_law_687 : decode cL_law 687 = .ok (.iadd, 1) := by decide +kernel
theorem dL_law_688 : decode cL_law 688 = .ok (.iaload, 1) := by decide +kernel
theorem dL_law_689 : decode cL_law 689 = .ok (.invokevirtual 65, 3) := by decide +kernel
theorem dL_law_692 : decode cL_law 692 = .ok (.aload_n 2, 1) := by decide +kernel
theorem dL_law_693 : decode cL_law 693 = .ok (.aload_n 0, 1) := by decide +kernel
theorem dL_law_694 : decode cL_law 694 = .ok (.iload_n 3, 1) := by decide +kernel
theorem dL_law_695 : decode cL_law 695 = .ok (.iconst 1, 1) := by decide +kernel
theorem dL_law_696 : decode cL_law 696 = .ok (.iadd, 1) := by decide +kernel
theorem dL_law_697 : decode cL_law 697 = .ok (.iaload, 1) := by decide +kernel
theorem dL_law_698 : decode cL_law 698 = .ok (.aload_n 0, 1) := by decide +kernel
theorem dL_law_699 : decode cL_law 699 = .ok (.iload_n 3, 1) := by decide +kernel
theorem dL_law_700 : decode cL_law 700 = .ok (.iconst 2, 1) := by decide +kernel
theorem dL_law_701 : decode cL_law 701 = .ok (.iadd, 1) := by decide +kernel
theorem dL_law_702 : decode cL_law 702 = .ok (.iaload, 1) := by decide +kernel
theorem dL_law_703 : decode cL_law 703 = .ok (.aload_n 0, 1) := by decide +kernel
theorem dL_law_704 : decode cL_law 704 = .ok (.iload_n 3, 1) := by decide +kernel
theorem dL_law_705 : decode cL_law 705 = .ok (.iconst 3, 1) := by decide +kernel
theorem dL_law_706 : decode cL_law 706 = .ok (.iadd, 1) := by decide +kernel
theorem dL_law_707 : decode cL_law 707 = .ok (.iaload, 1) := by decide +kernel
theorem dL_law_708 : decode cL_law 708 = .ok (.invokevirtual 68, 3) := by decide +kernel
theorem dL_law_711 : decode cL_law 711 = .ok (.if_icmp .eq 799, 3) := by decide +kernel
theorem dL_law_714 : decode cL_law 714 = .ok (.iconst 0, 1) := by decide +kernel
theorem dL_law_715 : decode cL_law 715 = .ok (.ireturn, 1) := by decide +kernel
theorem dL_law_716 : decode cL_law 716 = .ok (.aload_n 1, 1) := by decide +kernel
theorem dL_law_717 : decode cL_law 717 = .ok (.aload_n 0, 1) := by decide +kernel
theorem dL_law_718 : decode cL_law 718 = .ok (.iload_n 3, 1) := by decide +kernel
theorem dL_law_719 : decode cL_law 719 = .ok (.iconst 1, 1) := by decide +kernel
theorem dL_law_720 : decode cL_law 720 = .ok (.iadd, 1) := by decide +kernel
theorem dL_law_721 : decode cL_law 721 = .ok (.iaload, 1) := by decide +kernel
theorem dL_law_722 : decode cL_law 722 = .ok (.invokevirtual 69, 3) := by decide +kernel
theorem dL_law_725 : decode cL_law 725 = .ok (.aload_n 2, 1) := by decide +kernel
theorem dL_law_726 : decode cL_law 726 = .ok (.aload_n 0, 1) := by decide +kernel
theorem dL_law_727 : decode cL_law 727 = .ok (.iload_n 3, 1) := by decide +kernel
theorem dL_law_728 : decode cL_law 728 = .ok (.iconst 1, 1) := by decide +kernel
theorem dL_law_729 : decode cL_law 729 = .ok (.iadd, 1) := by decide +kernel
theorem dL_law_730 : decode cL_law 730 = .ok (.iaload, 1) := by decide +kernel
theorem dL_law_731 : decode cL_law 731 = .ok (.invokevirtual 72, 3) := by decide +kernel
theorem dL_law_734 : decode cL_law 734 = .ok (.if_icmp .eq 776, 3) := by decide +kernel
theorem dL_law_737 : decode cL_law 737 = .ok (.iconst 0, 1) := by decide +kernel
theorem dL_law_738 : decode cL_law 738 = .ok (.ireturn, 1) := by decide +kernel
theorem dL_law_739 : decode cL_law 739 = .ok (.aload_n 1, 1) := by decide +kernel
theorem dL_law_740 : decode cL_law 740 = .ok (.aload_n 0, 1) := by decide +kernel
theorem dL_law_741 : decode cL_law 741 = .ok (.iload_n 3, 1) := by decide +kernel
theorem dL_law_742 : decode cL_law 742 = .ok (.iconst 1, 1) := by decide +kernel
theorem dL_law_743 : decode cL_law 743 = .ok (.iadd, 1) := by decide +kernel
theorem dL_law_744 : decode cL_law 744 = .ok (.iaload, 1) := by decide +kernel
theorem dL_law_745 : decode cL_law 745 = .ok (.invokevirtual 73, 3) := by decide +kernel
theorem dL_law_748 : decode cL_law 748 = .ok (.aload_n 2, 1) := by decide +kernel
theorem dL_law_749 : decode cL_law 749 = .ok (.aload_n 0, 1) := by decide +kernel
theorem dL_law_750 : decode cL_law 750 = .ok (.iload_n 3, 1) := by decide +kernel
theorem dL_law_751 : decode cL_law 751 = .ok (.iconst 1, 1) := by decide +kernel
theorem dL_law_752 : decode cL_law 752 = .ok (.iadd, 1) := by decide +kernel
theorem dL_law_753 : decode cL_law 753 = .ok (.iaload, 1) := by decide +kernel
theorem dL_law_754 : decode cL_law 754 = .ok (.invokevirtual 76, 3) := by decide +kernel
theorem dL_law_757 : decode cL_law 757 = .ok (.if_icmp .eq 753, 3) := by decide +kernel
theorem dL_law_760 : decode cL_law 760 = .ok (.iconst 0, 1) := by decide +kernel
theorem dL_law_761 : decode cL_law 761 = .ok (.ireturn, 1) := by decide +kernel
theorem dL_law_762 : decode cL_law 762 = .ok (.aload_n 1, 1) := by decide +kernel
theorem dL_law_763 : decode cL_law 763 = .ok (.aload_n 0, 1) := by decide +kernel
theorem dL_law_764 : decode cL_law 764 = .ok (.iload_n 3, 1) := by decide +kernel
theorem dL_law_765 : decode cL_law 765 = .ok (.iconst 1, 1) := by decide +kernel
theorem dL_law_766 : decode cL_law 766 = .ok (.iadd, 1) := by decide +kernel
theorem dL_law_767 : decode cL_law 767 = .ok (.iaload, 1) := by decide +kernel
theorem dL_law_768 : decode cL_law 768 = .ok (.aload_n 0, 1) := by decide +kernel
theorem dL_law_769 : decode cL_law 769 = .ok (.iload_n 3, 1) := by decide +kernel
theorem dL_law_770 : decode cL_law 770 = .ok (.iconst 2, 1) := by decide +kernel
theorem dL_law_771 : decode cL_law 771 = .ok (.iadd, 1) := by decide +kernel
theorem dL_law_772 : decode cL_law 772 = .ok (.iaload, 1) := by decide +kernel
theorem dL_law_773 : decode cL_law 773 = .ok (.aload_n 0, 1) := by decide +kernel
theorem dL_law_774 : decode cL_law 774 = .ok (.iload_n 3, 1) := by decide +kernel
theorem dL_law_775 : decode cL_law 775 = .ok (.iconst 3, 1) := by decide +kernel
theorem dL_law_776 : decode cL_law 776 = .ok (.iadd, 1) := by decide +kernel
theorem dL_law_777 : decode cL_law 777 = .ok (.iaload, 1) := by decide +kernel
theorem dL_law_778 : decode cL_law 778 = .ok (.aload_n 0, 1) := by decide +kernel
theorem dL_law_779 : decode cL_law 779 = .ok (.iload_n 3, 1) := by decide +kernel
theorem dL_law_780 : decode cL_law 780 = .ok (.iconst 4, 1) := by decide +kernel
theorem dL_law_781 : decode cL_law 781 = .ok (.iadd, 1) := by decide +kernel
theorem dL_law_782 : decode cL_law 782 = .ok (.iaload, 1) := by decide +kernel
theorem dL_law_783 : decode cL_law 783 = .ok (.invokevirtual 77, 3) := by decide +kernel
theorem dL_law_786 : decode cL_law 786 = .ok (.aload_n 2, 1) := by decide +kernel
theorem dL_law_787 : decode cL_law 787 = .ok (.aload_n 0, 1) := by decide +kernel
theorem dL_law_788 : decode cL_law 788 = .ok (.iload_n 3, 1) := by decide +kernel
theorem dL_law_789 : decode cL_law 789 = .ok (.iconst 1, 1) := by decide +kernel
theorem dL_law_790 : decode cL_law 790 = .ok (.iadd, 1) := by decide +kernel
theorem dL_law_791 : decode cL_law 791 = .ok (.iaload, 1) := by decide +kernel
theorem dL_law_792 : decode cL_law 792 = .ok (.aload_n 0, 1) := by decide +kernel
theorem dL_law_793 : decode cL_law 793 = .ok (.iload_n 3, 1) := by decide +kernel
theorem dL_law_794 : decode cL_law 794 = .ok (.iconst 2, 1) := by decide +kernel
theorem dL_law_795 : decode cL_law 795 = .ok (.iadd, 1) := by decide +kernel
theorem dL_law_796 : decode cL_law 796 = .ok (.iaload, 1) := by decide +kernel
theorem dL_law_797 : decode cL_law 797 = .ok (.aload_n 0, 1) := by decide +kernel
theorem dL_law_798 : decode cL_law 798 = .ok (.iload_n 3, 1) := by decide +kernel
theorem dL_law_799 : decode cL_law 799 = .ok (.iconst 3, 1) := by decide +kernel
theorem dL_law_800 : decode cL_law 800 = .ok (.iadd, 1) := by decide +kernel
theorem dL_law_801 : decode cL_law 801 = .ok (.iaload, 1) := by decide +kernel
theorem dL_law_802 : decode cL_law 802 = .ok (.aload_n 0, 1) := by decide +kernel
theorem dL_law_803 : decode cL_law 803 = .ok (.iload_n 3, 1) := by decide +kernel
theorem dL_law_804 : decode cL_law 804 = .ok (.iconst 4, 1) := by decide +kernel
theorem dL_law_805 : decode cL_law 805 = .ok (.iadd, 1) := by decide +kernel
theorem dL_law_806 : decode cL_law 806 = .ok (.iaload, 1) := by decide +kernel
theorem dL_law_807 : decode cL_law 807 = .ok (.invokevirtual 80, 3) := by decide +kernel
theorem dL_law_810 : decode cL_law 810 = .ok (.if_icmp .eq 700, 3) := by decide +kernel
theorem dL_law_813 : decode cL_law 813 = .ok (.iconst 0, 1) := by decide +kernel
theorem dL_law_814 : decode cL_law 814 = .ok (.ireturn, 1) := by decide +kernel
theorem dL_law_815 : decode cL_law 815 = .ok (.aload_n 1, 1) := by decide +kernel
theorem dL_law_816 : decode cL_law 816 = .ok (.aload_n 0, 1) := by decide +kernel
theorem dL_law_817 : decode cL_law 817 = .ok (.iload_n 3, 1) := by decide +kernel
theorem dL_law_818 : decode cL_law 818 = .ok (.iconst 1, 1) := by decide +kernel
theorem dL_law_819 : decode cL_law 819 = .ok (.iadd, 1) := by decide +kernel
theorem dL_law_820 : decode cL_law 820 = .ok (.iaload, 1) := by decide +kernel
theorem dL_law_821 : decode cL_law 821 = .ok (.aload_n 0, 1) := by decide +kernel
theorem dL_law_822 : decode cL_law 822 = .ok (.iload_n 3, 1) := by decide +kernel
theorem dL_law_823 : decode cL_law 823 = .ok (.iconst 2, 1) := by decide +kernel
theorem dL_law_824 : decode cL_law 824 = .ok (.iadd, 1) := by decide +kernel
theorem dL_law_825 : decode cL_law 825 = .ok (.iaload, 1) := by decide +kernel
theorem dL_law_826 : decode cL_law 826 = .ok (.invokevirtual 81, 3) := by decide +kernel
theorem dL_law_829 : decode cL_law 829 = .ok (.aload_n 2, 1) := by decide +kernel
theorem dL_law_830 : decode cL_law 830 = .ok (.aload_n 0, 1) := by decide +kernel
theorem dL_law_831 : decode cL_law 831 = .ok (.iload_n 3, 1) := by decide +kernel
theorem dL_law_832 : decode cL_law 832 = .ok (.iconst 1, 1) := by decide +kernel
theorem dL_law_833 : decode cL_law 833 = .ok (.iadd, 1) := by decide +kernel
theorem dL_law_834 : decode cL_law 834 = .ok (.iaload, 1) := by decide +kernel
theorem dL_law_835 : decode cL_law 835 = .ok (.aload_n 0, 1) := by decide +kernel
theorem dL_law_836 : decode cL_law 836 = .ok (.iload_n 3, 1) := by decide +kernel
theorem dL_law_837 : decode cL_law 837 = .ok (.iconst 2, 1) := by decide +kernel
theorem dL_law_838 : decode cL_law 838 = .ok (.iadd, 1) := by decide +kernel
theorem dL_law_839 : decode cL_law 839 = .ok (.iaload, 1) := by decide +kernel
theorem dL_law_840 : decode cL_law 840 = .ok (.invokevirtual 85, 3) := by decide +kernel
theorem dL_law_843 : decode cL_law 843 = .ok (.lcmp, 1) := by decide +kernel
theorem dL_law_844 : decode cL_law 844 = .ok (.ifCond .eq 666, 3) := by decide +kernel
theorem dL_law_847 : decode cL_law 847 = .ok (.iconst 0, 1) := by decide +kernel
theorem dL_law_848 : decode cL_law 848 = .ok (.ireturn, 1) := by decide +kernel
theorem dL_law_849 : decode cL_law 849 = .ok (.aload_n 1, 1) := by decide +kernel
theorem dL_law_850 : decode cL_law 850 = .ok (.aload_n 0, 1) := by decide +kernel
theorem dL_law_851 : decode cL_law 851 = .ok (.iload_n 3, 1) := by decide +kernel
theorem dL_law_852 : decode cL_law 852 = .ok (.iconst 1, 1) := by decide +kernel
theorem dL_law_853 : decode cL_law 853 = .ok (.iadd, 1) := by decide +kernel
theorem dL_law_854 : decode cL_law 854 = .ok (.iaload, 1) := by decide +kernel
theorem dL_law_855 : decode cL_law 855 = .ok (.aload_n 0, 1) := by decide +kernel
theorem dL_law_856 : decode cL_law 856 = .ok (.iload_n 3, 1) := by decide +kernel
theorem dL_law_857 : decode cL_law 857 = .ok (.iconst 2, 1) := by decide +kernel
theorem dL_law_858 : decode cL_law 858 = .ok (.iadd, 1) := by decide +kernel
theorem dL_law_859 : decode cL_law 859 = .ok (.iaload, 1) := by decide +kernel
theorem dL_law_860 : decode cL_law 860 = .ok (.invokevirtual 86, 3) := by decide +kernel
theorem dL_law_863 : decode cL_law 863 = .ok (.aload_n 2, 1) := by decide +kernel
theorem dL_law_864 : decode cL_law 864 = .ok (.aload_n 0, 1) := by decide +kernel
theorem dL_law_865 : decode cL_law 865 = .ok (.iload_n 3, 1) := by decide +kernel
theorem dL_law_866 : decode cL_law 866 = .ok (.iconst 1, 1) := by decide +kernel
theorem dL_law_867 : decode cL_law 867 = .ok (.iadd, 1) := by decide +kernel
theorem dL_law_868 : decode cL_law 868 = .ok (.iaload, 1) := by decide +kernel
theorem dL_law_869 : decode cL_law 869 = .ok (.aload_n 0, 1) := by decide +kernel
theorem dL_law_870 : decode cL_law 870 = .ok (.iload_n 3, 1) := by decide +kernel
theorem dL_law_871 : decode cL_law 871 = .ok (.iconst 2, 1) := by decide +kernel
theorem dL_law_872 : decode cL_law 872 = .ok (.iadd, 1) := by decide +kernel
theorem dL_law_873 : decode cL_law 873 = .ok (.iaload, 1) := by decide +kernel
theorem dL_law_874 : decode cL_law 874 = .ok (.invokevirtual 89, 3) := by decide +kernel
theorem dL_law_877 : decode cL_law 877 = .ok (.lcmp, 1) := by decide +kernel
theorem dL_law_878 : decode cL_law 878 = .ok (.ifCond .eq 632, 3) := by decide +kernel
theorem dL_law_881 : decode cL_law 881 = .ok (.iconst 0, 1) := by decide +kernel
theorem dL_law_882 : decode cL_law 882 = .ok (.ireturn, 1) := by decide +kernel
theorem dL_law_883 : decode cL_law 883 = .ok (.aload_n 1, 1) := by decide +kernel
theorem dL_law_884 : decode cL_law 884 = .ok (.aload_n 0, 1) := by decide +kernel
theorem dL_law_885 : decode cL_law 885 = .ok (.iload_n 3, 1) := by decide +kernel
theorem dL_law_886 : decode cL_law 886 = .ok (.iconst 1, 1) := by decide +kernel
theorem dL_law_887 : decode cL_law 887 = .ok (.iadd, 1) := by decide +kernel
theorem dL_law_888 : decode cL_law 888 = .ok (.iaload, 1) := by decide +kernel
theorem dL_law_889 : decode cL_law 889 = .ok (.aload_n 0, 1) := by decide +kernel
theorem dL_law_890 : decode cL_law 890 = .ok (.iload_n 3, 1) := by decide +kernel
theorem dL_law_891 : decode cL_law 891 = .ok (.iconst 2, 1) := by decide +kernel
theorem dL_law_892 : decode cL_law 892 = .ok (.iadd, 1) := by decide +kernel
theorem dL_law_893 : decode cL_law 893 = .ok (.iaload, 1) := by decide +kernel
theorem dL_law_894 : decode cL_law 894 = .ok (.invokevirtual 90, 3) := by decide +kernel
theorem dL_law_897 : decode cL_law 897 = .ok (.aload_n 2, 1) := by decide +kernel
theorem dL_law_898 : decode cL_law 898 = .ok (.aload_n 0, 1) := by decide +kernel
theorem dL_law_899 : decode cL_law 899 = .ok (.iload_n 3, 1) := by decide +kernel
theorem dL_law_900 : decode cL_law 900 = .ok (.iconst 1, 1) := by decide +kernel
theorem dL_law_901 : decode cL_law 901 = .ok (.iadd, 1) := by decide +kernel
theorem dL_law_902 : decode cL_law 902 = .ok (.iaload, 1) := by decide +kernel
theorem dL_law_903 : decode cL_law 903 = .ok (.aload_n 0, 1) := by decide +kernel
theorem dL_law_904 : decode cL_law 904 = .ok (.iload_n 3, 1) := by decide +kernel
theorem dL_law_905 : decode cL_law 905 = .ok (.iconst 2, 1) := by decide +kernel
theorem dL_law_906 : decode cL_law 906 = .ok (.iadd, 1) := by decide +kernel
theorem dL_law_907 : decode cL_law 907 = .ok (.iaload, 1) := by decide +kernel
theorem dL_law_908 : decode cL_law 908 = .ok (.invokevirtual 93, 3) := by decide +kernel
theorem dL_law_911 : decode cL_law 911 = .ok (.if_icmp .eq 599, 3) := by decide +kernel
theorem dL_law_914 : decode cL_law 914 = .ok (.iconst 0, 1) := by decide +kernel
theorem dL_law_915 : decode cL_law 915 = .ok (.ireturn, 1) := by decide +kernel
theorem dL_law_916 : decode cL_law 916 = .ok (.aload_n 1, 1) := by decide +kernel
theorem dL_law_917 : decode cL_law 917 = .ok (.aload_n 0, 1) := by decide +kernel
theorem dL_law_918 : decode cL_law 918 = .ok (.iload_n 3, 1) := by decide +kernel
theorem dL_law_919 : decode cL_law 919 = .ok (.iconst 1, 1) := by decide +kernel
theorem dL_law_920 : decode cL_law 920 = .ok (.iadd, 1) := by decide +kernel
theorem dL_law_921 : decode cL_law 921 = .ok (.iaload, 1) := by decide +kernel
theorem dL_law_922 : decode cL_law 922 = .ok (.aload_n 0, 1) := by decide +kernel
theorem dL_law_923 : decode cL_law 923 = .ok (.iload_n 3, 1) := by decide +kernel
theorem dL_law_924 : decode cL_law 924 = .ok (.iconst 2, 1) := by decide +kernel
theorem dL_law_925 : decode cL_law 925 = .ok (.iadd, 1) := by decide +kernel
theorem dL_law_926 : decode cL_law 926 = .ok (.iaload, 1) := by decide +kernel
theorem dL_law_927 : decode cL_law 927 = .ok (.invokevirtual 94, 3) := by decide +kernel
theorem dL_law_930 : decode cL_law 930 = .ok (.aload_n 2, 1) := by decide +kernel
theorem dL_law_931 : decode cL_law 931 = .ok (.aload_n 0, 1) := by decide +kernel
theorem dL_law_932 : decode cL_law 932 = .ok (.iload_n 3, 1) := by decide +kernel
theorem dL_law_933 : decode cL_law 933 = .ok (.iconst 1, 1) := by decide +kernel
theorem dL_law_934 : decode cL_law 934 = .ok (.iadd, 1) := by decide +kernel
theorem dL_law_935 : decode cL_law 935 = .ok (.iaload, 1) := by decide +kernel
theorem dL_law_936 : decode cL_law 936 = .ok (.aload_n 0, 1) := by decide +kernel
theorem dL_law_937 : decode cL_law 937 = .ok (.iload_n 3, 1) := by decide +kernel
theorem dL_law_938 : decode cL_law 938 = .ok (.iconst 2, 1) := by decide +kernel
theorem dL_law_939 : decode cL_law 939 = .ok (.iadd, 1) := by decide +kernel
theorem dL_law_940 : decode cL_law 940 = .ok (.iaload, 1) := by decide +kernel
theorem dL_law_941 : decode cL_law 941 = .ok (.invokevirtual 97, 3) := by decide +kernel
theorem dL_law_944 : decode cL_law 944 = .ok (.if_icmp .eq 566, 3) := by decide +kernel
theorem dL_law_947 : decode cL_law 947 = .ok (.iconst 0, 1) := by decide +kernel
theorem dL_law_948 : decode cL_law 948 = .ok (.ireturn, 1) := by decide +kernel
theorem dL_law_949 : decode cL_law 949 = .ok (.aload_n 1, 1) := by decide +kernel
theorem dL_law_950 : decode cL_law 950 = .ok (.aload_n 0, 1) := by decide +kernel
theorem dL_law_951 : decode cL_law 951 = .ok (.iload_n 3, 1) := by decide +kernel
theorem dL_law_952 : decode cL_law 952 = .ok (.iconst 1, 1) := by decide +kernel
theorem dL_law_953 : decode cL_law 953 = .ok (.iadd, 1) := by decide +kernel
theorem dL_law_954 : decode cL_law 954 = .ok (.iaload, 1) := by decide +kernel
theorem dL_law_955 : decode cL_law 955 = .ok (.aload_n 0, 1) := by decide +kernel
theorem dL_law_956 : decode cL_law 956 = .ok (.iload_n 3, 1) := by decide +kernel
theorem dL_law_957 : decode cL_law 957 = .ok (.iconst 2, 1) := by decide +kernel
theorem dL_law_958 : decode cL_law 958 = .ok (.iadd, 1) := by decide +kernel
theorem dL_law_959 : decode cL_law 959 = .ok (.iaload, 1) := by decide +kernel
theorem dL_law_960 : decode cL_law 960 = .ok (.aload_n 0, 1) := by decide +kernel
theorem dL_law_961 : decode cL_law 961 = .ok (.iload_n 3, 1) := by decide +kernel
theorem dL_law_962 : decode cL_law 962 = .ok (.iconst 3, 1) := by decide +kernel
theorem dL_law_963 : decode cL_law 963 = .ok (.iadd, 1) := by decide +kernel
theorem dL_law_964 : decode cL_law 964 = .ok (.iaload, 1) := by decide +kernel
theorem dL_law_965 : decode cL_law 965 = .ok (.aload_n 0, 1) := by decide +kernel
theorem dL_law_966 : decode cL_law 966 = .ok (.iload_n 3, 1) := by decide +kernel
theorem dL_law_967 : decode cL_law 967 = .ok (.iconst 4, 1) := by decide +kernel
theorem dL_law_968 : decode cL_law 968 = .ok (.iadd, 1) := by decide +kernel
theorem dL_law_969 : decode cL_law 969 = .ok (.iaload, 1) := by decide +kernel
theorem dL_law_970 : decode cL_law 970 = .ok (.invokevirtual 98, 3) := by decide +kernel
theorem dL_law_973 : decode cL_law 973 = .ok (.aload_n 2, 1) := by decide +kernel
theorem dL_law_974 : decode cL_law 974 = .ok (.aload_n 0, 1) := by decide +kernel
theorem dL_law_975 : decode cL_law 975 = .ok (.iload_n 3, 1) := by decide +kernel
theorem dL_law_976 : decode cL_law 976 = .ok (.iconst 1, 1) := by decide +kernel
theorem dL_law_977 : decode cL_law 977 = .ok (.iadd, 1) := by decide +kernel
theorem dL_law_978 : decode cL_law 978 = .ok (.iaload, 1) := by decide +kernel
theorem dL_law_979 : decode cL_law 979 = .ok (.aload_n 0, 1) := by decide +kernel
theorem dL_law_980 : decode cL_law 980 = .ok (.iload_n 3, 1) := by decide +kernel
theorem dL_law_981 : decode cL_law 981 = .ok (.iconst 2, 1) := by decide +kernel
theorem dL_law_982 : decode cL_law 982 = .ok (.iadd, 1) := by decide +kernel
theorem dL_law_983 : decode cL_law 983 = .ok (.iaload, 1) := by decide +kernel
theorem dL_law_984 : decode cL_law 984 = .ok (.aload_n 0, 1) := by decide +kernel
theorem dL_law_985 : decode cL_law 985 = .ok (.iload_n 3, 1) := by decide +kernel
theorem dL_law_986 : decode cL_law 986 = .ok (.iconst 3, 1) := by decide +kernel
theorem dL_law_987 : decode cL_law 987 = .ok (.iadd, 1) := by decide +kernel
theorem dL_law_988 : decode cL_law 988 = .ok (.iaload, 1) := by decide +kernel
theorem dL_law_989 : decode cL_law 989 = .ok (.aload_n 0, 1) := by decide +kernel
theorem dL_law_990 : decode cL_law 990 = .ok (.iload_n 3, 1) := by decide +kernel
theorem dL_law_991 : decode cL_law 991 = .ok (.iconst 4, 1) := by decide +kernel
theorem dL_law_992 : decode cL_law 992 = .ok (.iadd, 1) := by decide +kernel
theorem dL_law_993 : decode cL_law 993 = .ok (.iaload, 1) := by decide +kernel
theorem dL_law_994 : decode cL_law 994 = .ok (.invokevirtual 101, 3) := by decide +kernel
theorem dL_law_997 : decode cL_law 997 = .ok (.if_icmp .eq 513, 3) := by decide +kernel
theorem dL_law_1000 : decode cL_law 1000 = .ok (.iconst 0, 1) := by decide +kernel
theorem dL_law_1001 : decode cL_law 1001 = .ok (.ireturn, 1) := by decide +kernel
theorem dL_law_1002 : decode cL_law 1002 = .ok (.aload_n 1, 1) := by decide +kernel
theorem dL_law_1003 : decode cL_law 1003 = .ok (.aload_n 0, 1) := by decide +kernel
theorem dL_law_1004 : decode cL_law 1004 = .ok (.iload_n 3, 1) := by decide +kernel
theorem dL_law_1005 : decode cL_law 1005 = .ok (.iconst 1, 1) := by decide +kernel
theorem dL_law_1006 : decode cL_law 1006 = .ok (.iadd, 1) := by decide +kernel
theorem dL_law_1007 : decode cL_law 1007 = .ok (.iaload, 1) := by decide +kernel
theorem dL_law_1008 : decode cL_law 1008 = .ok (.aload_n 0, 1) := by decide +kernel
theorem dL_law_1009 : decode cL_law 1009 = .ok (.iload_n 3, 1) := by decide +kernel
theorem dL_law_1010 : decode cL_law 1010 = .ok (.iconst 2, 1) := by decide +kernel
theorem dL_law_1011 : decode cL_law 1011 = .ok (.iadd, 1) := by decide +kernel
theorem dL_law_1012 : decode cL_law 1012 = .ok (.iaload, 1) := by decide +kernel
theorem dL_law_1013 : decode cL_law 1013 = .ok (.aload_n 0, 1) := by decide +kernel
theorem dL_law_1014 : decode cL_law 1014 = .ok (.iload_n 3, 1) := by decide +kernel
theorem dL_law_1015 : decode cL_law 1015 = .ok (.iconst 3, 1) := by decide +kernel
theorem dL_law_1016 : decode cL_law 1016 = .ok (.iadd, 1) := by decide +kernel
theorem dL_law_1017 : decode cL_law 1017 = .ok (.iaload, 1) := by decide +kernel
theorem dL_law_1018 : decode cL_law 1018 = .ok (.invokevirtual 102, 3) := by decide +kernel
theorem dL_law_1021 : decode cL_law 1021 = .ok (.aload_n 2, 1) := by decide +kernel
theorem dL_law_1022 : decode cL_law 1022 = .ok (.aload_n 0, 1) := by decide +kernel
theorem dL_law_1023 : decode cL_law 1023 = .ok (.iload_n 3, 1) := by decide +kernel
theorem dL_law_1024 : decode cL_law 1024 = .ok (.iconst 1, 1) := by decide +kernel
theorem dL_law_1025 : decode cL_law 1025 = .ok (.iadd, 1) := by decide +kernel
theorem dL_law_1026 : decode cL_law 1026 = .ok (.iaload, 1) := by decide +kernel
theorem dL_law_1027 : decode cL_law 1027 = .ok (.aload_n 0, 1) := by decide +kernel
theorem dL_law_1028 : decode cL_law 1028 = .ok (.iload_n 3, 1) := by decide +kernel
theorem dL_law_1029 : decode cL_law 1029 = .ok (.iconst 2, 1) := by decide +kernel
theorem dL_law_1030 : decode cL_law 1030 = .ok (.iadd, 1) := by decide +kernel
theorem dL_law_1031 : decode cL_law 1031 = .ok (.iaload, 1) := by decide +kernel
theorem dL_law_1032 : decode cL_law 1032 = .ok (.aload_n 0, 1) := by decide +kernel
theorem dL_law_1033 : decode cL_law 1033 = .ok (.iload_n 3, 1) := by decide +kernel
theorem dL_law_1034 : decode cL_law 1034 = .ok (.iconst 3, 1) := by decide +kernel
theorem dL_law_1035 : decode cL_law 1035 = .ok (.iadd, 1) := by decide +kernel
theorem dL_law_1036 : decode cL_law 1036 = .ok (.iaload, 1) := by decide +kernel
theorem dL_law_1037 : decode cL_law 1037 = .ok (.invokevirtual 105, 3) := by decide +kernel
theorem dL_law_1040 : decode cL_law 1040 = .ok (.if_icmp .eq 470, 3) := by decide +kernel
theorem dL_law_1043 : decode cL_law 1043 = .ok (.iconst 0, 1) := by decide +kernel
theorem dL_law_1044 : decode cL_law 1044 = .ok (.ireturn, 1) := by decide +kernel
theorem dL_law_1045 : decode cL_law 1045 = .ok (.aload_n 1, 1) := by decide +kernel
theorem dL_law_1046 : decode cL_law 1046 = .ok (.aload_n 0, 1) := by decide +kernel
theorem dL_law_1047 : decode cL_law 1047 = .ok (.iload_n 3, 1) := by decide +kernel
theorem dL_law_1048 : decode cL_law 1048 = .ok (.iconst 1, 1) := by decide +kernel
theorem dL_law_1049 : decode cL_law 1049 = .ok (.iadd, 1) := by decide +kernel
theorem dL_law_1050 : decode cL_law 1050 = .ok (.iaload, 1) := by decide +kernel
theorem dL_law_1051 : decode cL_law 1051 = .ok (.aload_n 0, 1) := by decide +kernel
theorem dL_law_1052 : decode cL_law 1052 = .ok (.iload_n 3, 1) := by decide +kernel
theorem dL_law_1053 : decode cL_law 1053 = .ok (.iconst 2, 1) := by decide +kernel
theorem dL_law_1054 : decode cL_law 1054 = .ok (.iadd, 1) := by decide +kernel
theorem dL_law_1055 : decode cL_law 1055 = .ok (.iaload, 1) := by decide +kernel
theorem dL_law_1056 : decode cL_law 1056 = .ok (.aload_n 0, 1) := by decide +kernel
theorem dL_law_1057 : decode cL_law 1057 = .ok (.iload_n 3, 1) := by decide +kernel
theorem dL_law_1058 : decode cL_law 1058 = .ok (.iconst 3, 1) := by decide +kernel
theorem dL_law_1059 : decode cL_law 1059 = .ok (.iadd, 1) := by decide +kernel
theorem dL_law_1060 : decode cL_law 1060 = .ok (.iaload, 1) := by decide +kernel
theorem dL_law_1061 : decode cL_law 1061 = .ok (.invokevirtual 106, 3) := by decide +kernel
theorem dL_law_1064 : decode cL_law 1064 = .ok (.aload_n 2, 1) := by decide +kernel
theorem dL_law_1065 : decode cL_law 1065 = .ok (.aload_n 0, 1) := by decide +kernel
theorem dL_law_1066 : decode cL_law 1066 = .ok (.iload_n 3, 1) := by decide +kernel
theorem dL_law_1067 : decode cL_law 1067 = .ok (.iconst 1, 1) := by decide +kernel
theorem dL_law_1068 : decode cL_law 1068 = .ok (.iadd, 1) := by decide +kernel
theorem dL_law_1069 : decode cL_law 1069 = .ok (.iaload, 1) := by decide +kernel
theorem dL_law_1070 : decode cL_law 1070 = .ok (.aload_n 0, 1) := by decide +kernel
theorem dL_law_1071 : decode cL_law 1071 = .ok (.iload_n 3, 1) := by decide +kernel
theorem dL_law_1072 : decode cL_law 1072 = .ok (.iconst 2, 1) := by decide +kernel
theorem dL_law_1073 : decode cL_law 1073 = .ok (.iadd, 1) := by decide +kernel
theorem dL_law_1074 : decode cL_law 1074 = .ok (.iaload, 1) := by decide +kernel
theorem dL_law_1075 : decode cL_law 1075 = .ok (.aload_n 0, 1) := by decide +kernel
theorem dL_law_1076 : decode cL_law 1076 = .ok (.iload_n 3, 1) := by decide +kernel
theorem dL_law_1077 : decode cL_law 1077 = .ok (.iconst 3, 1) := by decide +kernel
theorem dL_law_1078 : decode cL_law 1078 = .ok (.iadd, 1) := by decide +kernel
theorem dL_law_1079 : decode cL_law 1079 = .ok (.iaload, 1) := by decide +kernel
theorem dL_law_1080 : decode cL_law 1080 = .ok (.invokevirtual 109, 3) := by decide +kernel
theorem dL_law_1083 : decode cL_law 1083 = .ok (.if_icmp .eq 427, 3) := by decide +kernel
theorem dL_law_1086 : decode cL_law 1086 = .ok (.iconst 0, 1) := by decide +kernel
theorem dL_law_1087 : decode cL_law 1087 = .ok (.ireturn, 1) := by decide +kernel
theorem dL_law_1088 : decode cL_law 1088 = .ok (.aload_n 1, 1) := by decide +kernel
theorem dL_law_1089 : decode cL_law 1089 = .ok (.aload_n 0, 1) := by decide +kernel
theorem dL_law_1090 : decode cL_law 1090 = .ok (.iload_n 3, 1) := by decide +kernel
theorem dL_law_1091 : decode cL_law 1091 = .ok (.iconst 1, 1) := by decide +kernel
theorem dL_law_1092 : decode cL_law 1092 = .ok (.iadd, 1) := by decide +kernel
theorem dL_law_1093 : decode cL_law 1093 = .ok (.iaload, 1) := by decide +kernel
theorem dL_law_1094 : decode cL_law 1094 = .ok (.aload_n 0, 1) := by decide +kernel
theorem dL_law_1095 : decode cL_law 1095 = .ok (.iload_n 3, 1) := by decide +kernel
theorem dL_law_1096 : decode cL_law 1096 = .ok (.iconst 2, 1) := by decide +kernel
theorem dL_law_1097 : decode cL_law 1097 = .ok (.iadd, 1) := by decide +kernel
theorem dL_law_1098 : decode cL_law 1098 = .ok (.iaload, 1) := by decide +kernel
theorem dL_law_1099 : decode cL_law 1099 = .ok (.invokevirtual 110, 3) := by decide +kernel
theorem dL_law_1102 : decode cL_law 1102 = .ok (.aload_n 2, 1) := by decide +kernel
theorem dL_law_1103 : decode cL_law 1103 = .ok (.aload_n 0, 1) := by decide +kernel
theorem dL_law_1104 : decode cL_law 1104 = .ok (.iload_n 3, 1) := by decide +kernel
theorem dL_law_1105 : decode cL_law 1105 = .ok (.iconst 1, 1) := by decide +kernel
theorem dL_law_1106 : decode cL_law 1106 = .ok (.iadd, 1) := by decide +kernel
theorem dL_law_1107 : decode cL_law 1107 = .ok (.iaload, 1) := by decide +kernel
theorem dL_law_1108 : decode cL_law 1108 = .ok (.aload_n 0, 1) := by decide +kernel
theorem dL_law_1109 : decode cL_law 1109 = .ok (.iload_n 3, 1) := by decide +kernel
theorem dL_law_1110 : decode cL_law 1110 = .ok (.iconst 2, 1) := by decide +kernel
theorem dL_law_1111 : decode cL_law 1111 = .ok (.iadd, 1) := by decide +kernel
theorem dL_law_1112 : decode cL_law 1112 = .ok (.iaload, 1) := by decide +kernel
theorem dL_law_1113 : decode cL_law 1113 = .ok (.invokevirtual 113, 3) := by decide +kernel
theorem dL_law_1116 : decode cL_law 1116 = .ok (.if_icmp .eq 394, 3) := by decide +kernel
theorem dL_law_1119 : decode cL_law 1119 = .ok (.iconst 0, 1) := by decide +kernel
theorem dL_law_1120 : decode cL_law 1120 = .ok (.ireturn, 1) := by decide +kernel
theorem dL_law_1121 : decode cL_law 1121 = .ok (.aload_n 1, 1) := by decide +kernel
theorem dL_law_1122 : decode cL_law 1122 = .ok (.aload_n 0, 1) := by decide +kernel
theorem dL_law_1123 : decode cL_law 1123 = .ok (.iload_n 3, 1) := by decide +kernel
theorem dL_law_1124 : decode cL_law 1124 = .ok (.iconst 1, 1) := by decide +kernel
theorem dL_law_1125 : decode cL_law 1125 = .ok (.iadd, 1) := by decide +kernel
theorem dL_law_1126 : decode cL_law 1126 = .ok (.iaload, 1) := by decide +kernel
theorem dL_law_1127 : decode cL_law 1127 = .ok (.invokevirtual 114, 3) := by decide +kernel
theorem dL_law_1130 : decode cL_law 1130 = .ok (.aload_n 2, 1) := by decide +kernel
theorem dL_law_1131 : decode cL_law 1131 = .ok (.aload_n 0, 1) := by decide +kernel
theorem dL_law_1132 : decode cL_law 1132 = .ok (.iload_n 3, 1) := by decide +kernel
theorem dL_law_1133 : decode cL_law 1133 = .ok (.iconst 1, 1) := by decide +kernel
theorem dL_law_1134 : decode cL_law 1134 = .ok (.iadd, 1) := by decide +kernel
theorem dL_law_1135 : decode cL_law 1135 = .ok (.iaload, 1) := by decide +kernel
theorem dL_law_1136 : decode cL_law 1136 = .ok (.invokevirtual 117, 3) := by decide +kernel
theorem dL_law_1139 : decode cL_law 1139 = .ok (.if_icmp .eq 371, 3) := by decide +kernel
theorem dL_law_1142 : decode cL_law 1142 = .ok (.iconst 0, 1) := by decide +kernel
theorem dL_law_1143 : decode cL_law 1143 = .ok (.ireturn, 1) := by decide +kernel
theorem dL_law_1144 : decode cL_law 1144 = .ok (.aload_n 1, 1) := by decide +kernel
theorem dL_law_1145 : decode cL_law 1145 = .ok (.invokevirtual 118, 3) := by decide +kernel
theorem dL_law_1148 : decode cL_law 1148 = .ok (.aload_n 2, 1) := by decide +kernel
theorem dL_law_1149 : decode cL_law 1149 = .ok (.invokevirtual 122, 3) := by decide +kernel
theorem dL_law_1152 : decode cL_law 1152 = .ok (.lcmp, 1) := by decide +kernel
theorem dL_law_1153 : decode cL_law 1153 = .ok (.ifCond .eq 357, 3) := by decide +kernel
theorem dL_law_1156 : decode cL_law 1156 = .ok (.iconst 0, 1) := by decide +kernel
theorem dL_law_1157 : decode cL_law 1157 = .ok (.ireturn, 1) := by decide +kernel
theorem dL_law_1158 : decode cL_law 1158 = .ok (.aload_n 1, 1) := by decide +kernel
theorem dL_law_1159 : decode cL_law 1159 = .ok (.aload_n 0, 1) := by decide +kernel
theorem dL_law_1160 : decode cL_law 1160 = .ok (.iload_n 3, 1) := by decide +kernel
theorem dL_law_1161 : decode cL_law 1161 = .ok (.iconst 1, 1) := by decide +kernel
theorem dL_law_1162 : decode cL_law 1162 = .ok (.iadd, 1) := by decide +kernel
theorem dL_law_1163 : decode cL_law 1163 = .ok (.iaload, 1) := by decide +kernel
theorem dL_law_1164 : decode cL_law 1164 = .ok (.aload_n 0, 1) := by decide +kernel
theorem dL_law_1165 : decode cL_law 1165 = .ok (.iload_n 3, 1) := by decide +kernel
theorem dL_law_1166 : decode cL_law 1166 = .ok (.iconst 2, 1) := by decide +kernel
theorem dL_law_1167 : decode cL_law 1167 = .ok (.iadd, 1) := by decide +kernel
theorem dL_law_1168 : decode cL_law 1168 = .ok (.iaload, 1) := by decide +kernel
theorem dL_law_1169 : decode cL_law 1169 = .ok (.invokevirtual 123, 3) := by decide +kernel
theorem dL_law_1172 : decode cL_law 1172 = .ok (.aload_n 2, 1) := by decide +kernel
theorem dL_law_1173 : decode cL_law 1173 = .ok (.aload_n 0, 1) := by decide +kernel
theorem dL_law_1174 : decode cL_law 1174 = .ok (.iload_n 3, 1) := by decide +kernel
theorem dL_law_1175 : decode cL_law 1175 = .ok (.iconst 1, 1) := by decide +kernel
theorem dL_law_1176 : decode cL_law 1176 = .ok (.iadd, 1) := by decide +kernel
theorem dL_law_1177 : decode cL_law 1177 = .ok (.iaload, 1) := by decide +kernel
theorem dL_law_1178 : decode cL_law 1178 = .ok (.aload_n 0, 1) := by decide +kernel
theorem dL_law_1179 : decode cL_law 1179 = .ok (.iload_n 3, 1) := by decide +kernel
theorem dL_law_1180 : decode cL_law 1180 = .ok (.iconst 2, 1) := by decide +kernel
theorem dL_law_1181 : decode cL_law 1181 = .ok (.iadd, 1) := by decide +kernel
theorem dL_law_1182 : decode cL_law 1182 = .ok (.iaload, 1) := by decide +kernel
theorem dL_law_1183 : decode cL_law 1183 = .ok (.invokevirtual 126, 3) := by decide +kernel
theorem dL_law_1186 : decode cL_law 1186 = .ok (.if_icmp .eq 324, 3) := by decide +kernel
theorem dL_law_1189 : decode cL_law 1189 = .ok (.iconst 0, 1) := by decide +kernel
theorem dL_law_1190 : decode cL_law 1190 = .ok (.ireturn, 1) := by decide +kernel
theorem dL_law_1191 : decode cL_law 1191 = .ok (.aload_n 1, 1) := by decide +kernel
theorem dL_law_1192 : decode cL_law 1192 = .ok (.aload_n 0, 1) := by decide +kernel
theorem dL_law_1193 : decode cL_law 1193 = .ok (.iload_n 3, 1) := by decide +kernel
theorem dL_law_1194 : decode cL_law 1194 = .ok (.iconst 1, 1) := by decide +kernel
theorem dL_law_1195 : decode cL_law 1195 = .ok (.iadd, 1) := by decide +kernel
theorem dL_law_1196 : decode cL_law 1196 = .ok (.iaload, 1) := by decide +kernel
theorem dL_law_1197 : decode cL_law 1197 = .ok (.aload_n 0, 1) := by decide +kernel
theorem dL_law_1198 : decode cL_law 1198 = .ok (.iload_n 3, 1) := by decide +kernel
theorem dL_law_1199 : decode cL_law 1199 = .ok (.iconst 2, 1) := by decide +kernel
theorem dL_law_1200 : decode cL_law 1200 = .ok (.iadd, 1) := by decide +kernel
theorem dL_law_1201 : decode cL_law 1201 = .ok (.iaload, 1) := by decide +kernel
theorem dL_law_1202 : decode cL_law 1202 = .ok (.aload_n 0, 1) := by decide +kernel
theorem dL_law_1203 : decode cL_law 1203 = .ok (.iload_n 3, 1) := by decide +kernel
theorem dL_law_1204 : decode cL_law 1204 = .ok (.iconst 3, 1) := by decide +kernel
theorem dL_law_1205 : decode cL_law 1205 = .ok (.iadd, 1) := by decide +kernel
theorem dL_law_1206 : decode cL_law 1206 = .ok (.iaload, 1) := by decide +kernel
theorem dL_law_1207 : decode cL_law 1207 = .ok (.invokevirtual 127, 3) := by decide +kernel
theorem dL_law_1210 : decode cL_law 1210 = .ok (.aload_n 2, 1) := by decide +kernel
theorem dL_law_1211 : decode cL_law 1211 = .ok (.aload_n 0, 1) := by decide +kernel
theorem dL_law_1212 : decode cL_law 1212 = .ok (.iload_n 3, 1) := by decide +kernel
theorem dL_law_1213 : decode cL_law 1213 = .ok (.iconst 1, 1) := by decide +kernel
theorem dL_law_1214 : decode cL_law 1214 = .ok (.iadd, 1) := by decide +kernel
theorem dL_law_1215 : decode cL_law 1215 = .ok (.iaload, 1) := by decide +kernel
theorem dL_law_1216 : decode cL_law 1216 = .ok (.aload_n 0, 1) := by decide +kernel
theorem dL_law_1217 : decode cL_law 1217 = .ok (.iload_n 3, 1) := by decide +kernel
theorem dL_law_1218 : decode cL_law 1218 = .ok (.iconst 2, 1) := by decide +kernel
theorem dL_law_1219 : decode cL_law 1219 = .ok (.iadd, 1) := by decide +kernel
theorem dL_law_1220 : decode cL_law 1220 = .ok (.iaload, 1) := by decide +kernel
theorem dL_law_1221 : decode cL_law 1221 = .ok (.aload_n 0, 1) := by decide +kernel
theorem dL_law_1222 : decode cL_law 1222 = .ok (.iload_n 3, 1) := by decide +kernel
theorem dL_law_1223 : decode cL_law 1223 = .ok (.iconst 3, 1) := by decide +kernel
theorem dL_law_1224 : decode cL_law 1224 = .ok (.iadd, 1) := by decide +kernel
theorem dL_law_1225 : decode cL_law 1225 = .ok (.iaload, 1) := by decide +kernel
theorem dL_law_1226 : decode cL_law 1226 = .ok (.invokevirtual 130, 3) := by decide +kernel
theorem dL_law_1229 : decode cL_law 1229 = .ok (.if_icmp .eq 281, 3) := by decide +kernel
theorem dL_law_1232 : decode cL_law 1232 = .ok (.iconst 0, 1) := by decide +kernel
theorem dL_law_1233 : decode cL_law 1233 = .ok (.ireturn, 1) := by decide +kernel
theorem dL_law_1234 : decode cL_law 1234 = .ok (.aload_n 1, 1) := by decide +kernel
theorem dL_law_1235 : decode cL_law 1235 = .ok (.aload_n 0, 1) := by decide +kernel
theorem dL_law_1236 : decode cL_law 1236 = .ok (.iload_n 3, 1) := by decide +kernel
theorem dL_law_1237 : decode cL_law 1237 = .ok (.iconst 1, 1) := by decide +kernel
theorem dL_law_1238 : decode cL_law 1238 = .ok (.iadd, 1) := by decide +kernel
theorem dL_law_1239 : decode cL_law 1239 = .ok (.iaload, 1) := by decide +kernel
theorem dL_law_1240 : decode cL_law 1240 = .ok (.ifCond .eq 7, 3) := by decide +kernel
theorem dL_law_1243 : decode cL_law 1243 = .ok (.iconst 1, 1) := by decide +kernel
theorem dL_law_1244 : decode cL_law 1244 = .ok (.goto 4, 3) := by decide +kernel
theorem dL_law_1247 : decode cL_law 1247 = .ok (.iconst 0, 1) := by decide +kernel
theorem dL_law_1248 : decode cL_law 1248 = .ok (.aload_n 0, 1) := by decide +kernel
theorem dL_law_1249 : decode cL_law 1249 = .ok (.iload_n 3, 1) := by decide +kernel
theorem dL_law_1250 : decode cL_law 1250 = .ok (.iconst 2, 1) := by decide +kernel
theorem dL_law_1251 : decode cL_law 1251 = .ok (.iadd, 1) := by decide +kernel
theorem dL_law_1252 : decode cL_law 1252 = .ok (.iaload, 1) := by decide +kernel
theorem dL_law_1253 : decode cL_law 1253 = .ok (.aload_n 0, 1) := by decide +kernel
theorem dL_law_1254 : decode cL_law 1254 = .ok (.iload_n 3, 1) := by decide +kernel
theorem dL_law_1255 : decode cL_law 1255 = .ok (.iconst 3, 1) := by decide +kernel
theorem dL_law_1256 : decode cL_law 1256 = .ok (.iadd, 1) := by decide +kernel
theorem dL_law_1257 : decode cL_law 1257 = .ok (.iaload, 1) := by decide +kernel
theorem dL_law_1258 : decode cL_law 1258 = .ok (.aload_n 0, 1) := by decide +kernel
theorem dL_law_1259 : decode cL_law 1259 = .ok (.iload_n 3, 1) := by decide +kernel
theorem dL_law_1260 : decode cL_law 1260 = .ok (.iconst 4, 1) := by decide +kernel
theorem dL_law_1261 : decode cL_law 1261 = .ok (.iadd, 1) := by decide +kernel
theorem dL_law_1262 : decode cL_law 1262 = .ok (.iaload, 1) := by decide +kernel
theorem dL_law_1263 : decode cL_law 1263 = .ok (.aload_n 0, 1) := by decide +kernel
theorem dL_law_1264 : decode cL_law 1264 = .ok (.iload_n 3, 1) := by decide +kernel
theorem dL_law_1265 : decode cL_law 1265 = .ok (.iconst 5, 1) := by decide +kernel
theorem dL_law_1266 : decode cL_law 1266 = .ok (.iadd, 1) := by decide +kernel
theorem dL_law_1267 : decode cL_law 1267 = .ok (.iaload, 1) := by decide +kernel
theorem dL_law_1268 : decode cL_law 1268 = .ok (.invokevirtual 131, 3) := by decide +kernel
theorem dL_law_1271 : decode cL_law 1271 = .ok (.aload_n 2, 1) := by decide +kernel
theorem dL_law_1272 : decode cL_law 1272 = .ok (.aload_n 0, 1) := by decide +kernel
theorem dL_law_1273 : decode cL_law 1273 = .ok (.iload_n 3, 1) := by decide +kernel
theorem dL_law_1274 : decode cL_law 1274 = .ok (.iconst 1, 1) := by decide +kernel
theorem dL_law_1275 : decode cL_law 1275 = .ok (.iadd, 1) := by decide +kernel
theorem dL_law_1276 : decode cL_law 1276 = .ok (.iaload, 1) := by decide +kernel
theorem dL_law_1277 : decode cL_law 1277 = .ok (.ifCond .eq 7, 3) := by decide +kernel
theorem dL_law_1280 : decode cL_law 1280 = .ok (.iconst 1, 1) := by decide +kernel
theorem dL_law_1281 : decode cL_law 1281 = .ok (.goto 4, 3) := by decide +kernel
theorem dL_law_1284 : decode cL_law 1284 = .ok (.iconst 0, 1) := by decide +kernel
theorem dL_law_1285 : decode cL_law 1285 = .ok (.aload_n 0, 1) := by decide +kernel
theorem dL_law_1286 : decode cL_law 1286 = .ok (.iload_n 3, 1) := by decide +kernel
theorem dL_law_1287 : decode cL_law 1287 = .ok (.iconst 2, 1) := by decide +kernel
theorem dL_law_1288 : decode cL_law 1288 = .ok (.iadd, 1) := by decide +kernel
theorem dL_law_1289 : decode cL_law 1289 = .ok (.iaload, 1) := by decide +kernel
theorem dL_law_1290 : decode cL_law 1290 = .ok (.aload_n 0, 1) := by decide +kernel
theorem dL_law_1291 : decode cL_law 1291 = .ok (.iload_n 3, 1) := by decide +kernel
theorem dL_law_1292 : decode cL_law 1292 = .ok (.iconst 3, 1) := by decide +kernel
theorem dL_law_1293 : decode cL_law 1293 = .ok (.iadd, 1) := by decide +kernel
theorem dL_law_1294 : decode cL_law 1294 = .ok (.iaload, 1) := by decide +kernel
theorem dL_law_1295 : decode cL_law 1295 = .ok (.aload_n 0, 1) := by decide +kernel
theorem dL_law_1296 : decode cL_law 1296 = .ok (.iload_n 3, 1) := by decide +kernel
theorem dL_law_1297 : decode cL_law 1297 = .ok (.iconst 4, 1) := by decide +kernel
theorem dL_law_1298 : decode cL_law 1298 = .ok (.iadd, 1) := by decide +kernel
theorem dL_law_1299 : decode cL_law 1299 = .ok (.iaload, 1) := by decide +kernel
theorem dL_law_1300 : decode cL_law 1300 = .ok (.aload_n 0, 1) := by decide +kernel
theorem dL_law_1301 : decode cL_law 1301 = .ok (.iload_n 3, 1) := by decide +kernel
theorem dL_law_1302 : decode cL_law 1302 = .ok (.iconst 5, 1) := by decide +kernel
theorem dL_law_1303 : decode cL_law 1303 = .ok (.iadd, 1) := by decide +kernel
theorem dL_law_1304 : decode cL_law 1304 = .ok (.iaload, 1) := by decide +kernel
theorem dL_law_1305 : decode cL_law 1305 = .ok (.invokevirtual 135, 3) := by decide +kernel
theorem dL_law_1308 : decode cL_law 1308 = .ok (.if_icmp .eq 202, 3) := by decide +kernel
theorem dL_law_1311 : decode cL_law 1311 = .ok (.iconst 0, 1) := by decide +kernel
theorem dL_law_1312 : decode cL_law 1312 = .ok (.ireturn, 1) := by decide +kernel
theorem dL_law_1313 : decode cL_law 1313 = .ok (.aload_n 1, 1) := by decide +kernel
theorem dL_law_1314 : decode cL_law 1314 = .ok (.aload_n 0, 1) := by decide +kernel
theorem dL_law_1315 : decode cL_law 1315 = .ok (.iload_n 3, 1) := by decide +kernel
theorem dL_law_1316 : decode cL_law 1316 = .ok (.iconst 1, 1) := by decide +kernel
theorem dL_law_1317 : decode cL_law 1317 = .ok (.iadd, 1) := by decide +kernel
theorem dL_law_1318 : decode cL_law 1318 = .ok (.iaload, 1) := by decide +kernel
theorem dL_law_1319 : decode cL_law 1319 = .ok (.aload_n 0, 1) := by decide +kernel
theorem dL_law_1320 : decode cL_law 1320 = .ok (.iload_n 3, 1) := by decide +kernel
theorem dL_law_1321 : decode cL_law 1321 = .ok (.iconst 2, 1) := by decide +kernel
theorem dL_law_1322 : decode cL_law 1322 = .ok (.iadd, 1) := by decide +kernel
theorem dL_law_1323 : decode cL_law 1323 = .ok (.iaload, 1) := by decide +kernel
theorem dL_law_1324 : decode cL_law 1324 = .ok (.aload_n 0, 1) := by decide +kernel
theorem dL_law_1325 : decode cL_law 1325 = .ok (.iload_n 3, 1) := by decide +kernel
theorem dL_law_1326 : decode cL_law 1326 = .ok (.iconst 3, 1) := by decide +kernel
theorem dL_law_1327 : decode cL_law 1327 = .ok (.iadd, 1) := by decide +kernel
theorem dL_law_1328 : decode cL_law 1328 = .ok (.iaload, 1) := by decide +kernel
theorem dL_law_1329 : decode cL_law 1329 = .ok (.invokevirtual 136, 3) := by decide +kernel
theorem dL_law_1332 : decode cL_law 1332 = .ok (.aload_n 2, 1) := by decide +kernel
theorem dL_law_1333 : decode cL_law 1333 = .ok (.aload_n 0, 1) := by decide +kernel
theorem dL_law_1334 : decode cL_law 1334 = .ok (.iload_n 3, 1) := by decide +kernel
theorem dL_law_1335 : decode cL_law 1335 = .ok (.iconst 1, 1) := by decide +kernel
theorem dL_law_1336 : decode cL_law 1336 = .ok (.iadd, 1) := by decide +kernel
theorem dL_law_1337 : decode cL_law 1337 = .ok (.iaload, 1) := by decide +kernel
theorem dL_law_1338 : decode cL_law 1338 = .ok (.aload_n 0, 1) := by decide +kernel
theorem dL_law_1339 : decode cL_law 1339 = .ok (.iload_n 3, 1) := by decide +kernel
theorem dL_law_1340 : decode cL_law 1340 = .ok (.iconst 2, 1) := by decide +kernel
theorem dL_law_1341 : decode cL_law 1341 = .ok (.iadd, 1) := by decide +kernel
theorem dL_law_1342 : decode cL_law 1342 = .ok (.iaload, 1) := by decide +kernel
theorem dL_law_1343 : decode cL_law 1343 = .ok (.aload_n 0, 1) := by decide +kernel
theorem dL_law_1344 : decode cL_law 1344 = .ok (.iload_n 3, 1) := by decide +kernel
theorem dL_law_1345 : decode cL_law 1345 = .ok (.iconst 3, 1) := by decide +kernel
theorem dL_law_1346 : decode cL_law 1346 = .ok (.iadd, 1) := by decide +kernel
theorem dL_law_1347 : decode cL_law 1347 = .ok (.iaload, 1) := by decide +kernel
theorem dL_law_1348 : decode cL_law 1348 = .ok (.invokevirtual 139, 3) := by decide +kernel
theorem dL_law_1351 : decode cL_law 1351 = .ok (.if_icmp .eq 159, 3) := by decide +kernel
theorem dL_law_1354 : decode cL_law 1354 = .ok (.iconst 0, 1) := by decide +kernel
theorem dL_law_1355 : decode cL_law 1355 = .ok (.ireturn, 1) := by decide +kernel
theorem dL_law_1356 : decode cL_law 1356 = .ok (.aload_n 1, 1) := by decide +kernel
theorem dL_law_1357 : decode cL_law 1357 = .ok (.aload_n 0, 1) := by decide +kernel
theorem dL_law_1358 : decode cL_law 1358 = .ok (.iload_n 3, 1) := by decide +kernel
theorem dL_law_1359 : decode cL_law 1359 = .ok (.iconst 1, 1) := by decide +kernel
theorem dL_law_1360 : decode cL_law 1360 = .ok (.iadd, 1) := by decide +kernel
theorem dL_law_1361 : decode cL_law 1361 = .ok (.iaload, 1) := by decide +kernel
theorem dL_law_1362 : decode cL_law 1362 = .ok (.invokevirtual 140, 3) := by decide +kernel
theorem dL_law_1365 : decode cL_law 1365 = .ok (.aload_n 2, 1) := by decide +kernel
theorem dL_law_1366 : decode cL_law 1366 = .ok (.aload_n 0, 1) := by decide +kernel
theorem dL_law_1367 : decode cL_law 1367 = .ok (.iload_n 3, 1) := by decide +kernel
theorem dL_law_1368 : decode cL_law 1368 = .ok (.iconst 1, 1) := by decide +kernel
theorem dL_law_1369 : decode cL_law 1369 = .ok (.iadd, 1) := by decide +kernel
theorem dL_law_1370 : decode cL_law 1370 = .ok (.iaload, 1) := by decide +kernel
theorem dL_law_1371 : decode cL_law 1371 = .ok (.invokevirtual 144, 3) := by decide +kernel
theorem dL_law_1374 : decode cL_law 1374 = .ok (.lcmp, 1) := by decide +kernel
theorem dL_law_1375 : decode cL_law 1375 = .ok (.ifCond .eq 135, 3) := by decide +kernel
theorem dL_law_1378 : decode cL_law 1378 = .ok (.iconst 0, 1) := by decide +kernel
theorem dL_law_1379 : decode cL_law 1379 = .ok (.ireturn, 1) := by decide +kernel
theorem dL_law_1380 : decode cL_law 1380 = .ok (.aload_n 1, 1) := by decide +kernel
theorem dL_law_1381 : decode cL_law 1381 = .ok (.invokevirtual 145, 3) := by decide +kernel
theorem dL_law_1384 : decode cL_law 1384 = .ok (.aload_n 2, 1) := by decide +kernel
theorem dL_law_1385 : decode cL_law 1385 = .ok (.invokevirtual 148, 3) := by decide +kernel
theorem dL_law_1388 : decode cL_law 1388 = .ok (.if_icmp .eq 122, 3) := by decide +kernel
theorem dL_law_1391 : decode cL_law 1391 = .ok (.iconst 0, 1) := by decide +kernel
theorem dL_law_1392 : decode cL_law 1392 = .ok (.ireturn, 1) := by decide +kernel
theorem dL_law_1393 : decode cL_law 1393 = .ok (.aload_n 1, 1) := by decide +kernel
theorem dL_law_1394 : decode cL_law 1394 = .ok (.invokevirtual 149, 3) := by decide +kernel
theorem dL_law_1397 : decode cL_law 1397 = .ok (.aload_n 2, 1) := by decide +kernel
theorem dL_law_1398 : decode cL_law 1398 = .ok (.invokevirtual 152, 3) := by decide +kernel
theorem dL_law_1401 : decode cL_law 1401 = .ok (.if_icmp .eq 109, 3) := by decide +kernel
theorem dL_law_1404 : decode cL_law 1404 = .ok (.iconst 0, 1) := by decide +kernel
theorem dL_law_1405 : decode cL_law 1405 = .ok (.ireturn, 1) := by decide +kernel
theorem dL_law_1406 : decode cL_law 1406 = .ok (.aload_n 1, 1) := by decide +kernel
theorem dL_law_1407 : decode cL_law 1407 = .ok (.aload_n 0, 1) := by decide +kernel
theorem dL_law_1408 : decode cL_law 1408 = .ok (.iload_n 3, 1) := by decide +kernel
theorem dL_law_1409 : decode cL_law 1409 = .ok (.iconst 1, 1) := by decide +kernel
theorem dL_law_1410 : decode cL_law 1410 = .ok (.iadd, 1) := by decide +kernel
theorem dL_law_1411 : decode cL_law 1411 = .ok (.iaload, 1) := by decide +kernel
theorem dL_law_1412 : decode cL_law 1412 = .ok (.i2c, 1) := by decide +kernel
theorem dL_law_1413 : decode cL_law 1413 = .ok (.invokevirtual 153, 3) := by decide +kernel
theorem dL_law_1416 : decode cL_law 1416 = .ok (.aload_n 2, 1) := by decide +kernel
theorem dL_law_1417 : decode cL_law 1417 = .ok (.aload_n 0, 1) := by decide +kernel
theorem dL_law_1418 : decode cL_law 1418 = .ok (.iload_n 3, 1) := by decide +kernel
theorem dL_law_1419 : decode cL_law 1419 = .ok (.iconst 1, 1) := by decide +kernel
theorem dL_law_1420 : decode cL_law 1420 = .ok (.iadd, 1) := by decide +kernel
theorem dL_law_1421 : decode cL_law 1421 = .ok (.iaload, 1) := by decide +kernel
theorem dL_law_1422 : decode cL_law 1422 = .ok (.i2c, 1) := by decide +kernel
theorem dL_law_1423 : decode cL_law 1423 = .ok (.invokevirtual 157, 3) := by decide +kernel
theorem dL_law_1426 : decode cL_law 1426 = .ok (.if_icmp .eq 84, 3) := by decide +kernel
theorem dL_law_1429 : decode cL_law 1429 = .ok (.iconst 0, 1) := by decide +kernel
theorem dL_law_1430 : decode cL_law 1430 = .ok (.ireturn, 1) := by decide +kernel
theorem dL_law_1431 : decode cL_law 1431 = .ok (.aload_n 1, 1) := by decide +kernel
theorem dL_law_1432 : decode cL_law 1432 = .ok (.invokevirtual 158, 3) := by decide +kernel
theorem dL_law_1435 : decode cL_law 1435 = .ok (.aload_n 2, 1) := by decide +kernel
theorem dL_law_1436 : decode cL_law 1436 = .ok (.invokevirtual 161, 3) := by decide +kernel
theorem dL_law_1439 : decode cL_law 1439 = .ok (.if_icmp .eq 71, 3) := by decide +kernel
theorem dL_law_1442 : decode cL_law 1442 = .ok (.iconst 0, 1) := by decide +kernel
theorem dL_law_1443 : decode cL_law 1443 = .ok (.ireturn, 1) := by decide +kernel
theorem dL_law_1444 : decode cL_law 1444 = .ok (.aload_n 1, 1) := by decide +kernel
theorem dL_law_1445 : decode cL_law 1445 = .ok (.aload_n 0, 1) := by decide +kernel
theorem dL_law_1446 : decode cL_law 1446 = .ok (.iload_n 3, 1) := by decide +kernel
theorem dL_law_1447 : decode cL_law 1447 = .ok (.iconst 1, 1) := by decide +kernel
theorem dL_law_1448 : decode cL_law 1448 = .ok (.iadd, 1) := by decide +kernel
theorem dL_law_1449 : decode cL_law 1449 = .ok (.iaload, 1) := by decide +kernel
theorem dL_law_1450 : decode cL_law 1450 = .ok (.invokevirtual 162, 3) := by decide +kernel
theorem dL_law_1453 : decode cL_law 1453 = .ok (.aload_n 2, 1) := by decide +kernel
theorem dL_law_1454 : decode cL_law 1454 = .ok (.aload_n 0, 1) := by decide +kernel
theorem dL_law_1455 : decode cL_law 1455 = .ok (.iload_n 3, 1) := by decide +kernel
theorem dL_law_1456 : decode cL_law 1456 = .ok (.iconst 1, 1) := by decide +kernel
theorem dL_law_1457 : decode cL_law 1457 = .ok (.iadd, 1) := by decide +kernel
theorem dL_law_1458 : decode cL_law 1458 = .ok (.iaload, 1) := by decide +kernel
theorem dL_law_1459 : decode cL_law 1459 = .ok (.invokevirtual 165, 3) := by decide +kernel
theorem dL_law_1462 : decode cL_law 1462 = .ok (.if_icmp .eq 48, 3) := by decide +kernel
theorem dL_law_1465 : decode cL_law 1465 = .ok (.iconst 0, 1) := by decide +kernel
theorem dL_law_1466 : decode cL_law 1466 = .ok (.ireturn, 1) := by decide +kernel
theorem dL_law_1467 : decode cL_law 1467 = .ok (.aload_n 1, 1) := by decide +kernel
theorem dL_law_1468 : decode cL_law 1468 = .ok (.aload_n 0, 1) := by decide +kernel
theorem dL_law_1469 : decode cL_law 1469 = .ok (.iload_n 3, 1) := by decide +kernel
theorem dL_law_1470 : decode cL_law 1470 = .ok (.iconst 1, 1) := by decide +kernel
theorem dL_law_1471 : decode cL_law 1471 = .ok (.iadd, 1) := by decide +kernel
theorem dL_law_1472 : decode cL_law 1472 = .ok (.iaload, 1) := by decide +kernel
theorem dL_law_1473 : decode cL_law 1473 = .ok (.aload_n 0, 1) := by decide +kernel
theorem dL_law_1474 : decode cL_law 1474 = .ok (.iload_n 3, 1) := by decide +kernel
theorem dL_law_1475 : decode cL_law 1475 = .ok (.iconst 2, 1) := by decide +kernel
theorem dL_law_1476 : decode cL_law 1476 = .ok (.iadd, 1) := by decide +kernel
theorem dL_law_1477 : decode cL_law 1477 = .ok (.iaload, 1) := by decide +kernel
theorem dL_law_1478 : decode cL_law 1478 = .ok (.aload_n 0, 1) := by decide +kernel
theorem dL_law_1479 : decode cL_law 1479 = .ok (.iload_n 3, 1) := by decide +kernel
theorem dL_law_1480 : decode cL_law 1480 = .ok (.iconst 3, 1) := by decide +kernel
theorem dL_law_1481 : decode cL_law 1481 = .ok (.iadd, 1) := by decide +kernel
theorem dL_law_1482 : decode cL_law 1482 = .ok (.iaload, 1) := by decide +kernel
theorem dL_law_1483 : decode cL_law 1483 = .ok (.invokevirtual 166, 3) := by decide +kernel
theorem dL_law_1486 : decode cL_law 1486 = .ok (.aload_n 2, 1) := by decide +kernel
theorem dL_law_1487 : decode cL_law 1487 = .ok (.aload_n 0, 1) := by decide +kernel
theorem dL_law_1488 : decode cL_law 1488 = .ok (.iload_n 3, 1) := by decide +kernel
theorem dL_law_1489 : decode cL_law 1489 = .ok (.iconst 1, 1) := by decide +kernel
theorem dL_law_1490 : decode cL_law 1490 = .ok (.iadd, 1) := by decide +kernel
theorem dL_law_1491 : decode cL_law 1491 = .ok (.iaload, 1) := by decide +kernel
theorem dL_law_1492 : decode cL_law 1492 = .ok (.aload_n 0, 1) := by decide +kernel
theorem dL_law_1493 : decode cL_law 1493 = .ok (.iload_n 3, 1) := by decide +kernel
theorem dL_law_1494 : decode cL_law 1494 = .ok (.iconst 2, 1) := by decide +kernel
theorem dL_law_1495 : decode cL_law 1495 = .ok (.iadd, 1) := by decide +kernel
theorem dL_law_1496 : decode cL_law 1496 = .ok (.iaload, 1) := by decide +kernel
theorem dL_law_1497 : decode cL_law 1497 = .ok (.aload_n 0, 1) := by decide +kernel
theorem dL_law_1498 : decode cL_law 1498 = .ok (.iload_n 3, 1) := by decide +kernel
theorem dL_law_1499 : decode cL_law 1499 = .ok (.iconst 3, 1) := by decide +kernel
theorem dL_law_1500 : decode cL_law 1500 = .ok (.iadd, 1) := by decide +kernel
theorem dL_law_1501 : decode cL_law 1501 = .ok (.iaload, 1) := by decide +kernel
theorem dL_law_1502 : decode cL_law 1502 = .ok (.invokevirtual 169, 3) := by decide +kernel
theorem dL_law_1505 : decode cL_law 1505 = .ok (.if_icmp .eq 5, 3) := by decide +kernel
theorem dL_law_1508 : decode cL_law 1508 = .ok (.iconst 0, 1) := by decide +kernel
theorem dL_law_1509 : decode cL_law 1509 = .ok (.ireturn, 1) := by decide +kernel
theorem dL_law_1510 : decode cL_law 1510 = .ok (.iinc 3 7, 3) := by decide +kernel
theorem dL_law_1513 : decode cL_law 1513 = .ok (.goto (-1495), 3) := by decide +kernel
theorem dL_law_1516 : decode cL_law 1516 = .ok (.iconst 1, 1) := by decide +kernel
theorem dL_law_1517 : decode cL_law 1517 = .ok (.ireturn, 1) := by decide +kernel
end
