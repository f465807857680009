section
-- ===== PART A: goes FIRST, ahead of the names: the tables' words, and 'selects' of the private methods out of them =====
/-- a private method of a class that the tables say can be made, by its rows of tables_1 -/
def lw_okq (q : MethodName × Nat) : Prop := (q.1.cls ≠ "java/lang/invoke/MethodHandle" ∧ q.1.cls ≠ "java/lang/invoke/VarHandle") ∧ Cond.instantiable q.1.cls q.2 ∈ tables_1 ∧ Cond.privateMethod q.1 ∈ tables_1 ∧ Cond.instanceMethod q.1 ∈ tables_1
theorem lw_p0 : lw_okq (⟨"LacedPack$Plan", "begin", "(I)V"⟩, 5) := ⟨⟨by decide +kernel, by decide +kernel⟩, List.mem_of_getElem? (i := 41) (by decide +kernel), List.mem_of_getElem? (i := 133) (by decide +kernel), List.mem_of_getElem? (i := 134) (by decide +kernel)⟩
theorem lw_p1 : lw_okq (⟨"LacedPack$Plan", "addAct", "(J)Z"⟩, 5) := ⟨⟨by decide +kernel, by decide +kernel⟩, List.mem_of_getElem? (i := 41) (by decide +kernel), List.mem_of_getElem? (i := 173) (by decide +kernel), List.mem_of_getElem? (i := 174) (by decide +kernel)⟩
theorem lw_p2 : lw_okq (⟨"LacedPack$Text", "readItem", "(LLacedPack$Plan;)Z"⟩, 3) := ⟨⟨by decide +kernel, by decide +kernel⟩, List.mem_of_getElem? (i := 23) (by decide +kernel), List.mem_of_getElem? (i := 241) (by decide +kernel), List.mem_of_getElem? (i := 242) (by decide +kernel)⟩
theorem lw_p3 : lw_okq (⟨"LacedPack$Text", "nextLetter", "()I"⟩, 3) := ⟨⟨by decide +kernel, by decide +kernel⟩, List.mem_of_getElem? (i := 23) (by decide +kernel), List.mem_of_getElem? (i := 245) (by decide +kernel), List.mem_of_getElem? (i := 246) (by decide +kernel)⟩
theorem lw_p4 : lw_okq (⟨"LacedPack$Text", "readNumber", "(I)I"⟩, 3) := ⟨⟨by decide +kernel, by decide +kernel⟩, List.mem_of_getElem? (i := 23) (by decide +kernel), List.mem_of_getElem? (i := 249) (by decide +kernel), List.mem_of_getElem? (i := 250) (by decide +kernel)⟩
theorem lw_p5 : lw_okq (⟨"LacedPack", "isPlace", "(I)Z"⟩, 9) := ⟨⟨by decide +kernel, by decide +kernel⟩, List.mem_of_getElem? (i := 15) (by decide +kernel), List.mem_of_getElem? (i := 275) (by decide +kernel), List.mem_of_getElem? (i := 276) (by decide +kernel)⟩
theorem lw_p6 : lw_okq (⟨"LacedPack", "isCard", "(I)Z"⟩, 9) := ⟨⟨by decide +kernel, by decide +kernel⟩, List.mem_of_getElem? (i := 15) (by decide +kernel), List.mem_of_getElem? (i := 284) (by decide +kernel), List.mem_of_getElem? (i := 285) (by decide +kernel)⟩
theorem lw_p7 : lw_okq (⟨"LacedPack", "act", "(J)I"⟩, 9) := ⟨⟨by decide +kernel, by decide +kernel⟩, List.mem_of_getElem? (i := 15) (by decide +kernel), List.mem_of_getElem? (i := 305) (by decide +kernel), List.mem_of_getElem? (i := 306) (by decide +kernel)⟩
theorem lw_p8 : lw_okq (⟨"LacedPack$Finder", "isNextTo", "(III)Z"⟩, 3) := ⟨⟨by decide +kernel, by decide +kernel⟩, List.mem_of_getElem? (i := 103) (by decide +kernel), List.mem_of_getElem? (i := 381) (by decide +kernel), List.mem_of_getElem? (i := 382) (by decide +kernel)⟩
theorem lw_p9 : lw_okq (⟨"LacedPack$Finder", "firstKind", "(II)I"⟩, 3) := ⟨⟨by decide +kernel, by decide +kernel⟩, List.mem_of_getElem? (i := 103) (by decide +kernel), List.mem_of_getElem? (i := 397) (by decide +kernel), List.mem_of_getElem? (i := 398) (by decide +kernel)⟩
theorem lw_p10 : lw_okq (⟨"LacedPack$Finder", "heldWith", "(JI)I"⟩, 3) := ⟨⟨by decide +kernel, by decide +kernel⟩, List.mem_of_getElem? (i := 103) (by decide +kernel), List.mem_of_getElem? (i := 429) (by decide +kernel), List.mem_of_getElem? (i := 430) (by decide +kernel)⟩
theorem lw_p11 : lw_okq (⟨"LacedPack$Mix", "waysByLastPair", "(LLacedPack$Plan;JIII)I"⟩, 1) := ⟨⟨by decide +kernel, by decide +kernel⟩, List.mem_of_getElem? (i := 119) (by decide +kernel), List.mem_of_getElem? (i := 462) (by decide +kernel), List.mem_of_getElem? (i := 463) (by decide +kernel)⟩
theorem lw_p12 : lw_okq (⟨"LacedPack$Mix", "waysOf", "(II)I"⟩, 1) := ⟨⟨by decide +kernel, by decide +kernel⟩, List.mem_of_getElem? (i := 119) (by decide +kernel), List.mem_of_getElem? (i := 470) (by decide +kernel), List.mem_of_getElem? (i := 471) (by decide +kernel)⟩
theorem lw_p13 : lw_okq (⟨"LacedPack$Mix", "setWays", "(III)V"⟩, 1) := ⟨⟨by decide +kernel, by decide +kernel⟩, List.mem_of_getElem? (i := 119) (by decide +kernel), List.mem_of_getElem? (i := 475) (by decide +kernel), List.mem_of_getElem? (i := 476) (by decide +kernel)⟩
theorem lw_p14 : lw_okq (⟨"LacedPack", "fittingKinds", "()I"⟩, 9) := ⟨⟨by decide +kernel, by decide +kernel⟩, List.mem_of_getElem? (i := 15) (by decide +kernel), List.mem_of_getElem? (i := 502) (by decide +kernel), List.mem_of_getElem? (i := 503) (by decide +kernel)⟩
theorem lw_p15 : lw_okq (⟨"LacedPack", "fittingCuts", "()I"⟩, 9) := ⟨⟨by decide +kernel, by decide +kernel⟩, List.mem_of_getElem? (i := 15) (by decide +kernel), List.mem_of_getElem? (i := 511) (by decide +kernel), List.mem_of_getElem? (i := 512) (by decide +kernel)⟩
def lw_privs_1 : List (MethodName × Nat) := [(⟨"LacedPack$Plan", "begin", "(I)V"⟩, 5), (⟨"LacedPack$Plan", "addAct", "(J)Z"⟩, 5), (⟨"LacedPack$Text", "readItem", "(LLacedPack$Plan;)Z"⟩, 3), (⟨"LacedPack$Text", "nextLetter", "()I"⟩, 3), (⟨"LacedPack$Text", "readNumber", "(I)I"⟩, 3), (⟨"LacedPack", "isPlace", "(I)Z"⟩, 9), (⟨"LacedPack", "isCard", "(I)Z"⟩, 9), (⟨"LacedPack", "act", "(J)I"⟩, 9), (⟨"LacedPack$Finder", "isNextTo", "(III)Z"⟩, 3), (⟨"LacedPack$Finder", "firstKind", "(II)I"⟩, 3), (⟨"LacedPack$Finder", "heldWith", "(JI)I"⟩, 3), (⟨"LacedPack$Mix", "waysByLastPair", "(LLacedPack$Plan;JIII)I"⟩, 1), (⟨"LacedPack$Mix", "waysOf", "(II)I"⟩, 1), (⟨"LacedPack$Mix", "setWays", "(III)V"⟩, 1), (⟨"LacedPack", "fittingKinds", "()I"⟩, 9), (⟨"LacedPack", "fittingCuts", "()I"⟩, 9)]
theorem lw_r1 : ∀ q ∈ lw_privs_1, lw_okq q := List.forall_mem_cons.mpr ⟨lw_p0, List.forall_mem_cons.mpr ⟨lw_p1, List.forall_mem_cons.mpr ⟨lw_p2, List.forall_mem_cons.mpr ⟨lw_p3, List.forall_mem_cons.mpr ⟨lw_p4, List.forall_mem_cons.mpr ⟨lw_p5, List.forall_mem_cons.mpr ⟨lw_p6, List.forall_mem_cons.mpr ⟨lw_p7, List.forall_mem_cons.mpr ⟨lw_p8, List.forall_mem_cons.mpr ⟨lw_p9, List.forall_mem_cons.mpr ⟨lw_p10, List.forall_mem_cons.mpr ⟨lw_p11, List.forall_mem_cons.mpr ⟨lw_p12, List.forall_mem_cons.mpr ⟨lw_p13, List.forall_mem_cons.mpr ⟨lw_p14, List.forall_mem_cons.mpr ⟨lw_p15, fun _ h => absurd h List.not_mem_nil⟩⟩⟩⟩⟩⟩⟩⟩⟩⟩⟩⟩⟩⟩⟩⟩
theorem lw_p16 : lw_okq (⟨"LacedPack", "endOfWay", "(III)I"⟩, 9) := ⟨⟨by decide +kernel, by decide +kernel⟩, List.mem_of_getElem? (i := 15) (by decide +kernel), List.mem_of_getElem? (i := 519) (by decide +kernel), List.mem_of_getElem? (i := 520) (by decide +kernel)⟩
theorem lw_p17 : lw_okq (⟨"LacedPack", "drawnMove", "(I)J"⟩, 9) := ⟨⟨by decide +kernel, by decide +kernel⟩, List.mem_of_getElem? (i := 15) (by decide +kernel), List.mem_of_getElem? (i := 541) (by decide +kernel), List.mem_of_getElem? (i := 542) (by decide +kernel)⟩
theorem lw_p18 : lw_okq (⟨"LacedPackModel", "clearTold", "()V"⟩, 27) := ⟨⟨by decide +kernel, by decide +kernel⟩, List.mem_of_getElem? (i := 561) (by decide +kernel), List.mem_of_getElem? (i := 567) (by decide +kernel), List.mem_of_getElem? (i := 568) (by decide +kernel)⟩
theorem lw_p19 : lw_okq (⟨"LacedPackModel", "colours", "()V"⟩, 27) := ⟨⟨by decide +kernel, by decide +kernel⟩, List.mem_of_getElem? (i := 561) (by decide +kernel), List.mem_of_getElem? (i := 571) (by decide +kernel), List.mem_of_getElem? (i := 572) (by decide +kernel)⟩
theorem lw_p20 : lw_okq (⟨"LacedPackModel", "settles", "()V"⟩, 27) := ⟨⟨by decide +kernel, by decide +kernel⟩, List.mem_of_getElem? (i := 561) (by decide +kernel), List.mem_of_getElem? (i := 575) (by decide +kernel), List.mem_of_getElem? (i := 576) (by decide +kernel)⟩
theorem lw_p21 : lw_okq (⟨"LacedPackModel", "readItem", "()Z"⟩, 27) := ⟨⟨by decide +kernel, by decide +kernel⟩, List.mem_of_getElem? (i := 561) (by decide +kernel), List.mem_of_getElem? (i := 682) (by decide +kernel), List.mem_of_getElem? (i := 683) (by decide +kernel)⟩
theorem lw_p22 : lw_okq (⟨"LacedPackModel", "letterAt", "(I)I"⟩, 27) := ⟨⟨by decide +kernel, by decide +kernel⟩, List.mem_of_getElem? (i := 561) (by decide +kernel), List.mem_of_getElem? (i := 686) (by decide +kernel), List.mem_of_getElem? (i := 687) (by decide +kernel)⟩
theorem lw_p23 : lw_okq (⟨"LacedPackModel", "readCardsOf", "()Z"⟩, 27) := ⟨⟨by decide +kernel, by decide +kernel⟩, List.mem_of_getElem? (i := 561) (by decide +kernel), List.mem_of_getElem? (i := 690) (by decide +kernel), List.mem_of_getElem? (i := 691) (by decide +kernel)⟩
theorem lw_p24 : lw_okq (⟨"LacedPackModel", "readNumbers", "(I)Z"⟩, 27) := ⟨⟨by decide +kernel, by decide +kernel⟩, List.mem_of_getElem? (i := 561) (by decide +kernel), List.mem_of_getElem? (i := 694) (by decide +kernel), List.mem_of_getElem? (i := 695) (by decide +kernel)⟩
theorem lw_p25 : lw_okq (⟨"LacedPackModel", "isTold", "(III)Z"⟩, 27) := ⟨⟨by decide +kernel, by decide +kernel⟩, List.mem_of_getElem? (i := 561) (by decide +kernel), List.mem_of_getElem? (i := 701) (by decide +kernel), List.mem_of_getElem? (i := 702) (by decide +kernel)⟩
theorem lw_p26 : lw_okq (⟨"LacedPackModel", "readColourOf", "()Z"⟩, 27) := ⟨⟨by decide +kernel, by decide +kernel⟩, List.mem_of_getElem? (i := 561) (by decide +kernel), List.mem_of_getElem? (i := 705) (by decide +kernel), List.mem_of_getElem? (i := 706) (by decide +kernel)⟩
theorem lw_p27 : lw_okq (⟨"LacedPackModel", "readDealOf", "(II)Z"⟩, 27) := ⟨⟨by decide +kernel, by decide +kernel⟩, List.mem_of_getElem? (i := 561) (by decide +kernel), List.mem_of_getElem? (i := 709) (by decide +kernel), List.mem_of_getElem? (i := 710) (by decide +kernel)⟩
theorem lw_p28 : lw_okq (⟨"LacedPackModel", "isCard", "(I)Z"⟩, 27) := ⟨⟨by decide +kernel, by decide +kernel⟩, List.mem_of_getElem? (i := 561) (by decide +kernel), List.mem_of_getElem? (i := 722) (by decide +kernel), List.mem_of_getElem? (i := 723) (by decide +kernel)⟩
theorem lw_p29 : lw_okq (⟨"LacedPackModel", "asItIs", "()V"⟩, 27) := ⟨⟨by decide +kernel, by decide +kernel⟩, List.mem_of_getElem? (i := 561) (by decide +kernel), List.mem_of_getElem? (i := 730) (by decide +kernel), List.mem_of_getElem? (i := 731) (by decide +kernel)⟩
theorem lw_p30 : lw_okq (⟨"LacedPackModel", "placeOf", "(I)I"⟩, 27) := ⟨⟨by decide +kernel, by decide +kernel⟩, List.mem_of_getElem? (i := 561) (by decide +kernel), List.mem_of_getElem? (i := 734) (by decide +kernel), List.mem_of_getElem? (i := 735) (by decide +kernel)⟩
theorem lw_p31 : lw_okq (⟨"LacedPackModel", "does", "(I)I"⟩, 27) := ⟨⟨by decide +kernel, by decide +kernel⟩, List.mem_of_getElem? (i := 561) (by decide +kernel), List.mem_of_getElem? (i := 749) (by decide +kernel), List.mem_of_getElem? (i := 750) (by decide +kernel)⟩
def lw_privs_2 : List (MethodName × Nat) := [(⟨"LacedPack", "endOfWay", "(III)I"⟩, 9), (⟨"LacedPack", "drawnMove", "(I)J"⟩, 9), (⟨"LacedPackModel", "clearTold", "()V"⟩, 27), (⟨"LacedPackModel", "colours", "()V"⟩, 27), (⟨"LacedPackModel", "settles", "()V"⟩, 27), (⟨"LacedPackModel", "readItem", "()Z"⟩, 27), (⟨"LacedPackModel", "letterAt", "(I)I"⟩, 27), (⟨"LacedPackModel", "readCardsOf", "()Z"⟩, 27), (⟨"LacedPackModel", "readNumbers", "(I)Z"⟩, 27), (⟨"LacedPackModel", "isTold", "(III)Z"⟩, 27), (⟨"LacedPackModel", "readColourOf", "()Z"⟩, 27), (⟨"LacedPackModel", "readDealOf", "(II)Z"⟩, 27), (⟨"LacedPackModel", "isCard", "(I)Z"⟩, 27), (⟨"LacedPackModel", "asItIs", "()V"⟩, 27), (⟨"LacedPackModel", "placeOf", "(I)I"⟩, 27), (⟨"LacedPackModel", "does", "(I)I"⟩, 27)]
theorem lw_r2 : ∀ q ∈ lw_privs_2, lw_okq q := List.forall_mem_cons.mpr ⟨lw_p16, List.forall_mem_cons.mpr ⟨lw_p17, List.forall_mem_cons.mpr ⟨lw_p18, List.forall_mem_cons.mpr ⟨lw_p19, List.forall_mem_cons.mpr ⟨lw_p20, List.forall_mem_cons.mpr ⟨lw_p21, List.forall_mem_cons.mpr ⟨lw_p22, List.forall_mem_cons.mpr ⟨lw_p23, List.forall_mem_cons.mpr ⟨lw_p24, List.forall_mem_cons.mpr ⟨lw_p25, List.forall_mem_cons.mpr ⟨lw_p26, List.forall_mem_cons.mpr ⟨lw_p27, List.forall_mem_cons.mpr ⟨lw_p28, List.forall_mem_cons.mpr ⟨lw_p29, List.forall_mem_cons.mpr ⟨lw_p30, List.forall_mem_cons.mpr ⟨lw_p31, fun _ h => absurd h List.not_mem_nil⟩⟩⟩⟩⟩⟩⟩⟩⟩⟩⟩⟩⟩⟩⟩⟩
theorem lw_p32 : lw_okq (⟨"LacedPackModel", "remembers", "()V"⟩, 27) := ⟨⟨by decide +kernel, by decide +kernel⟩, List.mem_of_getElem? (i := 561) (by decide +kernel), List.mem_of_getElem? (i := 753) (by decide +kernel), List.mem_of_getElem? (i := 754) (by decide +kernel)⟩
theorem lw_p33 : lw_okq (⟨"LacedPackModel", "acts", "(I)V"⟩, 27) := ⟨⟨by decide +kernel, by decide +kernel⟩, List.mem_of_getElem? (i := 561) (by decide +kernel), List.mem_of_getElem? (i := 757) (by decide +kernel), List.mem_of_getElem? (i := 758) (by decide +kernel)⟩
theorem lw_p34 : lw_okq (⟨"LacedPackModel", "falls", "(III)V"⟩, 27) := ⟨⟨by decide +kernel, by decide +kernel⟩, List.mem_of_getElem? (i := 561) (by decide +kernel), List.mem_of_getElem? (i := 761) (by decide +kernel), List.mem_of_getElem? (i := 762) (by decide +kernel)⟩
theorem lw_p35 : lw_okq (⟨"LacedPackModel", "milks", "()V"⟩, 27) := ⟨⟨by decide +kernel, by decide +kernel⟩, List.mem_of_getElem? (i := 561) (by decide +kernel), List.mem_of_getElem? (i := 765) (by decide +kernel), List.mem_of_getElem? (i := 766) (by decide +kernel)⟩
theorem lw_p36 : lw_okq (⟨"LacedPackModel", "under", "()V"⟩, 27) := ⟨⟨by decide +kernel, by decide +kernel⟩, List.mem_of_getElem? (i := 561) (by decide +kernel), List.mem_of_getElem? (i := 769) (by decide +kernel), List.mem_of_getElem? (i := 770) (by decide +kernel)⟩
theorem lw_p37 : lw_okq (⟨"LacedPackModel", "cuts", "(I)V"⟩, 27) := ⟨⟨by decide +kernel, by decide +kernel⟩, List.mem_of_getElem? (i := 561) (by decide +kernel), List.mem_of_getElem? (i := 773) (by decide +kernel), List.mem_of_getElem? (i := 774) (by decide +kernel)⟩
theorem lw_p38 : lw_okq (⟨"LacedPackModel", "deals", "()V"⟩, 27) := ⟨⟨by decide +kernel, by decide +kernel⟩, List.mem_of_getElem? (i := 561) (by decide +kernel), List.mem_of_getElem? (i := 789) (by decide +kernel), List.mem_of_getElem? (i := 790) (by decide +kernel)⟩
theorem lw_p39 : lw_okq (⟨"LacedPackModel", "isInOrder", "()Z"⟩, 27) := ⟨⟨by decide +kernel, by decide +kernel⟩, List.mem_of_getElem? (i := 561) (by decide +kernel), List.mem_of_getElem? (i := 801) (by decide +kernel), List.mem_of_getElem? (i := 802) (by decide +kernel)⟩
theorem lw_p40 : lw_okq (⟨"LacedPackModel", "findFar", "(I)V"⟩, 27) := ⟨⟨by decide +kernel, by decide +kernel⟩, List.mem_of_getElem? (i := 561) (by decide +kernel), List.mem_of_getElem? (i := 817) (by decide +kernel), List.mem_of_getElem? (i := 818) (by decide +kernel)⟩
theorem lw_p41 : lw_okq (⟨"LacedPackModel", "findGoes", "()V"⟩, 27) := ⟨⟨by decide +kernel, by decide +kernel⟩, List.mem_of_getElem? (i := 561) (by decide +kernel), List.mem_of_getElem? (i := 821) (by decide +kernel), List.mem_of_getElem? (i := 822) (by decide +kernel)⟩
theorem lw_p42 : lw_okq (⟨"LacedPackModel", "isMet", "()Z"⟩, 27) := ⟨⟨by decide +kernel, by decide +kernel⟩, List.mem_of_getElem? (i := 561) (by decide +kernel), List.mem_of_getElem? (i := 833) (by decide +kernel), List.mem_of_getElem? (i := 834) (by decide +kernel)⟩
theorem lw_p43 : lw_okq (⟨"LacedPackModel", "risingNow", "()I"⟩, 27) := ⟨⟨by decide +kernel, by decide +kernel⟩, List.mem_of_getElem? (i := 561) (by decide +kernel), List.mem_of_getElem? (i := 841) (by decide +kernel), List.mem_of_getElem? (i := 842) (by decide +kernel)⟩
theorem lw_p44 : lw_okq (⟨"LacedPackModel", "unlike", "([I)I"⟩, 27) := ⟨⟨by decide +kernel, by decide +kernel⟩, List.mem_of_getElem? (i := 561) (by decide +kernel), List.mem_of_getElem? (i := 849) (by decide +kernel), List.mem_of_getElem? (i := 850) (by decide +kernel)⟩
theorem lw_p45 : lw_okq (⟨"LacedPackModel", "isBy", "(I)Z"⟩, 27) := ⟨⟨by decide +kernel, by decide +kernel⟩, List.mem_of_getElem? (i := 561) (by decide +kernel), List.mem_of_getElem? (i := 875) (by decide +kernel), List.mem_of_getElem? (i := 876) (by decide +kernel)⟩
def lw_privs_3 : List (MethodName × Nat) := [(⟨"LacedPackModel", "remembers", "()V"⟩, 27), (⟨"LacedPackModel", "acts", "(I)V"⟩, 27), (⟨"LacedPackModel", "falls", "(III)V"⟩, 27), (⟨"LacedPackModel", "milks", "()V"⟩, 27), (⟨"LacedPackModel", "under", "()V"⟩, 27), (⟨"LacedPackModel", "cuts", "(I)V"⟩, 27), (⟨"LacedPackModel", "deals", "()V"⟩, 27), (⟨"LacedPackModel", "isInOrder", "()Z"⟩, 27), (⟨"LacedPackModel", "findFar", "(I)V"⟩, 27), (⟨"LacedPackModel", "findGoes", "()V"⟩, 27), (⟨"LacedPackModel", "isMet", "()Z"⟩, 27), (⟨"LacedPackModel", "risingNow", "()I"⟩, 27), (⟨"LacedPackModel", "unlike", "([I)I"⟩, 27), (⟨"LacedPackModel", "isBy", "(I)Z"⟩, 27)]
theorem lw_r3 : ∀ q ∈ lw_privs_3, lw_okq q := List.forall_mem_cons.mpr ⟨lw_p32, List.forall_mem_cons.mpr ⟨lw_p33, List.forall_mem_cons.mpr ⟨lw_p34, List.forall_mem_cons.mpr ⟨lw_p35, List.forall_mem_cons.mpr ⟨lw_p36, List.forall_mem_cons.mpr ⟨lw_p37, List.forall_mem_cons.mpr ⟨lw_p38, List.forall_mem_cons.mpr ⟨lw_p39, List.forall_mem_cons.mpr ⟨lw_p40, List.forall_mem_cons.mpr ⟨lw_p41, List.forall_mem_cons.mpr ⟨lw_p42, List.forall_mem_cons.mpr ⟨lw_p43, List.forall_mem_cons.mpr ⟨lw_p44, List.forall_mem_cons.mpr ⟨lw_p45, fun _ h => absurd h List.not_mem_nil⟩⟩⟩⟩⟩⟩⟩⟩⟩⟩⟩⟩⟩⟩
def lw_privs : List (MethodName × Nat) := lw_privs_1 ++ (lw_privs_2 ++ (lw_privs_3))
def lw_tbl : List Cond := k2_sels lw_privs ++ tables_1
theorem lw_privs_ok : ∀ q ∈ lw_privs, lw_okq q := by
  show ∀ q ∈ lw_privs_1 ++ (lw_privs_2 ++ (lw_privs_3)), lw_okq q
  exact List.forall_mem_append.mpr ⟨lw_r1, List.forall_mem_append.mpr ⟨lw_r2, lw_r3⟩⟩
end
section
/-! names of classes, fields, methods -/
def RX0 : String := "LacedPack$Finder"
def TX0 : u_T := fun k => match k with
  | 0 => ("LacedPack$Finder", "stepsFrom", "[I", true)
  | 1 => ("LacedPack$Finder", "pairTree", "[I", true)
  | _ => ("LacedPack$Finder", "found", "[J", true)
def tyX0 : Nat → FieldType := fun k => match k with
  | 0 => .array .int
  | 1 => .array .int
  | _ => .array .long
theorem nmX0 : ∀ a, a < 3 → ∀ b, b < 3 → a ≠ b → (TX0 a).2.1 ≠ (TX0 b).2.1 := by decide +kernel
theorem tyX0_ok : ∀ k, k < 3 → parseFieldDescriptor (TX0 k).2.2.1 = some (tyX0 k) := by decide +kernel
abbrev cX0_init : ByteArray := prog_2_method_1_code
def yX0_init : MethodName := ⟨RX0, "<init>", "()V"⟩
abbrev cX0_findWaysTo : ByteArray := prog_2_method_2_code
def yX0_findWaysTo : MethodName := ⟨RX0, "findWaysTo", "(II)V"⟩
abbrev cX0_fewestFrom : ByteArray := prog_2_method_3_code
def yX0_fewestFrom : MethodName := ⟨RX0, "fewestFrom", "(I)I"⟩
abbrev cX0_kindOnWay : ByteArray := prog_2_method_4_code
def yX0_kindOnWay : MethodName := ⟨RX0, "kindOnWay", "(III)I"⟩
abbrev cX0_fewestTillNeighbours : ByteArray := prog_2_method_5_code
def yX0_fewestTillNeighbours : MethodName := ⟨RX0, "fewestTillNeighbours", "(III)I"⟩
abbrev cX0_countOrders : ByteArray := prog_2_method_6_code
def yX0_countOrders : MethodName := ⟨RX0, "countOrders", "(II)I"⟩
abbrev cX0_isNextTo : ByteArray := prog_2_method_7_code
def yX0_isNextTo : MethodName := ⟨RX0, "isNextTo", "(III)Z"⟩
abbrev cX0_firstKind : ByteArray := prog_2_method_8_code
def yX0_firstKind : MethodName := ⟨RX0, "firstKind", "(II)I"⟩
abbrev cX0_pairBehind : ByteArray := prog_2_method_9_code
def yX0_pairBehind : MethodName := ⟨RX0, "pairBehind", "(III)I"⟩
abbrev cX0_depthOf : ByteArray := prog_2_method_10_code
def yX0_depthOf : MethodName := ⟨RX0, "depthOf", "(I)I"⟩
abbrev cX0_heldWith : ByteArray := prog_2_method_11_code
def yX0_heldWith : MethodName := ⟨RX0, "heldWith", "(JI)I"⟩
def RX1 : String := "LacedPack$Fraction"
def TX1 : u_T := fun k => match k with
  | _ => ("", "", "", false)
def tyX1 : Nat → FieldType := fun k => match k with
  | _ => .int
theorem nmX1 : ∀ a, a < 0 → ∀ b, b < 0 → a ≠ b → (TX1 a).2.1 ≠ (TX1 b).2.1 := by decide +kernel
theorem tyX1_ok : ∀ k, k < 0 → parseFieldDescriptor (TX1 k).2.2.1 = some (tyX1 k) := by decide +kernel
abbrev cX1_partOf : ByteArray := prog_3_method_2_code
def yX1_partOf : MethodName := ⟨RX1, "partOf", "(III)I"⟩
abbrev cX1_commonDivisor : ByteArray := prog_3_method_3_code
def yX1_commonDivisor : MethodName := ⟨RX1, "commonDivisor", "(II)I"⟩
abbrev cX1_choices : ByteArray := prog_3_method_4_code
def yX1_choices : MethodName := ⟨RX1, "choices", "(II)I"⟩
def RX2 : String := "LacedPack$Mix"
def TX2 : u_T := fun k => match k with
  | _ => ("LacedPack$Mix", "ways", "[I", true)
def tyX2 : Nat → FieldType := fun k => match k with
  | _ => .array .int
theorem nmX2 : ∀ a, a < 1 → ∀ b, b < 1 → a ≠ b → (TX2 a).2.1 ≠ (TX2 b).2.1 := by decide +kernel
theorem tyX2_ok : ∀ k, k < 1 → parseFieldDescriptor (TX2 k).2.2.1 = some (tyX2 k) := by decide +kernel
abbrev cX2_init : ByteArray := prog_4_method_1_code
def yX2_init : MethodName := ⟨RX2, "<init>", "()V"⟩
abbrev cX2_goodWays : ByteArray := prog_4_method_2_code
def yX2_goodWays : MethodName := ⟨RX2, "goodWays", "(LLacedPack$Plan;JI)I"⟩
abbrev cX2_dealtOff : ByteArray := prog_4_method_3_code
def yX2_dealtOff : MethodName := ⟨RX2, "dealtOff", "(JII)J"⟩
abbrev cX2_waysByLastPair : ByteArray := prog_4_method_4_code
def yX2_waysByLastPair : MethodName := ⟨RX2, "waysByLastPair", "(LLacedPack$Plan;JIII)I"⟩
abbrev cX2_areUnlikeAt : ByteArray := prog_4_method_5_code
def yX2_areUnlikeAt : MethodName := ⟨RX2, "areUnlikeAt", "(LLacedPack$Plan;JII)Z"⟩
abbrev cX2_waysOf : ByteArray := prog_4_method_6_code
def yX2_waysOf : MethodName := ⟨RX2, "waysOf", "(II)I"⟩
abbrev cX2_setWays : ByteArray := prog_4_method_7_code
def yX2_setWays : MethodName := ⟨RX2, "setWays", "(III)V"⟩
def RX3 : String := "LacedPack$Move"
def TX3 : u_T := fun k => match k with
  | _ => ("", "", "", false)
def tyX3 : Nat → FieldType := fun k => match k with
  | _ => .int
theorem nmX3 : ∀ a, a < 0 → ∀ b, b < 0 → a ≠ b → (TX3 a).2.1 ≠ (TX3 b).2.1 := by decide +kernel
theorem tyX3_ok : ∀ k, k < 0 → parseFieldDescriptor (TX3 k).2.2.1 = some (tyX3 k) := by decide +kernel
abbrev cX3_lacing : ByteArray := prog_5_method_2_code
def yX3_lacing : MethodName := ⟨RX3, "lacing", "(II)J"⟩
abbrev cX3_cutAt : ByteArray := prog_5_method_3_code
def yX3_cutAt : MethodName := ⟨RX3, "cutAt", "(II)J"⟩
abbrev cX3_turnedOver : ByteArray := prog_5_method_4_code
def yX3_turnedOver : MethodName := ⟨RX3, "turnedOver", "(I)J"⟩
abbrev cX3_goal : ByteArray := prog_5_method_5_code
def yX3_goal : MethodName := ⟨RX3, "goal", "(III)I"⟩
abbrev cX3_source : ByteArray := prog_5_method_6_code
def yX3_source : MethodName := ⟨RX3, "source", "(III)I"⟩
abbrev cX3_downAndUnder : ByteArray := prog_5_method_7_code
def yX3_downAndUnder : MethodName := ⟨RX3, "downAndUnder", "(I)J"⟩
def RX4 : String := "LacedPack$Order"
def TX4 : u_T := fun k => match k with
  | _ => ("", "", "", false)
def tyX4 : Nat → FieldType := fun k => match k with
  | _ => .int
theorem nmX4 : ∀ a, a < 0 → ∀ b, b < 0 → a ≠ b → (TX4 a).2.1 ≠ (TX4 b).2.1 := by decide +kernel
theorem tyX4_ok : ∀ k, k < 0 → parseFieldDescriptor (TX4 k).2.2.1 = some (tyX4 k) := by decide +kernel
abbrev cX4_inOrder : ByteArray := prog_6_method_2_code
def yX4_inOrder : MethodName := ⟨RX4, "inOrder", "(I)J"⟩
abbrev cX4_cardAt : ByteArray := prog_6_method_3_code
def yX4_cardAt : MethodName := ⟨RX4, "cardAt", "(JI)I"⟩
abbrev cX4_with : ByteArray := prog_6_method_4_code
def yX4_with : MethodName := ⟨RX4, "with", "(JII)J"⟩
abbrev cX4_placeOf : ByteArray := prog_6_method_5_code
def yX4_placeOf : MethodName := ⟨RX4, "placeOf", "(JII)I"⟩
abbrev cX4_moved : ByteArray := prog_6_method_6_code
def yX4_moved : MethodName := ⟨RX4, "moved", "(JJI)J"⟩
abbrev cX4_sameCards : ByteArray := prog_6_method_7_code
def yX4_sameCards : MethodName := ⟨RX4, "sameCards", "(JJI)I"⟩
abbrev cX4_risingRows : ByteArray := prog_6_method_8_code
def yX4_risingRows : MethodName := ⟨RX4, "risingRows", "(JI)I"⟩
abbrev cX4_roundLength : ByteArray := prog_6_method_9_code
def yX4_roundLength : MethodName := ⟨RX4, "roundLength", "(JII)I"⟩
abbrev cX4_roundCount : ByteArray := prog_6_method_10_code
def yX4_roundCount : MethodName := ⟨RX4, "roundCount", "(JI)I"⟩
abbrev cX4_timesTillSame : ByteArray := prog_6_method_11_code
def yX4_timesTillSame : MethodName := ⟨RX4, "timesTillSame", "(JI)I"⟩
abbrev cX4_roundOf : ByteArray := prog_6_method_12_code
def yX4_roundOf : MethodName := ⟨RX4, "roundOf", "(JII)I"⟩
def RX5 : String := "LacedPack$Plan"
def TX5 : u_T := fun k => match k with
  | 0 => ("LacedPack$Plan", "cards", "I", false)
  | 1 => ("LacedPack$Plan", "colours", "I", false)
  | 2 => ("LacedPack$Plan", "acts", "I", false)
  | 3 => ("LacedPack$Plan", "deal", "J", false)
  | _ => ("LacedPack$Plan", "cardsAreFixed", "Z", false)
def tyX5 : Nat → FieldType := fun k => match k with
  | 0 => .int
  | 1 => .int
  | 2 => .int
  | 3 => .long
  | _ => .boolean
theorem nmX5 : ∀ a, a < 5 → ∀ b, b < 5 → a ≠ b → (TX5 a).2.1 ≠ (TX5 b).2.1 := by decide +kernel
theorem tyX5_ok : ∀ k, k < 5 → parseFieldDescriptor (TX5 k).2.2.1 = some (tyX5 k) := by decide +kernel
abbrev cX5_init : ByteArray := prog_7_method_1_code
def yX5_init : MethodName := ⟨RX5, "<init>", "()V"⟩
abbrev cX5_tellNothing : ByteArray := prog_7_method_2_code
def yX5_tellNothing : MethodName := ⟨RX5, "tellNothing", "()V"⟩
abbrev cX5_tellFirst : ByteArray := prog_7_method_3_code
def yX5_tellFirst : MethodName := ⟨RX5, "tellFirst", "()V"⟩
abbrev cX5_become : ByteArray := prog_7_method_4_code
def yX5_become : MethodName := ⟨RX5, "become", "(LLacedPack$Plan;)V"⟩
abbrev cX5_tellCards : ByteArray := prog_7_method_5_code
def yX5_tellCards : MethodName := ⟨RX5, "tellCards", "(I)Z"⟩
abbrev cX5_tellColour : ByteArray := prog_7_method_6_code
def yX5_tellColour : MethodName := ⟨RX5, "tellColour", "(II)Z"⟩
abbrev cX5_tellLacing : ByteArray := prog_7_method_7_code
def yX5_tellLacing : MethodName := ⟨RX5, "tellLacing", "(I)Z"⟩
abbrev cX5_tellCut : ByteArray := prog_7_method_8_code
def yX5_tellCut : MethodName := ⟨RX5, "tellCut", "(I)Z"⟩
abbrev cX5_colourOf : ByteArray := prog_7_method_9_code
def yX5_colourOf : MethodName := ⟨RX5, "colourOf", "(I)I"⟩
abbrev cX5_areUnlike : ByteArray := prog_7_method_10_code
def yX5_areUnlike : MethodName := ⟨RX5, "areUnlike", "(II)Z"⟩
abbrev cX5_begin : ByteArray := prog_7_method_11_code
def yX5_begin : MethodName := ⟨RX5, "begin", "(I)V"⟩
abbrev cX5_addAct : ByteArray := prog_7_method_12_code
def yX5_addAct : MethodName := ⟨RX5, "addAct", "(J)Z"⟩
def RX6 : String := "LacedPack$Shelf"
def TX6 : u_T := fun k => match k with
  | 0 => ("LacedPack$Shelf", "stored", "[J", true)
  | _ => ("LacedPack$Shelf", "held", "I", false)
def tyX6 : Nat → FieldType := fun k => match k with
  | 0 => .array .long
  | _ => .int
theorem nmX6 : ∀ a, a < 2 → ∀ b, b < 2 → a ≠ b → (TX6 a).2.1 ≠ (TX6 b).2.1 := by decide +kernel
theorem tyX6_ok : ∀ k, k < 2 → parseFieldDescriptor (TX6 k).2.2.1 = some (tyX6 k) := by decide +kernel
abbrev cX6_init : ByteArray := prog_8_method_1_code
def yX6_init : MethodName := ⟨RX6, "<init>", "(I)V"⟩
abbrev cX6_isFull : ByteArray := prog_8_method_2_code
def yX6_isFull : MethodName := ⟨RX6, "isFull", "()Z"⟩
abbrev cX6_put : ByteArray := prog_8_method_3_code
def yX6_put : MethodName := ⟨RX6, "put", "(J)V"⟩
abbrev cX6_takeLast : ByteArray := prog_8_method_4_code
def yX6_takeLast : MethodName := ⟨RX6, "takeLast", "()J"⟩
def RX7 : String := "LacedPack$Sightings"
def TX7 : u_T := fun k => match k with
  | 0 => ("LacedPack$Sightings", "cards", "[I", true)
  | 1 => ("LacedPack$Sightings", "places", "[I", true)
  | _ => ("LacedPack$Sightings", "held", "I", false)
def tyX7 : Nat → FieldType := fun k => match k with
  | 0 => .array .int
  | 1 => .array .int
  | _ => .int
theorem nmX7 : ∀ a, a < 3 → ∀ b, b < 3 → a ≠ b → (TX7 a).2.1 ≠ (TX7 b).2.1 := by decide +kernel
theorem tyX7_ok : ∀ k, k < 3 → parseFieldDescriptor (TX7 k).2.2.1 = some (tyX7 k) := by decide +kernel
abbrev cX7_init : ByteArray := prog_9_method_1_code
def yX7_init : MethodName := ⟨RX7, "<init>", "()V"⟩
abbrev cX7_add : ByteArray := prog_9_method_2_code
def yX7_add : MethodName := ⟨RX7, "add", "(II)Z"⟩
abbrev cX7_fit : ByteArray := prog_9_method_3_code
def yX7_fit : MethodName := ⟨RX7, "fit", "(J)Z"⟩
def RX8 : String := "LacedPack$Text"
def TX8 : u_T := fun k => match k with
  | 0 => ("LacedPack$Text", "letters", "[C", true)
  | 1 => ("LacedPack$Text", "length", "I", false)
  | _ => ("LacedPack$Text", "next", "I", false)
def tyX8 : Nat → FieldType := fun k => match k with
  | 0 => .array .char
  | 1 => .int
  | _ => .int
theorem nmX8 : ∀ a, a < 3 → ∀ b, b < 3 → a ≠ b → (TX8 a).2.1 ≠ (TX8 b).2.1 := by decide +kernel
theorem tyX8_ok : ∀ k, k < 3 → parseFieldDescriptor (TX8 k).2.2.1 = some (tyX8 k) := by decide +kernel
abbrev cX8_init : ByteArray := prog_10_method_1_code
def yX8_init : MethodName := ⟨RX8, "<init>", "()V"⟩
abbrev cX8_append : ByteArray := prog_10_method_2_code
def yX8_append : MethodName := ⟨RX8, "append", "(I)Z"⟩
abbrev cX8_firstFault : ByteArray := prog_10_method_3_code
def yX8_firstFault : MethodName := ⟨RX8, "firstFault", "(LLacedPack$Plan;)I"⟩
abbrev cX8_readItem : ByteArray := prog_10_method_4_code
def yX8_readItem : MethodName := ⟨RX8, "readItem", "(LLacedPack$Plan;)Z"⟩
abbrev cX8_readNumber : ByteArray := prog_10_method_5_code
def yX8_readNumber : MethodName := ⟨RX8, "readNumber", "(I)I"⟩
abbrev cX8_nextLetter : ByteArray := prog_10_method_6_code
def yX8_nextLetter : MethodName := ⟨RX8, "nextLetter", "()I"⟩
abbrev cX8_figureOf : ByteArray := prog_10_method_7_code
def yX8_figureOf : MethodName := ⟨RX8, "figureOf", "(I)I"⟩
def RX9 : String := "LacedPack"
def TX9 : u_T := fun k => match k with
  | 0 => ("LacedPack", "text", "LLacedPack$Text;", true)
  | 1 => ("LacedPack", "draft", "LLacedPack$Plan;", true)
  | 2 => ("LacedPack", "laid", "LLacedPack$Plan;", true)
  | 3 => ("LacedPack", "past", "LLacedPack$Shelf;", true)
  | 4 => ("LacedPack", "kept", "LLacedPack$Shelf;", true)
  | 5 => ("LacedPack", "sightings", "LLacedPack$Sightings;", true)
  | 6 => ("LacedPack", "finder", "LLacedPack$Finder;", true)
  | 7 => ("LacedPack", "mix", "LLacedPack$Mix;", true)
  | _ => ("LacedPack", "order", "J", false)
def tyX9 : Nat → FieldType := fun k => match k with
  | 0 => .object "LacedPack$Text"
  | 1 => .object "LacedPack$Plan"
  | 2 => .object "LacedPack$Plan"
  | 3 => .object "LacedPack$Shelf"
  | 4 => .object "LacedPack$Shelf"
  | 5 => .object "LacedPack$Sightings"
  | 6 => .object "LacedPack$Finder"
  | 7 => .object "LacedPack$Mix"
  | _ => .long
theorem nmX9 : ∀ a, a < 9 → ∀ b, b < 9 → a ≠ b → (TX9 a).2.1 ≠ (TX9 b).2.1 := by decide +kernel
theorem tyX9_ok : ∀ k, k < 9 → parseFieldDescriptor (TX9 k).2.2.1 = some (tyX9 k) := by decide +kernel
abbrev cX9_init : ByteArray := prog_1_method_1_code
def yX9_init : MethodName := ⟨RX9, "<init>", "()V"⟩
abbrev cX9_write : ByteArray := prog_1_method_2_code
def yX9_write : MethodName := ⟨RX9, "write", "(I)I"⟩
abbrev cX9_wipe : ByteArray := prog_1_method_3_code
def yX9_wipe : MethodName := ⟨RX9, "wipe", "()I"⟩
abbrev cX9_fault : ByteArray := prog_1_method_4_code
def yX9_fault : MethodName := ⟨RX9, "fault", "()I"⟩
abbrev cX9_lay : ByteArray := prog_1_method_5_code
def yX9_lay : MethodName := ⟨RX9, "lay", "()I"⟩
abbrev cX9_at : ByteArray := prog_1_method_6_code
def yX9_at : MethodName := ⟨RX9, "at", "(I)I"⟩
abbrev cX9_where : ByteArray := prog_1_method_7_code
def yX9_where : MethodName := ⟨RX9, "where", "(I)I"⟩
abbrev cX9_colour : ByteArray := prog_1_method_8_code
def yX9_colour : MethodName := ⟨RX9, "colour", "(I)I"⟩
abbrev cX9_lace : ByteArray := prog_1_method_9_code
def yX9_lace : MethodName := ⟨RX9, "lace", "(I)I"⟩
abbrev cX9_cut : ByteArray := prog_1_method_10_code
def yX9_cut : MethodName := ⟨RX9, "cut", "(I)I"⟩
abbrev cX9_turn : ByteArray := prog_1_method_11_code
def yX9_turn : MethodName := ⟨RX9, "turn", "()I"⟩
abbrev cX9_deal : ByteArray := prog_1_method_12_code
def yX9_deal : MethodName := ⟨RX9, "deal", "()I"⟩
abbrev cX9_undo : ByteArray := prog_1_method_13_code
def yX9_undo : MethodName := ⟨RX9, "undo", "()I"⟩
abbrev cX9_again : ByteArray := prog_1_method_14_code
def yX9_again : MethodName := ⟨RX9, "again", "(I)I"⟩
abbrev cX9_round : ByteArray := prog_1_method_15_code
def yX9_round : MethodName := ⟨RX9, "round", "(II)I"⟩
abbrev cX9_rounds : ByteArray := prog_1_method_16_code
def yX9_rounds : MethodName := ⟨RX9, "rounds", "(I)I"⟩
abbrev cX9_bring : ByteArray := prog_1_method_17_code
def yX9_bring : MethodName := ⟨RX9, "bring", "(III)I"⟩
abbrev cX9_beside : ByteArray := prog_1_method_18_code
def yX9_beside : MethodName := ⟨RX9, "beside", "(II)I"⟩
abbrev cX9_orders : ByteArray := prog_1_method_19_code
def yX9_orders : MethodName := ⟨RX9, "orders", "(I)I"⟩
abbrev cX9_rising : ByteArray := prog_1_method_20_code
def yX9_rising : MethodName := ⟨RX9, "rising", "()I"⟩
abbrev cX9_pairs : ByteArray := prog_1_method_21_code
def yX9_pairs : MethodName := ⟨RX9, "pairs", "()I"⟩
abbrev cX9_sure : ByteArray := prog_1_method_22_code
def yX9_sure : MethodName := ⟨RX9, "sure", "(II)I"⟩
abbrev cX9_seen : ByteArray := prog_1_method_23_code
def yX9_seen : MethodName := ⟨RX9, "seen", "(II)I"⟩
abbrev cX9_forget : ByteArray := prog_1_method_24_code
def yX9_forget : MethodName := ⟨RX9, "forget", "()I"⟩
abbrev cX9_done : ByteArray := prog_1_method_25_code
def yX9_done : MethodName := ⟨RX9, "done", "(I)I"⟩
abbrev cX9_likely : ByteArray := prog_1_method_26_code
def yX9_likely : MethodName := ⟨RX9, "likely", "(IIIII)I"⟩
abbrev cX9_dealing : ByteArray := prog_1_method_27_code
def yX9_dealing : MethodName := ⟨RX9, "dealing", "(III)I"⟩
abbrev cX9_keep : ByteArray := prog_1_method_28_code
def yX9_keep : MethodName := ⟨RX9, "keep", "()I"⟩
abbrev cX9_back : ByteArray := prog_1_method_29_code
def yX9_back : MethodName := ⟨RX9, "back", "()I"⟩
abbrev cX9_count : ByteArray := prog_1_method_30_code
def yX9_count : MethodName := ⟨RX9, "count", "(I)I"⟩
abbrev cX9_within : ByteArray := prog_1_method_31_code
def yX9_within : MethodName := ⟨RX9, "within", "(III)Z"⟩
abbrev cX9_isPlace : ByteArray := prog_1_method_32_code
def yX9_isPlace : MethodName := ⟨RX9, "isPlace", "(I)Z"⟩
abbrev cX9_isCard : ByteArray := prog_1_method_33_code
def yX9_isCard : MethodName := ⟨RX9, "isCard", "(I)Z"⟩
abbrev cX9_isKind : ByteArray := prog_1_method_34_code
def yX9_isKind : MethodName := ⟨RX9, "isKind", "(I)Z"⟩
abbrev cX9_act : ByteArray := prog_1_method_35_code
def yX9_act : MethodName := ⟨RX9, "act", "(J)I"⟩
abbrev cX9_fittingKinds : ByteArray := prog_1_method_36_code
def yX9_fittingKinds : MethodName := ⟨RX9, "fittingKinds", "()I"⟩
abbrev cX9_fittingCuts : ByteArray := prog_1_method_37_code
def yX9_fittingCuts : MethodName := ⟨RX9, "fittingCuts", "()I"⟩
abbrev cX9_endOfWay : ByteArray := prog_1_method_38_code
def yX9_endOfWay : MethodName := ⟨RX9, "endOfWay", "(III)I"⟩
abbrev cX9_weightOfWay : ByteArray := prog_1_method_39_code
def yX9_weightOfWay : MethodName := ⟨RX9, "weightOfWay", "(III)I"⟩
abbrev cX9_powerOfTen : ByteArray := prog_1_method_40_code
def yX9_powerOfTen : MethodName := ⟨RX9, "powerOfTen", "(I)I"⟩
abbrev cX9_drawOf : ByteArray := prog_1_method_41_code
def yX9_drawOf : MethodName := ⟨RX9, "drawOf", "(II)I"⟩
abbrev cX9_drawnMove : ByteArray := prog_1_method_42_code
def yX9_drawnMove : MethodName := ⟨RX9, "drawnMove", "(I)J"⟩
def RX10 : String := "LacedPackModel"
def TX10 : u_T := fun k => match k with
  | 0 => ("LacedPackModel", "cards", "I", false)
  | 1 => ("LacedPackModel", "colour", "[I", true)
  | 2 => ("LacedPackModel", "dealMany", "I", false)
  | 3 => ("LacedPackModel", "deal", "[I", true)
  | 4 => ("LacedPackModel", "st", "[I", true)
  | 5 => ("LacedPackModel", "acts", "I", false)
  | 6 => ("LacedPackModel", "was", "[I", true)
  | 7 => ("LacedPackModel", "keeps", "I", false)
  | 8 => ("LacedPackModel", "kept", "[I", true)
  | 9 => ("LacedPackModel", "seens", "I", false)
  | 10 => ("LacedPackModel", "seen", "[I", true)
  | 11 => ("LacedPackModel", "text", "[I", true)
  | 12 => ("LacedPackModel", "texted", "I", false)
  | 13 => ("LacedPackModel", "at", "I", false)
  | 14 => ("LacedPackModel", "told", "[I", true)
  | 15 => ("LacedPackModel", "isBegun", "Z", false)
  | 16 => ("LacedPackModel", "readCards", "I", false)
  | 17 => ("LacedPackModel", "readColour", "[I", true)
  | 18 => ("LacedPackModel", "readDeals", "I", false)
  | 19 => ("LacedPackModel", "readDeal", "[I", true)
  | 20 => ("LacedPackModel", "now", "[I", true)
  | 21 => ("LacedPackModel", "then", "[I", true)
  | 22 => ("LacedPackModel", "ring", "[I", true)
  | 23 => ("LacedPackModel", "goes", "[I", true)
  | 24 => ("LacedPackModel", "far", "[I", true)
  | 25 => ("LacedPackModel", "met", "[I", true)
  | _ => ("LacedPackModel", "metMany", "I", false)
def tyX10 : Nat → FieldType := fun k => match k with
  | 0 => .int
  | 1 => .array .int
  | 2 => .int
  | 3 => .array .int
  | 4 => .array .int
  | 5 => .int
  | 6 => .array .int
  | 7 => .int
  | 8 => .array .int
  | 9 => .int
  | 10 => .array .int
  | 11 => .array .int
  | 12 => .int
  | 13 => .int
  | 14 => .array .int
  | 15 => .boolean
  | 16 => .int
  | 17 => .array .int
  | 18 => .int
  | 19 => .array .int
  | 20 => .array .int
  | 21 => .array .int
  | 22 => .array .int
  | 23 => .array .int
  | 24 => .array .int
  | 25 => .array .int
  | _ => .int
theorem nmX10 : ∀ a, a < 27 → ∀ b, b < 27 → a ≠ b → (TX10 a).2.1 ≠ (TX10 b).2.1 := by decide +kernel
theorem tyX10_ok : ∀ k, k < 27 → parseFieldDescriptor (TX10 k).2.2.1 = some (tyX10 k) := by decide +kernel
abbrev cX10_init : ByteArray := prog_12_method_1_code
def yX10_init : MethodName := ⟨RX10, "<init>", "()V"⟩
abbrev cX10_in : ByteArray := prog_12_method_3_code
def yX10_in : MethodName := ⟨RX10, "in", "(III)Z"⟩
abbrev cX10_isCard : ByteArray := prog_12_method_4_code
def yX10_isCard : MethodName := ⟨RX10, "isCard", "(I)Z"⟩
abbrev cX10_isKind : ByteArray := prog_12_method_5_code
def yX10_isKind : MethodName := ⟨RX10, "isKind", "(I)Z"⟩
abbrev cX10_write : ByteArray := prog_12_method_6_code
def yX10_write : MethodName := ⟨RX10, "write", "(I)I"⟩
abbrev cX10_wipe : ByteArray := prog_12_method_7_code
def yX10_wipe : MethodName := ⟨RX10, "wipe", "()I"⟩
abbrev cX10_letterAt : ByteArray := prog_12_method_8_code
def yX10_letterAt : MethodName := ⟨RX10, "letterAt", "(I)I"⟩
abbrev cX10_isFigure : ByteArray := prog_12_method_9_code
def yX10_isFigure : MethodName := ⟨RX10, "isFigure", "(I)Z"⟩
abbrev cX10_readNumbers : ByteArray := prog_12_method_10_code
def yX10_readNumbers : MethodName := ⟨RX10, "readNumbers", "(I)Z"⟩
abbrev cX10_isTold : ByteArray := prog_12_method_11_code
def yX10_isTold : MethodName := ⟨RX10, "isTold", "(III)Z"⟩
abbrev cX10_colours : ByteArray := prog_12_method_12_code
def yX10_colours : MethodName := ⟨RX10, "colours", "()V"⟩
abbrev cX10_clearTold : ByteArray := prog_12_method_13_code
def yX10_clearTold : MethodName := ⟨RX10, "clearTold", "()V"⟩
abbrev cX10_readCardsOf : ByteArray := prog_12_method_14_code
def yX10_readCardsOf : MethodName := ⟨RX10, "readCardsOf", "()Z"⟩
abbrev cX10_readColourOf : ByteArray := prog_12_method_15_code
def yX10_readColourOf : MethodName := ⟨RX10, "readColourOf", "()Z"⟩
abbrev cX10_readDealOf : ByteArray := prog_12_method_16_code
def yX10_readDealOf : MethodName := ⟨RX10, "readDealOf", "(II)Z"⟩
abbrev cX10_readItem : ByteArray := prog_12_method_17_code
def yX10_readItem : MethodName := ⟨RX10, "readItem", "()Z"⟩
abbrev cX10_fault : ByteArray := prog_12_method_18_code
def yX10_fault : MethodName := ⟨RX10, "fault", "()I"⟩
abbrev cX10_lay : ByteArray := prog_12_method_19_code
def yX10_lay : MethodName := ⟨RX10, "lay", "()I"⟩
abbrev cX10_copies : ByteArray := prog_12_method_20_code
def yX10_copies : MethodName := ⟨RX10, "copies", "([II[III)V"⟩
abbrev cX10_settles : ByteArray := prog_12_method_21_code
def yX10_settles : MethodName := ⟨RX10, "settles", "()V"⟩
abbrev cX10_lies : ByteArray := prog_12_method_22_code
def yX10_lies : MethodName := ⟨RX10, "lies", "([I)V"⟩
abbrev cX10_asItIs : ByteArray := prog_12_method_23_code
def yX10_asItIs : MethodName := ⟨RX10, "asItIs", "()V"⟩
abbrev cX10_falls : ByteArray := prog_12_method_24_code
def yX10_falls : MethodName := ⟨RX10, "falls", "(III)V"⟩
abbrev cX10_milks : ByteArray := prog_12_method_25_code
def yX10_milks : MethodName := ⟨RX10, "milks", "()V"⟩
abbrev cX10_under : ByteArray := prog_12_method_26_code
def yX10_under : MethodName := ⟨RX10, "under", "()V"⟩
abbrev cX10_cuts : ByteArray := prog_12_method_27_code
def yX10_cuts : MethodName := ⟨RX10, "cuts", "(I)V"⟩
abbrev cX10_acts : ByteArray := prog_12_method_28_code
def yX10_acts : MethodName := ⟨RX10, "acts", "(I)V"⟩
abbrev cX10_deals : ByteArray := prog_12_method_29_code
def yX10_deals : MethodName := ⟨RX10, "deals", "()V"⟩
abbrev cX10_placeOf : ByteArray := prog_12_method_30_code
def yX10_placeOf : MethodName := ⟨RX10, "placeOf", "(I)I"⟩
abbrev cX10_at : ByteArray := prog_12_method_31_code
def yX10_at : MethodName := ⟨RX10, "at", "(I)I"⟩
abbrev cX10_where : ByteArray := prog_12_method_32_code
def yX10_where : MethodName := ⟨RX10, "where", "(I)I"⟩
abbrev cX10_colour : ByteArray := prog_12_method_33_code
def yX10_colour : MethodName := ⟨RX10, "colour", "(I)I"⟩
abbrev cX10_remembers : ByteArray := prog_12_method_34_code
def yX10_remembers : MethodName := ⟨RX10, "remembers", "()V"⟩
abbrev cX10_does : ByteArray := prog_12_method_35_code
def yX10_does : MethodName := ⟨RX10, "does", "(I)I"⟩
abbrev cX10_lace : ByteArray := prog_12_method_36_code
def yX10_lace : MethodName := ⟨RX10, "lace", "(I)I"⟩
abbrev cX10_cut : ByteArray := prog_12_method_37_code
def yX10_cut : MethodName := ⟨RX10, "cut", "(I)I"⟩
abbrev cX10_turn : ByteArray := prog_12_method_38_code
def yX10_turn : MethodName := ⟨RX10, "turn", "()I"⟩
abbrev cX10_deal : ByteArray := prog_12_method_39_code
def yX10_deal : MethodName := ⟨RX10, "deal", "()I"⟩
abbrev cX10_undo : ByteArray := prog_12_method_40_code
def yX10_undo : MethodName := ⟨RX10, "undo", "()I"⟩
abbrev cX10_isInOrder : ByteArray := prog_12_method_41_code
def yX10_isInOrder : MethodName := ⟨RX10, "isInOrder", "()Z"⟩
abbrev cX10_again : ByteArray := prog_12_method_42_code
def yX10_again : MethodName := ⟨RX10, "again", "(I)I"⟩
abbrev cX10_round : ByteArray := prog_12_method_43_code
def yX10_round : MethodName := ⟨RX10, "round", "(II)I"⟩
abbrev cX10_rounds : ByteArray := prog_12_method_44_code
def yX10_rounds : MethodName := ⟨RX10, "rounds", "(I)I"⟩
abbrev cX10_findGoes : ByteArray := prog_12_method_45_code
def yX10_findGoes : MethodName := ⟨RX10, "findGoes", "()V"⟩
abbrev cX10_findFar : ByteArray := prog_12_method_46_code
def yX10_findFar : MethodName := ⟨RX10, "findFar", "(I)V"⟩
abbrev cX10_bring : ByteArray := prog_12_method_47_code
def yX10_bring : MethodName := ⟨RX10, "bring", "(III)I"⟩
abbrev cX10_beside : ByteArray := prog_12_method_48_code
def yX10_beside : MethodName := ⟨RX10, "beside", "(II)I"⟩
abbrev cX10_isMet : ByteArray := prog_12_method_49_code
def yX10_isMet : MethodName := ⟨RX10, "isMet", "()Z"⟩
abbrev cX10_orders : ByteArray := prog_12_method_50_code
def yX10_orders : MethodName := ⟨RX10, "orders", "(I)I"⟩
abbrev cX10_risingNow : ByteArray := prog_12_method_51_code
def yX10_risingNow : MethodName := ⟨RX10, "risingNow", "()I"⟩
abbrev cX10_rising : ByteArray := prog_12_method_52_code
def yX10_rising : MethodName := ⟨RX10, "rising", "()I"⟩
abbrev cX10_unlike : ByteArray := prog_12_method_53_code
def yX10_unlike : MethodName := ⟨RX10, "unlike", "([I)I"⟩
abbrev cX10_pairs : ByteArray := prog_12_method_54_code
def yX10_pairs : MethodName := ⟨RX10, "pairs", "()I"⟩
abbrev cX10_lowest : ByteArray := prog_12_method_55_code
def yX10_lowest : MethodName := ⟨RX10, "lowest", "(III)I"⟩
abbrev cX10_bits : ByteArray := prog_12_method_56_code
def yX10_bits : MethodName := ⟨RX10, "bits", "(I)I"⟩
abbrev cX10_sure : ByteArray := prog_12_method_57_code
def yX10_sure : MethodName := ⟨RX10, "sure", "(II)I"⟩
abbrev cX10_seen : ByteArray := prog_12_method_58_code
def yX10_seen : MethodName := ⟨RX10, "seen", "(II)I"⟩
abbrev cX10_forget : ByteArray := prog_12_method_59_code
def yX10_forget : MethodName := ⟨RX10, "forget", "()I"⟩
abbrev cX10_isBy : ByteArray := prog_12_method_60_code
def yX10_isBy : MethodName := ⟨RX10, "isBy", "(I)Z"⟩
abbrev cX10_done : ByteArray := prog_12_method_61_code
def yX10_done : MethodName := ⟨RX10, "done", "(I)I"⟩
abbrev cX10_likely : ByteArray := prog_12_method_62_code
def yX10_likely : MethodName := ⟨RX10, "likely", "(IIIII)I"⟩
abbrev cX10_dealing : ByteArray := prog_12_method_63_code
def yX10_dealing : MethodName := ⟨RX10, "dealing", "(III)I"⟩
abbrev cX10_keep : ByteArray := prog_12_method_64_code
def yX10_keep : MethodName := ⟨RX10, "keep", "()I"⟩
abbrev cX10_back : ByteArray := prog_12_method_65_code
def yX10_back : MethodName := ⟨RX10, "back", "()I"⟩
abbrev cX10_count : ByteArray := prog_12_method_66_code
def yX10_count : MethodName := ⟨RX10, "count", "(I)I"⟩
def RJ9 : String := "java/lang/Math"
def TJ9 : u_T := fun k => match k with
  | _ => ("", "", "", false)
def tyJ9 : Nat → FieldType := fun k => match k with
  | _ => .int
theorem nmJ9 : ∀ a, a < 0 → ∀ b, b < 0 → a ≠ b → (TJ9 a).2.1 ≠ (TJ9 b).2.1 := by decide +kernel
theorem tyJ9_ok : ∀ k, k < 0 → parseFieldDescriptor (TJ9 k).2.2.1 = some (tyJ9 k) := by decide +kernel
abbrev cJ9_abs_0f7a4 : ByteArray := prog_13_method_59_code
def yJ9_abs_0f7a4 : MethodName := ⟨RJ9, "abs", "(I)I"⟩
abbrev cJ9_max_7cf53 : ByteArray := prog_13_method_65_code
def yJ9_max_7cf53 : MethodName := ⟨RJ9, "max", "(II)I"⟩
def RJ10 : String := "java/lang/System"
def TJ10 : u_T := fun k => match k with
  | _ => ("", "", "", false)
def tyJ10 : Nat → FieldType := fun k => match k with
  | _ => .int
theorem nmJ10 : ∀ a, a < 0 → ∀ b, b < 0 → a ≠ b → (TJ10 a).2.1 ≠ (TJ10 b).2.1 := by decide +kernel
theorem tyJ10_ok : ∀ k, k < 0 → parseFieldDescriptor (TJ10 k).2.2.1 = some (tyJ10 k) := by decide +kernel
def RL : String := "LacedPackLaw"
abbrev cL_law : ByteArray := code
def yL_law : MethodName := ⟨RL, "law", "([I)Z"⟩
abbrev vwCl : List vw_C := [(RX0, TX0, 3), (RX2, TX2, 1), (RX5, TX5, 5), (RX6, TX6, 2), (RX7, TX7, 3), (RX8, TX8, 3), (RX9, TX9, 9), (RX10, TX10, 27)]
end
section
/-! decode rows -/
theorem dX0_init_0 : decode cX0_init 0 = .ok (.aload_n 0, 1) := by decide +kernel
theorem dX0_init_1 : decode cX0_init 1 = .ok (.invokespecial 3, 3) := by decide +kernel
theorem dX0_init_4 : decode cX0_init 4 = .ok (.aload_n 0, 1) := by decide +kernel
theorem dX0_init_5 : decode cX0_init 5 = .ok (.bipush 16, 2) := by decide +kernel
theorem dX0_init_7 : decode cX0_init 7 = .ok (.newarray .int, 2) := by decide +kernel
theorem dX0_init_9 : decode cX0_init 9 = .ok (.putfield 11, 3) := by decide +kernel
theorem dX0_init_12 : decode cX0_init 12 = .ok (.aload_n 0, 1) := by decide +kernel
theorem dX0_init_13 : decode cX0_init 13 = .ok (.sipush 511, 3) := by decide +kernel
theorem dX0_init_16 : decode cX0_init 16 = .ok (.newarray .int, 2) := by decide +kernel
theorem dX0_init_18 : decode cX0_init 18 = .ok (.putfield 17, 3) := by decide +kernel
theorem dX0_init_21 : decode cX0_init 21 = .ok (.aload_n 0, 1) := by decide +kernel
theorem dX0_init_22 : decode cX0_init 22 = .ok (.bipush 127, 2) := by decide +kernel
theorem dX0_init_24 : decode cX0_init 24 = .ok (.newarray .long, 2) := by decide +kernel
theorem dX0_init_26 : decode cX0_init 26 = .ok (.putfield 20, 3) := by decide +kernel
theorem dX0_init_29 : decode cX0_init 29 = .ok (.return_, 1) := by decide +kernel
theorem dX0_findWaysTo_0 : decode cX0_findWaysTo 0 = .ok (.iconst 0, 1) := by decide +kernel
theorem dX0_findWaysTo_1 : decode cX0_findWaysTo 1 = .ok (.istore_n 3, 1) := by decide +kernel
theorem dX0_findWaysTo_2 : decode cX0_findWaysTo 2 = .ok (.iload_n 3, 1) := by decide +kernel
theorem dX0_findWaysTo_3 : decode cX0_findWaysTo 3 = .ok (.aload_n 0, 1) := by decide +kernel
theorem dX0_findWaysTo_4 : decode cX0_findWaysTo 4 = .ok (.getfield 11, 3) := by decide +kernel
theorem dX0_findWaysTo_7 : decode cX0_findWaysTo 7 = .ok (.arraylength, 1) := by decide +kernel
theorem dX0_findWaysTo_8 : decode cX0_findWaysTo 8 = .ok (.if_icmp .ge 26, 3) := by decide +kernel
theorem dX0_findWaysTo_11 : decode cX0_findWaysTo 11 = .ok (.aload_n 0, 1) := by decide +kernel
theorem dX0_findWaysTo_12 : decode cX0_findWaysTo 12 = .ok (.getfield 11, 3) := by decide +kernel
theorem dX0_findWaysTo_15 : decode cX0_findWaysTo 15 = .ok (.iload_n 3, 1) := by decide +kernel
theorem dX0_findWaysTo_16 : decode cX0_findWaysTo 16 = .ok (.iload_n 3, 1) := by decide +kernel
theorem dX0_findWaysTo_17 : decode cX0_findWaysTo 17 = .ok (.iload_n 1, 1) := by decide +kernel
theorem dX0_findWaysTo_18 : decode cX0_findWaysTo 18 = .ok (.if_icmp .ne 7, 3) := by decide +kernel
theorem dX0_findWaysTo_21 : decode cX0_findWaysTo 21 = .ok (.iconst 0, 1) := by decide +kernel
theorem dX0_findWaysTo_22 : decode cX0_findWaysTo 22 = .ok (.goto 5, 3) := by decide +kernel
theorem dX0_findWaysTo_25 : decode cX0_findWaysTo 25 = .ok (.bipush (-4), 2) := by decide +kernel
theorem dX0_findWaysTo_27 : decode cX0_findWaysTo 27 = .ok (.iastore, 1) := by decide +kernel
theorem dX0_findWaysTo_28 : decode cX0_findWaysTo 28 = .ok (.iinc 3 1, 3) := by decide +kernel
theorem dX0_findWaysTo_31 : decode cX0_findWaysTo 31 = .ok (.goto (-29), 3) := by decide +kernel
theorem dX0_findWaysTo_34 : decode cX0_findWaysTo 34 = .ok (.iconst 1, 1) := by decide +kernel
theorem dX0_findWaysTo_35 : decode cX0_findWaysTo 35 = .ok (.istore_n 3, 1) := by decide +kernel
theorem dX0_findWaysTo_36 : decode cX0_findWaysTo 36 = .ok (.iload_n 3, 1) := by decide +kernel
theorem dX0_findWaysTo_37 : decode cX0_findWaysTo 37 = .ok (.iload_n 2, 1) := by decide +kernel
theorem dX0_findWaysTo_38 : decode cX0_findWaysTo 38 = .ok (.if_icmp .ge 67, 3) := by decide +kernel
theorem dX0_findWaysTo_41 : decode cX0_findWaysTo 41 = .ok (.iconst 0, 1) := by decide +kernel
theorem dX0_findWaysTo_42 : decode cX0_findWaysTo 42 = .ok (.istore 4, 2) := by decide +kernel
theorem dX0_findWaysTo_44 : decode cX0_findWaysTo 44 = .ok (.iload 4, 2) := by decide +kernel
theorem dX0_findWaysTo_46 : decode cX0_findWaysTo 46 = .ok (.iload_n 2, 1) := by decide +kernel
theorem dX0_findWaysTo_47 : decode cX0_findWaysTo 47 = .ok (.if_icmp .ge 52, 3) := by decide +kernel
theorem dX0_findWaysTo_50 : decode cX0_findWaysTo 50 = .ok (.iload 4, 2) := by decide +kernel
theorem dX0_findWaysTo_52 : decode cX0_findWaysTo 52 = .ok (.aload_n 0, 1) := by decide +kernel
theorem dX0_findWaysTo_53 : decode cX0_findWaysTo 53 = .ok (.getfield 11, 3) := by decide +kernel
theorem dX0_findWaysTo_56 : decode cX0_findWaysTo 56 = .ok (.arraylength, 1) := by decide +kernel
theorem dX0_findWaysTo_57 : decode cX0_findWaysTo 57 = .ok (.if_icmp .ge 42, 3) := by decide +kernel
theorem dX0_findWaysTo_60 : decode cX0_findWaysTo 60 = .ok (.aload_n 0, 1) := by decide +kernel
theorem dX0_findWaysTo_61 : decode cX0_findWaysTo 61 = .ok (.getfield 11, 3) := by decide +kernel
theorem dX0_findWaysTo_64 : decode cX0_findWaysTo 64 = .ok (.iload 4, 2) := by decide +kernel
theorem dX0_findWaysTo_66 : decode cX0_findWaysTo 66 = .ok (.iaload, 1) := by decide +kernel
theorem dX0_findWaysTo_67 : decode cX0_findWaysTo 67 = .ok (.bipush (-4), 2) := by decide +kernel
theorem dX0_findWaysTo_69 : decode cX0_findWaysTo 69 = .ok (.if_icmp .ne 24, 3) := by decide +kernel
theorem dX0_findWaysTo_72 : decode cX0_findWaysTo 72 = .ok (.aload_n 0, 1) := by decide +kernel
theorem dX0_findWaysTo_73 : decode cX0_findWaysTo 73 = .ok (.iload 4, 2) := by decide +kernel
theorem dX0_findWaysTo_75 : decode cX0_findWaysTo 75 = .ok (.iload_n 3, 1) := by decide +kernel
theorem dX0_findWaysTo_76 : decode cX0_findWaysTo 76 = .ok (.iconst 1, 1) := by decide +kernel
theorem dX0_findWaysTo_77 : decode cX0_findWaysTo 77 = .ok (.isub, 1) := by decide +kernel
theorem dX0_findWaysTo_78 : decode cX0_findWaysTo 78 = .ok (.iload_n 2, 1) := by decide +kernel
theorem dX0_findWaysTo_79 : decode cX0_findWaysTo 79 = .ok (.invokevirtual 24, 3) := by decide +kernel
theorem dX0_findWaysTo_82 : decode cX0_findWaysTo 82 = .ok (.ifCond .eq 11, 3) := by decide +kernel
theorem dX0_findWaysTo_85 : decode cX0_findWaysTo 85 = .ok (.aload_n 0, 1) := by decide +kernel
theorem dX0_findWaysTo_86 : decode cX0_findWaysTo 86 = .ok (.getfield 11, 3) := by decide +kernel
theorem dX0_findWaysTo_89 : decode cX0_findWaysTo 89 = .ok (.iload 4, 2) := by decide +kernel
theorem dX0_findWaysTo_91 : decode cX0_findWaysTo 91 = .ok (.iload_n 3, 1) := by decide +kernel
theorem dX0_findWaysTo_92 : decode cX0_findWaysTo 92 = .ok (.iastore, 1) := by decide +kernel
theorem dX0_findWaysTo_93 : decode cX0_findWaysTo 93 = .ok (.iinc 4 1, 3) := by decide +kernel
theorem dX0_findWaysTo_96 : decode cX0_findWaysTo 96 = .ok (.goto (-52), 3) := by decide +kernel
theorem dX0_findWaysTo_99 : decode cX0_findWaysTo 99 = .ok (.iinc 3 1, 3) := by decide +kernel
theorem dX0_findWaysTo_102 : decode cX0_findWaysTo 102 = .ok (.goto (-66), 3) := by decide +kernel
theorem dX0_findWaysTo_105 : decode cX0_findWaysTo 105 = .ok (.return_, 1) := by decide +kernel
theorem dX0_fewestFrom_0 : decode cX0_fewestFrom 0 = .ok (.iload_n 1, 1) := by decide +kernel
theorem dX0_fewestFrom_1 : decode cX0_fewestFrom 1 = .ok (.ifCond .lt 21, 3) := by decide +kernel
theorem dX0_fewestFrom_4 : decode cX0_fewestFrom 4 = .ok (.iload_n 1, 1) := by decide +kernel
theorem dX0_fewestFrom_5 : decode cX0_fewestFrom 5 = .ok (.aload_n 0, 1) := by decide +kernel
theorem dX0_fewestFrom_6 : decode cX0_fewestFrom 6 = .ok (.getfield 11, 3) := by decide +kernel
theorem dX0_fewestFrom_9 : decode cX0_fewestFrom 9 = .ok (.arraylength, 1) := by decide +kernel
theorem dX0_fewestFrom_10 : decode cX0_fewestFrom 10 = .ok (.if_icmp .ge 12, 3) := by decide +kernel
theorem dX0_fewestFrom_13 : decode cX0_fewestFrom 13 = .ok (.aload_n 0, 1) := by decide +kernel
theorem dX0_fewestFrom_14 : decode cX0_fewestFrom 14 = .ok (.getfield 11, 3) := by decide +kernel
theorem dX0_fewestFrom_17 : decode cX0_fewestFrom 17 = .ok (.iload_n 1, 1) := by decide +kernel
theorem dX0_fewestFrom_18 : decode cX0_fewestFrom 18 = .ok (.iaload, 1) := by decide +kernel
theorem dX0_fewestFrom_19 : decode cX0_fewestFrom 19 = .ok (.goto 5, 3) := by decide +kernel
theorem dX0_fewestFrom_22 : decode cX0_fewestFrom 22 = .ok (.bipush (-4), 2) := by decide +kernel
theorem dX0_fewestFrom_24 : decode cX0_fewestFrom 24 = .ok (.ireturn, 1) := by decide +kernel
theorem dX0_kindOnWay_0 : decode cX0_kindOnWay 0 = .ok (.iload_n 1, 1) := by decide +kernel
theorem dX0_kindOnWay_1 : decode cX0_kindOnWay 1 = .ok (.istore 4, 2) := by decide +kernel
theorem dX0_kindOnWay_3 : decode cX0_kindOnWay 3 = .ok (.aload_n 0, 1) := by decide +kernel
theorem dX0_kindOnWay_4 : decode cX0_kindOnWay 4 = .ok (.iload_n 1, 1) := by decide +kernel
theorem dX0_kindOnWay_5 : decode cX0_kindOnWay 5 = .ok (.invokevirtual 28, 3) := by decide +kernel
theorem dX0_kindOnWay_8 : decode cX0_kindOnWay 8 = .ok (.istore 5, 2) := by decide +kernel
theorem dX0_kindOnWay_10 : decode cX0_kindOnWay 10 = .ok (.iload_n 2, 1) := by decide +kernel
theorem dX0_kindOnWay_11 : decode cX0_kindOnWay 11 = .ok (.iload 5, 2) := by decide +kernel
theorem dX0_kindOnWay_13 : decode cX0_kindOnWay 13 = .ok (.if_icmp .lt 6, 3) := by decide +kernel
theorem dX0_kindOnWay_16 : decode cX0_kindOnWay 16 = .ok (.bipush (-4), 2) := by decide +kernel
theorem dX0_kindOnWay_18 : decode cX0_kindOnWay 18 = .ok (.ireturn, 1) := by decide +kernel
theorem dX0_kindOnWay_19 : decode cX0_kindOnWay 19 = .ok (.iconst 0, 1) := by decide +kernel
theorem dX0_kindOnWay_20 : decode cX0_kindOnWay 20 = .ok (.istore 6, 2) := by decide +kernel
theorem dX0_kindOnWay_22 : decode cX0_kindOnWay 22 = .ok (.iload 6, 2) := by decide +kernel
theorem dX0_kindOnWay_24 : decode cX0_kindOnWay 24 = .ok (.iload_n 2, 1) := by decide +kernel
theorem dX0_kindOnWay_25 : decode cX0_kindOnWay 25 = .ok (.if_icmp .ge 31, 3) := by decide +kernel
theorem dX0_kindOnWay_28 : decode cX0_kindOnWay 28 = .ok (.iload 6, 2) := by decide +kernel
theorem dX0_kindOnWay_30 : decode cX0_kindOnWay 30 = .ok (.iload 5, 2) := by decide +kernel
theorem dX0_kindOnWay_32 : decode cX0_kindOnWay 32 = .ok (.if_icmp .ge 24, 3) := by decide +kernel
theorem dX0_kindOnWay_35 : decode cX0_kindOnWay 35 = .ok (.aload_n 0, 1) := by decide +kernel
theorem dX0_kindOnWay_36 : decode cX0_kindOnWay 36 = .ok (.iload 4, 2) := by decide +kernel
theorem dX0_kindOnWay_38 : decode cX0_kindOnWay 38 = .ok (.iload_n 3, 1) := by decide +kernel
theorem dX0_kindOnWay_39 : decode cX0_kindOnWay 39 = .ok (.invokevirtual 32, 3) := by decide +kernel
theorem dX0_kindOnWay_42 : decode cX0_kindOnWay 42 = .ok (.iload_n 3, 1) := by decide +kernel
theorem dX0_kindOnWay_43 : decode cX0_kindOnWay 43 = .ok (.iload 4, 2) := by decide +kernel
theorem dX0_kindOnWay_45 : decode cX0_kindOnWay 45 = .ok (.invokestatic 36, 3) := by decide +kernel
theorem dX0_kindOnWay_48 : decode cX0_kindOnWay 48 = .ok (.istore 4, 2) := by decide +kernel
theorem dX0_kindOnWay_50 : decode cX0_kindOnWay 50 = .ok (.iinc 6 1, 3) := by decide +kernel
theorem dX0_kindOnWay_53 : decode cX0_kindOnWay 53 = .ok (.goto (-31), 3) := by decide +kernel
theorem dX0_kindOnWay_56 : decode cX0_kindOnWay 56 = .ok (.aload_n 0, 1) := by decide +kernel
theorem dX0_kindOnWay_57 : decode cX0_kindOnWay 57 = .ok (.iload 4, 2) := by decide +kernel
theorem dX0_kindOnWay_59 : decode cX0_kindOnWay 59 = .ok (.iload_n 3, 1) := by decide +kernel
theorem dX0_kindOnWay_60 : decode cX0_kindOnWay 60 = .ok (.invokevirtual 32, 3) := by decide +kernel
theorem dX0_kindOnWay_63 : decode cX0_kindOnWay 63 = .ok (.ireturn, 1) := by decide +kernel
theorem dX0_fewestTillNeighbours_0 : decode cX0_fewestTillNeighbours 0 = .ok (.iconst 0, 1) := by decide +kernel
theorem dX0_fewestTillNeighbours_1 : decode cX0_fewestTillNeighbours 1 = .ok (.istore 4, 2) := by decide +kernel
theorem dX0_fewestTillNeighbours_3 : decode cX0_fewestTillNeighbours 3 = .ok (.iload 4, 2) := by decide +kernel
theorem dX0_fewestTillNeighbours_5 : decode cX0_fewestTillNeighbours 5 = .ok (.aload_n 0, 1) := by decide +kernel
theorem dX0_fewestTillNeighbours_6 : decode cX0_fewestTillNeighbours 6 = .ok (.getfield 17, 3) := by decide +kernel
theorem dX0_fewestTillNeighbours_9 : decode cX0_fewestTillNeighbours 9 = .ok (.arraylength, 1) := by decide +kernel
theorem dX0_fewestTillNeighbours_10 : decode cX0_fewestTillNeighbours 10 = .ok (.if_icmp .ge 79, 3) := by decide +kernel
theorem dX0_fewestTillNeighbours_13 : decode cX0_fewestTillNeighbours 13 = .ok (.iload 4, 2) := by decide +kernel
theorem dX0_fewestTillNeighbours_15 : decode cX0_fewestTillNeighbours 15 = .ok (.ifCond .ne 12, 3) := by decide +kernel
theorem dX0_fewestTillNeighbours_18 : decode cX0_fewestTillNeighbours 18 = .ok (.bipush 16, 2) := by decide +kernel
theorem dX0_fewestTillNeighbours_20 : decode cX0_fewestTillNeighbours 20 = .ok (.iload_n 1, 1) := by decide +kernel
theorem dX0_fewestTillNeighbours_21 : decode cX0_fewestTillNeighbours 21 = .ok (.imul, 1) := by decide +kernel
theorem dX0_fewestTillNeighbours_22 : decode cX0_fewestTillNeighbours 22 = .ok (.iload_n 2, 1) := by decide +kernel
theorem dX0_fewestTillNeighbours_23 : decode cX0_fewestTillNeighbours 23 = .ok (.iadd, 1) := by decide +kernel
theorem dX0_fewestTillNeighbours_24 : decode cX0_fewestTillNeighbours 24 = .ok (.goto 24, 3) := by decide +kernel
theorem dX0_fewestTillNeighbours_27 : decode cX0_fewestTillNeighbours 27 = .ok (.aload_n 0, 1) := by decide +kernel
theorem dX0_fewestTillNeighbours_28 : decode cX0_fewestTillNeighbours 28 = .ok (.getfield 17, 3) := by decide +kernel
theorem dX0_fewestTillNeighbours_31 : decode cX0_fewestTillNeighbours 31 = .ok (.iload 4, 2) := by decide +kernel
theorem dX0_fewestTillNeighbours_33 : decode cX0_fewestTillNeighbours 33 = .ok (.iconst 1, 1) := by decide +kernel
theorem dX0_fewestTillNeighbours_34 : decode cX0_fewestTillNeighbours 34 = .ok (.isub, 1) := by decide +kernel
theorem dX0_fewestTillNeighbours_35 : decode cX0_fewestTillNeighbours 35 = .ok (.iconst 2, 1) := by decide +kernel
theorem dX0_fewestTillNeighbours_36 : decode cX0_fewestTillNeighbours 36 = .ok (.idiv, 1) := by decide +kernel
theorem dX0_fewestTillNeighbours_37 : decode cX0_fewestTillNeighbours 37 = .ok (.iaload, 1) := by decide +kernel
theorem dX0_fewestTillNeighbours_38 : decode cX0_fewestTillNeighbours 38 = .ok (.iload 4, 2) := by decide +kernel
theorem dX0_fewestTillNeighbours_40 : decode cX0_fewestTillNeighbours 40 = .ok (.iconst 1, 1) := by decide +kernel
theorem dX0_fewestTillNeighbours_41 : decode cX0_fewestTillNeighbours 41 = .ok (.isub, 1) := by decide +kernel
theorem dX0_fewestTillNeighbours_42 : decode cX0_fewestTillNeighbours 42 = .ok (.iconst 2, 1) := by decide +kernel
theorem dX0_fewestTillNeighbours_43 : decode cX0_fewestTillNeighbours 43 = .ok (.irem, 1) := by decide +kernel
theorem dX0_fewestTillNeighbours_44 : decode cX0_fewestTillNeighbours 44 = .ok (.iload_n 3, 1) := by decide +kernel
theorem dX0_fewestTillNeighbours_45 : decode cX0_fewestTillNeighbours 45 = .ok (.invokestatic 42, 3) := by decide +kernel
theorem dX0_fewestTillNeighbours_48 : decode cX0_fewestTillNeighbours 48 = .ok (.istore 5, 2) := by decide +kernel
theorem dX0_fewestTillNeighbours_50 : decode cX0_fewestTillNeighbours 50 = .ok (.aload_n 0, 1) := by decide +kernel
theorem dX0_fewestTillNeighbours_51 : decode cX0_fewestTillNeighbours 51 = .ok (.getfield 17, 3) := by decide +kernel
theorem dX0_fewestTillNeighbours_54 : decode cX0_fewestTillNeighbours 54 = .ok (.iload 4, 2) := by decide +kernel
theorem dX0_fewestTillNeighbours_56 : decode cX0_fewestTillNeighbours 56 = .ok (.iload 5, 2) := by decide +kernel
theorem dX0_fewestTillNeighbours_58 : decode cX0_fewestTillNeighbours 58 = .ok (.iastore, 1) := by decide +kernel
theorem dX0_fewestTillNeighbours_59 : decode cX0_fewestTillNeighbours 59 = .ok (.iload 5, 2) := by decide +kernel
theorem dX0_fewestTillNeighbours_61 : decode cX0_fewestTillNeighbours 61 = .ok (.bipush 16, 2) := by decide +kernel
theorem dX0_fewestTillNeighbours_63 : decode cX0_fewestTillNeighbours 63 = .ok (.idiv, 1) := by decide +kernel
theorem dX0_fewestTillNeighbours_64 : decode cX0_fewestTillNeighbours 64 = .ok (.iload 5, 2) := by decide +kernel
theorem dX0_fewestTillNeighbours_66 : decode cX0_fewestTillNeighbours 66 = .ok (.bipush 16, 2) := by decide +kernel
theorem dX0_fewestTillNeighbours_68 : decode cX0_fewestTillNeighbours 68 = .ok (.irem, 1) := by decide +kernel
theorem dX0_fewestTillNeighbours_69 : decode cX0_fewestTillNeighbours 69 = .ok (.isub, 1) := by decide +kernel
theorem dX0_fewestTillNeighbours_70 : decode cX0_fewestTillNeighbours 70 = .ok (.invokestatic 45, 3) := by decide +kernel
theorem dX0_fewestTillNeighbours_73 : decode cX0_fewestTillNeighbours 73 = .ok (.iconst 1, 1) := by decide +kernel
theorem dX0_fewestTillNeighbours_74 : decode cX0_fewestTillNeighbours 74 = .ok (.if_icmp .ne 9, 3) := by decide +kernel
theorem dX0_fewestTillNeighbours_77 : decode cX0_fewestTillNeighbours 77 = .ok (.iload 4, 2) := by decide +kernel
theorem dX0_fewestTillNeighbours_79 : decode cX0_fewestTillNeighbours 79 = .ok (.invokestatic 50, 3) := by decide +kernel
theorem dX0_fewestTillNeighbours_82 : decode cX0_fewestTillNeighbours 82 = .ok (.ireturn, 1) := by decide +kernel
theorem dX0_fewestTillNeighbours_83 : decode cX0_fewestTillNeighbours 83 = .ok (.iinc 4 1, 3) := by decide +kernel
theorem dX0_fewestTillNeighbours_86 : decode cX0_fewestTillNeighbours 86 = .ok (.goto (-83), 3) := by decide +kernel
theorem dX0_fewestTillNeighbours_89 : decode cX0_fewestTillNeighbours 89 = .ok (.bipush (-4), 2) := by decide +kernel
theorem dX0_fewestTillNeighbours_91 : decode cX0_fewestTillNeighbours 91 = .ok (.ireturn, 1) := by decide +kernel
theorem dX0_countOrders_0 : decode cX0_countOrders 0 = .ok (.iconst 0, 1) := by decide +kernel
theorem dX0_countOrders_1 : decode cX0_countOrders 1 = .ok (.iload_n 2, 1) := by decide +kernel
theorem dX0_countOrders_2 : decode cX0_countOrders 2 = .ok (.invokestatic 53, 3) := by decide +kernel
theorem dX0_countOrders_5 : decode cX0_countOrders 5 = .ok (.lstore_n 3, 1) := by decide +kernel
theorem dX0_countOrders_6 : decode cX0_countOrders 6 = .ok (.iconst 1, 1) := by decide +kernel
theorem dX0_countOrders_7 : decode cX0_countOrders 7 = .ok (.iload_n 2, 1) := by decide +kernel
theorem dX0_countOrders_8 : decode cX0_countOrders 8 = .ok (.invokestatic 53, 3) := by decide +kernel
theorem dX0_countOrders_11 : decode cX0_countOrders 11 = .ok (.lstore 5, 2) := by decide +kernel
theorem dX0_countOrders_13 : decode cX0_countOrders 13 = .ok (.aload_n 0, 1) := by decide +kernel
theorem dX0_countOrders_14 : decode cX0_countOrders 14 = .ok (.getfield 20, 3) := by decide +kernel
theorem dX0_countOrders_17 : decode cX0_countOrders 17 = .ok (.iconst 0, 1) := by decide +kernel
theorem dX0_countOrders_18 : decode cX0_countOrders 18 = .ok (.iload_n 2, 1) := by decide +kernel
theorem dX0_countOrders_19 : decode cX0_countOrders 19 = .ok (.invokestatic 57, 3) := by decide +kernel
theorem dX0_countOrders_22 : decode cX0_countOrders 22 = .ok (.lastore, 1) := by decide +kernel
theorem dX0_countOrders_23 : decode cX0_countOrders 23 = .ok (.iconst 1, 1) := by decide +kernel
theorem dX0_countOrders_24 : decode cX0_countOrders 24 = .ok (.istore 7, 2) := by decide +kernel
theorem dX0_countOrders_26 : decode cX0_countOrders 26 = .ok (.iconst 0, 1) := by decide +kernel
theorem dX0_countOrders_27 : decode cX0_countOrders 27 = .ok (.istore 8, 2) := by decide +kernel
theorem dX0_countOrders_29 : decode cX0_countOrders 29 = .ok (.iconst 0, 1) := by decide +kernel
theorem dX0_countOrders_30 : decode cX0_countOrders 30 = .ok (.istore 9, 2) := by decide +kernel
theorem dX0_countOrders_32 : decode cX0_countOrders 32 = .ok (.iload 9, 2) := by decide +kernel
theorem dX0_countOrders_34 : decode cX0_countOrders 34 = .ok (.iload_n 1, 1) := by decide +kernel
theorem dX0_countOrders_35 : decode cX0_countOrders 35 = .ok (.if_icmp .ge 85, 3) := by decide +kernel
theorem dX0_countOrders_38 : decode cX0_countOrders 38 = .ok (.iload 7, 2) := by decide +kernel
theorem dX0_countOrders_40 : decode cX0_countOrders 40 = .ok (.istore 10, 2) := by decide +kernel
theorem dX0_countOrders_42 : decode cX0_countOrders 42 = .ok (.iload 8, 2) := by decide +kernel
theorem dX0_countOrders_44 : decode cX0_countOrders 44 = .ok (.istore 11, 2) := by decide +kernel
theorem dX0_countOrders_46 : decode cX0_countOrders 46 = .ok (.iload 11, 2) := by decide +kernel
theorem dX0_countOrders_48 : decode cX0_countOrders 48 = .ok (.iload 10, 2) := by decide +kernel
theorem dX0_countOrders_50 : decode cX0_countOrders 50 = .ok (.if_icmp .ge 60, 3) := by decide +kernel
theorem dX0_countOrders_53 : decode cX0_countOrders 53 = .ok (.iload 11, 2) := by decide +kernel
theorem dX0_countOrders_55 : decode cX0_countOrders 55 = .ok (.aload_n 0, 1) := by decide +kernel
theorem dX0_countOrders_56 : decode cX0_countOrders 56 = .ok (.getfield 20, 3) := by decide +kernel
theorem dX0_countOrders_59 : decode cX0_countOrders 59 = .ok (.arraylength, 1) := by decide +kernel
theorem dX0_countOrders_60 : decode cX0_countOrders 60 = .ok (.if_icmp .ge 50, 3) := by decide +kernel
theorem dX0_countOrders_63 : decode cX0_countOrders 63 = .ok (.aload_n 0, 1) := by decide +kernel
theorem dX0_countOrders_64 : decode cX0_countOrders 64 = .ok (.aload_n 0, 1) := by decide +kernel
theorem dX0_countOrders_65 : decode cX0_countOrders 65 = .ok (.getfield 20, 3) := by decide +kernel
theorem dX0_countOrders_68 : decode cX0_countOrders 68 = .ok (.iload 11, 2) := by decide +kernel
theorem dX0_countOrders_70 : decode cX0_countOrders 70 = .ok (.laload, 1) := by decide +kernel
theorem dX0_countOrders_71 : decode cX0_countOrders 71 = .ok (.lload_n 3, 1) := by decide +kernel
theorem dX0_countOrders_72 : decode cX0_countOrders 72 = .ok (.iload_n 2, 1) := by decide +kernel
theorem dX0_countOrders_73 : decode cX0_countOrders 73 = .ok (.invokestatic 61, 3) := by decide +kernel
theorem dX0_countOrders_76 : decode cX0_countOrders 76 = .ok (.iload 7, 2) := by decide +kernel
theorem dX0_countOrders_78 : decode cX0_countOrders 78 = .ok (.invokevirtual 65, 3) := by decide +kernel
theorem dX0_countOrders_81 : decode cX0_countOrders 81 = .ok (.istore 7, 2) := by decide +kernel
theorem dX0_countOrders_83 : decode cX0_countOrders 83 = .ok (.aload_n 0, 1) := by decide +kernel
theorem dX0_countOrders_84 : decode cX0_countOrders 84 = .ok (.aload_n 0, 1) := by decide +kernel
theorem dX0_countOrders_85 : decode cX0_countOrders 85 = .ok (.getfield 20, 3) := by decide +kernel
theorem dX0_countOrders_88 : decode cX0_countOrders 88 = .ok (.iload 11, 2) := by decide +kernel
theorem dX0_countOrders_90 : decode cX0_countOrders 90 = .ok (.laload, 1) := by decide +kernel
theorem dX0_countOrders_91 : decode cX0_countOrders 91 = .ok (.lload 5, 2) := by decide +kernel
theorem dX0_countOrders_93 : decode cX0_countOrders 93 = .ok (.iload_n 2, 1) := by decide +kernel
theorem dX0_countOrders_94 : decode cX0_countOrders 94 = .ok (.invokestatic 61, 3) := by decide +kernel
theorem dX0_countOrders_97 : decode cX0_countOrders 97 = .ok (.iload 7, 2) := by decide +kernel
theorem dX0_countOrders_99 : decode cX0_countOrders 99 = .ok (.invokevirtual 65, 3) := by decide +kernel
theorem dX0_countOrders_102 : decode cX0_countOrders 102 = .ok (.istore 7, 2) := by decide +kernel
theorem dX0_countOrders_104 : decode cX0_countOrders 104 = .ok (.iinc 11 1, 3) := by decide +kernel
theorem dX0_countOrders_107 : decode cX0_countOrders 107 = .ok (.goto (-61), 3) := by decide +kernel
theorem dX0_countOrders_110 : decode cX0_countOrders 110 = .ok (.iload 10, 2) := by decide +kernel
theorem dX0_countOrders_112 : decode cX0_countOrders 112 = .ok (.istore 8, 2) := by decide +kernel
theorem dX0_countOrders_114 : decode cX0_countOrders 114 = .ok (.iinc 9 1, 3) := by decide +kernel
theorem dX0_countOrders_117 : decode cX0_countOrders 117 = .ok (.goto (-85), 3) := by decide +kernel
theorem dX0_countOrders_120 : decode cX0_countOrders 120 = .ok (.iload 7, 2) := by decide +kernel
theorem dX0_countOrders_122 : decode cX0_countOrders 122 = .ok (.ireturn, 1) := by decide +kernel
theorem dX0_isNextTo_0 : decode cX0_isNextTo 0 = .ok (.aload_n 0, 1) := by decide +kernel
theorem dX0_isNextTo_1 : decode cX0_isNextTo 1 = .ok (.iconst 0, 1) := by decide +kernel
theorem dX0_isNextTo_2 : decode cX0_isNextTo 2 = .ok (.iload_n 3, 1) := by decide +kernel
theorem dX0_isNextTo_3 : decode cX0_isNextTo 3 = .ok (.iload_n 1, 1) := by decide +kernel
theorem dX0_isNextTo_4 : decode cX0_isNextTo 4 = .ok (.invokestatic 36, 3) := by decide +kernel
theorem dX0_isNextTo_7 : decode cX0_isNextTo 7 = .ok (.invokevirtual 28, 3) := by decide +kernel
theorem dX0_isNextTo_10 : decode cX0_isNextTo 10 = .ok (.iload_n 2, 1) := by decide +kernel
theorem dX0_isNextTo_11 : decode cX0_isNextTo 11 = .ok (.if_icmp .eq 17, 3) := by decide +kernel
theorem dX0_isNextTo_14 : decode cX0_isNextTo 14 = .ok (.aload_n 0, 1) := by decide +kernel
theorem dX0_isNextTo_15 : decode cX0_isNextTo 15 = .ok (.iconst 1, 1) := by decide +kernel
theorem dX0_isNextTo_16 : decode cX0_isNextTo 16 = .ok (.iload_n 3, 1) := by decide +kernel
theorem dX0_isNextTo_17 : decode cX0_isNextTo 17 = .ok (.iload_n 1, 1) := by decide +kernel
theorem dX0_isNextTo_18 : decode cX0_isNextTo 18 = .ok (.invokestatic 36, 3) := by decide +kernel
theorem dX0_isNextTo_21 : decode cX0_isNextTo 21 = .ok (.invokevirtual 28, 3) := by decide +kernel
theorem dX0_isNextTo_24 : decode cX0_isNextTo 24 = .ok (.iload_n 2, 1) := by decide +kernel
theorem dX0_isNextTo_25 : decode cX0_isNextTo 25 = .ok (.if_icmp .ne 7, 3) := by decide +kernel
theorem dX0_isNextTo_28 : decode cX0_isNextTo 28 = .ok (.iconst 1, 1) := by decide +kernel
theorem dX0_isNextTo_29 : decode cX0_isNextTo 29 = .ok (.goto 4, 3) := by decide +kernel
theorem dX0_isNextTo_32 : decode cX0_isNextTo 32 = .ok (.iconst 0, 1) := by decide +kernel
theorem dX0_isNextTo_33 : decode cX0_isNextTo 33 = .ok (.ireturn, 1) := by decide +kernel
theorem dX0_firstKind_0 : decode cX0_firstKind 0 = .ok (.aload_n 0, 1) := by decide +kernel
theorem dX0_firstKind_1 : decode cX0_firstKind 1 = .ok (.iconst 0, 1) := by decide +kernel
theorem dX0_firstKind_2 : decode cX0_firstKind 2 = .ok (.iload_n 2, 1) := by decide +kernel
theorem dX0_firstKind_3 : decode cX0_firstKind 3 = .ok (.iload_n 1, 1) := by decide +kernel
theorem dX0_firstKind_4 : decode cX0_firstKind 4 = .ok (.invokestatic 36, 3) := by decide +kernel
theorem dX0_firstKind_7 : decode cX0_firstKind 7 = .ok (.invokevirtual 28, 3) := by decide +kernel
theorem dX0_firstKind_10 : decode cX0_firstKind 10 = .ok (.istore_n 3, 1) := by decide +kernel
theorem dX0_firstKind_11 : decode cX0_firstKind 11 = .ok (.iload_n 3, 1) := by decide +kernel
theorem dX0_firstKind_12 : decode cX0_firstKind 12 = .ok (.aload_n 0, 1) := by decide +kernel
theorem dX0_firstKind_13 : decode cX0_firstKind 13 = .ok (.iload_n 1, 1) := by decide +kernel
theorem dX0_firstKind_14 : decode cX0_firstKind 14 = .ok (.invokevirtual 28, 3) := by decide +kernel
theorem dX0_firstKind_17 : decode cX0_firstKind 17 = .ok (.iconst 1, 1) := by decide +kernel
theorem dX0_firstKind_18 : decode cX0_firstKind 18 = .ok (.isub, 1) := by decide +kernel
theorem dX0_firstKind_19 : decode cX0_firstKind 19 = .ok (.if_icmp .ne 7, 3) := by decide +kernel
theorem dX0_firstKind_22 : decode cX0_firstKind 22 = .ok (.iconst 0, 1) := by decide +kernel
theorem dX0_firstKind_23 : decode cX0_firstKind 23 = .ok (.goto 4, 3) := by decide +kernel
theorem dX0_firstKind_26 : decode cX0_firstKind 26 = .ok (.iconst 1, 1) := by decide +kernel
theorem dX0_firstKind_27 : decode cX0_firstKind 27 = .ok (.ireturn, 1) := by decide +kernel
theorem dX0_pairBehind_0 : decode cX0_pairBehind 0 = .ok (.bipush 16, 2) := by decide +kernel
theorem dX0_pairBehind_2 : decode cX0_pairBehind 2 = .ok (.iload_n 1, 1) := by decide +kernel
theorem dX0_pairBehind_3 : decode cX0_pairBehind 3 = .ok (.iload_n 2, 1) := by decide +kernel
theorem dX0_pairBehind_4 : decode cX0_pairBehind 4 = .ok (.iload_n 0, 1) := by decide +kernel
theorem dX0_pairBehind_5 : decode cX0_pairBehind 5 = .ok (.bipush 16, 2) := by decide +kernel
theorem dX0_pairBehind_7 : decode cX0_pairBehind 7 = .ok (.idiv, 1) := by decide +kernel
theorem dX0_pairBehind_8 : decode cX0_pairBehind 8 = .ok (.invokestatic 36, 3) := by decide +kernel
theorem dX0_pairBehind_11 : decode cX0_pairBehind 11 = .ok (.imul, 1) := by decide +kernel
theorem dX0_pairBehind_12 : decode cX0_pairBehind 12 = .ok (.iload_n 1, 1) := by decide +kernel
theorem dX0_pairBehind_13 : decode cX0_pairBehind 13 = .ok (.iload_n 2, 1) := by decide +kernel
theorem dX0_pairBehind_14 : decode cX0_pairBehind 14 = .ok (.iload_n 0, 1) := by decide +kernel
theorem dX0_pairBehind_15 : decode cX0_pairBehind 15 = .ok (.bipush 16, 2) := by decide +kernel
theorem dX0_pairBehind_17 : decode cX0_pairBehind 17 = .ok (.irem, 1) := by decide +kernel
theorem dX0_pairBehind_18 : decode cX0_pairBehind 18 = .ok (.invokestatic 36, 3) := by decide +kernel
theorem dX0_pairBehind_21 : decode cX0_pairBehind 21 = .ok (.iadd, 1) := by decide +kernel
theorem dX0_pairBehind_22 : decode cX0_pairBehind 22 = .ok (.ireturn, 1) := by decide +kernel
theorem dX0_depthOf_0 : decode cX0_depthOf 0 = .ok (.iconst 0, 1) := by decide +kernel
theorem dX0_depthOf_1 : decode cX0_depthOf 1 = .ok (.istore_n 1, 1) := by decide +kernel
theorem dX0_depthOf_2 : decode cX0_depthOf 2 = .ok (.iconst 0, 1) := by decide +kernel
theorem dX0_depthOf_3 : decode cX0_depthOf 3 = .ok (.istore_n 2, 1) := by decide +kernel
theorem dX0_depthOf_4 : decode cX0_depthOf 4 = .ok (.iload_n 2, 1) := by decide +kernel
theorem dX0_depthOf_5 : decode cX0_depthOf 5 = .ok (.bipush 8, 2) := by decide +kernel
theorem dX0_depthOf_7 : decode cX0_depthOf 7 = .ok (.if_icmp .ge 22, 3) := by decide +kernel
theorem dX0_depthOf_10 : decode cX0_depthOf 10 = .ok (.iload_n 0, 1) := by decide +kernel
theorem dX0_depthOf_11 : decode cX0_depthOf 11 = .ok (.iconst 2, 1) := by decide +kernel
theorem dX0_depthOf_12 : decode cX0_depthOf 12 = .ok (.iload_n 2, 1) := by decide +kernel
theorem dX0_depthOf_13 : decode cX0_depthOf 13 = .ok (.ishl, 1) := by decide +kernel
theorem dX0_depthOf_14 : decode cX0_depthOf 14 = .ok (.iconst 1, 1) := by decide +kernel
theorem dX0_depthOf_15 : decode cX0_depthOf 15 = .ok (.isub, 1) := by decide +kernel
theorem dX0_depthOf_16 : decode cX0_depthOf 16 = .ok (.if_icmp .lt 7, 3) := by decide +kernel
theorem dX0_depthOf_19 : decode cX0_depthOf 19 = .ok (.iload_n 2, 1) := by decide +kernel
theorem dX0_depthOf_20 : decode cX0_depthOf 20 = .ok (.iconst 1, 1) := by decide +kernel
theorem dX0_depthOf_21 : decode cX0_depthOf 21 = .ok (.iadd, 1) := by decide +kernel
theorem dX0_depthOf_22 : decode cX0_depthOf 22 = .ok (.istore_n 1, 1) := by decide +kernel
theorem dX0_depthOf_23 : decode cX0_depthOf 23 = .ok (.iinc 2 1, 3) := by decide +kernel
theorem dX0_depthOf_26 : decode cX0_depthOf 26 = .ok (.goto (-22), 3) := by decide +kernel
theorem dX0_depthOf_29 : decode cX0_depthOf 29 = .ok (.iload_n 1, 1) := by decide +kernel
theorem dX0_depthOf_30 : decode cX0_depthOf 30 = .ok (.ireturn, 1) := by decide +kernel
theorem dX0_heldWith_0 : decode cX0_heldWith 0 = .ok (.iconst 0, 1) := by decide +kernel
theorem dX0_heldWith_1 : decode cX0_heldWith 1 = .ok (.istore 4, 2) := by decide +kernel
theorem dX0_heldWith_3 : decode cX0_heldWith 3 = .ok (.iload 4, 2) := by decide +kernel
theorem dX0_heldWith_5 : decode cX0_heldWith 5 = .ok (.iload_n 3, 1) := by decide +kernel
theorem dX0_heldWith_6 : decode cX0_heldWith 6 = .ok (.if_icmp .ge 33, 3) := by decide +kernel
theorem dX0_heldWith_9 : decode cX0_heldWith 9 = .ok (.iload 4, 2) := by decide +kernel
theorem dX0_heldWith_11 : decode cX0_heldWith 11 = .ok (.aload_n 0, 1) := by decide +kernel
theorem dX0_heldWith_12 : decode cX0_heldWith 12 = .ok (.getfield 20, 3) := by decide +kernel
theorem dX0_heldWith_15 : decode cX0_heldWith 15 = .ok (.arraylength, 1) := by decide +kernel
theorem dX0_heldWith_16 : decode cX0_heldWith 16 = .ok (.if_icmp .ge 23, 3) := by decide +kernel
theorem dX0_heldWith_19 : decode cX0_heldWith 19 = .ok (.aload_n 0, 1) := by decide +kernel
theorem dX0_heldWith_20 : decode cX0_heldWith 20 = .ok (.getfield 20, 3) := by decide +kernel
theorem dX0_heldWith_23 : decode cX0_heldWith 23 = .ok (.iload 4, 2) := by decide +kernel
theorem dX0_heldWith_25 : decode cX0_heldWith 25 = .ok (.laload, 1) := by decide +kernel
theorem dX0_heldWith_26 : decode cX0_heldWith 26 = .ok (.lload_n 1, 1) := by decide +kernel
theorem dX0_heldWith_27 : decode cX0_heldWith 27 = .ok (.lcmp, 1) := by decide +kernel
theorem dX0_heldWith_28 : decode cX0_heldWith 28 = .ok (.ifCond .ne 5, 3) := by decide +kernel
theorem dX0_heldWith_31 : decode cX0_heldWith 31 = .ok (.iload_n 3, 1) := by decide +kernel
theorem dX0_heldWith_32 : decode cX0_heldWith 32 = .ok (.ireturn, 1) := by decide +kernel
theorem dX0_heldWith_33 : decode cX0_heldWith 33 = .ok (.iinc 4 1, 3) := by decide +kernel
theorem dX0_heldWith_36 : decode cX0_heldWith 36 = .ok (.goto (-33), 3) := by decide +kernel
theorem dX0_heldWith_39 : decode cX0_heldWith 39 = .ok (.iload_n 3, 1) := by decide +kernel
theorem dX0_heldWith_40 : decode cX0_heldWith 40 = .ok (.ifCond .lt 12, 3) := by decide +kernel
theorem dX0_heldWith_43 : decode cX0_heldWith 43 = .ok (.iload_n 3, 1) := by decide +kernel
theorem dX0_heldWith_44 : decode cX0_heldWith 44 = .ok (.aload_n 0, 1) := by decide +kernel
theorem dX0_heldWith_45 : decode cX0_heldWith 45 = .ok (.getfield 20, 3) := by decide +kernel
theorem dX0_heldWith_48 : decode cX0_heldWith 48 = .ok (.arraylength, 1) := by decide +kernel
theorem dX0_heldWith_49 : decode cX0_heldWith 49 = .ok (.if_icmp .lt 5, 3) := by decide +kernel
theorem dX0_heldWith_52 : decode cX0_heldWith 52 = .ok (.iload_n 3, 1) := by decide +kernel
theorem dX0_heldWith_53 : decode cX0_heldWith 53 = .ok (.ireturn, 1) := by decide +kernel
theorem dX0_heldWith_54 : decode cX0_heldWith 54 = .ok (.aload_n 0, 1) := by decide +kernel
theorem dX0_heldWith_55 : decode cX0_heldWith 55 = .ok (.getfield 20, 3) := by decide +kernel
theorem dX0_heldWith_58 : decode cX0_heldWith 58 = .ok (.iload_n 3, 1) := by decide +kernel
theorem dX0_heldWith_59 : decode cX0_heldWith 59 = .ok (.lload_n 1, 1) := by decide +kernel
theorem dX0_heldWith_60 : decode cX0_heldWith 60 = .ok (.lastore, 1) := by decide +kernel
theorem dX0_heldWith_61 : decode cX0_heldWith 61 = .ok (.iload_n 3, 1) := by decide +kernel
theorem dX0_heldWith_62 : decode cX0_heldWith 62 = .ok (.iconst 1, 1) := by decide +kernel
theorem dX0_heldWith_63 : decode cX0_heldWith 63 = .ok (.iadd, 1) := by decide +kernel
theorem dX0_heldWith_64 : decode cX0_heldWith 64 = .ok (.ireturn, 1) := by decide +kernel
theorem dX1_partOf_0 : decode cX1_partOf 0 = .ok (.iload_n 0, 1) := by decide +kernel
theorem dX1_partOf_1 : decode cX1_partOf 1 = .ok (.iload_n 1, 1) := by decide +kernel
theorem dX1_partOf_2 : decode cX1_partOf 2 = .ok (.invokestatic 7, 3) := by decide +kernel
theorem dX1_partOf_5 : decode cX1_partOf 5 = .ok (.istore_n 3, 1) := by decide +kernel
theorem dX1_partOf_6 : decode cX1_partOf 6 = .ok (.iload_n 3, 1) := by decide +kernel
theorem dX1_partOf_7 : decode cX1_partOf 7 = .ok (.ifCond .gt 5, 3) := by decide +kernel
theorem dX1_partOf_10 : decode cX1_partOf 10 = .ok (.iconst 0, 1) := by decide +kernel
theorem dX1_partOf_11 : decode cX1_partOf 11 = .ok (.ireturn, 1) := by decide +kernel
theorem dX1_partOf_12 : decode cX1_partOf 12 = .ok (.iload_n 2, 1) := by decide +kernel
theorem dX1_partOf_13 : decode cX1_partOf 13 = .ok (.ifCond .ne 9, 3) := by decide +kernel
theorem dX1_partOf_16 : decode cX1_partOf 16 = .ok (.iload_n 0, 1) := by decide +kernel
theorem dX1_partOf_17 : decode cX1_partOf 17 = .ok (.iload_n 3, 1) := by decide +kernel
theorem dX1_partOf_18 : decode cX1_partOf 18 = .ok (.idiv, 1) := by decide +kernel
theorem dX1_partOf_19 : decode cX1_partOf 19 = .ok (.goto 6, 3) := by decide +kernel
theorem dX1_partOf_22 : decode cX1_partOf 22 = .ok (.iload_n 1, 1) := by decide +kernel
theorem dX1_partOf_23 : decode cX1_partOf 23 = .ok (.iload_n 3, 1) := by decide +kernel
theorem dX1_partOf_24 : decode cX1_partOf 24 = .ok (.idiv, 1) := by decide +kernel
theorem dX1_partOf_25 : decode cX1_partOf 25 = .ok (.ireturn, 1) := by decide +kernel
theorem dX1_commonDivisor_0 : decode cX1_commonDivisor 0 = .ok (.iload_n 0, 1) := by decide +kernel
theorem dX1_commonDivisor_1 : decode cX1_commonDivisor 1 = .ok (.istore_n 2, 1) := by decide +kernel
theorem dX1_commonDivisor_2 : decode cX1_commonDivisor 2 = .ok (.iload_n 1, 1) := by decide +kernel
theorem dX1_commonDivisor_3 : decode cX1_commonDivisor 3 = .ok (.istore_n 3, 1) := by decide +kernel
theorem dX1_commonDivisor_4 : decode cX1_commonDivisor 4 = .ok (.iconst 0, 1) := by decide +kernel
theorem dX1_commonDivisor_5 : decode cX1_commonDivisor 5 = .ok (.istore 4, 2) := by decide +kernel
theorem dX1_commonDivisor_7 : decode cX1_commonDivisor 7 = .ok (.iload 4, 2) := by decide +kernel
theorem dX1_commonDivisor_9 : decode cX1_commonDivisor 9 = .ok (.bipush 64, 2) := by decide +kernel
theorem dX1_commonDivisor_11 : decode cX1_commonDivisor 11 = .ok (.if_icmp .ge 23, 3) := by decide +kernel
theorem dX1_commonDivisor_14 : decode cX1_commonDivisor 14 = .ok (.iload_n 3, 1) := by decide +kernel
theorem dX1_commonDivisor_15 : decode cX1_commonDivisor 15 = .ok (.ifCond .eq 19, 3) := by decide +kernel
theorem dX1_commonDivisor_18 : decode cX1_commonDivisor 18 = .ok (.iload_n 2, 1) := by decide +kernel
theorem dX1_commonDivisor_19 : decode cX1_commonDivisor 19 = .ok (.iload_n 3, 1) := by decide +kernel
theorem dX1_commonDivisor_20 : decode cX1_commonDivisor 20 = .ok (.irem, 1) := by decide +kernel
theorem dX1_commonDivisor_21 : decode cX1_commonDivisor 21 = .ok (.istore 5, 2) := by decide +kernel
theorem dX1_commonDivisor_23 : decode cX1_commonDivisor 23 = .ok (.iload_n 3, 1) := by decide +kernel
theorem dX1_commonDivisor_24 : decode cX1_commonDivisor 24 = .ok (.istore_n 2, 1) := by decide +kernel
theorem dX1_commonDivisor_25 : decode cX1_commonDivisor 25 = .ok (.iload 5, 2) := by decide +kernel
theorem dX1_commonDivisor_27 : decode cX1_commonDivisor 27 = .ok (.istore_n 3, 1) := by decide +kernel
theorem dX1_commonDivisor_28 : decode cX1_commonDivisor 28 = .ok (.iinc 4 1, 3) := by decide +kernel
theorem dX1_commonDivisor_31 : decode cX1_commonDivisor 31 = .ok (.goto (-24), 3) := by decide +kernel
theorem dX1_commonDivisor_34 : decode cX1_commonDivisor 34 = .ok (.iload_n 2, 1) := by decide +kernel
theorem dX1_commonDivisor_35 : decode cX1_commonDivisor 35 = .ok (.ireturn, 1) := by decide +kernel
theorem dX1_choices_0 : decode cX1_choices 0 = .ok (.iconst 1, 1) := by decide +kernel
theorem dX1_choices_1 : decode cX1_choices 1 = .ok (.istore_n 2, 1) := by decide +kernel
theorem dX1_choices_2 : decode cX1_choices 2 = .ok (.iconst 1, 1) := by decide +kernel
theorem dX1_choices_3 : decode cX1_choices 3 = .ok (.istore_n 3, 1) := by decide +kernel
theorem dX1_choices_4 : decode cX1_choices 4 = .ok (.iload_n 3, 1) := by decide +kernel
theorem dX1_choices_5 : decode cX1_choices 5 = .ok (.iload_n 1, 1) := by decide +kernel
theorem dX1_choices_6 : decode cX1_choices 6 = .ok (.if_icmp .gt 19, 3) := by decide +kernel
theorem dX1_choices_9 : decode cX1_choices 9 = .ok (.iload_n 2, 1) := by decide +kernel
theorem dX1_choices_10 : decode cX1_choices 10 = .ok (.iload_n 0, 1) := by decide +kernel
theorem dX1_choices_11 : decode cX1_choices 11 = .ok (.iload_n 1, 1) := by decide +kernel
theorem dX1_choices_12 : decode cX1_choices 12 = .ok (.isub, 1) := by decide +kernel
theorem dX1_choices_13 : decode cX1_choices 13 = .ok (.iload_n 3, 1) := by decide +kernel
theorem dX1_choices_14 : decode cX1_choices 14 = .ok (.iadd, 1) := by decide +kernel
theorem dX1_choices_15 : decode cX1_choices 15 = .ok (.imul, 1) := by decide +kernel
theorem dX1_choices_16 : decode cX1_choices 16 = .ok (.iload_n 3, 1) := by decide +kernel
theorem dX1_choices_17 : decode cX1_choices 17 = .ok (.idiv, 1) := by decide +kernel
theorem dX1_choices_18 : decode cX1_choices 18 = .ok (.istore_n 2, 1) := by decide +kernel
theorem dX1_choices_19 : decode cX1_choices 19 = .ok (.iinc 3 1, 3) := by decide +kernel
theorem dX1_choices_22 : decode cX1_choices 22 = .ok (.goto (-18), 3) := by decide +kernel
theorem dX1_choices_25 : decode cX1_choices 25 = .ok (.iload_n 2, 1) := by decide +kernel
theorem dX1_choices_26 : decode cX1_choices 26 = .ok (.ireturn, 1) := by decide +kernel
theorem dX2_init_0 : decode cX2_init 0 = .ok (.aload_n 0, 1) := by decide +kernel
theorem dX2_init_1 : decode cX2_init 1 = .ok (.invokespecial 3, 3) := by decide +kernel
theorem dX2_init_4 : decode cX2_init 4 = .ok (.aload_n 0, 1) := by decide +kernel
theorem dX2_init_5 : decode cX2_init 5 = .ok (.sipush 289, 3) := by decide +kernel
theorem dX2_init_8 : decode cX2_init 8 = .ok (.newarray .int, 2) := by decide +kernel
theorem dX2_init_10 : decode cX2_init 10 = .ok (.putfield 11, 3) := by decide +kernel
theorem dX2_init_13 : decode cX2_init 13 = .ok (.return_, 1) := by decide +kernel
theorem dX2_goodWays_0 : decode cX2_goodWays 0 = .ok (.aload_n 1, 1) := by decide +kernel
theorem dX2_goodWays_1 : decode cX2_goodWays 1 = .ok (.getfield 15, 3) := by decide +kernel
theorem dX2_goodWays_4 : decode cX2_goodWays 4 = .ok (.iload 4, 2) := by decide +kernel
theorem dX2_goodWays_6 : decode cX2_goodWays 6 = .ok (.isub, 1) := by decide +kernel
theorem dX2_goodWays_7 : decode cX2_goodWays 7 = .ok (.istore 5, 2) := by decide +kernel
theorem dX2_goodWays_9 : decode cX2_goodWays 9 = .ok (.lload_n 2, 1) := by decide +kernel
theorem dX2_goodWays_10 : decode cX2_goodWays 10 = .ok (.iload 4, 2) := by decide +kernel
theorem dX2_goodWays_12 : decode cX2_goodWays 12 = .ok (.aload_n 1, 1) := by decide +kernel
theorem dX2_goodWays_13 : decode cX2_goodWays 13 = .ok (.getfield 15, 3) := by decide +kernel
theorem dX2_goodWays_16 : decode cX2_goodWays 16 = .ok (.invokestatic 21, 3) := by decide +kernel
theorem dX2_goodWays_19 : decode cX2_goodWays 19 = .ok (.lstore 6, 2) := by decide +kernel
theorem dX2_goodWays_21 : decode cX2_goodWays 21 = .ok (.iconst 0, 1) := by decide +kernel
theorem dX2_goodWays_22 : decode cX2_goodWays 22 = .ok (.istore 8, 2) := by decide +kernel
theorem dX2_goodWays_24 : decode cX2_goodWays 24 = .ok (.iload 8, 2) := by decide +kernel
theorem dX2_goodWays_26 : decode cX2_goodWays 26 = .ok (.iload 4, 2) := by decide +kernel
theorem dX2_goodWays_28 : decode cX2_goodWays 28 = .ok (.if_icmp .gt 49, 3) := by decide +kernel
theorem dX2_goodWays_31 : decode cX2_goodWays 31 = .ok (.iload 8, 2) := by decide +kernel
theorem dX2_goodWays_33 : decode cX2_goodWays 33 = .ok (.iconst 2, 1) := by decide +kernel
theorem dX2_goodWays_34 : decode cX2_goodWays 34 = .ok (.irem, 1) := by decide +kernel
theorem dX2_goodWays_35 : decode cX2_goodWays 35 = .ok (.istore 9, 2) := by decide +kernel
theorem dX2_goodWays_37 : decode cX2_goodWays 37 = .ok (.iload 9, 2) := by decide +kernel
theorem dX2_goodWays_39 : decode cX2_goodWays 39 = .ok (.iload 5, 2) := by decide +kernel
theorem dX2_goodWays_41 : decode cX2_goodWays 41 = .ok (.if_icmp .gt 30, 3) := by decide +kernel
theorem dX2_goodWays_44 : decode cX2_goodWays 44 = .ok (.aload_n 0, 1) := by decide +kernel
theorem dX2_goodWays_45 : decode cX2_goodWays 45 = .ok (.iload 8, 2) := by decide +kernel
theorem dX2_goodWays_47 : decode cX2_goodWays 47 = .ok (.iload 9, 2) := by decide +kernel
theorem dX2_goodWays_49 : decode cX2_goodWays 49 = .ok (.aload_n 0, 1) := by decide +kernel
theorem dX2_goodWays_50 : decode cX2_goodWays 50 = .ok (.aload_n 1, 1) := by decide +kernel
theorem dX2_goodWays_51 : decode cX2_goodWays 51 = .ok (.lload 6, 2) := by decide +kernel
theorem dX2_goodWays_53 : decode cX2_goodWays 53 = .ok (.iload 4, 2) := by decide +kernel
theorem dX2_goodWays_55 : decode cX2_goodWays 55 = .ok (.iload 8, 2) := by decide +kernel
theorem dX2_goodWays_57 : decode cX2_goodWays 57 = .ok (.iload 9, 2) := by decide +kernel
theorem dX2_goodWays_59 : decode cX2_goodWays 59 = .ok (.invokevirtual 25, 3) := by decide +kernel
theorem dX2_goodWays_62 : decode cX2_goodWays 62 = .ok (.invokevirtual 29, 3) := by decide +kernel
theorem dX2_goodWays_65 : decode cX2_goodWays 65 = .ok (.iinc 9 2, 3) := by decide +kernel
theorem dX2_goodWays_68 : decode cX2_goodWays 68 = .ok (.goto (-31), 3) := by decide +kernel
theorem dX2_goodWays_71 : decode cX2_goodWays 71 = .ok (.iinc 8 1, 3) := by decide +kernel
theorem dX2_goodWays_74 : decode cX2_goodWays 74 = .ok (.goto (-50), 3) := by decide +kernel
theorem dX2_goodWays_77 : decode cX2_goodWays 77 = .ok (.aload_n 1, 1) := by decide +kernel
theorem dX2_goodWays_78 : decode cX2_goodWays 78 = .ok (.getfield 15, 3) := by decide +kernel
theorem dX2_goodWays_81 : decode cX2_goodWays 81 = .ok (.iconst 2, 1) := by decide +kernel
theorem dX2_goodWays_82 : decode cX2_goodWays 82 = .ok (.irem, 1) := by decide +kernel
theorem dX2_goodWays_83 : decode cX2_goodWays 83 = .ok (.ifCond .ne 12, 3) := by decide +kernel
theorem dX2_goodWays_86 : decode cX2_goodWays 86 = .ok (.aload_n 0, 1) := by decide +kernel
theorem dX2_goodWays_87 : decode cX2_goodWays 87 = .ok (.iload 4, 2) := by decide +kernel
theorem dX2_goodWays_89 : decode cX2_goodWays 89 = .ok (.iload 5, 2) := by decide +kernel
theorem dX2_goodWays_91 : decode cX2_goodWays 91 = .ok (.invokevirtual 33, 3) := by decide +kernel
theorem dX2_goodWays_94 : decode cX2_goodWays 94 = .ok (.ireturn, 1) := by decide +kernel
theorem dX2_goodWays_95 : decode cX2_goodWays 95 = .ok (.aload_n 0, 1) := by decide +kernel
theorem dX2_goodWays_96 : decode cX2_goodWays 96 = .ok (.iload 4, 2) := by decide +kernel
theorem dX2_goodWays_98 : decode cX2_goodWays 98 = .ok (.iconst 1, 1) := by decide +kernel
theorem dX2_goodWays_99 : decode cX2_goodWays 99 = .ok (.isub, 1) := by decide +kernel
theorem dX2_goodWays_100 : decode cX2_goodWays 100 = .ok (.iload 5, 2) := by decide +kernel
theorem dX2_goodWays_102 : decode cX2_goodWays 102 = .ok (.invokevirtual 33, 3) := by decide +kernel
theorem dX2_goodWays_105 : decode cX2_goodWays 105 = .ok (.aload_n 0, 1) := by decide +kernel
theorem dX2_goodWays_106 : decode cX2_goodWays 106 = .ok (.iload 4, 2) := by decide +kernel
theorem dX2_goodWays_108 : decode cX2_goodWays 108 = .ok (.iload 5, 2) := by decide +kernel
theorem dX2_goodWays_110 : decode cX2_goodWays 110 = .ok (.iconst 1, 1) := by decide +kernel
theorem dX2_goodWays_111 : decode cX2_goodWays 111 = .ok (.isub, 1) := by decide +kernel
theorem dX2_goodWays_112 : decode cX2_goodWays 112 = .ok (.invokevirtual 33, 3) := by decide +kernel
theorem dX2_goodWays_115 : decode cX2_goodWays 115 = .ok (.iadd, 1) := by decide +kernel
theorem dX2_goodWays_116 : decode cX2_goodWays 116 = .ok (.ireturn, 1) := by decide +kernel
theorem dX2_dealtOff_0 : decode cX2_dealtOff 0 = .ok (.lconst 0, 1) := by decide +kernel
theorem dX2_dealtOff_1 : decode cX2_dealtOff 1 = .ok (.lstore 4, 2) := by decide +kernel
theorem dX2_dealtOff_3 : decode cX2_dealtOff 3 = .ok (.iconst 0, 1) := by decide +kernel
theorem dX2_dealtOff_4 : decode cX2_dealtOff 4 = .ok (.istore 6, 2) := by decide +kernel
theorem dX2_dealtOff_6 : decode cX2_dealtOff 6 = .ok (.iload 6, 2) := by decide +kernel
theorem dX2_dealtOff_8 : decode cX2_dealtOff 8 = .ok (.iload_n 3, 1) := by decide +kernel
theorem dX2_dealtOff_9 : decode cX2_dealtOff 9 = .ok (.if_icmp .ge 43, 3) := by decide +kernel
theorem dX2_dealtOff_12 : decode cX2_dealtOff 12 = .ok (.iload 6, 2) := by decide +kernel
theorem dX2_dealtOff_14 : decode cX2_dealtOff 14 = .ok (.iload_n 2, 1) := by decide +kernel
theorem dX2_dealtOff_15 : decode cX2_dealtOff 15 = .ok (.if_icmp .ge 12, 3) := by decide +kernel
theorem dX2_dealtOff_18 : decode cX2_dealtOff 18 = .ok (.iload_n 2, 1) := by decide +kernel
theorem dX2_dealtOff_19 : decode cX2_dealtOff 19 = .ok (.iconst 1, 1) := by decide +kernel
theorem dX2_dealtOff_20 : decode cX2_dealtOff 20 = .ok (.isub, 1) := by decide +kernel
theorem dX2_dealtOff_21 : decode cX2_dealtOff 21 = .ok (.iload 6, 2) := by decide +kernel
theorem dX2_dealtOff_23 : decode cX2_dealtOff 23 = .ok (.isub, 1) := by decide +kernel
theorem dX2_dealtOff_24 : decode cX2_dealtOff 24 = .ok (.goto 5, 3) := by decide +kernel
theorem dX2_dealtOff_27 : decode cX2_dealtOff 27 = .ok (.iload 6, 2) := by decide +kernel
theorem dX2_dealtOff_29 : decode cX2_dealtOff 29 = .ok (.istore 7, 2) := by decide +kernel
theorem dX2_dealtOff_31 : decode cX2_dealtOff 31 = .ok (.lload 4, 2) := by decide +kernel
theorem dX2_dealtOff_33 : decode cX2_dealtOff 33 = .ok (.iload 6, 2) := by decide +kernel
theorem dX2_dealtOff_35 : decode cX2_dealtOff 35 = .ok (.lload_n 0, 1) := by decide +kernel
theorem dX2_dealtOff_36 : decode cX2_dealtOff 36 = .ok (.iload 7, 2) := by decide +kernel
theorem dX2_dealtOff_38 : decode cX2_dealtOff 38 = .ok (.invokestatic 37, 3) := by decide +kernel
theorem dX2_dealtOff_41 : decode cX2_dealtOff 41 = .ok (.invokestatic 41, 3) := by decide +kernel
theorem dX2_dealtOff_44 : decode cX2_dealtOff 44 = .ok (.lstore 4, 2) := by decide +kernel
theorem dX2_dealtOff_46 : decode cX2_dealtOff 46 = .ok (.iinc 6 1, 3) := by decide +kernel
theorem dX2_dealtOff_49 : decode cX2_dealtOff 49 = .ok (.goto (-43), 3) := by decide +kernel
theorem dX2_dealtOff_52 : decode cX2_dealtOff 52 = .ok (.lload 4, 2) := by decide +kernel
theorem dX2_dealtOff_54 : decode cX2_dealtOff 54 = .ok (.lreturn, 1) := by decide +kernel
theorem dX2_waysByLastPair_0 : decode cX2_waysByLastPair 0 = .ok (.iload 5, 2) := by decide +kernel
theorem dX2_waysByLastPair_2 : decode cX2_waysByLastPair 2 = .ok (.ifCond .ne 10, 3) := by decide +kernel
theorem dX2_waysByLastPair_5 : decode cX2_waysByLastPair 5 = .ok (.iload 6, 2) := by decide +kernel
theorem dX2_waysByLastPair_7 : decode cX2_waysByLastPair 7 = .ok (.ifCond .ne 5, 3) := by decide +kernel
theorem dX2_waysByLastPair_10 : decode cX2_waysByLastPair 10 = .ok (.iconst 1, 1) := by decide +kernel
theorem dX2_waysByLastPair_11 : decode cX2_waysByLastPair 11 = .ok (.ireturn, 1) := by decide +kernel
theorem dX2_waysByLastPair_12 : decode cX2_waysByLastPair 12 = .ok (.iconst 0, 1) := by decide +kernel
theorem dX2_waysByLastPair_13 : decode cX2_waysByLastPair 13 = .ok (.istore 7, 2) := by decide +kernel
theorem dX2_waysByLastPair_15 : decode cX2_waysByLastPair 15 = .ok (.iload 5, 2) := by decide +kernel
theorem dX2_waysByLastPair_17 : decode cX2_waysByLastPair 17 = .ok (.iconst 2, 1) := by decide +kernel
theorem dX2_waysByLastPair_18 : decode cX2_waysByLastPair 18 = .ok (.if_icmp .lt 34, 3) := by decide +kernel
theorem dX2_waysByLastPair_21 : decode cX2_waysByLastPair 21 = .ok (.aload_n 1, 1) := by decide +kernel
theorem dX2_waysByLastPair_22 : decode cX2_waysByLastPair 22 = .ok (.lload_n 2, 1) := by decide +kernel
theorem dX2_waysByLastPair_23 : decode cX2_waysByLastPair 23 = .ok (.iload 5, 2) := by decide +kernel
theorem dX2_waysByLastPair_25 : decode cX2_waysByLastPair 25 = .ok (.iconst 2, 1) := by decide +kernel
theorem dX2_waysByLastPair_26 : decode cX2_waysByLastPair 26 = .ok (.isub, 1) := by decide +kernel
theorem dX2_waysByLastPair_27 : decode cX2_waysByLastPair 27 = .ok (.iload 5, 2) := by decide +kernel
theorem dX2_waysByLastPair_29 : decode cX2_waysByLastPair 29 = .ok (.iconst 1, 1) := by decide +kernel
theorem dX2_waysByLastPair_30 : decode cX2_waysByLastPair 30 = .ok (.isub, 1) := by decide +kernel
theorem dX2_waysByLastPair_31 : decode cX2_waysByLastPair 31 = .ok (.invokestatic 44, 3) := by decide +kernel
theorem dX2_waysByLastPair_34 : decode cX2_waysByLastPair 34 = .ok (.ifCond .eq 18, 3) := by decide +kernel
theorem dX2_waysByLastPair_37 : decode cX2_waysByLastPair 37 = .ok (.iload 7, 2) := by decide +kernel
theorem dX2_waysByLastPair_39 : decode cX2_waysByLastPair 39 = .ok (.aload_n 0, 1) := by decide +kernel
theorem dX2_waysByLastPair_40 : decode cX2_waysByLastPair 40 = .ok (.iload 5, 2) := by decide +kernel
theorem dX2_waysByLastPair_42 : decode cX2_waysByLastPair 42 = .ok (.iconst 2, 1) := by decide +kernel
theorem dX2_waysByLastPair_43 : decode cX2_waysByLastPair 43 = .ok (.isub, 1) := by decide +kernel
theorem dX2_waysByLastPair_44 : decode cX2_waysByLastPair 44 = .ok (.iload 6, 2) := by decide +kernel
theorem dX2_waysByLastPair_46 : decode cX2_waysByLastPair 46 = .ok (.invokevirtual 33, 3) := by decide +kernel
theorem dX2_waysByLastPair_49 : decode cX2_waysByLastPair 49 = .ok (.iadd, 1) := by decide +kernel
theorem dX2_waysByLastPair_50 : decode cX2_waysByLastPair 50 = .ok (.istore 7, 2) := by decide +kernel
theorem dX2_waysByLastPair_52 : decode cX2_waysByLastPair 52 = .ok (.iload 6, 2) := by decide +kernel
theorem dX2_waysByLastPair_54 : decode cX2_waysByLastPair 54 = .ok (.iconst 2, 1) := by decide +kernel
theorem dX2_waysByLastPair_55 : decode cX2_waysByLastPair 55 = .ok (.if_icmp .lt 40, 3) := by decide +kernel
theorem dX2_waysByLastPair_58 : decode cX2_waysByLastPair 58 = .ok (.aload_n 1, 1) := by decide +kernel
theorem dX2_waysByLastPair_59 : decode cX2_waysByLastPair 59 = .ok (.lload_n 2, 1) := by decide +kernel
theorem dX2_waysByLastPair_60 : decode cX2_waysByLastPair 60 = .ok (.iload 4, 2) := by decide +kernel
theorem dX2_waysByLastPair_62 : decode cX2_waysByLastPair 62 = .ok (.iload 6, 2) := by decide +kernel
theorem dX2_waysByLastPair_64 : decode cX2_waysByLastPair 64 = .ok (.iadd, 1) := by decide +kernel
theorem dX2_waysByLastPair_65 : decode cX2_waysByLastPair 65 = .ok (.iconst 2, 1) := by decide +kernel
theorem dX2_waysByLastPair_66 : decode cX2_waysByLastPair 66 = .ok (.isub, 1) := by decide +kernel
theorem dX2_waysByLastPair_67 : decode cX2_waysByLastPair 67 = .ok (.iload 4, 2) := by decide +kernel
theorem dX2_waysByLastPair_69 : decode cX2_waysByLastPair 69 = .ok (.iload 6, 2) := by decide +kernel
theorem dX2_waysByLastPair_71 : decode cX2_waysByLastPair 71 = .ok (.iadd, 1) := by decide +kernel
theorem dX2_waysByLastPair_72 : decode cX2_waysByLastPair 72 = .ok (.iconst 1, 1) := by decide +kernel
theorem dX2_waysByLastPair_73 : decode cX2_waysByLastPair 73 = .ok (.isub, 1) := by decide +kernel
theorem dX2_waysByLastPair_74 : decode cX2_waysByLastPair 74 = .ok (.invokestatic 44, 3) := by decide +kernel
theorem dX2_waysByLastPair_77 : decode cX2_waysByLastPair 77 = .ok (.ifCond .eq 18, 3) := by decide +kernel
theorem dX2_waysByLastPair_80 : decode cX2_waysByLastPair 80 = .ok (.iload 7, 2) := by decide +kernel
theorem dX2_waysByLastPair_82 : decode cX2_waysByLastPair 82 = .ok (.aload_n 0, 1) := by decide +kernel
theorem dX2_waysByLastPair_83 : decode cX2_waysByLastPair 83 = .ok (.iload 5, 2) := by decide +kernel
theorem dX2_waysByLastPair_85 : decode cX2_waysByLastPair 85 = .ok (.iload 6, 2) := by decide +kernel
theorem dX2_waysByLastPair_87 : decode cX2_waysByLastPair 87 = .ok (.iconst 2, 1) := by decide +kernel
theorem dX2_waysByLastPair_88 : decode cX2_waysByLastPair 88 = .ok (.isub, 1) := by decide +kernel
theorem dX2_waysByLastPair_89 : decode cX2_waysByLastPair 89 = .ok (.invokevirtual 33, 3) := by decide +kernel
theorem dX2_waysByLastPair_92 : decode cX2_waysByLastPair 92 = .ok (.iadd, 1) := by decide +kernel
theorem dX2_waysByLastPair_93 : decode cX2_waysByLastPair 93 = .ok (.istore 7, 2) := by decide +kernel
theorem dX2_waysByLastPair_95 : decode cX2_waysByLastPair 95 = .ok (.iload 5, 2) := by decide +kernel
theorem dX2_waysByLastPair_97 : decode cX2_waysByLastPair 97 = .ok (.iconst 1, 1) := by decide +kernel
theorem dX2_waysByLastPair_98 : decode cX2_waysByLastPair 98 = .ok (.if_icmp .lt 47, 3) := by decide +kernel
theorem dX2_waysByLastPair_101 : decode cX2_waysByLastPair 101 = .ok (.iload 6, 2) := by decide +kernel
theorem dX2_waysByLastPair_103 : decode cX2_waysByLastPair 103 = .ok (.iconst 1, 1) := by decide +kernel
theorem dX2_waysByLastPair_104 : decode cX2_waysByLastPair 104 = .ok (.if_icmp .lt 41, 3) := by decide +kernel
theorem dX2_waysByLastPair_107 : decode cX2_waysByLastPair 107 = .ok (.aload_n 1, 1) := by decide +kernel
theorem dX2_waysByLastPair_108 : decode cX2_waysByLastPair 108 = .ok (.lload_n 2, 1) := by decide +kernel
theorem dX2_waysByLastPair_109 : decode cX2_waysByLastPair 109 = .ok (.iload 5, 2) := by decide +kernel
theorem dX2_waysByLastPair_111 : decode cX2_waysByLastPair 111 = .ok (.iconst 1, 1) := by decide +kernel
theorem dX2_waysByLastPair_112 : decode cX2_waysByLastPair 112 = .ok (.isub, 1) := by decide +kernel
theorem dX2_waysByLastPair_113 : decode cX2_waysByLastPair 113 = .ok (.iload 4, 2) := by decide +kernel
theorem dX2_waysByLastPair_115 : decode cX2_waysByLastPair 115 = .ok (.iload 6, 2) := by decide +kernel
theorem dX2_waysByLastPair_117 : decode cX2_waysByLastPair 117 = .ok (.iadd, 1) := by decide +kernel
theorem dX2_waysByLastPair_118 : decode cX2_waysByLastPair 118 = .ok (.iconst 1, 1) := by decide +kernel
theorem dX2_waysByLastPair_119 : decode cX2_waysByLastPair 119 = .ok (.isub, 1) := by decide +kernel
theorem dX2_waysByLastPair_120 : decode cX2_waysByLastPair 120 = .ok (.invokestatic 44, 3) := by decide +kernel
theorem dX2_waysByLastPair_123 : decode cX2_waysByLastPair 123 = .ok (.ifCond .eq 22, 3) := by decide +kernel
theorem dX2_waysByLastPair_126 : decode cX2_waysByLastPair 126 = .ok (.iload 7, 2) := by decide +kernel
theorem dX2_waysByLastPair_128 : decode cX2_waysByLastPair 128 = .ok (.iconst 2, 1) := by decide +kernel
theorem dX2_waysByLastPair_129 : decode cX2_waysByLastPair 129 = .ok (.aload_n 0, 1) := by decide +kernel
theorem dX2_waysByLastPair_130 : decode cX2_waysByLastPair 130 = .ok (.iload 5, 2) := by decide +kernel
theorem dX2_waysByLastPair_132 : decode cX2_waysByLastPair 132 = .ok (.iconst 1, 1) := by decide +kernel
theorem dX2_waysByLastPair_133 : decode cX2_waysByLastPair 133 = .ok (.isub, 1) := by decide +kernel
theorem dX2_waysByLastPair_134 : decode cX2_waysByLastPair 134 = .ok (.iload 6, 2) := by decide +kernel
theorem dX2_waysByLastPair_136 : decode cX2_waysByLastPair 136 = .ok (.iconst 1, 1) := by decide +kernel
theorem dX2_waysByLastPair_137 : decode cX2_waysByLastPair 137 = .ok (.isub, 1) := by decide +kernel
theorem dX2_waysByLastPair_138 : decode cX2_waysByLastPair 138 = .ok (.invokevirtual 33, 3) := by decide +kernel
theorem dX2_waysByLastPair_141 : decode cX2_waysByLastPair 141 = .ok (.imul, 1) := by decide +kernel
theorem dX2_waysByLastPair_142 : decode cX2_waysByLastPair 142 = .ok (.iadd, 1) := by decide +kernel
theorem dX2_waysByLastPair_143 : decode cX2_waysByLastPair 143 = .ok (.istore 7, 2) := by decide +kernel
theorem dX2_waysByLastPair_145 : decode cX2_waysByLastPair 145 = .ok (.iload 7, 2) := by decide +kernel
theorem dX2_waysByLastPair_147 : decode cX2_waysByLastPair 147 = .ok (.ireturn, 1) := by decide +kernel
theorem dX2_areUnlikeAt_0 : decode cX2_areUnlikeAt 0 = .ok (.aload_n 0, 1) := by decide +kernel
theorem dX2_areUnlikeAt_1 : decode cX2_areUnlikeAt 1 = .ok (.lload_n 1, 1) := by decide +kernel
theorem dX2_areUnlikeAt_2 : decode cX2_areUnlikeAt 2 = .ok (.iload_n 3, 1) := by decide +kernel
theorem dX2_areUnlikeAt_3 : decode cX2_areUnlikeAt 3 = .ok (.invokestatic 37, 3) := by decide +kernel
theorem dX2_areUnlikeAt_6 : decode cX2_areUnlikeAt 6 = .ok (.lload_n 1, 1) := by decide +kernel
theorem dX2_areUnlikeAt_7 : decode cX2_areUnlikeAt 7 = .ok (.iload 4, 2) := by decide +kernel
theorem dX2_areUnlikeAt_9 : decode cX2_areUnlikeAt 9 = .ok (.invokestatic 37, 3) := by decide +kernel
theorem dX2_areUnlikeAt_12 : decode cX2_areUnlikeAt 12 = .ok (.invokevirtual 48, 3) := by decide +kernel
theorem dX2_areUnlikeAt_15 : decode cX2_areUnlikeAt 15 = .ok (.ireturn, 1) := by decide +kernel
theorem dX2_waysOf_0 : decode cX2_waysOf 0 = .ok (.iload_n 1, 1) := by decide +kernel
theorem dX2_waysOf_1 : decode cX2_waysOf 1 = .ok (.iconst 0, 1) := by decide +kernel
theorem dX2_waysOf_2 : decode cX2_waysOf 2 = .ok (.bipush 16, 2) := by decide +kernel
theorem dX2_waysOf_4 : decode cX2_waysOf 4 = .ok (.invokestatic 52, 3) := by decide +kernel
theorem dX2_waysOf_7 : decode cX2_waysOf 7 = .ok (.ifCond .eq 27, 3) := by decide +kernel
theorem dX2_waysOf_10 : decode cX2_waysOf 10 = .ok (.iload_n 2, 1) := by decide +kernel
theorem dX2_waysOf_11 : decode cX2_waysOf 11 = .ok (.iconst 0, 1) := by decide +kernel
theorem dX2_waysOf_12 : decode cX2_waysOf 12 = .ok (.bipush 16, 2) := by decide +kernel
theorem dX2_waysOf_14 : decode cX2_waysOf 14 = .ok (.invokestatic 52, 3) := by decide +kernel
theorem dX2_waysOf_17 : decode cX2_waysOf 17 = .ok (.ifCond .eq 17, 3) := by decide +kernel
theorem dX2_waysOf_20 : decode cX2_waysOf 20 = .ok (.aload_n 0, 1) := by decide +kernel
theorem dX2_waysOf_21 : decode cX2_waysOf 21 = .ok (.getfield 11, 3) := by decide +kernel
theorem dX2_waysOf_24 : decode cX2_waysOf 24 = .ok (.bipush 17, 2) := by decide +kernel
theorem dX2_waysOf_26 : decode cX2_waysOf 26 = .ok (.iload_n 1, 1) := by decide +kernel
theorem dX2_waysOf_27 : decode cX2_waysOf 27 = .ok (.imul, 1) := by decide +kernel
theorem dX2_waysOf_28 : decode cX2_waysOf 28 = .ok (.iload_n 2, 1) := by decide +kernel
theorem dX2_waysOf_29 : decode cX2_waysOf 29 = .ok (.iadd, 1) := by decide +kernel
theorem dX2_waysOf_30 : decode cX2_waysOf 30 = .ok (.iaload, 1) := by decide +kernel
theorem dX2_waysOf_31 : decode cX2_waysOf 31 = .ok (.goto 4, 3) := by decide +kernel
theorem dX2_waysOf_34 : decode cX2_waysOf 34 = .ok (.iconst 0, 1) := by decide +kernel
theorem dX2_waysOf_35 : decode cX2_waysOf 35 = .ok (.ireturn, 1) := by decide +kernel
theorem dX2_setWays_0 : decode cX2_setWays 0 = .ok (.iload_n 1, 1) := by decide +kernel
theorem dX2_setWays_1 : decode cX2_setWays 1 = .ok (.iconst 0, 1) := by decide +kernel
theorem dX2_setWays_2 : decode cX2_setWays 2 = .ok (.bipush 16, 2) := by decide +kernel
theorem dX2_setWays_4 : decode cX2_setWays 4 = .ok (.invokestatic 52, 3) := by decide +kernel
theorem dX2_setWays_7 : decode cX2_setWays 7 = .ok (.ifCond .eq 25, 3) := by decide +kernel
theorem dX2_setWays_10 : decode cX2_setWays 10 = .ok (.iload_n 2, 1) := by decide +kernel
theorem dX2_setWays_11 : decode cX2_setWays 11 = .ok (.iconst 0, 1) := by decide +kernel
theorem dX2_setWays_12 : decode cX2_setWays 12 = .ok (.bipush 16, 2) := by decide +kernel
theorem dX2_setWays_14 : decode cX2_setWays 14 = .ok (.invokestatic 52, 3) := by decide +kernel
theorem dX2_setWays_17 : decode cX2_setWays 17 = .ok (.ifCond .eq 15, 3) := by decide +kernel
theorem dX2_setWays_20 : decode cX2_setWays 20 = .ok (.aload_n 0, 1) := by decide +kernel
theorem dX2_setWays_21 : decode cX2_setWays 21 = .ok (.getfield 11, 3) := by decide +kernel
theorem dX2_setWays_24 : decode cX2_setWays 24 = .ok (.bipush 17, 2) := by decide +kernel
theorem dX2_setWays_26 : decode cX2_setWays 26 = .ok (.iload_n 1, 1) := by decide +kernel
theorem dX2_setWays_27 : decode cX2_setWays 27 = .ok (.imul, 1) := by decide +kernel
theorem dX2_setWays_28 : decode cX2_setWays 28 = .ok (.iload_n 2, 1) := by decide +kernel
theorem dX2_setWays_29 : decode cX2_setWays 29 = .ok (.iadd, 1) := by decide +kernel
theorem dX2_setWays_30 : decode cX2_setWays 30 = .ok (.iload_n 3, 1) := by decide +kernel
theorem dX2_setWays_31 : decode cX2_setWays 31 = .ok (.iastore, 1) := by decide +kernel
theorem dX2_setWays_32 : decode cX2_setWays 32 = .ok (.return_, 1) := by decide +kernel
theorem dX3_lacing_0 : decode cX3_lacing 0 = .ok (.iload_n 0, 1) := by decide +kernel
theorem dX3_lacing_1 : decode cX3_lacing 1 = .ok (.iconst 3, 1) := by decide +kernel
theorem dX3_lacing_2 : decode cX3_lacing 2 = .ok (.if_icmp .ne 8, 3) := by decide +kernel
theorem dX3_lacing_5 : decode cX3_lacing 5 = .ok (.iload_n 1, 1) := by decide +kernel
theorem dX3_lacing_6 : decode cX3_lacing 6 = .ok (.invokestatic 9, 3) := by decide +kernel
theorem dX3_lacing_9 : decode cX3_lacing 9 = .ok (.lreturn, 1) := by decide +kernel
theorem dX3_lacing_10 : decode cX3_lacing 10 = .ok (.lconst 0, 1) := by decide +kernel
theorem dX3_lacing_11 : decode cX3_lacing 11 = .ok (.lstore_n 2, 1) := by decide +kernel
theorem dX3_lacing_12 : decode cX3_lacing 12 = .ok (.iconst 0, 1) := by decide +kernel
theorem dX3_lacing_13 : decode cX3_lacing 13 = .ok (.istore 4, 2) := by decide +kernel
theorem dX3_lacing_15 : decode cX3_lacing 15 = .ok (.iload 4, 2) := by decide +kernel
theorem dX3_lacing_17 : decode cX3_lacing 17 = .ok (.iload_n 1, 1) := by decide +kernel
theorem dX3_lacing_18 : decode cX3_lacing 18 = .ok (.if_icmp .ge 23, 3) := by decide +kernel
theorem dX3_lacing_21 : decode cX3_lacing 21 = .ok (.lload_n 2, 1) := by decide +kernel
theorem dX3_lacing_22 : decode cX3_lacing 22 = .ok (.iload 4, 2) := by decide +kernel
theorem dX3_lacing_24 : decode cX3_lacing 24 = .ok (.iload_n 0, 1) := by decide +kernel
theorem dX3_lacing_25 : decode cX3_lacing 25 = .ok (.iload_n 1, 1) := by decide +kernel
theorem dX3_lacing_26 : decode cX3_lacing 26 = .ok (.iload 4, 2) := by decide +kernel
theorem dX3_lacing_28 : decode cX3_lacing 28 = .ok (.invokestatic 13, 3) := by decide +kernel
theorem dX3_lacing_31 : decode cX3_lacing 31 = .ok (.invokestatic 17, 3) := by decide +kernel
theorem dX3_lacing_34 : decode cX3_lacing 34 = .ok (.lstore_n 2, 1) := by decide +kernel
theorem dX3_lacing_35 : decode cX3_lacing 35 = .ok (.iinc 4 1, 3) := by decide +kernel
theorem dX3_lacing_38 : decode cX3_lacing 38 = .ok (.goto (-23), 3) := by decide +kernel
theorem dX3_lacing_41 : decode cX3_lacing 41 = .ok (.lload_n 2, 1) := by decide +kernel
theorem dX3_lacing_42 : decode cX3_lacing 42 = .ok (.lreturn, 1) := by decide +kernel
theorem dX3_cutAt_0 : decode cX3_cutAt 0 = .ok (.lconst 0, 1) := by decide +kernel
theorem dX3_cutAt_1 : decode cX3_cutAt 1 = .ok (.lstore_n 2, 1) := by decide +kernel
theorem dX3_cutAt_2 : decode cX3_cutAt 2 = .ok (.iconst 0, 1) := by decide +kernel
theorem dX3_cutAt_3 : decode cX3_cutAt 3 = .ok (.istore 4, 2) := by decide +kernel
theorem dX3_cutAt_5 : decode cX3_cutAt 5 = .ok (.iload 4, 2) := by decide +kernel
theorem dX3_cutAt_7 : decode cX3_cutAt 7 = .ok (.iload_n 1, 1) := by decide +kernel
theorem dX3_cutAt_8 : decode cX3_cutAt 8 = .ok (.if_icmp .ge 37, 3) := by decide +kernel
theorem dX3_cutAt_11 : decode cX3_cutAt 11 = .ok (.iload 4, 2) := by decide +kernel
theorem dX3_cutAt_13 : decode cX3_cutAt 13 = .ok (.iload_n 0, 1) := by decide +kernel
theorem dX3_cutAt_14 : decode cX3_cutAt 14 = .ok (.iadd, 1) := by decide +kernel
theorem dX3_cutAt_15 : decode cX3_cutAt 15 = .ok (.istore 5, 2) := by decide +kernel
theorem dX3_cutAt_17 : decode cX3_cutAt 17 = .ok (.lload_n 2, 1) := by decide +kernel
theorem dX3_cutAt_18 : decode cX3_cutAt 18 = .ok (.iload 4, 2) := by decide +kernel
theorem dX3_cutAt_20 : decode cX3_cutAt 20 = .ok (.iload 5, 2) := by decide +kernel
theorem dX3_cutAt_22 : decode cX3_cutAt 22 = .ok (.iload_n 1, 1) := by decide +kernel
theorem dX3_cutAt_23 : decode cX3_cutAt 23 = .ok (.if_icmp .ge 8, 3) := by decide +kernel
theorem dX3_cutAt_26 : decode cX3_cutAt 26 = .ok (.iload 5, 2) := by decide +kernel
theorem dX3_cutAt_28 : decode cX3_cutAt 28 = .ok (.goto 7, 3) := by decide +kernel
theorem dX3_cutAt_31 : decode cX3_cutAt 31 = .ok (.iload 5, 2) := by decide +kernel
theorem dX3_cutAt_33 : decode cX3_cutAt 33 = .ok (.iload_n 1, 1) := by decide +kernel
theorem dX3_cutAt_34 : decode cX3_cutAt 34 = .ok (.isub, 1) := by decide +kernel
theorem dX3_cutAt_35 : decode cX3_cutAt 35 = .ok (.invokestatic 17, 3) := by decide +kernel
theorem dX3_cutAt_38 : decode cX3_cutAt 38 = .ok (.lstore_n 2, 1) := by decide +kernel
theorem dX3_cutAt_39 : decode cX3_cutAt 39 = .ok (.iinc 4 1, 3) := by decide +kernel
theorem dX3_cutAt_42 : decode cX3_cutAt 42 = .ok (.goto (-37), 3) := by decide +kernel
theorem dX3_cutAt_45 : decode cX3_cutAt 45 = .ok (.lload_n 2, 1) := by decide +kernel
theorem dX3_cutAt_46 : decode cX3_cutAt 46 = .ok (.lreturn, 1) := by decide +kernel
theorem dX3_turnedOver_0 : decode cX3_turnedOver 0 = .ok (.lconst 0, 1) := by decide +kernel
theorem dX3_turnedOver_1 : decode cX3_turnedOver 1 = .ok (.lstore_n 1, 1) := by decide +kernel
theorem dX3_turnedOver_2 : decode cX3_turnedOver 2 = .ok (.iconst 0, 1) := by decide +kernel
theorem dX3_turnedOver_3 : decode cX3_turnedOver 3 = .ok (.istore_n 3, 1) := by decide +kernel
theorem dX3_turnedOver_4 : decode cX3_turnedOver 4 = .ok (.iload_n 3, 1) := by decide +kernel
theorem dX3_turnedOver_5 : decode cX3_turnedOver 5 = .ok (.iload_n 0, 1) := by decide +kernel
theorem dX3_turnedOver_6 : decode cX3_turnedOver 6 = .ok (.if_icmp .ge 20, 3) := by decide +kernel
theorem dX3_turnedOver_9 : decode cX3_turnedOver 9 = .ok (.lload_n 1, 1) := by decide +kernel
theorem dX3_turnedOver_10 : decode cX3_turnedOver 10 = .ok (.iload_n 3, 1) := by decide +kernel
theorem dX3_turnedOver_11 : decode cX3_turnedOver 11 = .ok (.iload_n 0, 1) := by decide +kernel
theorem dX3_turnedOver_12 : decode cX3_turnedOver 12 = .ok (.iconst 1, 1) := by decide +kernel
theorem dX3_turnedOver_13 : decode cX3_turnedOver 13 = .ok (.isub, 1) := by decide +kernel
theorem dX3_turnedOver_14 : decode cX3_turnedOver 14 = .ok (.iload_n 3, 1) := by decide +kernel
theorem dX3_turnedOver_15 : decode cX3_turnedOver 15 = .ok (.isub, 1) := by decide +kernel
theorem dX3_turnedOver_16 : decode cX3_turnedOver 16 = .ok (.invokestatic 17, 3) := by decide +kernel
theorem dX3_turnedOver_19 : decode cX3_turnedOver 19 = .ok (.lstore_n 1, 1) := by decide +kernel
theorem dX3_turnedOver_20 : decode cX3_turnedOver 20 = .ok (.iinc 3 1, 3) := by decide +kernel
theorem dX3_turnedOver_23 : decode cX3_turnedOver 23 = .ok (.goto (-19), 3) := by decide +kernel
theorem dX3_turnedOver_26 : decode cX3_turnedOver 26 = .ok (.lload_n 1, 1) := by decide +kernel
theorem dX3_turnedOver_27 : decode cX3_turnedOver 27 = .ok (.lreturn, 1) := by decide +kernel
theorem dX3_goal_0 : decode cX3_goal 0 = .ok (.iload_n 0, 1) := by decide +kernel
theorem dX3_goal_1 : decode cX3_goal 1 = .ok (.ifCond .ne 11, 3) := by decide +kernel
theorem dX3_goal_4 : decode cX3_goal 4 = .ok (.iload_n 1, 1) := by decide +kernel
theorem dX3_goal_5 : decode cX3_goal 5 = .ok (.iconst 1, 1) := by decide +kernel
theorem dX3_goal_6 : decode cX3_goal 6 = .ok (.iadd, 1) := by decide +kernel
theorem dX3_goal_7 : decode cX3_goal 7 = .ok (.iconst 2, 1) := by decide +kernel
theorem dX3_goal_8 : decode cX3_goal 8 = .ok (.idiv, 1) := by decide +kernel
theorem dX3_goal_9 : decode cX3_goal 9 = .ok (.goto 6, 3) := by decide +kernel
theorem dX3_goal_12 : decode cX3_goal 12 = .ok (.iload_n 1, 1) := by decide +kernel
theorem dX3_goal_13 : decode cX3_goal 13 = .ok (.iconst 2, 1) := by decide +kernel
theorem dX3_goal_14 : decode cX3_goal 14 = .ok (.idiv, 1) := by decide +kernel
theorem dX3_goal_15 : decode cX3_goal 15 = .ok (.istore_n 3, 1) := by decide +kernel
theorem dX3_goal_16 : decode cX3_goal 16 = .ok (.iload_n 0, 1) := by decide +kernel
theorem dX3_goal_17 : decode cX3_goal 17 = .ok (.ifCond .ne 7, 3) := by decide +kernel
theorem dX3_goal_20 : decode cX3_goal 20 = .ok (.iconst 0, 1) := by decide +kernel
theorem dX3_goal_21 : decode cX3_goal 21 = .ok (.goto 4, 3) := by decide +kernel
theorem dX3_goal_24 : decode cX3_goal 24 = .ok (.iconst 1, 1) := by decide +kernel
theorem dX3_goal_25 : decode cX3_goal 25 = .ok (.istore 4, 2) := by decide +kernel
theorem dX3_goal_27 : decode cX3_goal 27 = .ok (.iload_n 2, 1) := by decide +kernel
theorem dX3_goal_28 : decode cX3_goal 28 = .ok (.iload_n 3, 1) := by decide +kernel
theorem dX3_goal_29 : decode cX3_goal 29 = .ok (.if_icmp .ge 12, 3) := by decide +kernel
theorem dX3_goal_32 : decode cX3_goal 32 = .ok (.iconst 2, 1) := by decide +kernel
theorem dX3_goal_33 : decode cX3_goal 33 = .ok (.iload_n 2, 1) := by decide +kernel
theorem dX3_goal_34 : decode cX3_goal 34 = .ok (.imul, 1) := by decide +kernel
theorem dX3_goal_35 : decode cX3_goal 35 = .ok (.iload 4, 2) := by decide +kernel
theorem dX3_goal_37 : decode cX3_goal 37 = .ok (.iadd, 1) := by decide +kernel
theorem dX3_goal_38 : decode cX3_goal 38 = .ok (.goto 13, 3) := by decide +kernel
theorem dX3_goal_41 : decode cX3_goal 41 = .ok (.iconst 2, 1) := by decide +kernel
theorem dX3_goal_42 : decode cX3_goal 42 = .ok (.iload_n 2, 1) := by decide +kernel
theorem dX3_goal_43 : decode cX3_goal 43 = .ok (.iload_n 3, 1) := by decide +kernel
theorem dX3_goal_44 : decode cX3_goal 44 = .ok (.isub, 1) := by decide +kernel
theorem dX3_goal_45 : decode cX3_goal 45 = .ok (.imul, 1) := by decide +kernel
theorem dX3_goal_46 : decode cX3_goal 46 = .ok (.iconst 1, 1) := by decide +kernel
theorem dX3_goal_47 : decode cX3_goal 47 = .ok (.iadd, 1) := by decide +kernel
theorem dX3_goal_48 : decode cX3_goal 48 = .ok (.iload 4, 2) := by decide +kernel
theorem dX3_goal_50 : decode cX3_goal 50 = .ok (.isub, 1) := by decide +kernel
theorem dX3_goal_51 : decode cX3_goal 51 = .ok (.ireturn, 1) := by decide +kernel
theorem dX3_source_0 : decode cX3_source 0 = .ok (.iload_n 2, 1) := by decide +kernel
theorem dX3_source_1 : decode cX3_source 1 = .ok (.iconst 2, 1) := by decide +kernel
theorem dX3_source_2 : decode cX3_source 2 = .ok (.idiv, 1) := by decide +kernel
theorem dX3_source_3 : decode cX3_source 3 = .ok (.istore_n 3, 1) := by decide +kernel
theorem dX3_source_4 : decode cX3_source 4 = .ok (.iload_n 2, 1) := by decide +kernel
theorem dX3_source_5 : decode cX3_source 5 = .ok (.iconst 2, 1) := by decide +kernel
theorem dX3_source_6 : decode cX3_source 6 = .ok (.irem, 1) := by decide +kernel
theorem dX3_source_7 : decode cX3_source 7 = .ok (.ifCond .ne 7, 3) := by decide +kernel
theorem dX3_source_10 : decode cX3_source 10 = .ok (.iconst 1, 1) := by decide +kernel
theorem dX3_source_11 : decode cX3_source 11 = .ok (.goto 4, 3) := by decide +kernel
theorem dX3_source_14 : decode cX3_source 14 = .ok (.iconst 0, 1) := by decide +kernel
theorem dX3_source_15 : decode cX3_source 15 = .ok (.istore 4, 2) := by decide +kernel
theorem dX3_source_17 : decode cX3_source 17 = .ok (.iload_n 0, 1) := by decide +kernel
theorem dX3_source_18 : decode cX3_source 18 = .ok (.tableswitch 73 0 2 #[26, 43, 58], 26) := by decide +kernel
theorem dX3_source_44 : decode cX3_source 44 = .ok (.iload 4, 2) := by decide +kernel
theorem dX3_source_46 : decode cX3_source 46 = .ok (.ifCond .eq 7, 3) := by decide +kernel
theorem dX3_source_49 : decode cX3_source 49 = .ok (.iload_n 3, 1) := by decide +kernel
theorem dX3_source_50 : decode cX3_source 50 = .ok (.goto 10, 3) := by decide +kernel
theorem dX3_source_53 : decode cX3_source 53 = .ok (.iload_n 1, 1) := by decide +kernel
theorem dX3_source_54 : decode cX3_source 54 = .ok (.iconst 1, 1) := by decide +kernel
theorem dX3_source_55 : decode cX3_source 55 = .ok (.iadd, 1) := by decide +kernel
theorem dX3_source_56 : decode cX3_source 56 = .ok (.iconst 2, 1) := by decide +kernel
theorem dX3_source_57 : decode cX3_source 57 = .ok (.idiv, 1) := by decide +kernel
theorem dX3_source_58 : decode cX3_source 58 = .ok (.iload_n 3, 1) := by decide +kernel
theorem dX3_source_59 : decode cX3_source 59 = .ok (.iadd, 1) := by decide +kernel
theorem dX3_source_60 : decode cX3_source 60 = .ok (.ireturn, 1) := by decide +kernel
theorem dX3_source_61 : decode cX3_source 61 = .ok (.iload 4, 2) := by decide +kernel
theorem dX3_source_63 : decode cX3_source 63 = .ok (.ifCond .eq 11, 3) := by decide +kernel
theorem dX3_source_66 : decode cX3_source 66 = .ok (.iload_n 1, 1) := by decide +kernel
theorem dX3_source_67 : decode cX3_source 67 = .ok (.iconst 2, 1) := by decide +kernel
theorem dX3_source_68 : decode cX3_source 68 = .ok (.idiv, 1) := by decide +kernel
theorem dX3_source_69 : decode cX3_source 69 = .ok (.iload_n 3, 1) := by decide +kernel
theorem dX3_source_70 : decode cX3_source 70 = .ok (.iadd, 1) := by decide +kernel
theorem dX3_source_71 : decode cX3_source 71 = .ok (.goto 4, 3) := by decide +kernel
theorem dX3_source_74 : decode cX3_source 74 = .ok (.iload_n 3, 1) := by decide +kernel
theorem dX3_source_75 : decode cX3_source 75 = .ok (.ireturn, 1) := by decide +kernel
theorem dX3_source_76 : decode cX3_source 76 = .ok (.iload 4, 2) := by decide +kernel
theorem dX3_source_78 : decode cX3_source 78 = .ok (.ifCond .eq 7, 3) := by decide +kernel
theorem dX3_source_81 : decode cX3_source 81 = .ok (.iload_n 3, 1) := by decide +kernel
theorem dX3_source_82 : decode cX3_source 82 = .ok (.goto 8, 3) := by decide +kernel
theorem dX3_source_85 : decode cX3_source 85 = .ok (.iload_n 1, 1) := by decide +kernel
theorem dX3_source_86 : decode cX3_source 86 = .ok (.iconst 1, 1) := by decide +kernel
theorem dX3_source_87 : decode cX3_source 87 = .ok (.isub, 1) := by decide +kernel
theorem dX3_source_88 : decode cX3_source 88 = .ok (.iload_n 3, 1) := by decide +kernel
theorem dX3_source_89 : decode cX3_source 89 = .ok (.isub, 1) := by decide +kernel
theorem dX3_source_90 : decode cX3_source 90 = .ok (.ireturn, 1) := by decide +kernel
theorem dX3_source_91 : decode cX3_source 91 = .ok (.iload 4, 2) := by decide +kernel
theorem dX3_source_93 : decode cX3_source 93 = .ok (.ifCond .eq 11, 3) := by decide +kernel
theorem dX3_source_96 : decode cX3_source 96 = .ok (.iload_n 1, 1) := by decide +kernel
theorem dX3_source_97 : decode cX3_source 97 = .ok (.iconst 1, 1) := by decide +kernel
theorem dX3_source_98 : decode cX3_source 98 = .ok (.isub, 1) := by decide +kernel
theorem dX3_source_99 : decode cX3_source 99 = .ok (.iload_n 3, 1) := by decide +kernel
theorem dX3_source_100 : decode cX3_source 100 = .ok (.isub, 1) := by decide +kernel
theorem dX3_source_101 : decode cX3_source 101 = .ok (.goto 4, 3) := by decide +kernel
theorem dX3_source_104 : decode cX3_source 104 = .ok (.iload_n 3, 1) := by decide +kernel
theorem dX3_source_105 : decode cX3_source 105 = .ok (.ireturn, 1) := by decide +kernel
theorem dX3_downAndUnder_0 : decode cX3_downAndUnder 0 = .ok (.iload_n 0, 1) := by decide +kernel
theorem dX3_downAndUnder_1 : decode cX3_downAndUnder 1 = .ok (.invokestatic 23, 3) := by decide +kernel
theorem dX3_downAndUnder_4 : decode cX3_downAndUnder 4 = .ok (.lstore_n 1, 1) := by decide +kernel
theorem dX3_downAndUnder_5 : decode cX3_downAndUnder 5 = .ok (.lconst 0, 1) := by decide +kernel
theorem dX3_downAndUnder_6 : decode cX3_downAndUnder 6 = .ok (.lstore_n 3, 1) := by decide +kernel
theorem dX3_downAndUnder_7 : decode cX3_downAndUnder 7 = .ok (.iconst 0, 1) := by decide +kernel
theorem dX3_downAndUnder_8 : decode cX3_downAndUnder 8 = .ok (.istore 5, 2) := by decide +kernel
theorem dX3_downAndUnder_10 : decode cX3_downAndUnder 10 = .ok (.iload 5, 2) := by decide +kernel
theorem dX3_downAndUnder_12 : decode cX3_downAndUnder 12 = .ok (.iload_n 0, 1) := by decide +kernel
theorem dX3_downAndUnder_13 : decode cX3_downAndUnder 13 = .ok (.if_icmp .ge 55, 3) := by decide +kernel
theorem dX3_downAndUnder_16 : decode cX3_downAndUnder 16 = .ok (.lload_n 3, 1) := by decide +kernel
theorem dX3_downAndUnder_17 : decode cX3_downAndUnder 17 = .ok (.iload 5, 2) := by decide +kernel
theorem dX3_downAndUnder_19 : decode cX3_downAndUnder 19 = .ok (.lload_n 1, 1) := by decide +kernel
theorem dX3_downAndUnder_20 : decode cX3_downAndUnder 20 = .ok (.iconst 0, 1) := by decide +kernel
theorem dX3_downAndUnder_21 : decode cX3_downAndUnder 21 = .ok (.invokestatic 26, 3) := by decide +kernel
theorem dX3_downAndUnder_24 : decode cX3_downAndUnder 24 = .ok (.invokestatic 17, 3) := by decide +kernel
theorem dX3_downAndUnder_27 : decode cX3_downAndUnder 27 = .ok (.lstore_n 3, 1) := by decide +kernel
theorem dX3_downAndUnder_28 : decode cX3_downAndUnder 28 = .ok (.iload_n 0, 1) := by decide +kernel
theorem dX3_downAndUnder_29 : decode cX3_downAndUnder 29 = .ok (.iconst 1, 1) := by decide +kernel
theorem dX3_downAndUnder_30 : decode cX3_downAndUnder 30 = .ok (.isub, 1) := by decide +kernel
theorem dX3_downAndUnder_31 : decode cX3_downAndUnder 31 = .ok (.iload 5, 2) := by decide +kernel
theorem dX3_downAndUnder_33 : decode cX3_downAndUnder 33 = .ok (.isub, 1) := by decide +kernel
theorem dX3_downAndUnder_34 : decode cX3_downAndUnder 34 = .ok (.istore 6, 2) := by decide +kernel
theorem dX3_downAndUnder_36 : decode cX3_downAndUnder 36 = .ok (.lload_n 1, 1) := by decide +kernel
theorem dX3_downAndUnder_37 : decode cX3_downAndUnder 37 = .ok (.iconst 4, 1) := by decide +kernel
theorem dX3_downAndUnder_38 : decode cX3_downAndUnder 38 = .ok (.lushr, 1) := by decide +kernel
theorem dX3_downAndUnder_39 : decode cX3_downAndUnder 39 = .ok (.lstore_n 1, 1) := by decide +kernel
theorem dX3_downAndUnder_40 : decode cX3_downAndUnder 40 = .ok (.iload 6, 2) := by decide +kernel
theorem dX3_downAndUnder_42 : decode cX3_downAndUnder 42 = .ok (.iconst 1, 1) := by decide +kernel
theorem dX3_downAndUnder_43 : decode cX3_downAndUnder 43 = .ok (.if_icmp .le 19, 3) := by decide +kernel
theorem dX3_downAndUnder_46 : decode cX3_downAndUnder 46 = .ok (.lload_n 1, 1) := by decide +kernel
theorem dX3_downAndUnder_47 : decode cX3_downAndUnder 47 = .ok (.iconst 4, 1) := by decide +kernel
theorem dX3_downAndUnder_48 : decode cX3_downAndUnder 48 = .ok (.lushr, 1) := by decide +kernel
theorem dX3_downAndUnder_49 : decode cX3_downAndUnder 49 = .ok (.iload 6, 2) := by decide +kernel
theorem dX3_downAndUnder_51 : decode cX3_downAndUnder 51 = .ok (.iconst 1, 1) := by decide +kernel
theorem dX3_downAndUnder_52 : decode cX3_downAndUnder 52 = .ok (.isub, 1) := by decide +kernel
theorem dX3_downAndUnder_53 : decode cX3_downAndUnder 53 = .ok (.lload_n 1, 1) := by decide +kernel
theorem dX3_downAndUnder_54 : decode cX3_downAndUnder 54 = .ok (.iconst 0, 1) := by decide +kernel
theorem dX3_downAndUnder_55 : decode cX3_downAndUnder 55 = .ok (.invokestatic 26, 3) := by decide +kernel
theorem dX3_downAndUnder_58 : decode cX3_downAndUnder 58 = .ok (.invokestatic 17, 3) := by decide +kernel
theorem dX3_downAndUnder_61 : decode cX3_downAndUnder 61 = .ok (.lstore_n 1, 1) := by decide +kernel
theorem dX3_downAndUnder_62 : decode cX3_downAndUnder 62 = .ok (.iinc 5 1, 3) := by decide +kernel
theorem dX3_downAndUnder_65 : decode cX3_downAndUnder 65 = .ok (.goto (-55), 3) := by decide +kernel
theorem dX3_downAndUnder_68 : decode cX3_downAndUnder 68 = .ok (.lload_n 3, 1) := by decide +kernel
theorem dX3_downAndUnder_69 : decode cX3_downAndUnder 69 = .ok (.lreturn, 1) := by decide +kernel
theorem dX4_inOrder_0 : decode cX4_inOrder 0 = .ok (.lconst 0, 1) := by decide +kernel
theorem dX4_inOrder_1 : decode cX4_inOrder 1 = .ok (.lstore_n 1, 1) := by decide +kernel
theorem dX4_inOrder_2 : decode cX4_inOrder 2 = .ok (.iconst 0, 1) := by decide +kernel
theorem dX4_inOrder_3 : decode cX4_inOrder 3 = .ok (.istore_n 3, 1) := by decide +kernel
theorem dX4_inOrder_4 : decode cX4_inOrder 4 = .ok (.iload_n 3, 1) := by decide +kernel
theorem dX4_inOrder_5 : decode cX4_inOrder 5 = .ok (.iload_n 0, 1) := by decide +kernel
theorem dX4_inOrder_6 : decode cX4_inOrder 6 = .ok (.if_icmp .ge 16, 3) := by decide +kernel
theorem dX4_inOrder_9 : decode cX4_inOrder 9 = .ok (.lload_n 1, 1) := by decide +kernel
theorem dX4_inOrder_10 : decode cX4_inOrder 10 = .ok (.iload_n 3, 1) := by decide +kernel
theorem dX4_inOrder_11 : decode cX4_inOrder 11 = .ok (.iload_n 3, 1) := by decide +kernel
theorem dX4_inOrder_12 : decode cX4_inOrder 12 = .ok (.invokestatic 7, 3) := by decide +kernel
theorem dX4_inOrder_15 : decode cX4_inOrder 15 = .ok (.lstore_n 1, 1) := by decide +kernel
theorem dX4_inOrder_16 : decode cX4_inOrder 16 = .ok (.iinc 3 1, 3) := by decide +kernel
theorem dX4_inOrder_19 : decode cX4_inOrder 19 = .ok (.goto (-15), 3) := by decide +kernel
theorem dX4_inOrder_22 : decode cX4_inOrder 22 = .ok (.lload_n 1, 1) := by decide +kernel
theorem dX4_inOrder_23 : decode cX4_inOrder 23 = .ok (.lreturn, 1) := by decide +kernel
theorem dX4_cardAt_0 : decode cX4_cardAt 0 = .ok (.lload_n 0, 1) := by decide +kernel
theorem dX4_cardAt_1 : decode cX4_cardAt 1 = .ok (.iconst 4, 1) := by decide +kernel
theorem dX4_cardAt_2 : decode cX4_cardAt 2 = .ok (.iload_n 2, 1) := by decide +kernel
theorem dX4_cardAt_3 : decode cX4_cardAt 3 = .ok (.imul, 1) := by decide +kernel
theorem dX4_cardAt_4 : decode cX4_cardAt 4 = .ok (.lushr, 1) := by decide +kernel
theorem dX4_cardAt_5 : decode cX4_cardAt 5 = .ok (.l2i, 1) := by decide +kernel
theorem dX4_cardAt_6 : decode cX4_cardAt 6 = .ok (.bipush 15, 2) := by decide +kernel
theorem dX4_cardAt_8 : decode cX4_cardAt 8 = .ok (.iand, 1) := by decide +kernel
theorem dX4_cardAt_9 : decode cX4_cardAt 9 = .ok (.ireturn, 1) := by decide +kernel
theorem dX4_with_0 : decode cX4_with 0 = .ok (.lload_n 0, 1) := by decide +kernel
theorem dX4_with_1 : decode cX4_with 1 = .ok (.iload_n 3, 1) := by decide +kernel
theorem dX4_with_2 : decode cX4_with 2 = .ok (.i2l, 1) := by decide +kernel
theorem dX4_with_3 : decode cX4_with 3 = .ok (.iconst 4, 1) := by decide +kernel
theorem dX4_with_4 : decode cX4_with 4 = .ok (.iload_n 2, 1) := by decide +kernel
theorem dX4_with_5 : decode cX4_with 5 = .ok (.imul, 1) := by decide +kernel
theorem dX4_with_6 : decode cX4_with 6 = .ok (.lshl, 1) := by decide +kernel
theorem dX4_with_7 : decode cX4_with 7 = .ok (.lor, 1) := by decide +kernel
theorem dX4_with_8 : decode cX4_with 8 = .ok (.lreturn, 1) := by decide +kernel
theorem dX4_placeOf_0 : decode cX4_placeOf 0 = .ok (.iconst 0, 1) := by decide +kernel
theorem dX4_placeOf_1 : decode cX4_placeOf 1 = .ok (.istore 4, 2) := by decide +kernel
theorem dX4_placeOf_3 : decode cX4_placeOf 3 = .ok (.iconst 0, 1) := by decide +kernel
theorem dX4_placeOf_4 : decode cX4_placeOf 4 = .ok (.istore 5, 2) := by decide +kernel
theorem dX4_placeOf_6 : decode cX4_placeOf 6 = .ok (.iload 5, 2) := by decide +kernel
theorem dX4_placeOf_8 : decode cX4_placeOf 8 = .ok (.iload_n 2, 1) := by decide +kernel
theorem dX4_placeOf_9 : decode cX4_placeOf 9 = .ok (.if_icmp .ge 23, 3) := by decide +kernel
theorem dX4_placeOf_12 : decode cX4_placeOf 12 = .ok (.lload_n 0, 1) := by decide +kernel
theorem dX4_placeOf_13 : decode cX4_placeOf 13 = .ok (.iload 5, 2) := by decide +kernel
theorem dX4_placeOf_15 : decode cX4_placeOf 15 = .ok (.invokestatic 13, 3) := by decide +kernel
theorem dX4_placeOf_18 : decode cX4_placeOf 18 = .ok (.iload_n 3, 1) := by decide +kernel
theorem dX4_placeOf_19 : decode cX4_placeOf 19 = .ok (.if_icmp .ne 7, 3) := by decide +kernel
theorem dX4_placeOf_22 : decode cX4_placeOf 22 = .ok (.iload 5, 2) := by decide +kernel
theorem dX4_placeOf_24 : decode cX4_placeOf 24 = .ok (.istore 4, 2) := by decide +kernel
theorem dX4_placeOf_26 : decode cX4_placeOf 26 = .ok (.iinc 5 1, 3) := by decide +kernel
theorem dX4_placeOf_29 : decode cX4_placeOf 29 = .ok (.goto (-23), 3) := by decide +kernel
theorem dX4_placeOf_32 : decode cX4_placeOf 32 = .ok (.iload 4, 2) := by decide +kernel
theorem dX4_placeOf_34 : decode cX4_placeOf 34 = .ok (.ireturn, 1) := by decide +kernel
theorem dX4_moved_0 : decode cX4_moved 0 = .ok (.lconst 0, 1) := by decide +kernel
theorem dX4_moved_1 : decode cX4_moved 1 = .ok (.lstore 5, 2) := by decide +kernel
theorem dX4_moved_3 : decode cX4_moved 3 = .ok (.iconst 0, 1) := by decide +kernel
theorem dX4_moved_4 : decode cX4_moved 4 = .ok (.istore 7, 2) := by decide +kernel
theorem dX4_moved_6 : decode cX4_moved 6 = .ok (.iload 7, 2) := by decide +kernel
theorem dX4_moved_8 : decode cX4_moved 8 = .ok (.iload 4, 2) := by decide +kernel
theorem dX4_moved_10 : decode cX4_moved 10 = .ok (.if_icmp .ge 28, 3) := by decide +kernel
theorem dX4_moved_13 : decode cX4_moved 13 = .ok (.lload 5, 2) := by decide +kernel
theorem dX4_moved_15 : decode cX4_moved 15 = .ok (.iload 7, 2) := by decide +kernel
theorem dX4_moved_17 : decode cX4_moved 17 = .ok (.lload_n 0, 1) := by decide +kernel
theorem dX4_moved_18 : decode cX4_moved 18 = .ok (.lload_n 2, 1) := by decide +kernel
theorem dX4_moved_19 : decode cX4_moved 19 = .ok (.iload 7, 2) := by decide +kernel
theorem dX4_moved_21 : decode cX4_moved 21 = .ok (.invokestatic 13, 3) := by decide +kernel
theorem dX4_moved_24 : decode cX4_moved 24 = .ok (.invokestatic 13, 3) := by decide +kernel
theorem dX4_moved_27 : decode cX4_moved 27 = .ok (.invokestatic 7, 3) := by decide +kernel
theorem dX4_moved_30 : decode cX4_moved 30 = .ok (.lstore 5, 2) := by decide +kernel
theorem dX4_moved_32 : decode cX4_moved 32 = .ok (.iinc 7 1, 3) := by decide +kernel
theorem dX4_moved_35 : decode cX4_moved 35 = .ok (.goto (-29), 3) := by decide +kernel
theorem dX4_moved_38 : decode cX4_moved 38 = .ok (.lload 5, 2) := by decide +kernel
theorem dX4_moved_40 : decode cX4_moved 40 = .ok (.lreturn, 1) := by decide +kernel
theorem dX4_sameCards_0 : decode cX4_sameCards 0 = .ok (.iconst 0, 1) := by decide +kernel
theorem dX4_sameCards_1 : decode cX4_sameCards 1 = .ok (.istore 5, 2) := by decide +kernel
theorem dX4_sameCards_3 : decode cX4_sameCards 3 = .ok (.iconst 0, 1) := by decide +kernel
theorem dX4_sameCards_4 : decode cX4_sameCards 4 = .ok (.istore 6, 2) := by decide +kernel
theorem dX4_sameCards_6 : decode cX4_sameCards 6 = .ok (.iload 6, 2) := by decide +kernel
theorem dX4_sameCards_8 : decode cX4_sameCards 8 = .ok (.iload 4, 2) := by decide +kernel
theorem dX4_sameCards_10 : decode cX4_sameCards 10 = .ok (.if_icmp .ge 27, 3) := by decide +kernel
theorem dX4_sameCards_13 : decode cX4_sameCards 13 = .ok (.lload_n 0, 1) := by decide +kernel
theorem dX4_sameCards_14 : decode cX4_sameCards 14 = .ok (.iload 6, 2) := by decide +kernel
theorem dX4_sameCards_16 : decode cX4_sameCards 16 = .ok (.invokestatic 13, 3) := by decide +kernel
theorem dX4_sameCards_19 : decode cX4_sameCards 19 = .ok (.lload_n 2, 1) := by decide +kernel
theorem dX4_sameCards_20 : decode cX4_sameCards 20 = .ok (.iload 6, 2) := by decide +kernel
theorem dX4_sameCards_22 : decode cX4_sameCards 22 = .ok (.invokestatic 13, 3) := by decide +kernel
theorem dX4_sameCards_25 : decode cX4_sameCards 25 = .ok (.if_icmp .ne 6, 3) := by decide +kernel
theorem dX4_sameCards_28 : decode cX4_sameCards 28 = .ok (.iinc 5 1, 3) := by decide +kernel
theorem dX4_sameCards_31 : decode cX4_sameCards 31 = .ok (.iinc 6 1, 3) := by decide +kernel
theorem dX4_sameCards_34 : decode cX4_sameCards 34 = .ok (.goto (-28), 3) := by decide +kernel
theorem dX4_sameCards_37 : decode cX4_sameCards 37 = .ok (.iload 5, 2) := by decide +kernel
theorem dX4_sameCards_39 : decode cX4_sameCards 39 = .ok (.ireturn, 1) := by decide +kernel
theorem dX4_risingRows_0 : decode cX4_risingRows 0 = .ok (.lconst 0, 1) := by decide +kernel
theorem dX4_risingRows_1 : decode cX4_risingRows 1 = .ok (.lstore_n 3, 1) := by decide +kernel
theorem dX4_risingRows_2 : decode cX4_risingRows 2 = .ok (.iconst 0, 1) := by decide +kernel
theorem dX4_risingRows_3 : decode cX4_risingRows 3 = .ok (.istore 5, 2) := by decide +kernel
theorem dX4_risingRows_5 : decode cX4_risingRows 5 = .ok (.iload 5, 2) := by decide +kernel
theorem dX4_risingRows_7 : decode cX4_risingRows 7 = .ok (.iload_n 2, 1) := by decide +kernel
theorem dX4_risingRows_8 : decode cX4_risingRows 8 = .ok (.if_icmp .ge 22, 3) := by decide +kernel
theorem dX4_risingRows_11 : decode cX4_risingRows 11 = .ok (.lload_n 3, 1) := by decide +kernel
theorem dX4_risingRows_12 : decode cX4_risingRows 12 = .ok (.lload_n 0, 1) := by decide +kernel
theorem dX4_risingRows_13 : decode cX4_risingRows 13 = .ok (.iload 5, 2) := by decide +kernel
theorem dX4_risingRows_15 : decode cX4_risingRows 15 = .ok (.invokestatic 13, 3) := by decide +kernel
theorem dX4_risingRows_18 : decode cX4_risingRows 18 = .ok (.iload 5, 2) := by decide +kernel
theorem dX4_risingRows_20 : decode cX4_risingRows 20 = .ok (.invokestatic 7, 3) := by decide +kernel
theorem dX4_risingRows_23 : decode cX4_risingRows 23 = .ok (.lstore_n 3, 1) := by decide +kernel
theorem dX4_risingRows_24 : decode cX4_risingRows 24 = .ok (.iinc 5 1, 3) := by decide +kernel
theorem dX4_risingRows_27 : decode cX4_risingRows 27 = .ok (.goto (-22), 3) := by decide +kernel
theorem dX4_risingRows_30 : decode cX4_risingRows 30 = .ok (.iconst 1, 1) := by decide +kernel
theorem dX4_risingRows_31 : decode cX4_risingRows 31 = .ok (.istore 5, 2) := by decide +kernel
theorem dX4_risingRows_33 : decode cX4_risingRows 33 = .ok (.iconst 0, 1) := by decide +kernel
theorem dX4_risingRows_34 : decode cX4_risingRows 34 = .ok (.istore 6, 2) := by decide +kernel
theorem dX4_risingRows_36 : decode cX4_risingRows 36 = .ok (.iload 6, 2) := by decide +kernel
theorem dX4_risingRows_38 : decode cX4_risingRows 38 = .ok (.iconst 1, 1) := by decide +kernel
theorem dX4_risingRows_39 : decode cX4_risingRows 39 = .ok (.iadd, 1) := by decide +kernel
theorem dX4_risingRows_40 : decode cX4_risingRows 40 = .ok (.iload_n 2, 1) := by decide +kernel
theorem dX4_risingRows_41 : decode cX4_risingRows 41 = .ok (.if_icmp .ge 29, 3) := by decide +kernel
theorem dX4_risingRows_44 : decode cX4_risingRows 44 = .ok (.lload_n 3, 1) := by decide +kernel
theorem dX4_risingRows_45 : decode cX4_risingRows 45 = .ok (.iload 6, 2) := by decide +kernel
theorem dX4_risingRows_47 : decode cX4_risingRows 47 = .ok (.iconst 1, 1) := by decide +kernel
theorem dX4_risingRows_48 : decode cX4_risingRows 48 = .ok (.iadd, 1) := by decide +kernel
theorem dX4_risingRows_49 : decode cX4_risingRows 49 = .ok (.invokestatic 13, 3) := by decide +kernel
theorem dX4_risingRows_52 : decode cX4_risingRows 52 = .ok (.lload_n 3, 1) := by decide +kernel
theorem dX4_risingRows_53 : decode cX4_risingRows 53 = .ok (.iload 6, 2) := by decide +kernel
theorem dX4_risingRows_55 : decode cX4_risingRows 55 = .ok (.invokestatic 13, 3) := by decide +kernel
theorem dX4_risingRows_58 : decode cX4_risingRows 58 = .ok (.if_icmp .ge 6, 3) := by decide +kernel
theorem dX4_risingRows_61 : decode cX4_risingRows 61 = .ok (.iinc 5 1, 3) := by decide +kernel
theorem dX4_risingRows_64 : decode cX4_risingRows 64 = .ok (.iinc 6 1, 3) := by decide +kernel
theorem dX4_risingRows_67 : decode cX4_risingRows 67 = .ok (.goto (-31), 3) := by decide +kernel
theorem dX4_risingRows_70 : decode cX4_risingRows 70 = .ok (.iload 5, 2) := by decide +kernel
theorem dX4_risingRows_72 : decode cX4_risingRows 72 = .ok (.ireturn, 1) := by decide +kernel
theorem dX4_roundLength_0 : decode cX4_roundLength 0 = .ok (.iload_n 3, 1) := by decide +kernel
theorem dX4_roundLength_1 : decode cX4_roundLength 1 = .ok (.istore 4, 2) := by decide +kernel
theorem dX4_roundLength_3 : decode cX4_roundLength 3 = .ok (.iconst 1, 1) := by decide +kernel
theorem dX4_roundLength_4 : decode cX4_roundLength 4 = .ok (.istore 5, 2) := by decide +kernel
theorem dX4_roundLength_6 : decode cX4_roundLength 6 = .ok (.iload 5, 2) := by decide +kernel
theorem dX4_roundLength_8 : decode cX4_roundLength 8 = .ok (.iload_n 2, 1) := by decide +kernel
theorem dX4_roundLength_9 : decode cX4_roundLength 9 = .ok (.if_icmp .ge 26, 3) := by decide +kernel
theorem dX4_roundLength_12 : decode cX4_roundLength 12 = .ok (.lload_n 0, 1) := by decide +kernel
theorem dX4_roundLength_13 : decode cX4_roundLength 13 = .ok (.iload 4, 2) := by decide +kernel
theorem dX4_roundLength_15 : decode cX4_roundLength 15 = .ok (.invokestatic 13, 3) := by decide +kernel
theorem dX4_roundLength_18 : decode cX4_roundLength 18 = .ok (.istore 4, 2) := by decide +kernel
theorem dX4_roundLength_20 : decode cX4_roundLength 20 = .ok (.iload 4, 2) := by decide +kernel
theorem dX4_roundLength_22 : decode cX4_roundLength 22 = .ok (.iload_n 3, 1) := by decide +kernel
theorem dX4_roundLength_23 : decode cX4_roundLength 23 = .ok (.if_icmp .ne 6, 3) := by decide +kernel
theorem dX4_roundLength_26 : decode cX4_roundLength 26 = .ok (.iload 5, 2) := by decide +kernel
theorem dX4_roundLength_28 : decode cX4_roundLength 28 = .ok (.ireturn, 1) := by decide +kernel
theorem dX4_roundLength_29 : decode cX4_roundLength 29 = .ok (.iinc 5 1, 3) := by decide +kernel
theorem dX4_roundLength_32 : decode cX4_roundLength 32 = .ok (.goto (-26), 3) := by decide +kernel
theorem dX4_roundLength_35 : decode cX4_roundLength 35 = .ok (.iload_n 2, 1) := by decide +kernel
theorem dX4_roundLength_36 : decode cX4_roundLength 36 = .ok (.ireturn, 1) := by decide +kernel
theorem dX4_roundCount_0 : decode cX4_roundCount 0 = .ok (.iconst 0, 1) := by decide +kernel
theorem dX4_roundCount_1 : decode cX4_roundCount 1 = .ok (.istore_n 3, 1) := by decide +kernel
theorem dX4_roundCount_2 : decode cX4_roundCount 2 = .ok (.iconst 0, 1) := by decide +kernel
theorem dX4_roundCount_3 : decode cX4_roundCount 3 = .ok (.istore 4, 2) := by decide +kernel
theorem dX4_roundCount_5 : decode cX4_roundCount 5 = .ok (.iconst 0, 1) := by decide +kernel
theorem dX4_roundCount_6 : decode cX4_roundCount 6 = .ok (.istore 5, 2) := by decide +kernel
theorem dX4_roundCount_8 : decode cX4_roundCount 8 = .ok (.iload 5, 2) := by decide +kernel
theorem dX4_roundCount_10 : decode cX4_roundCount 10 = .ok (.iload_n 2, 1) := by decide +kernel
theorem dX4_roundCount_11 : decode cX4_roundCount 11 = .ok (.if_icmp .ge 31, 3) := by decide +kernel
theorem dX4_roundCount_14 : decode cX4_roundCount 14 = .ok (.iload_n 3, 1) := by decide +kernel
theorem dX4_roundCount_15 : decode cX4_roundCount 15 = .ok (.iload 5, 2) := by decide +kernel
theorem dX4_roundCount_17 : decode cX4_roundCount 17 = .ok (.ishr, 1) := by decide +kernel
theorem dX4_roundCount_18 : decode cX4_roundCount 18 = .ok (.iconst 1, 1) := by decide +kernel
theorem dX4_roundCount_19 : decode cX4_roundCount 19 = .ok (.iand, 1) := by decide +kernel
theorem dX4_roundCount_20 : decode cX4_roundCount 20 = .ok (.ifCond .ne 16, 3) := by decide +kernel
theorem dX4_roundCount_23 : decode cX4_roundCount 23 = .ok (.iinc 4 1, 3) := by decide +kernel
theorem dX4_roundCount_26 : decode cX4_roundCount 26 = .ok (.iload_n 3, 1) := by decide +kernel
theorem dX4_roundCount_27 : decode cX4_roundCount 27 = .ok (.lload_n 0, 1) := by decide +kernel
theorem dX4_roundCount_28 : decode cX4_roundCount 28 = .ok (.iload_n 2, 1) := by decide +kernel
theorem dX4_roundCount_29 : decode cX4_roundCount 29 = .ok (.iload 5, 2) := by decide +kernel
theorem dX4_roundCount_31 : decode cX4_roundCount 31 = .ok (.invokestatic 17, 3) := by decide +kernel
theorem dX4_roundCount_34 : decode cX4_roundCount 34 = .ok (.ior, 1) := by decide +kernel
theorem dX4_roundCount_35 : decode cX4_roundCount 35 = .ok (.istore_n 3, 1) := by decide +kernel
theorem dX4_roundCount_36 : decode cX4_roundCount 36 = .ok (.iinc 5 1, 3) := by decide +kernel
theorem dX4_roundCount_39 : decode cX4_roundCount 39 = .ok (.goto (-31), 3) := by decide +kernel
theorem dX4_roundCount_42 : decode cX4_roundCount 42 = .ok (.iload 4, 2) := by decide +kernel
theorem dX4_roundCount_44 : decode cX4_roundCount 44 = .ok (.ireturn, 1) := by decide +kernel
theorem dX4_timesTillSame_0 : decode cX4_timesTillSame 0 = .ok (.iconst 1, 1) := by decide +kernel
theorem dX4_timesTillSame_1 : decode cX4_timesTillSame 1 = .ok (.istore_n 3, 1) := by decide +kernel
theorem dX4_timesTillSame_2 : decode cX4_timesTillSame 2 = .ok (.iconst 0, 1) := by decide +kernel
theorem dX4_timesTillSame_3 : decode cX4_timesTillSame 3 = .ok (.istore 4, 2) := by decide +kernel
theorem dX4_timesTillSame_5 : decode cX4_timesTillSame 5 = .ok (.iload 4, 2) := by decide +kernel
theorem dX4_timesTillSame_7 : decode cX4_timesTillSame 7 = .ok (.iload_n 2, 1) := by decide +kernel
theorem dX4_timesTillSame_8 : decode cX4_timesTillSame 8 = .ok (.if_icmp .ge 43, 3) := by decide +kernel
theorem dX4_timesTillSame_11 : decode cX4_timesTillSame 11 = .ok (.lload_n 0, 1) := by decide +kernel
theorem dX4_timesTillSame_12 : decode cX4_timesTillSame 12 = .ok (.iload_n 2, 1) := by decide +kernel
theorem dX4_timesTillSame_13 : decode cX4_timesTillSame 13 = .ok (.iload 4, 2) := by decide +kernel
theorem dX4_timesTillSame_15 : decode cX4_timesTillSame 15 = .ok (.invokestatic 21, 3) := by decide +kernel
theorem dX4_timesTillSame_18 : decode cX4_timesTillSame 18 = .ok (.istore 5, 2) := by decide +kernel
theorem dX4_timesTillSame_20 : decode cX4_timesTillSame 20 = .ok (.iload_n 3, 1) := by decide +kernel
theorem dX4_timesTillSame_21 : decode cX4_timesTillSame 21 = .ok (.iload 5, 2) := by decide +kernel
theorem dX4_timesTillSame_23 : decode cX4_timesTillSame 23 = .ok (.invokestatic 24, 3) := by decide +kernel
theorem dX4_timesTillSame_26 : decode cX4_timesTillSame 26 = .ok (.istore 6, 2) := by decide +kernel
theorem dX4_timesTillSame_28 : decode cX4_timesTillSame 28 = .ok (.iload 6, 2) := by decide +kernel
theorem dX4_timesTillSame_30 : decode cX4_timesTillSame 30 = .ok (.ifCond .le 13, 3) := by decide +kernel
theorem dX4_timesTillSame_33 : decode cX4_timesTillSame 33 = .ok (.iload_n 3, 1) := by decide +kernel
theorem dX4_timesTillSame_34 : decode cX4_timesTillSame 34 = .ok (.iload 6, 2) := by decide +kernel
theorem dX4_timesTillSame_36 : decode cX4_timesTillSame 36 = .ok (.idiv, 1) := by decide +kernel
theorem dX4_timesTillSame_37 : decode cX4_timesTillSame 37 = .ok (.iload 5, 2) := by decide +kernel
theorem dX4_timesTillSame_39 : decode cX4_timesTillSame 39 = .ok (.imul, 1) := by decide +kernel
theorem dX4_timesTillSame_40 : decode cX4_timesTillSame 40 = .ok (.goto 4, 3) := by decide +kernel
theorem dX4_timesTillSame_43 : decode cX4_timesTillSame 43 = .ok (.iload_n 3, 1) := by decide +kernel
theorem dX4_timesTillSame_44 : decode cX4_timesTillSame 44 = .ok (.istore_n 3, 1) := by decide +kernel
theorem dX4_timesTillSame_45 : decode cX4_timesTillSame 45 = .ok (.iinc 4 1, 3) := by decide +kernel
theorem dX4_timesTillSame_48 : decode cX4_timesTillSame 48 = .ok (.goto (-43), 3) := by decide +kernel
theorem dX4_timesTillSame_51 : decode cX4_timesTillSame 51 = .ok (.iload_n 3, 1) := by decide +kernel
theorem dX4_timesTillSame_52 : decode cX4_timesTillSame 52 = .ok (.ireturn, 1) := by decide +kernel
theorem dX4_roundOf_0 : decode cX4_roundOf 0 = .ok (.iconst 0, 1) := by decide +kernel
theorem dX4_roundOf_1 : decode cX4_roundOf 1 = .ok (.istore 4, 2) := by decide +kernel
theorem dX4_roundOf_3 : decode cX4_roundOf 3 = .ok (.iload_n 3, 1) := by decide +kernel
theorem dX4_roundOf_4 : decode cX4_roundOf 4 = .ok (.istore 5, 2) := by decide +kernel
theorem dX4_roundOf_6 : decode cX4_roundOf 6 = .ok (.iconst 0, 1) := by decide +kernel
theorem dX4_roundOf_7 : decode cX4_roundOf 7 = .ok (.istore 6, 2) := by decide +kernel
theorem dX4_roundOf_9 : decode cX4_roundOf 9 = .ok (.iload 6, 2) := by decide +kernel
theorem dX4_roundOf_11 : decode cX4_roundOf 11 = .ok (.iload_n 2, 1) := by decide +kernel
theorem dX4_roundOf_12 : decode cX4_roundOf 12 = .ok (.if_icmp .ge 26, 3) := by decide +kernel
theorem dX4_roundOf_15 : decode cX4_roundOf 15 = .ok (.iload 4, 2) := by decide +kernel
theorem dX4_roundOf_17 : decode cX4_roundOf 17 = .ok (.iconst 1, 1) := by decide +kernel
theorem dX4_roundOf_18 : decode cX4_roundOf 18 = .ok (.iload 5, 2) := by decide +kernel
theorem dX4_roundOf_20 : decode cX4_roundOf 20 = .ok (.ishl, 1) := by decide +kernel
theorem dX4_roundOf_21 : decode cX4_roundOf 21 = .ok (.ior, 1) := by decide +kernel
theorem dX4_roundOf_22 : decode cX4_roundOf 22 = .ok (.istore 4, 2) := by decide +kernel
theorem dX4_roundOf_24 : decode cX4_roundOf 24 = .ok (.lload_n 0, 1) := by decide +kernel
theorem dX4_roundOf_25 : decode cX4_roundOf 25 = .ok (.iload 5, 2) := by decide +kernel
theorem dX4_roundOf_27 : decode cX4_roundOf 27 = .ok (.invokestatic 13, 3) := by decide +kernel
theorem dX4_roundOf_30 : decode cX4_roundOf 30 = .ok (.istore 5, 2) := by decide +kernel
theorem dX4_roundOf_32 : decode cX4_roundOf 32 = .ok (.iinc 6 1, 3) := by decide +kernel
theorem dX4_roundOf_35 : decode cX4_roundOf 35 = .ok (.goto (-26), 3) := by decide +kernel
theorem dX4_roundOf_38 : decode cX4_roundOf 38 = .ok (.iload 4, 2) := by decide +kernel
theorem dX4_roundOf_40 : decode cX4_roundOf 40 = .ok (.ireturn, 1) := by decide +kernel
theorem dX5_init_0 : decode cX5_init 0 = .ok (.aload_n 0, 1) := by decide +kernel
theorem dX5_init_1 : decode cX5_init 1 = .ok (.invokespecial 1, 3) := by decide +kernel
theorem dX5_init_4 : decode cX5_init 4 = .ok (.return_, 1) := by decide +kernel
theorem dX5_tellNothing_0 : decode cX5_tellNothing 0 = .ok (.aload_n 0, 1) := by decide +kernel
theorem dX5_tellNothing_1 : decode cX5_tellNothing 1 = .ok (.iconst 0, 1) := by decide +kernel
theorem dX5_tellNothing_2 : decode cX5_tellNothing 2 = .ok (.putfield 7, 3) := by decide +kernel
theorem dX5_tellNothing_5 : decode cX5_tellNothing 5 = .ok (.aload_n 0, 1) := by decide +kernel
theorem dX5_tellNothing_6 : decode cX5_tellNothing 6 = .ok (.bipush 8, 2) := by decide +kernel
theorem dX5_tellNothing_8 : decode cX5_tellNothing 8 = .ok (.invokevirtual 13, 3) := by decide +kernel
theorem dX5_tellNothing_11 : decode cX5_tellNothing 11 = .ok (.return_, 1) := by decide +kernel
theorem dX5_tellFirst_0 : decode cX5_tellFirst 0 = .ok (.aload_n 0, 1) := by decide +kernel
theorem dX5_tellFirst_1 : decode cX5_tellFirst 1 = .ok (.bipush 10, 2) := by decide +kernel
theorem dX5_tellFirst_3 : decode cX5_tellFirst 3 = .ok (.invokevirtual 13, 3) := by decide +kernel
theorem dX5_tellFirst_6 : decode cX5_tellFirst 6 = .ok (.aload_n 0, 1) := by decide +kernel
theorem dX5_tellFirst_7 : decode cX5_tellFirst 7 = .ok (.iconst 3, 1) := by decide +kernel
theorem dX5_tellFirst_8 : decode cX5_tellFirst 8 = .ok (.iconst 0, 1) := by decide +kernel
theorem dX5_tellFirst_9 : decode cX5_tellFirst 9 = .ok (.invokevirtual 17, 3) := by decide +kernel
theorem dX5_tellFirst_12 : decode cX5_tellFirst 12 = .ok (.pop, 1) := by decide +kernel
theorem dX5_tellFirst_13 : decode cX5_tellFirst 13 = .ok (.aload_n 0, 1) := by decide +kernel
theorem dX5_tellFirst_14 : decode cX5_tellFirst 14 = .ok (.iconst 4, 1) := by decide +kernel
theorem dX5_tellFirst_15 : decode cX5_tellFirst 15 = .ok (.iconst 2, 1) := by decide +kernel
theorem dX5_tellFirst_16 : decode cX5_tellFirst 16 = .ok (.invokevirtual 17, 3) := by decide +kernel
theorem dX5_tellFirst_19 : decode cX5_tellFirst 19 = .ok (.pop, 1) := by decide +kernel
theorem dX5_tellFirst_20 : decode cX5_tellFirst 20 = .ok (.aload_n 0, 1) := by decide +kernel
theorem dX5_tellFirst_21 : decode cX5_tellFirst 21 = .ok (.iconst 0, 1) := by decide +kernel
theorem dX5_tellFirst_22 : decode cX5_tellFirst 22 = .ok (.invokevirtual 23, 3) := by decide +kernel
theorem dX5_tellFirst_25 : decode cX5_tellFirst 25 = .ok (.pop, 1) := by decide +kernel
theorem dX5_tellFirst_26 : decode cX5_tellFirst 26 = .ok (.aload_n 0, 1) := by decide +kernel
theorem dX5_tellFirst_27 : decode cX5_tellFirst 27 = .ok (.iconst 3, 1) := by decide +kernel
theorem dX5_tellFirst_28 : decode cX5_tellFirst 28 = .ok (.invokevirtual 27, 3) := by decide +kernel
theorem dX5_tellFirst_31 : decode cX5_tellFirst 31 = .ok (.pop, 1) := by decide +kernel
theorem dX5_tellFirst_32 : decode cX5_tellFirst 32 = .ok (.aload_n 0, 1) := by decide +kernel
theorem dX5_tellFirst_33 : decode cX5_tellFirst 33 = .ok (.iconst 1, 1) := by decide +kernel
theorem dX5_tellFirst_34 : decode cX5_tellFirst 34 = .ok (.invokevirtual 23, 3) := by decide +kernel
theorem dX5_tellFirst_37 : decode cX5_tellFirst 37 = .ok (.pop, 1) := by decide +kernel
theorem dX5_tellFirst_38 : decode cX5_tellFirst 38 = .ok (.return_, 1) := by decide +kernel
theorem dX5_become_0 : decode cX5_become 0 = .ok (.aload_n 0, 1) := by decide +kernel
theorem dX5_become_1 : decode cX5_become 1 = .ok (.aload_n 1, 1) := by decide +kernel
theorem dX5_become_2 : decode cX5_become 2 = .ok (.getfield 30, 3) := by decide +kernel
theorem dX5_become_5 : decode cX5_become 5 = .ok (.putfield 30, 3) := by decide +kernel
theorem dX5_become_8 : decode cX5_become 8 = .ok (.aload_n 0, 1) := by decide +kernel
theorem dX5_become_9 : decode cX5_become 9 = .ok (.aload_n 1, 1) := by decide +kernel
theorem dX5_become_10 : decode cX5_become 10 = .ok (.getfield 34, 3) := by decide +kernel
theorem dX5_become_13 : decode cX5_become 13 = .ok (.putfield 34, 3) := by decide +kernel
theorem dX5_become_16 : decode cX5_become 16 = .ok (.aload_n 0, 1) := by decide +kernel
theorem dX5_become_17 : decode cX5_become 17 = .ok (.aload_n 1, 1) := by decide +kernel
theorem dX5_become_18 : decode cX5_become 18 = .ok (.getfield 37, 3) := by decide +kernel
theorem dX5_become_21 : decode cX5_become 21 = .ok (.putfield 37, 3) := by decide +kernel
theorem dX5_become_24 : decode cX5_become 24 = .ok (.aload_n 0, 1) := by decide +kernel
theorem dX5_become_25 : decode cX5_become 25 = .ok (.aload_n 1, 1) := by decide +kernel
theorem dX5_become_26 : decode cX5_become 26 = .ok (.getfield 40, 3) := by decide +kernel
theorem dX5_become_29 : decode cX5_become 29 = .ok (.putfield 40, 3) := by decide +kernel
theorem dX5_become_32 : decode cX5_become 32 = .ok (.aload_n 0, 1) := by decide +kernel
theorem dX5_become_33 : decode cX5_become 33 = .ok (.aload_n 1, 1) := by decide +kernel
theorem dX5_become_34 : decode cX5_become 34 = .ok (.getfield 7, 3) := by decide +kernel
theorem dX5_become_37 : decode cX5_become 37 = .ok (.putfield 7, 3) := by decide +kernel
theorem dX5_become_40 : decode cX5_become 40 = .ok (.return_, 1) := by decide +kernel
theorem dX5_tellCards_0 : decode cX5_tellCards 0 = .ok (.aload_n 0, 1) := by decide +kernel
theorem dX5_tellCards_1 : decode cX5_tellCards 1 = .ok (.getfield 7, 3) := by decide +kernel
theorem dX5_tellCards_4 : decode cX5_tellCards 4 = .ok (.ifCond .ne 13, 3) := by decide +kernel
theorem dX5_tellCards_7 : decode cX5_tellCards 7 = .ok (.iload_n 1, 1) := by decide +kernel
theorem dX5_tellCards_8 : decode cX5_tellCards 8 = .ok (.iconst 2, 1) := by decide +kernel
theorem dX5_tellCards_9 : decode cX5_tellCards 9 = .ok (.bipush 16, 2) := by decide +kernel
theorem dX5_tellCards_11 : decode cX5_tellCards 11 = .ok (.invokestatic 46, 3) := by decide +kernel
theorem dX5_tellCards_14 : decode cX5_tellCards 14 = .ok (.ifCond .ne 5, 3) := by decide +kernel
theorem dX5_tellCards_17 : decode cX5_tellCards 17 = .ok (.iconst 0, 1) := by decide +kernel
theorem dX5_tellCards_18 : decode cX5_tellCards 18 = .ok (.ireturn, 1) := by decide +kernel
theorem dX5_tellCards_19 : decode cX5_tellCards 19 = .ok (.aload_n 0, 1) := by decide +kernel
theorem dX5_tellCards_20 : decode cX5_tellCards 20 = .ok (.iload_n 1, 1) := by decide +kernel
theorem dX5_tellCards_21 : decode cX5_tellCards 21 = .ok (.invokevirtual 13, 3) := by decide +kernel
theorem dX5_tellCards_24 : decode cX5_tellCards 24 = .ok (.iconst 1, 1) := by decide +kernel
theorem dX5_tellCards_25 : decode cX5_tellCards 25 = .ok (.ireturn, 1) := by decide +kernel
theorem dX5_tellColour_0 : decode cX5_tellColour 0 = .ok (.iload_n 1, 1) := by decide +kernel
theorem dX5_tellColour_1 : decode cX5_tellColour 1 = .ok (.iconst 0, 1) := by decide +kernel
theorem dX5_tellColour_2 : decode cX5_tellColour 2 = .ok (.aload_n 0, 1) := by decide +kernel
theorem dX5_tellColour_3 : decode cX5_tellColour 3 = .ok (.getfield 30, 3) := by decide +kernel
theorem dX5_tellColour_6 : decode cX5_tellColour 6 = .ok (.iconst 1, 1) := by decide +kernel
theorem dX5_tellColour_7 : decode cX5_tellColour 7 = .ok (.isub, 1) := by decide +kernel
theorem dX5_tellColour_8 : decode cX5_tellColour 8 = .ok (.invokestatic 46, 3) := by decide +kernel
theorem dX5_tellColour_11 : decode cX5_tellColour 11 = .ok (.ifCond .eq 12, 3) := by decide +kernel
theorem dX5_tellColour_14 : decode cX5_tellColour 14 = .ok (.iload_n 2, 1) := by decide +kernel
theorem dX5_tellColour_15 : decode cX5_tellColour 15 = .ok (.iconst 0, 1) := by decide +kernel
theorem dX5_tellColour_16 : decode cX5_tellColour 16 = .ok (.iconst 3, 1) := by decide +kernel
theorem dX5_tellColour_17 : decode cX5_tellColour 17 = .ok (.invokestatic 46, 3) := by decide +kernel
theorem dX5_tellColour_20 : decode cX5_tellColour 20 = .ok (.ifCond .ne 5, 3) := by decide +kernel
theorem dX5_tellColour_23 : decode cX5_tellColour 23 = .ok (.iconst 0, 1) := by decide +kernel
theorem dX5_tellColour_24 : decode cX5_tellColour 24 = .ok (.ireturn, 1) := by decide +kernel
theorem dX5_tellColour_25 : decode cX5_tellColour 25 = .ok (.aload_n 0, 1) := by decide +kernel
theorem dX5_tellColour_26 : decode cX5_tellColour 26 = .ok (.iconst 1, 1) := by decide +kernel
theorem dX5_tellColour_27 : decode cX5_tellColour 27 = .ok (.putfield 7, 3) := by decide +kernel
theorem dX5_tellColour_30 : decode cX5_tellColour 30 = .ok (.aload_n 0, 1) := by decide +kernel
theorem dX5_tellColour_31 : decode cX5_tellColour 31 = .ok (.aload_n 0, 1) := by decide +kernel
theorem dX5_tellColour_32 : decode cX5_tellColour 32 = .ok (.getfield 34, 3) := by decide +kernel
theorem dX5_tellColour_35 : decode cX5_tellColour 35 = .ok (.iconst 3, 1) := by decide +kernel
theorem dX5_tellColour_36 : decode cX5_tellColour 36 = .ok (.iconst 2, 1) := by decide +kernel
theorem dX5_tellColour_37 : decode cX5_tellColour 37 = .ok (.iload_n 1, 1) := by decide +kernel
theorem dX5_tellColour_38 : decode cX5_tellColour 38 = .ok (.imul, 1) := by decide +kernel
theorem dX5_tellColour_39 : decode cX5_tellColour 39 = .ok (.ishl, 1) := by decide +kernel
theorem dX5_tellColour_40 : decode cX5_tellColour 40 = .ok (.iconst (-1), 1) := by decide +kernel
theorem dX5_tellColour_41 : decode cX5_tellColour 41 = .ok (.ixor, 1) := by decide +kernel
theorem dX5_tellColour_42 : decode cX5_tellColour 42 = .ok (.iand, 1) := by decide +kernel
theorem dX5_tellColour_43 : decode cX5_tellColour 43 = .ok (.iload_n 2, 1) := by decide +kernel
theorem dX5_tellColour_44 : decode cX5_tellColour 44 = .ok (.iconst 2, 1) := by decide +kernel
theorem dX5_tellColour_45 : decode cX5_tellColour 45 = .ok (.iload_n 1, 1) := by decide +kernel
theorem dX5_tellColour_46 : decode cX5_tellColour 46 = .ok (.imul, 1) := by decide +kernel
theorem dX5_tellColour_47 : decode cX5_tellColour 47 = .ok (.ishl, 1) := by decide +kernel
theorem dX5_tellColour_48 : decode cX5_tellColour 48 = .ok (.ior, 1) := by decide +kernel
theorem dX5_tellColour_49 : decode cX5_tellColour 49 = .ok (.putfield 34, 3) := by decide +kernel
theorem dX5_tellColour_52 : decode cX5_tellColour 52 = .ok (.iconst 1, 1) := by decide +kernel
theorem dX5_tellColour_53 : decode cX5_tellColour 53 = .ok (.ireturn, 1) := by decide +kernel
theorem dX5_tellLacing_0 : decode cX5_tellLacing 0 = .ok (.iload_n 1, 1) := by decide +kernel
theorem dX5_tellLacing_1 : decode cX5_tellLacing 1 = .ok (.invokestatic 52, 3) := by decide +kernel
theorem dX5_tellLacing_4 : decode cX5_tellLacing 4 = .ok (.ifCond .eq 22, 3) := by decide +kernel
theorem dX5_tellLacing_7 : decode cX5_tellLacing 7 = .ok (.aload_n 0, 1) := by decide +kernel
theorem dX5_tellLacing_8 : decode cX5_tellLacing 8 = .ok (.iload_n 1, 1) := by decide +kernel
theorem dX5_tellLacing_9 : decode cX5_tellLacing 9 = .ok (.aload_n 0, 1) := by decide +kernel
theorem dX5_tellLacing_10 : decode cX5_tellLacing 10 = .ok (.getfield 30, 3) := by decide +kernel
theorem dX5_tellLacing_13 : decode cX5_tellLacing 13 = .ok (.invokestatic 55, 3) := by decide +kernel
theorem dX5_tellLacing_16 : decode cX5_tellLacing 16 = .ok (.invokevirtual 59, 3) := by decide +kernel
theorem dX5_tellLacing_19 : decode cX5_tellLacing 19 = .ok (.ifCond .eq 7, 3) := by decide +kernel
theorem dX5_tellLacing_22 : decode cX5_tellLacing 22 = .ok (.iconst 1, 1) := by decide +kernel
theorem dX5_tellLacing_23 : decode cX5_tellLacing 23 = .ok (.goto 4, 3) := by decide +kernel
theorem dX5_tellLacing_26 : decode cX5_tellLacing 26 = .ok (.iconst 0, 1) := by decide +kernel
theorem dX5_tellLacing_27 : decode cX5_tellLacing 27 = .ok (.ireturn, 1) := by decide +kernel
theorem dX5_tellCut_0 : decode cX5_tellCut 0 = .ok (.iload_n 1, 1) := by decide +kernel
theorem dX5_tellCut_1 : decode cX5_tellCut 1 = .ok (.iconst 0, 1) := by decide +kernel
theorem dX5_tellCut_2 : decode cX5_tellCut 2 = .ok (.aload_n 0, 1) := by decide +kernel
theorem dX5_tellCut_3 : decode cX5_tellCut 3 = .ok (.getfield 30, 3) := by decide +kernel
theorem dX5_tellCut_6 : decode cX5_tellCut 6 = .ok (.iconst 1, 1) := by decide +kernel
theorem dX5_tellCut_7 : decode cX5_tellCut 7 = .ok (.isub, 1) := by decide +kernel
theorem dX5_tellCut_8 : decode cX5_tellCut 8 = .ok (.invokestatic 46, 3) := by decide +kernel
theorem dX5_tellCut_11 : decode cX5_tellCut 11 = .ok (.ifCond .eq 22, 3) := by decide +kernel
theorem dX5_tellCut_14 : decode cX5_tellCut 14 = .ok (.aload_n 0, 1) := by decide +kernel
theorem dX5_tellCut_15 : decode cX5_tellCut 15 = .ok (.iload_n 1, 1) := by decide +kernel
theorem dX5_tellCut_16 : decode cX5_tellCut 16 = .ok (.aload_n 0, 1) := by decide +kernel
theorem dX5_tellCut_17 : decode cX5_tellCut 17 = .ok (.getfield 30, 3) := by decide +kernel
theorem dX5_tellCut_20 : decode cX5_tellCut 20 = .ok (.invokestatic 63, 3) := by decide +kernel
theorem dX5_tellCut_23 : decode cX5_tellCut 23 = .ok (.invokevirtual 59, 3) := by decide +kernel
theorem dX5_tellCut_26 : decode cX5_tellCut 26 = .ok (.ifCond .eq 7, 3) := by decide +kernel
theorem dX5_tellCut_29 : decode cX5_tellCut 29 = .ok (.iconst 1, 1) := by decide +kernel
theorem dX5_tellCut_30 : decode cX5_tellCut 30 = .ok (.goto 4, 3) := by decide +kernel
theorem dX5_tellCut_33 : decode cX5_tellCut 33 = .ok (.iconst 0, 1) := by decide +kernel
theorem dX5_tellCut_34 : decode cX5_tellCut 34 = .ok (.ireturn, 1) := by decide +kernel
theorem dX5_colourOf_0 : decode cX5_colourOf 0 = .ok (.aload_n 0, 1) := by decide +kernel
theorem dX5_colourOf_1 : decode cX5_colourOf 1 = .ok (.getfield 34, 3) := by decide +kernel
theorem dX5_colourOf_4 : decode cX5_colourOf 4 = .ok (.iconst 2, 1) := by decide +kernel
theorem dX5_colourOf_5 : decode cX5_colourOf 5 = .ok (.iload_n 1, 1) := by decide +kernel
theorem dX5_colourOf_6 : decode cX5_colourOf 6 = .ok (.imul, 1) := by decide +kernel
theorem dX5_colourOf_7 : decode cX5_colourOf 7 = .ok (.iushr, 1) := by decide +kernel
theorem dX5_colourOf_8 : decode cX5_colourOf 8 = .ok (.iconst 3, 1) := by decide +kernel
theorem dX5_colourOf_9 : decode cX5_colourOf 9 = .ok (.iand, 1) := by decide +kernel
theorem dX5_colourOf_10 : decode cX5_colourOf 10 = .ok (.ireturn, 1) := by decide +kernel
theorem dX5_areUnlike_0 : decode cX5_areUnlike 0 = .ok (.aload_n 0, 1) := by decide +kernel
theorem dX5_areUnlike_1 : decode cX5_areUnlike 1 = .ok (.iload_n 1, 1) := by decide +kernel
theorem dX5_areUnlike_2 : decode cX5_areUnlike 2 = .ok (.invokevirtual 66, 3) := by decide +kernel
theorem dX5_areUnlike_5 : decode cX5_areUnlike 5 = .ok (.aload_n 0, 1) := by decide +kernel
theorem dX5_areUnlike_6 : decode cX5_areUnlike 6 = .ok (.iload_n 2, 1) := by decide +kernel
theorem dX5_areUnlike_7 : decode cX5_areUnlike 7 = .ok (.invokevirtual 66, 3) := by decide +kernel
theorem dX5_areUnlike_10 : decode cX5_areUnlike 10 = .ok (.if_icmp .eq 7, 3) := by decide +kernel
theorem dX5_areUnlike_13 : decode cX5_areUnlike 13 = .ok (.iconst 1, 1) := by decide +kernel
theorem dX5_areUnlike_14 : decode cX5_areUnlike 14 = .ok (.goto 4, 3) := by decide +kernel
theorem dX5_areUnlike_17 : decode cX5_areUnlike 17 = .ok (.iconst 0, 1) := by decide +kernel
theorem dX5_areUnlike_18 : decode cX5_areUnlike 18 = .ok (.ireturn, 1) := by decide +kernel
theorem dX5_begin_0 : decode cX5_begin 0 = .ok (.aload_n 0, 1) := by decide +kernel
theorem dX5_begin_1 : decode cX5_begin 1 = .ok (.iload_n 1, 1) := by decide +kernel
theorem dX5_begin_2 : decode cX5_begin 2 = .ok (.putfield 30, 3) := by decide +kernel
theorem dX5_begin_5 : decode cX5_begin 5 = .ok (.aload_n 0, 1) := by decide +kernel
theorem dX5_begin_6 : decode cX5_begin 6 = .ok (.ldc 70, 2) := by decide +kernel
theorem dX5_begin_8 : decode cX5_begin 8 = .ok (.putfield 34, 3) := by decide +kernel
theorem dX5_begin_11 : decode cX5_begin 11 = .ok (.aload_n 0, 1) := by decide +kernel
theorem dX5_begin_12 : decode cX5_begin 12 = .ok (.iconst 0, 1) := by decide +kernel
theorem dX5_begin_13 : decode cX5_begin 13 = .ok (.putfield 37, 3) := by decide +kernel
theorem dX5_begin_16 : decode cX5_begin 16 = .ok (.aload_n 0, 1) := by decide +kernel
theorem dX5_begin_17 : decode cX5_begin 17 = .ok (.iload_n 1, 1) := by decide +kernel
theorem dX5_begin_18 : decode cX5_begin 18 = .ok (.invokestatic 71, 3) := by decide +kernel
theorem dX5_begin_21 : decode cX5_begin 21 = .ok (.putfield 40, 3) := by decide +kernel
theorem dX5_begin_24 : decode cX5_begin 24 = .ok (.return_, 1) := by decide +kernel
theorem dX5_addAct_0 : decode cX5_addAct 0 = .ok (.aload_n 0, 1) := by decide +kernel
theorem dX5_addAct_1 : decode cX5_addAct 1 = .ok (.getfield 37, 3) := by decide +kernel
theorem dX5_addAct_4 : decode cX5_addAct 4 = .ok (.bipush 16, 2) := by decide +kernel
theorem dX5_addAct_6 : decode cX5_addAct 6 = .ok (.if_icmp .lt 5, 3) := by decide +kernel
theorem dX5_addAct_9 : decode cX5_addAct 9 = .ok (.iconst 0, 1) := by decide +kernel
theorem dX5_addAct_10 : decode cX5_addAct 10 = .ok (.ireturn, 1) := by decide +kernel
theorem dX5_addAct_11 : decode cX5_addAct 11 = .ok (.aload_n 0, 1) := by decide +kernel
theorem dX5_addAct_12 : decode cX5_addAct 12 = .ok (.iconst 1, 1) := by decide +kernel
theorem dX5_addAct_13 : decode cX5_addAct 13 = .ok (.putfield 7, 3) := by decide +kernel
theorem dX5_addAct_16 : decode cX5_addAct 16 = .ok (.aload_n 0, 1) := by decide +kernel
theorem dX5_addAct_17 : decode cX5_addAct 17 = .ok (.aload_n 0, 1) := by decide +kernel
theorem dX5_addAct_18 : decode cX5_addAct 18 = .ok (.getfield 40, 3) := by decide +kernel
theorem dX5_addAct_21 : decode cX5_addAct 21 = .ok (.lload_n 1, 1) := by decide +kernel
theorem dX5_addAct_22 : decode cX5_addAct 22 = .ok (.aload_n 0, 1) := by decide +kernel
theorem dX5_addAct_23 : decode cX5_addAct 23 = .ok (.getfield 30, 3) := by decide +kernel
theorem dX5_addAct_26 : decode cX5_addAct 26 = .ok (.invokestatic 75, 3) := by decide +kernel
theorem dX5_addAct_29 : decode cX5_addAct 29 = .ok (.putfield 40, 3) := by decide +kernel
theorem dX5_addAct_32 : decode cX5_addAct 32 = .ok (.aload_n 0, 1) := by decide +kernel
theorem dX5_addAct_33 : decode cX5_addAct 33 = .ok (.dup, 1) := by decide +kernel
theorem dX5_addAct_34 : decode cX5_addAct 34 = .ok (.getfield 37, 3) := by decide +kernel
theorem dX5_addAct_37 : decode cX5_addAct 37 = .ok (.iconst 1, 1) := by decide +kernel
theorem dX5_addAct_38 : decode cX5_addAct 38 = .ok (.iadd, 1) := by decide +kernel
theorem dX5_addAct_39 : decode cX5_addAct 39 = .ok (.putfield 37, 3) := by decide +kernel
theorem dX5_addAct_42 : decode cX5_addAct 42 = .ok (.iconst 1, 1) := by decide +kernel
theorem dX5_addAct_43 : decode cX5_addAct 43 = .ok (.ireturn, 1) := by decide +kernel
theorem dX6_init_0 : decode cX6_init 0 = .ok (.aload_n 0, 1) := by decide +kernel
theorem dX6_init_1 : decode cX6_init 1 = .ok (.invokespecial 1, 3) := by decide +kernel
theorem dX6_init_4 : decode cX6_init 4 = .ok (.aload_n 0, 1) := by decide +kernel
theorem dX6_init_5 : decode cX6_init 5 = .ok (.iload_n 1, 1) := by decide +kernel
theorem dX6_init_6 : decode cX6_init 6 = .ok (.iconst 1, 1) := by decide +kernel
theorem dX6_init_7 : decode cX6_init 7 = .ok (.invokestatic 7, 3) := by decide +kernel
theorem dX6_init_10 : decode cX6_init 10 = .ok (.newarray .long, 2) := by decide +kernel
theorem dX6_init_12 : decode cX6_init 12 = .ok (.putfield 13, 3) := by decide +kernel
theorem dX6_init_15 : decode cX6_init 15 = .ok (.return_, 1) := by decide +kernel
theorem dX6_isFull_0 : decode cX6_isFull 0 = .ok (.aload_n 0, 1) := by decide +kernel
theorem dX6_isFull_1 : decode cX6_isFull 1 = .ok (.getfield 19, 3) := by decide +kernel
theorem dX6_isFull_4 : decode cX6_isFull 4 = .ok (.aload_n 0, 1) := by decide +kernel
theorem dX6_isFull_5 : decode cX6_isFull 5 = .ok (.getfield 13, 3) := by decide +kernel
theorem dX6_isFull_8 : decode cX6_isFull 8 = .ok (.arraylength, 1) := by decide +kernel
theorem dX6_isFull_9 : decode cX6_isFull 9 = .ok (.if_icmp .lt 7, 3) := by decide +kernel
theorem dX6_isFull_12 : decode cX6_isFull 12 = .ok (.iconst 1, 1) := by decide +kernel
theorem dX6_isFull_13 : decode cX6_isFull 13 = .ok (.goto 4, 3) := by decide +kernel
theorem dX6_isFull_16 : decode cX6_isFull 16 = .ok (.iconst 0, 1) := by decide +kernel
theorem dX6_isFull_17 : decode cX6_isFull 17 = .ok (.ireturn, 1) := by decide +kernel
theorem dX6_put_0 : decode cX6_put 0 = .ok (.aload_n 0, 1) := by decide +kernel
theorem dX6_put_1 : decode cX6_put 1 = .ok (.invokevirtual 23, 3) := by decide +kernel
theorem dX6_put_4 : decode cX6_put 4 = .ok (.ifCond .eq 34, 3) := by decide +kernel
theorem dX6_put_7 : decode cX6_put 7 = .ok (.aload_n 0, 1) := by decide +kernel
theorem dX6_put_8 : decode cX6_put 8 = .ok (.getfield 13, 3) := by decide +kernel
theorem dX6_put_11 : decode cX6_put 11 = .ok (.iconst 1, 1) := by decide +kernel
theorem dX6_put_12 : decode cX6_put 12 = .ok (.aload_n 0, 1) := by decide +kernel
theorem dX6_put_13 : decode cX6_put 13 = .ok (.getfield 13, 3) := by decide +kernel
theorem dX6_put_16 : decode cX6_put 16 = .ok (.iconst 0, 1) := by decide +kernel
theorem dX6_put_17 : decode cX6_put 17 = .ok (.aload_n 0, 1) := by decide +kernel
theorem dX6_put_18 : decode cX6_put 18 = .ok (.getfield 13, 3) := by decide +kernel
theorem dX6_put_21 : decode cX6_put 21 = .ok (.arraylength, 1) := by decide +kernel
theorem dX6_put_22 : decode cX6_put 22 = .ok (.iconst 1, 1) := by decide +kernel
theorem dX6_put_23 : decode cX6_put 23 = .ok (.isub, 1) := by decide +kernel
theorem dX6_put_24 : decode cX6_put 24 = .ok (.invokestatic 27, 3) := by decide +kernel
theorem dX6_put_27 : decode cX6_put 27 = .ok (.aload_n 0, 1) := by decide +kernel
theorem dX6_put_28 : decode cX6_put 28 = .ok (.aload_n 0, 1) := by decide +kernel
theorem dX6_put_29 : decode cX6_put 29 = .ok (.getfield 13, 3) := by decide +kernel
theorem dX6_put_32 : decode cX6_put 32 = .ok (.arraylength, 1) := by decide +kernel
theorem dX6_put_33 : decode cX6_put 33 = .ok (.iconst 1, 1) := by decide +kernel
theorem dX6_put_34 : decode cX6_put 34 = .ok (.isub, 1) := by decide +kernel
theorem dX6_put_35 : decode cX6_put 35 = .ok (.putfield 19, 3) := by decide +kernel
theorem dX6_put_38 : decode cX6_put 38 = .ok (.aload_n 0, 1) := by decide +kernel
theorem dX6_put_39 : decode cX6_put 39 = .ok (.getfield 19, 3) := by decide +kernel
theorem dX6_put_42 : decode cX6_put 42 = .ok (.ifCond .lt 35, 3) := by decide +kernel
theorem dX6_put_45 : decode cX6_put 45 = .ok (.aload_n 0, 1) := by decide +kernel
theorem dX6_put_46 : decode cX6_put 46 = .ok (.getfield 19, 3) := by decide +kernel
theorem dX6_put_49 : decode cX6_put 49 = .ok (.aload_n 0, 1) := by decide +kernel
theorem dX6_put_50 : decode cX6_put 50 = .ok (.getfield 13, 3) := by decide +kernel
theorem dX6_put_53 : decode cX6_put 53 = .ok (.arraylength, 1) := by decide +kernel
theorem dX6_put_54 : decode cX6_put 54 = .ok (.if_icmp .ge 23, 3) := by decide +kernel
theorem dX6_put_57 : decode cX6_put 57 = .ok (.aload_n 0, 1) := by decide +kernel
theorem dX6_put_58 : decode cX6_put 58 = .ok (.getfield 13, 3) := by decide +kernel
theorem dX6_put_61 : decode cX6_put 61 = .ok (.aload_n 0, 1) := by decide +kernel
theorem dX6_put_62 : decode cX6_put 62 = .ok (.getfield 19, 3) := by decide +kernel
theorem dX6_put_65 : decode cX6_put 65 = .ok (.lload_n 1, 1) := by decide +kernel
theorem dX6_put_66 : decode cX6_put 66 = .ok (.lastore, 1) := by decide +kernel
theorem dX6_put_67 : decode cX6_put 67 = .ok (.aload_n 0, 1) := by decide +kernel
theorem dX6_put_68 : decode cX6_put 68 = .ok (.dup, 1) := by decide +kernel
theorem dX6_put_69 : decode cX6_put 69 = .ok (.getfield 19, 3) := by decide +kernel
theorem dX6_put_72 : decode cX6_put 72 = .ok (.iconst 1, 1) := by decide +kernel
theorem dX6_put_73 : decode cX6_put 73 = .ok (.iadd, 1) := by decide +kernel
theorem dX6_put_74 : decode cX6_put 74 = .ok (.putfield 19, 3) := by decide +kernel
theorem dX6_put_77 : decode cX6_put 77 = .ok (.return_, 1) := by decide +kernel
theorem dX6_takeLast_0 : decode cX6_takeLast 0 = .ok (.aload_n 0, 1) := by decide +kernel
theorem dX6_takeLast_1 : decode cX6_takeLast 1 = .ok (.getfield 19, 3) := by decide +kernel
theorem dX6_takeLast_4 : decode cX6_takeLast 4 = .ok (.ifCond .le 15, 3) := by decide +kernel
theorem dX6_takeLast_7 : decode cX6_takeLast 7 = .ok (.aload_n 0, 1) := by decide +kernel
theorem dX6_takeLast_8 : decode cX6_takeLast 8 = .ok (.getfield 19, 3) := by decide +kernel
theorem dX6_takeLast_11 : decode cX6_takeLast 11 = .ok (.aload_n 0, 1) := by decide +kernel
theorem dX6_takeLast_12 : decode cX6_takeLast 12 = .ok (.getfield 13, 3) := by decide +kernel
theorem dX6_takeLast_15 : decode cX6_takeLast 15 = .ok (.arraylength, 1) := by decide +kernel
theorem dX6_takeLast_16 : decode cX6_takeLast 16 = .ok (.if_icmp .le 5, 3) := by decide +kernel
theorem dX6_takeLast_19 : decode cX6_takeLast 19 = .ok (.lconst 0, 1) := by decide +kernel
theorem dX6_takeLast_20 : decode cX6_takeLast 20 = .ok (.lreturn, 1) := by decide +kernel
theorem dX6_takeLast_21 : decode cX6_takeLast 21 = .ok (.aload_n 0, 1) := by decide +kernel
theorem dX6_takeLast_22 : decode cX6_takeLast 22 = .ok (.dup, 1) := by decide +kernel
theorem dX6_takeLast_23 : decode cX6_takeLast 23 = .ok (.getfield 19, 3) := by decide +kernel
theorem dX6_takeLast_26 : decode cX6_takeLast 26 = .ok (.iconst 1, 1) := by decide +kernel
theorem dX6_takeLast_27 : decode cX6_takeLast 27 = .ok (.isub, 1) := by decide +kernel
theorem dX6_takeLast_28 : decode cX6_takeLast 28 = .ok (.putfield 19, 3) := by decide +kernel
theorem dX6_takeLast_31 : decode cX6_takeLast 31 = .ok (.aload_n 0, 1) := by decide +kernel
theorem dX6_takeLast_32 : decode cX6_takeLast 32 = .ok (.getfield 13, 3) := by decide +kernel
theorem dX6_takeLast_35 : decode cX6_takeLast 35 = .ok (.aload_n 0, 1) := by decide +kernel
theorem dX6_takeLast_36 : decode cX6_takeLast 36 = .ok (.getfield 19, 3) := by decide +kernel
theorem dX6_takeLast_39 : decode cX6_takeLast 39 = .ok (.laload, 1) := by decide +kernel
theorem dX6_takeLast_40 : decode cX6_takeLast 40 = .ok (.lreturn, 1) := by decide +kernel
theorem dX7_init_0 : decode cX7_init 0 = .ok (.aload_n 0, 1) := by decide +kernel
theorem dX7_init_1 : decode cX7_init 1 = .ok (.invokespecial 1, 3) := by decide +kernel
theorem dX7_init_4 : decode cX7_init 4 = .ok (.aload_n 0, 1) := by decide +kernel
theorem dX7_init_5 : decode cX7_init 5 = .ok (.bipush 8, 2) := by decide +kernel
theorem dX7_init_7 : decode cX7_init 7 = .ok (.newarray .int, 2) := by decide +kernel
theorem dX7_init_9 : decode cX7_init 9 = .ok (.putfield 9, 3) := by decide +kernel
theorem dX7_init_12 : decode cX7_init 12 = .ok (.aload_n 0, 1) := by decide +kernel
theorem dX7_init_13 : decode cX7_init 13 = .ok (.bipush 8, 2) := by decide +kernel
theorem dX7_init_15 : decode cX7_init 15 = .ok (.newarray .int, 2) := by decide +kernel
theorem dX7_init_17 : decode cX7_init 17 = .ok (.putfield 13, 3) := by decide +kernel
theorem dX7_init_20 : decode cX7_init 20 = .ok (.return_, 1) := by decide +kernel
theorem dX7_add_0 : decode cX7_add 0 = .ok (.aload_n 0, 1) := by decide +kernel
theorem dX7_add_1 : decode cX7_add 1 = .ok (.getfield 16, 3) := by decide +kernel
theorem dX7_add_4 : decode cX7_add 4 = .ok (.ifCond .lt 12, 3) := by decide +kernel
theorem dX7_add_7 : decode cX7_add 7 = .ok (.aload_n 0, 1) := by decide +kernel
theorem dX7_add_8 : decode cX7_add 8 = .ok (.getfield 16, 3) := by decide +kernel
theorem dX7_add_11 : decode cX7_add 11 = .ok (.bipush 8, 2) := by decide +kernel
theorem dX7_add_13 : decode cX7_add 13 = .ok (.if_icmp .lt 5, 3) := by decide +kernel
theorem dX7_add_16 : decode cX7_add 16 = .ok (.iconst 0, 1) := by decide +kernel
theorem dX7_add_17 : decode cX7_add 17 = .ok (.ireturn, 1) := by decide +kernel
theorem dX7_add_18 : decode cX7_add 18 = .ok (.aload_n 0, 1) := by decide +kernel
theorem dX7_add_19 : decode cX7_add 19 = .ok (.getfield 9, 3) := by decide +kernel
theorem dX7_add_22 : decode cX7_add 22 = .ok (.aload_n 0, 1) := by decide +kernel
theorem dX7_add_23 : decode cX7_add 23 = .ok (.getfield 16, 3) := by decide +kernel
theorem dX7_add_26 : decode cX7_add 26 = .ok (.iload_n 1, 1) := by decide +kernel
theorem dX7_add_27 : decode cX7_add 27 = .ok (.iastore, 1) := by decide +kernel
theorem dX7_add_28 : decode cX7_add 28 = .ok (.aload_n 0, 1) := by decide +kernel
theorem dX7_add_29 : decode cX7_add 29 = .ok (.getfield 13, 3) := by decide +kernel
theorem dX7_add_32 : decode cX7_add 32 = .ok (.aload_n 0, 1) := by decide +kernel
theorem dX7_add_33 : decode cX7_add 33 = .ok (.getfield 16, 3) := by decide +kernel
theorem dX7_add_36 : decode cX7_add 36 = .ok (.iload_n 2, 1) := by decide +kernel
theorem dX7_add_37 : decode cX7_add 37 = .ok (.iastore, 1) := by decide +kernel
theorem dX7_add_38 : decode cX7_add 38 = .ok (.aload_n 0, 1) := by decide +kernel
theorem dX7_add_39 : decode cX7_add 39 = .ok (.dup, 1) := by decide +kernel
theorem dX7_add_40 : decode cX7_add 40 = .ok (.getfield 16, 3) := by decide +kernel
theorem dX7_add_43 : decode cX7_add 43 = .ok (.iconst 1, 1) := by decide +kernel
theorem dX7_add_44 : decode cX7_add 44 = .ok (.iadd, 1) := by decide +kernel
theorem dX7_add_45 : decode cX7_add 45 = .ok (.putfield 16, 3) := by decide +kernel
theorem dX7_add_48 : decode cX7_add 48 = .ok (.iconst 1, 1) := by decide +kernel
theorem dX7_add_49 : decode cX7_add 49 = .ok (.ireturn, 1) := by decide +kernel
theorem dX7_fit_0 : decode cX7_fit 0 = .ok (.iconst 0, 1) := by decide +kernel
theorem dX7_fit_1 : decode cX7_fit 1 = .ok (.istore_n 3, 1) := by decide +kernel
theorem dX7_fit_2 : decode cX7_fit 2 = .ok (.iload_n 3, 1) := by decide +kernel
theorem dX7_fit_3 : decode cX7_fit 3 = .ok (.aload_n 0, 1) := by decide +kernel
theorem dX7_fit_4 : decode cX7_fit 4 = .ok (.getfield 16, 3) := by decide +kernel
theorem dX7_fit_7 : decode cX7_fit 7 = .ok (.if_icmp .ge 36, 3) := by decide +kernel
theorem dX7_fit_10 : decode cX7_fit 10 = .ok (.iload_n 3, 1) := by decide +kernel
theorem dX7_fit_11 : decode cX7_fit 11 = .ok (.bipush 8, 2) := by decide +kernel
theorem dX7_fit_13 : decode cX7_fit 13 = .ok (.if_icmp .ge 30, 3) := by decide +kernel
theorem dX7_fit_16 : decode cX7_fit 16 = .ok (.lload_n 1, 1) := by decide +kernel
theorem dX7_fit_17 : decode cX7_fit 17 = .ok (.aload_n 0, 1) := by decide +kernel
theorem dX7_fit_18 : decode cX7_fit 18 = .ok (.getfield 13, 3) := by decide +kernel
theorem dX7_fit_21 : decode cX7_fit 21 = .ok (.iload_n 3, 1) := by decide +kernel
theorem dX7_fit_22 : decode cX7_fit 22 = .ok (.iaload, 1) := by decide +kernel
theorem dX7_fit_23 : decode cX7_fit 23 = .ok (.invokestatic 20, 3) := by decide +kernel
theorem dX7_fit_26 : decode cX7_fit 26 = .ok (.aload_n 0, 1) := by decide +kernel
theorem dX7_fit_27 : decode cX7_fit 27 = .ok (.getfield 9, 3) := by decide +kernel
theorem dX7_fit_30 : decode cX7_fit 30 = .ok (.iload_n 3, 1) := by decide +kernel
theorem dX7_fit_31 : decode cX7_fit 31 = .ok (.iaload, 1) := by decide +kernel
theorem dX7_fit_32 : decode cX7_fit 32 = .ok (.if_icmp .eq 5, 3) := by decide +kernel
theorem dX7_fit_35 : decode cX7_fit 35 = .ok (.iconst 0, 1) := by decide +kernel
theorem dX7_fit_36 : decode cX7_fit 36 = .ok (.ireturn, 1) := by decide +kernel
theorem dX7_fit_37 : decode cX7_fit 37 = .ok (.iinc 3 1, 3) := by decide +kernel
theorem dX7_fit_40 : decode cX7_fit 40 = .ok (.goto (-38), 3) := by decide +kernel
theorem dX7_fit_43 : decode cX7_fit 43 = .ok (.iconst 1, 1) := by decide +kernel
theorem dX7_fit_44 : decode cX7_fit 44 = .ok (.ireturn, 1) := by decide +kernel
theorem dX8_init_0 : decode cX8_init 0 = .ok (.aload_n 0, 1) := by decide +kernel
theorem dX8_init_1 : decode cX8_init 1 = .ok (.invokespecial 3, 3) := by decide +kernel
theorem dX8_init_4 : decode cX8_init 4 = .ok (.aload_n 0, 1) := by decide +kernel
theorem dX8_init_5 : decode cX8_init 5 = .ok (.sipush 200, 3) := by decide +kernel
theorem dX8_init_8 : decode cX8_init 8 = .ok (.newarray .char, 2) := by decide +kernel
theorem dX8_init_10 : decode cX8_init 10 = .ok (.putfield 11, 3) := by decide +kernel
theorem dX8_init_13 : decode cX8_init 13 = .ok (.return_, 1) := by decide +kernel
theorem dX8_append_0 : decode cX8_append 0 = .ok (.aload_n 0, 1) := by decide +kernel
theorem dX8_append_1 : decode cX8_append 1 = .ok (.getfield 15, 3) := by decide +kernel
theorem dX8_append_4 : decode cX8_append 4 = .ok (.ifCond .lt 13, 3) := by decide +kernel
theorem dX8_append_7 : decode cX8_append 7 = .ok (.aload_n 0, 1) := by decide +kernel
theorem dX8_append_8 : decode cX8_append 8 = .ok (.getfield 15, 3) := by decide +kernel
theorem dX8_append_11 : decode cX8_append 11 = .ok (.sipush 200, 3) := by decide +kernel
theorem dX8_append_14 : decode cX8_append 14 = .ok (.if_icmp .lt 5, 3) := by decide +kernel
theorem dX8_append_17 : decode cX8_append 17 = .ok (.iconst 0, 1) := by decide +kernel
theorem dX8_append_18 : decode cX8_append 18 = .ok (.ireturn, 1) := by decide +kernel
theorem dX8_append_19 : decode cX8_append 19 = .ok (.aload_n 0, 1) := by decide +kernel
theorem dX8_append_20 : decode cX8_append 20 = .ok (.getfield 11, 3) := by decide +kernel
theorem dX8_append_23 : decode cX8_append 23 = .ok (.aload_n 0, 1) := by decide +kernel
theorem dX8_append_24 : decode cX8_append 24 = .ok (.getfield 15, 3) := by decide +kernel
theorem dX8_append_27 : decode cX8_append 27 = .ok (.iload_n 1, 1) := by decide +kernel
theorem dX8_append_28 : decode cX8_append 28 = .ok (.i2c, 1) := by decide +kernel
theorem dX8_append_29 : decode cX8_append 29 = .ok (.castore, 1) := by decide +kernel
theorem dX8_append_30 : decode cX8_append 30 = .ok (.aload_n 0, 1) := by decide +kernel
theorem dX8_append_31 : decode cX8_append 31 = .ok (.dup, 1) := by decide +kernel
theorem dX8_append_32 : decode cX8_append 32 = .ok (.getfield 15, 3) := by decide +kernel
theorem dX8_append_35 : decode cX8_append 35 = .ok (.iconst 1, 1) := by decide +kernel
theorem dX8_append_36 : decode cX8_append 36 = .ok (.iadd, 1) := by decide +kernel
theorem dX8_append_37 : decode cX8_append 37 = .ok (.putfield 15, 3) := by decide +kernel
theorem dX8_append_40 : decode cX8_append 40 = .ok (.iconst 1, 1) := by decide +kernel
theorem dX8_append_41 : decode cX8_append 41 = .ok (.ireturn, 1) := by decide +kernel
theorem dX8_firstFault_0 : decode cX8_firstFault 0 = .ok (.aload_n 1, 1) := by decide +kernel
theorem dX8_firstFault_1 : decode cX8_firstFault 1 = .ok (.invokevirtual 19, 3) := by decide +kernel
theorem dX8_firstFault_4 : decode cX8_firstFault 4 = .ok (.aload_n 0, 1) := by decide +kernel
theorem dX8_firstFault_5 : decode cX8_firstFault 5 = .ok (.iconst 0, 1) := by decide +kernel
theorem dX8_firstFault_6 : decode cX8_firstFault 6 = .ok (.putfield 24, 3) := by decide +kernel
theorem dX8_firstFault_9 : decode cX8_firstFault 9 = .ok (.iconst 0, 1) := by decide +kernel
theorem dX8_firstFault_10 : decode cX8_firstFault 10 = .ok (.istore_n 2, 1) := by decide +kernel
theorem dX8_firstFault_11 : decode cX8_firstFault 11 = .ok (.iload_n 2, 1) := by decide +kernel
theorem dX8_firstFault_12 : decode cX8_firstFault 12 = .ok (.sipush 200, 3) := by decide +kernel
theorem dX8_firstFault_15 : decode cX8_firstFault 15 = .ok (.if_icmp .ge 35, 3) := by decide +kernel
theorem dX8_firstFault_18 : decode cX8_firstFault 18 = .ok (.aload_n 0, 1) := by decide +kernel
theorem dX8_firstFault_19 : decode cX8_firstFault 19 = .ok (.getfield 24, 3) := by decide +kernel
theorem dX8_firstFault_22 : decode cX8_firstFault 22 = .ok (.aload_n 0, 1) := by decide +kernel
theorem dX8_firstFault_23 : decode cX8_firstFault 23 = .ok (.getfield 15, 3) := by decide +kernel
theorem dX8_firstFault_26 : decode cX8_firstFault 26 = .ok (.if_icmp .ge 24, 3) := by decide +kernel
theorem dX8_firstFault_29 : decode cX8_firstFault 29 = .ok (.aload_n 0, 1) := by decide +kernel
theorem dX8_firstFault_30 : decode cX8_firstFault 30 = .ok (.getfield 24, 3) := by decide +kernel
theorem dX8_firstFault_33 : decode cX8_firstFault 33 = .ok (.istore_n 3, 1) := by decide +kernel
theorem dX8_firstFault_34 : decode cX8_firstFault 34 = .ok (.aload_n 0, 1) := by decide +kernel
theorem dX8_firstFault_35 : decode cX8_firstFault 35 = .ok (.aload_n 1, 1) := by decide +kernel
theorem dX8_firstFault_36 : decode cX8_firstFault 36 = .ok (.invokevirtual 27, 3) := by decide +kernel
theorem dX8_firstFault_39 : decode cX8_firstFault 39 = .ok (.ifCond .ne 5, 3) := by decide +kernel
theorem dX8_firstFault_42 : decode cX8_firstFault 42 = .ok (.iload_n 3, 1) := by decide +kernel
theorem dX8_firstFault_43 : decode cX8_firstFault 43 = .ok (.ireturn, 1) := by decide +kernel
theorem dX8_firstFault_44 : decode cX8_firstFault 44 = .ok (.iinc 2 1, 3) := by decide +kernel
theorem dX8_firstFault_47 : decode cX8_firstFault 47 = .ok (.goto (-36), 3) := by decide +kernel
theorem dX8_firstFault_50 : decode cX8_firstFault 50 = .ok (.bipush (-4), 2) := by decide +kernel
theorem dX8_firstFault_52 : decode cX8_firstFault 52 = .ok (.ireturn, 1) := by decide +kernel
theorem dX8_readItem_0 : decode cX8_readItem 0 = .ok (.aload_n 0, 1) := by decide +kernel
theorem dX8_readItem_1 : decode cX8_readItem 1 = .ok (.invokevirtual 31, 3) := by decide +kernel
theorem dX8_readItem_4 : decode cX8_readItem 4 = .ok (.istore_n 2, 1) := by decide +kernel
theorem dX8_readItem_5 : decode cX8_readItem 5 = .ok (.iload_n 2, 1) := by decide +kernel
theorem dX8_readItem_6 : decode cX8_readItem 6 = .ok (.bipush 99, 2) := by decide +kernel
theorem dX8_readItem_8 : decode cX8_readItem 8 = .ok (.if_icmp .ne 26, 3) := by decide +kernel
theorem dX8_readItem_11 : decode cX8_readItem 11 = .ok (.aload_n 0, 1) := by decide +kernel
theorem dX8_readItem_12 : decode cX8_readItem 12 = .ok (.bipush 44, 2) := by decide +kernel
theorem dX8_readItem_14 : decode cX8_readItem 14 = .ok (.invokevirtual 35, 3) := by decide +kernel
theorem dX8_readItem_17 : decode cX8_readItem 17 = .ok (.istore_n 3, 1) := by decide +kernel
theorem dX8_readItem_18 : decode cX8_readItem 18 = .ok (.aload_n 0, 1) := by decide +kernel
theorem dX8_readItem_19 : decode cX8_readItem 19 = .ok (.bipush 59, 2) := by decide +kernel
theorem dX8_readItem_21 : decode cX8_readItem 21 = .ok (.invokevirtual 35, 3) := by decide +kernel
theorem dX8_readItem_24 : decode cX8_readItem 24 = .ok (.istore 4, 2) := by decide +kernel
theorem dX8_readItem_26 : decode cX8_readItem 26 = .ok (.aload_n 1, 1) := by decide +kernel
theorem dX8_readItem_27 : decode cX8_readItem 27 = .ok (.iload_n 3, 1) := by decide +kernel
theorem dX8_readItem_28 : decode cX8_readItem 28 = .ok (.iload 4, 2) := by decide +kernel
theorem dX8_readItem_30 : decode cX8_readItem 30 = .ok (.invokevirtual 39, 3) := by decide +kernel
theorem dX8_readItem_33 : decode cX8_readItem 33 = .ok (.ireturn, 1) := by decide +kernel
theorem dX8_readItem_34 : decode cX8_readItem 34 = .ok (.aload_n 0, 1) := by decide +kernel
theorem dX8_readItem_35 : decode cX8_readItem 35 = .ok (.bipush 59, 2) := by decide +kernel
theorem dX8_readItem_37 : decode cX8_readItem 37 = .ok (.invokevirtual 35, 3) := by decide +kernel
theorem dX8_readItem_40 : decode cX8_readItem 40 = .ok (.istore_n 3, 1) := by decide +kernel
theorem dX8_readItem_41 : decode cX8_readItem 41 = .ok (.iload_n 2, 1) := by decide +kernel
theorem dX8_readItem_42 : decode cX8_readItem 42 = .ok (.lookupswitch 52 #[(108, 40), (110, 34), (120, 46)], 34) := by decide +kernel
theorem dX8_readItem_76 : decode cX8_readItem 76 = .ok (.aload_n 1, 1) := by decide +kernel
theorem dX8_readItem_77 : decode cX8_readItem 77 = .ok (.iload_n 3, 1) := by decide +kernel
theorem dX8_readItem_78 : decode cX8_readItem 78 = .ok (.invokevirtual 43, 3) := by decide +kernel
theorem dX8_readItem_81 : decode cX8_readItem 81 = .ok (.ireturn, 1) := by decide +kernel
theorem dX8_readItem_82 : decode cX8_readItem 82 = .ok (.aload_n 1, 1) := by decide +kernel
theorem dX8_readItem_83 : decode cX8_readItem 83 = .ok (.iload_n 3, 1) := by decide +kernel
theorem dX8_readItem_84 : decode cX8_readItem 84 = .ok (.invokevirtual 47, 3) := by decide +kernel
theorem dX8_readItem_87 : decode cX8_readItem 87 = .ok (.ireturn, 1) := by decide +kernel
theorem dX8_readItem_88 : decode cX8_readItem 88 = .ok (.aload_n 1, 1) := by decide +kernel
theorem dX8_readItem_89 : decode cX8_readItem 89 = .ok (.iload_n 3, 1) := by decide +kernel
theorem dX8_readItem_90 : decode cX8_readItem 90 = .ok (.invokevirtual 50, 3) := by decide +kernel
theorem dX8_readItem_93 : decode cX8_readItem 93 = .ok (.ireturn, 1) := by decide +kernel
theorem dX8_readItem_94 : decode cX8_readItem 94 = .ok (.iconst 0, 1) := by decide +kernel
theorem dX8_readItem_95 : decode cX8_readItem 95 = .ok (.ireturn, 1) := by decide +kernel
theorem dX8_readNumber_0 : decode cX8_readNumber 0 = .ok (.aload_n 0, 1) := by decide +kernel
theorem dX8_readNumber_1 : decode cX8_readNumber 1 = .ok (.invokevirtual 31, 3) := by decide +kernel
theorem dX8_readNumber_4 : decode cX8_readNumber 4 = .ok (.invokestatic 53, 3) := by decide +kernel
theorem dX8_readNumber_7 : decode cX8_readNumber 7 = .ok (.istore_n 2, 1) := by decide +kernel
theorem dX8_readNumber_8 : decode cX8_readNumber 8 = .ok (.iload_n 2, 1) := by decide +kernel
theorem dX8_readNumber_9 : decode cX8_readNumber 9 = .ok (.ifCond .ge 5, 3) := by decide +kernel
theorem dX8_readNumber_12 : decode cX8_readNumber 12 = .ok (.iconst (-1), 1) := by decide +kernel
theorem dX8_readNumber_13 : decode cX8_readNumber 13 = .ok (.ireturn, 1) := by decide +kernel
theorem dX8_readNumber_14 : decode cX8_readNumber 14 = .ok (.aload_n 0, 1) := by decide +kernel
theorem dX8_readNumber_15 : decode cX8_readNumber 15 = .ok (.invokevirtual 31, 3) := by decide +kernel
theorem dX8_readNumber_18 : decode cX8_readNumber 18 = .ok (.istore_n 3, 1) := by decide +kernel
theorem dX8_readNumber_19 : decode cX8_readNumber 19 = .ok (.iload_n 3, 1) := by decide +kernel
theorem dX8_readNumber_20 : decode cX8_readNumber 20 = .ok (.invokestatic 53, 3) := by decide +kernel
theorem dX8_readNumber_23 : decode cX8_readNumber 23 = .ok (.ifCond .lt 18, 3) := by decide +kernel
theorem dX8_readNumber_26 : decode cX8_readNumber 26 = .ok (.bipush 10, 2) := by decide +kernel
theorem dX8_readNumber_28 : decode cX8_readNumber 28 = .ok (.iload_n 2, 1) := by decide +kernel
theorem dX8_readNumber_29 : decode cX8_readNumber 29 = .ok (.imul, 1) := by decide +kernel
theorem dX8_readNumber_30 : decode cX8_readNumber 30 = .ok (.iload_n 3, 1) := by decide +kernel
theorem dX8_readNumber_31 : decode cX8_readNumber 31 = .ok (.invokestatic 53, 3) := by decide +kernel
theorem dX8_readNumber_34 : decode cX8_readNumber 34 = .ok (.iadd, 1) := by decide +kernel
theorem dX8_readNumber_35 : decode cX8_readNumber 35 = .ok (.istore_n 2, 1) := by decide +kernel
theorem dX8_readNumber_36 : decode cX8_readNumber 36 = .ok (.aload_n 0, 1) := by decide +kernel
theorem dX8_readNumber_37 : decode cX8_readNumber 37 = .ok (.invokevirtual 31, 3) := by decide +kernel
theorem dX8_readNumber_40 : decode cX8_readNumber 40 = .ok (.istore_n 3, 1) := by decide +kernel
theorem dX8_readNumber_41 : decode cX8_readNumber 41 = .ok (.iload_n 3, 1) := by decide +kernel
theorem dX8_readNumber_42 : decode cX8_readNumber 42 = .ok (.iload_n 1, 1) := by decide +kernel
theorem dX8_readNumber_43 : decode cX8_readNumber 43 = .ok (.if_icmp .ne 7, 3) := by decide +kernel
theorem dX8_readNumber_46 : decode cX8_readNumber 46 = .ok (.iload_n 2, 1) := by decide +kernel
theorem dX8_readNumber_47 : decode cX8_readNumber 47 = .ok (.goto 4, 3) := by decide +kernel
theorem dX8_readNumber_50 : decode cX8_readNumber 50 = .ok (.iconst (-1), 1) := by decide +kernel
theorem dX8_readNumber_51 : decode cX8_readNumber 51 = .ok (.ireturn, 1) := by decide +kernel
theorem dX8_nextLetter_0 : decode cX8_nextLetter 0 = .ok (.aload_n 0, 1) := by decide +kernel
theorem dX8_nextLetter_1 : decode cX8_nextLetter 1 = .ok (.getfield 24, 3) := by decide +kernel
theorem dX8_nextLetter_4 : decode cX8_nextLetter 4 = .ok (.ifCond .lt 24, 3) := by decide +kernel
theorem dX8_nextLetter_7 : decode cX8_nextLetter 7 = .ok (.aload_n 0, 1) := by decide +kernel
theorem dX8_nextLetter_8 : decode cX8_nextLetter 8 = .ok (.getfield 24, 3) := by decide +kernel
theorem dX8_nextLetter_11 : decode cX8_nextLetter 11 = .ok (.aload_n 0, 1) := by decide +kernel
theorem dX8_nextLetter_12 : decode cX8_nextLetter 12 = .ok (.getfield 15, 3) := by decide +kernel
theorem dX8_nextLetter_15 : decode cX8_nextLetter 15 = .ok (.if_icmp .ge 13, 3) := by decide +kernel
theorem dX8_nextLetter_18 : decode cX8_nextLetter 18 = .ok (.aload_n 0, 1) := by decide +kernel
theorem dX8_nextLetter_19 : decode cX8_nextLetter 19 = .ok (.getfield 24, 3) := by decide +kernel
theorem dX8_nextLetter_22 : decode cX8_nextLetter 22 = .ok (.sipush 200, 3) := by decide +kernel
theorem dX8_nextLetter_25 : decode cX8_nextLetter 25 = .ok (.if_icmp .lt 5, 3) := by decide +kernel
theorem dX8_nextLetter_28 : decode cX8_nextLetter 28 = .ok (.iconst 0, 1) := by decide +kernel
theorem dX8_nextLetter_29 : decode cX8_nextLetter 29 = .ok (.ireturn, 1) := by decide +kernel
theorem dX8_nextLetter_30 : decode cX8_nextLetter 30 = .ok (.aload_n 0, 1) := by decide +kernel
theorem dX8_nextLetter_31 : decode cX8_nextLetter 31 = .ok (.getfield 11, 3) := by decide +kernel
theorem dX8_nextLetter_34 : decode cX8_nextLetter 34 = .ok (.aload_n 0, 1) := by decide +kernel
theorem dX8_nextLetter_35 : decode cX8_nextLetter 35 = .ok (.getfield 24, 3) := by decide +kernel
theorem dX8_nextLetter_38 : decode cX8_nextLetter 38 = .ok (.caload, 1) := by decide +kernel
theorem dX8_nextLetter_39 : decode cX8_nextLetter 39 = .ok (.istore_n 1, 1) := by decide +kernel
theorem dX8_nextLetter_40 : decode cX8_nextLetter 40 = .ok (.aload_n 0, 1) := by decide +kernel
theorem dX8_nextLetter_41 : decode cX8_nextLetter 41 = .ok (.dup, 1) := by decide +kernel
theorem dX8_nextLetter_42 : decode cX8_nextLetter 42 = .ok (.getfield 24, 3) := by decide +kernel
theorem dX8_nextLetter_45 : decode cX8_nextLetter 45 = .ok (.iconst 1, 1) := by decide +kernel
theorem dX8_nextLetter_46 : decode cX8_nextLetter 46 = .ok (.iadd, 1) := by decide +kernel
theorem dX8_nextLetter_47 : decode cX8_nextLetter 47 = .ok (.putfield 24, 3) := by decide +kernel
theorem dX8_nextLetter_50 : decode cX8_nextLetter 50 = .ok (.iload_n 1, 1) := by decide +kernel
theorem dX8_nextLetter_51 : decode cX8_nextLetter 51 = .ok (.ireturn, 1) := by decide +kernel
theorem dX8_figureOf_0 : decode cX8_figureOf 0 = .ok (.iload_n 0, 1) := by decide +kernel
theorem dX8_figureOf_1 : decode cX8_figureOf 1 = .ok (.bipush 48, 2) := by decide +kernel
theorem dX8_figureOf_3 : decode cX8_figureOf 3 = .ok (.if_icmp .lt 16, 3) := by decide +kernel
theorem dX8_figureOf_6 : decode cX8_figureOf 6 = .ok (.iload_n 0, 1) := by decide +kernel
theorem dX8_figureOf_7 : decode cX8_figureOf 7 = .ok (.bipush 57, 2) := by decide +kernel
theorem dX8_figureOf_9 : decode cX8_figureOf 9 = .ok (.if_icmp .gt 10, 3) := by decide +kernel
theorem dX8_figureOf_12 : decode cX8_figureOf 12 = .ok (.iload_n 0, 1) := by decide +kernel
theorem dX8_figureOf_13 : decode cX8_figureOf 13 = .ok (.bipush 48, 2) := by decide +kernel
theorem dX8_figureOf_15 : decode cX8_figureOf 15 = .ok (.isub, 1) := by decide +kernel
theorem dX8_figureOf_16 : decode cX8_figureOf 16 = .ok (.goto 4, 3) := by decide +kernel
theorem dX8_figureOf_19 : decode cX8_figureOf 19 = .ok (.iconst (-1), 1) := by decide +kernel
theorem dX8_figureOf_20 : decode cX8_figureOf 20 = .ok (.ireturn, 1) := by decide +kernel
theorem dX9_init_0 : decode cX9_init 0 = .ok (.aload_n 0, 1) := by decide +kernel
theorem dX9_init_1 : decode cX9_init 1 = .ok (.invokespecial 1, 3) := by decide +kernel
theorem dX9_init_4 : decode cX9_init 4 = .ok (.aload_n 0, 1) := by decide +kernel
theorem dX9_init_5 : decode cX9_init 5 = .ok (.new 7, 3) := by decide +kernel
theorem dX9_init_8 : decode cX9_init 8 = .ok (.dup, 1) := by decide +kernel
theorem dX9_init_9 : decode cX9_init 9 = .ok (.invokespecial 9, 3) := by decide +kernel
theorem dX9_init_12 : decode cX9_init 12 = .ok (.putfield 10, 3) := by decide +kernel
theorem dX9_init_15 : decode cX9_init 15 = .ok (.aload_n 0, 1) := by decide +kernel
theorem dX9_init_16 : decode cX9_init 16 = .ok (.new 16, 3) := by decide +kernel
theorem dX9_init_19 : decode cX9_init 19 = .ok (.dup, 1) := by decide +kernel
theorem dX9_init_20 : decode cX9_init 20 = .ok (.invokespecial 18, 3) := by decide +kernel
theorem dX9_init_23 : decode cX9_init 23 = .ok (.putfield 19, 3) := by decide +kernel
theorem dX9_init_26 : decode cX9_init 26 = .ok (.aload_n 0, 1) := by decide +kernel
theorem dX9_init_27 : decode cX9_init 27 = .ok (.new 16, 3) := by decide +kernel
theorem dX9_init_30 : decode cX9_init 30 = .ok (.dup, 1) := by decide +kernel
theorem dX9_init_31 : decode cX9_init 31 = .ok (.invokespecial 18, 3) := by decide +kernel
theorem dX9_init_34 : decode cX9_init 34 = .ok (.putfield 23, 3) := by decide +kernel
theorem dX9_init_37 : decode cX9_init 37 = .ok (.aload_n 0, 1) := by decide +kernel
theorem dX9_init_38 : decode cX9_init 38 = .ok (.new 26, 3) := by decide +kernel
theorem dX9_init_41 : decode cX9_init 41 = .ok (.dup, 1) := by decide +kernel
theorem dX9_init_42 : decode cX9_init 42 = .ok (.bipush 8, 2) := by decide +kernel
theorem dX9_init_44 : decode cX9_init 44 = .ok (.invokespecial 28, 3) := by decide +kernel
theorem dX9_init_47 : decode cX9_init 47 = .ok (.putfield 31, 3) := by decide +kernel
theorem dX9_init_50 : decode cX9_init 50 = .ok (.aload_n 0, 1) := by decide +kernel
theorem dX9_init_51 : decode cX9_init 51 = .ok (.new 26, 3) := by decide +kernel
theorem dX9_init_54 : decode cX9_init 54 = .ok (.dup, 1) := by decide +kernel
theorem dX9_init_55 : decode cX9_init 55 = .ok (.iconst 2, 1) := by decide +kernel
theorem dX9_init_56 : decode cX9_init 56 = .ok (.invokespecial 28, 3) := by decide +kernel
theorem dX9_init_59 : decode cX9_init 59 = .ok (.putfield 35, 3) := by decide +kernel
theorem dX9_init_62 : decode cX9_init 62 = .ok (.aload_n 0, 1) := by decide +kernel
theorem dX9_init_63 : decode cX9_init 63 = .ok (.new 38, 3) := by decide +kernel
theorem dX9_init_66 : decode cX9_init 66 = .ok (.dup, 1) := by decide +kernel
theorem dX9_init_67 : decode cX9_init 67 = .ok (.invokespecial 40, 3) := by decide +kernel
theorem dX9_init_70 : decode cX9_init 70 = .ok (.putfield 41, 3) := by decide +kernel
theorem dX9_init_73 : decode cX9_init 73 = .ok (.aload_n 0, 1) := by decide +kernel
theorem dX9_init_74 : decode cX9_init 74 = .ok (.new 45, 3) := by decide +kernel
theorem dX9_init_77 : decode cX9_init 77 = .ok (.dup, 1) := by decide +kernel
theorem dX9_init_78 : decode cX9_init 78 = .ok (.invokespecial 47, 3) := by decide +kernel
theorem dX9_init_81 : decode cX9_init 81 = .ok (.putfield 48, 3) := by decide +kernel
theorem dX9_init_84 : decode cX9_init 84 = .ok (.aload_n 0, 1) := by decide +kernel
theorem dX9_init_85 : decode cX9_init 85 = .ok (.new 52, 3) := by decide +kernel
theorem dX9_init_88 : decode cX9_init 88 = .ok (.dup, 1) := by decide +kernel
theorem dX9_init_89 : decode cX9_init 89 = .ok (.invokespecial 54, 3) := by decide +kernel
theorem dX9_init_92 : decode cX9_init 92 = .ok (.putfield 55, 3) := by decide +kernel
theorem dX9_init_95 : decode cX9_init 95 = .ok (.aload_n 0, 1) := by decide +kernel
theorem dX9_init_96 : decode cX9_init 96 = .ok (.getfield 23, 3) := by decide +kernel
theorem dX9_init_99 : decode cX9_init 99 = .ok (.invokevirtual 59, 3) := by decide +kernel
theorem dX9_init_102 : decode cX9_init 102 = .ok (.aload_n 0, 1) := by decide +kernel
theorem dX9_init_103 : decode cX9_init 103 = .ok (.aload_n 0, 1) := by decide +kernel
theorem dX9_init_104 : decode cX9_init 104 = .ok (.getfield 23, 3) := by decide +kernel
theorem dX9_init_107 : decode cX9_init 107 = .ok (.getfield 62, 3) := by decide +kernel
theorem dX9_init_110 : decode cX9_init 110 = .ok (.invokestatic 66, 3) := by decide +kernel
theorem dX9_init_113 : decode cX9_init 113 = .ok (.putfield 72, 3) := by decide +kernel
theorem dX9_init_116 : decode cX9_init 116 = .ok (.return_, 1) := by decide +kernel
theorem dX9_write_0 : decode cX9_write 0 = .ok (.iload_n 1, 1) := by decide +kernel
theorem dX9_write_1 : decode cX9_write 1 = .ok (.bipush 32, 2) := by decide +kernel
theorem dX9_write_3 : decode cX9_write 3 = .ok (.bipush 126, 2) := by decide +kernel
theorem dX9_write_5 : decode cX9_write 5 = .ok (.invokestatic 76, 3) := by decide +kernel
theorem dX9_write_8 : decode cX9_write 8 = .ok (.ifCond .ne 5, 3) := by decide +kernel
theorem dX9_write_11 : decode cX9_write 11 = .ok (.iconst (-1), 1) := by decide +kernel
theorem dX9_write_12 : decode cX9_write 12 = .ok (.ireturn, 1) := by decide +kernel
theorem dX9_write_13 : decode cX9_write 13 = .ok (.aload_n 0, 1) := by decide +kernel
theorem dX9_write_14 : decode cX9_write 14 = .ok (.getfield 10, 3) := by decide +kernel
theorem dX9_write_17 : decode cX9_write 17 = .ok (.iload_n 1, 1) := by decide +kernel
theorem dX9_write_18 : decode cX9_write 18 = .ok (.invokevirtual 80, 3) := by decide +kernel
theorem dX9_write_21 : decode cX9_write 21 = .ok (.ifCond .eq 13, 3) := by decide +kernel
theorem dX9_write_24 : decode cX9_write 24 = .ok (.aload_n 0, 1) := by decide +kernel
theorem dX9_write_25 : decode cX9_write 25 = .ok (.getfield 10, 3) := by decide +kernel
theorem dX9_write_28 : decode cX9_write 28 = .ok (.getfield 84, 3) := by decide +kernel
theorem dX9_write_31 : decode cX9_write 31 = .ok (.goto 5, 3) := by decide +kernel
theorem dX9_write_34 : decode cX9_write 34 = .ok (.bipush (-3), 2) := by decide +kernel
theorem dX9_write_36 : decode cX9_write 36 = .ok (.ireturn, 1) := by decide +kernel
theorem dX9_wipe_0 : decode cX9_wipe 0 = .ok (.aload_n 0, 1) := by decide +kernel
theorem dX9_wipe_1 : decode cX9_wipe 1 = .ok (.getfield 10, 3) := by decide +kernel
theorem dX9_wipe_4 : decode cX9_wipe 4 = .ok (.getfield 84, 3) := by decide +kernel
theorem dX9_wipe_7 : decode cX9_wipe 7 = .ok (.istore_n 1, 1) := by decide +kernel
theorem dX9_wipe_8 : decode cX9_wipe 8 = .ok (.aload_n 0, 1) := by decide +kernel
theorem dX9_wipe_9 : decode cX9_wipe 9 = .ok (.getfield 10, 3) := by decide +kernel
theorem dX9_wipe_12 : decode cX9_wipe 12 = .ok (.iconst 0, 1) := by decide +kernel
theorem dX9_wipe_13 : decode cX9_wipe 13 = .ok (.putfield 84, 3) := by decide +kernel
theorem dX9_wipe_16 : decode cX9_wipe 16 = .ok (.iload_n 1, 1) := by decide +kernel
theorem dX9_wipe_17 : decode cX9_wipe 17 = .ok (.ireturn, 1) := by decide +kernel
theorem dX9_fault_0 : decode cX9_fault 0 = .ok (.aload_n 0, 1) := by decide +kernel
theorem dX9_fault_1 : decode cX9_fault 1 = .ok (.getfield 10, 3) := by decide +kernel
theorem dX9_fault_4 : decode cX9_fault 4 = .ok (.aload_n 0, 1) := by decide +kernel
theorem dX9_fault_5 : decode cX9_fault 5 = .ok (.getfield 19, 3) := by decide +kernel
theorem dX9_fault_8 : decode cX9_fault 8 = .ok (.invokevirtual 87, 3) := by decide +kernel
theorem dX9_fault_11 : decode cX9_fault 11 = .ok (.ireturn, 1) := by decide +kernel
theorem dX9_lay_0 : decode cX9_lay 0 = .ok (.aload_n 0, 1) := by decide +kernel
theorem dX9_lay_1 : decode cX9_lay 1 = .ok (.getfield 10, 3) := by decide +kernel
theorem dX9_lay_4 : decode cX9_lay 4 = .ok (.getfield 84, 3) := by decide +kernel
theorem dX9_lay_7 : decode cX9_lay 7 = .ok (.ifCond .eq 19, 3) := by decide +kernel
theorem dX9_lay_10 : decode cX9_lay 10 = .ok (.aload_n 0, 1) := by decide +kernel
theorem dX9_lay_11 : decode cX9_lay 11 = .ok (.getfield 10, 3) := by decide +kernel
theorem dX9_lay_14 : decode cX9_lay 14 = .ok (.aload_n 0, 1) := by decide +kernel
theorem dX9_lay_15 : decode cX9_lay 15 = .ok (.getfield 19, 3) := by decide +kernel
theorem dX9_lay_18 : decode cX9_lay 18 = .ok (.invokevirtual 87, 3) := by decide +kernel
theorem dX9_lay_21 : decode cX9_lay 21 = .ok (.bipush (-4), 2) := by decide +kernel
theorem dX9_lay_23 : decode cX9_lay 23 = .ok (.if_icmp .eq 6, 3) := by decide +kernel
theorem dX9_lay_26 : decode cX9_lay 26 = .ok (.bipush (-2), 2) := by decide +kernel
theorem dX9_lay_28 : decode cX9_lay 28 = .ok (.ireturn, 1) := by decide +kernel
theorem dX9_lay_29 : decode cX9_lay 29 = .ok (.aload_n 0, 1) := by decide +kernel
theorem dX9_lay_30 : decode cX9_lay 30 = .ok (.getfield 23, 3) := by decide +kernel
theorem dX9_lay_33 : decode cX9_lay 33 = .ok (.aload_n 0, 1) := by decide +kernel
theorem dX9_lay_34 : decode cX9_lay 34 = .ok (.getfield 19, 3) := by decide +kernel
theorem dX9_lay_37 : decode cX9_lay 37 = .ok (.invokevirtual 91, 3) := by decide +kernel
theorem dX9_lay_40 : decode cX9_lay 40 = .ok (.aload_n 0, 1) := by decide +kernel
theorem dX9_lay_41 : decode cX9_lay 41 = .ok (.aload_n 0, 1) := by decide +kernel
theorem dX9_lay_42 : decode cX9_lay 42 = .ok (.getfield 23, 3) := by decide +kernel
theorem dX9_lay_45 : decode cX9_lay 45 = .ok (.getfield 62, 3) := by decide +kernel
theorem dX9_lay_48 : decode cX9_lay 48 = .ok (.invokestatic 66, 3) := by decide +kernel
theorem dX9_lay_51 : decode cX9_lay 51 = .ok (.putfield 72, 3) := by decide +kernel
theorem dX9_lay_54 : decode cX9_lay 54 = .ok (.aload_n 0, 1) := by decide +kernel
theorem dX9_lay_55 : decode cX9_lay 55 = .ok (.getfield 41, 3) := by decide +kernel
theorem dX9_lay_58 : decode cX9_lay 58 = .ok (.iconst 0, 1) := by decide +kernel
theorem dX9_lay_59 : decode cX9_lay 59 = .ok (.putfield 95, 3) := by decide +kernel
theorem dX9_lay_62 : decode cX9_lay 62 = .ok (.aload_n 0, 1) := by decide +kernel
theorem dX9_lay_63 : decode cX9_lay 63 = .ok (.getfield 31, 3) := by decide +kernel
theorem dX9_lay_66 : decode cX9_lay 66 = .ok (.iconst 0, 1) := by decide +kernel
theorem dX9_lay_67 : decode cX9_lay 67 = .ok (.putfield 98, 3) := by decide +kernel
theorem dX9_lay_70 : decode cX9_lay 70 = .ok (.aload_n 0, 1) := by decide +kernel
theorem dX9_lay_71 : decode cX9_lay 71 = .ok (.getfield 35, 3) := by decide +kernel
theorem dX9_lay_74 : decode cX9_lay 74 = .ok (.iconst 0, 1) := by decide +kernel
theorem dX9_lay_75 : decode cX9_lay 75 = .ok (.putfield 98, 3) := by decide +kernel
theorem dX9_lay_78 : decode cX9_lay 78 = .ok (.aload_n 0, 1) := by decide +kernel
theorem dX9_lay_79 : decode cX9_lay 79 = .ok (.getfield 23, 3) := by decide +kernel
theorem dX9_lay_82 : decode cX9_lay 82 = .ok (.getfield 62, 3) := by decide +kernel
theorem dX9_lay_85 : decode cX9_lay 85 = .ok (.ireturn, 1) := by decide +kernel
theorem dX9_at_0 : decode cX9_at 0 = .ok (.aload_n 0, 1) := by decide +kernel
theorem dX9_at_1 : decode cX9_at 1 = .ok (.iload_n 1, 1) := by decide +kernel
theorem dX9_at_2 : decode cX9_at 2 = .ok (.invokevirtual 99, 3) := by decide +kernel
theorem dX9_at_5 : decode cX9_at 5 = .ok (.ifCond .eq 14, 3) := by decide +kernel
theorem dX9_at_8 : decode cX9_at 8 = .ok (.aload_n 0, 1) := by decide +kernel
theorem dX9_at_9 : decode cX9_at 9 = .ok (.getfield 72, 3) := by decide +kernel
theorem dX9_at_12 : decode cX9_at 12 = .ok (.iload_n 1, 1) := by decide +kernel
theorem dX9_at_13 : decode cX9_at 13 = .ok (.invokestatic 102, 3) := by decide +kernel
theorem dX9_at_16 : decode cX9_at 16 = .ok (.goto 4, 3) := by decide +kernel
theorem dX9_at_19 : decode cX9_at 19 = .ok (.iconst (-1), 1) := by decide +kernel
theorem dX9_at_20 : decode cX9_at 20 = .ok (.ireturn, 1) := by decide +kernel
theorem dX9_where_0 : decode cX9_where 0 = .ok (.aload_n 0, 1) := by decide +kernel
theorem dX9_where_1 : decode cX9_where 1 = .ok (.iload_n 1, 1) := by decide +kernel
theorem dX9_where_2 : decode cX9_where 2 = .ok (.invokevirtual 106, 3) := by decide +kernel
theorem dX9_where_5 : decode cX9_where 5 = .ok (.ifCond .eq 21, 3) := by decide +kernel
theorem dX9_where_8 : decode cX9_where 8 = .ok (.aload_n 0, 1) := by decide +kernel
theorem dX9_where_9 : decode cX9_where 9 = .ok (.getfield 72, 3) := by decide +kernel
theorem dX9_where_12 : decode cX9_where 12 = .ok (.aload_n 0, 1) := by decide +kernel
theorem dX9_where_13 : decode cX9_where 13 = .ok (.getfield 23, 3) := by decide +kernel
theorem dX9_where_16 : decode cX9_where 16 = .ok (.getfield 62, 3) := by decide +kernel
theorem dX9_where_19 : decode cX9_where 19 = .ok (.iload_n 1, 1) := by decide +kernel
theorem dX9_where_20 : decode cX9_where 20 = .ok (.invokestatic 109, 3) := by decide +kernel
theorem dX9_where_23 : decode cX9_where 23 = .ok (.goto 4, 3) := by decide +kernel
theorem dX9_where_26 : decode cX9_where 26 = .ok (.iconst (-1), 1) := by decide +kernel
theorem dX9_where_27 : decode cX9_where 27 = .ok (.ireturn, 1) := by decide +kernel
theorem dX9_colour_0 : decode cX9_colour 0 = .ok (.aload_n 0, 1) := by decide +kernel
theorem dX9_colour_1 : decode cX9_colour 1 = .ok (.iload_n 1, 1) := by decide +kernel
theorem dX9_colour_2 : decode cX9_colour 2 = .ok (.invokevirtual 106, 3) := by decide +kernel
theorem dX9_colour_5 : decode cX9_colour 5 = .ok (.ifCond .eq 14, 3) := by decide +kernel
theorem dX9_colour_8 : decode cX9_colour 8 = .ok (.aload_n 0, 1) := by decide +kernel
theorem dX9_colour_9 : decode cX9_colour 9 = .ok (.getfield 23, 3) := by decide +kernel
theorem dX9_colour_12 : decode cX9_colour 12 = .ok (.iload_n 1, 1) := by decide +kernel
theorem dX9_colour_13 : decode cX9_colour 13 = .ok (.invokevirtual 113, 3) := by decide +kernel
theorem dX9_colour_16 : decode cX9_colour 16 = .ok (.goto 4, 3) := by decide +kernel
theorem dX9_colour_19 : decode cX9_colour 19 = .ok (.iconst (-1), 1) := by decide +kernel
theorem dX9_colour_20 : decode cX9_colour 20 = .ok (.ireturn, 1) := by decide +kernel
theorem dX9_lace_0 : decode cX9_lace 0 = .ok (.iload_n 1, 1) := by decide +kernel
theorem dX9_lace_1 : decode cX9_lace 1 = .ok (.invokestatic 117, 3) := by decide +kernel
theorem dX9_lace_4 : decode cX9_lace 4 = .ok (.ifCond .eq 21, 3) := by decide +kernel
theorem dX9_lace_7 : decode cX9_lace 7 = .ok (.aload_n 0, 1) := by decide +kernel
theorem dX9_lace_8 : decode cX9_lace 8 = .ok (.iload_n 1, 1) := by decide +kernel
theorem dX9_lace_9 : decode cX9_lace 9 = .ok (.aload_n 0, 1) := by decide +kernel
theorem dX9_lace_10 : decode cX9_lace 10 = .ok (.getfield 23, 3) := by decide +kernel
theorem dX9_lace_13 : decode cX9_lace 13 = .ok (.getfield 62, 3) := by decide +kernel
theorem dX9_lace_16 : decode cX9_lace 16 = .ok (.invokestatic 120, 3) := by decide +kernel
theorem dX9_lace_19 : decode cX9_lace 19 = .ok (.invokevirtual 126, 3) := by decide +kernel
theorem dX9_lace_22 : decode cX9_lace 22 = .ok (.goto 4, 3) := by decide +kernel
theorem dX9_lace_25 : decode cX9_lace 25 = .ok (.iconst (-1), 1) := by decide +kernel
theorem dX9_lace_26 : decode cX9_lace 26 = .ok (.ireturn, 1) := by decide +kernel
theorem dX9_cut_0 : decode cX9_cut 0 = .ok (.iload_n 1, 1) := by decide +kernel
theorem dX9_cut_1 : decode cX9_cut 1 = .ok (.iconst 0, 1) := by decide +kernel
theorem dX9_cut_2 : decode cX9_cut 2 = .ok (.aload_n 0, 1) := by decide +kernel
theorem dX9_cut_3 : decode cX9_cut 3 = .ok (.getfield 23, 3) := by decide +kernel
theorem dX9_cut_6 : decode cX9_cut 6 = .ok (.getfield 62, 3) := by decide +kernel
theorem dX9_cut_9 : decode cX9_cut 9 = .ok (.iconst 1, 1) := by decide +kernel
theorem dX9_cut_10 : decode cX9_cut 10 = .ok (.isub, 1) := by decide +kernel
theorem dX9_cut_11 : decode cX9_cut 11 = .ok (.invokestatic 76, 3) := by decide +kernel
theorem dX9_cut_14 : decode cX9_cut 14 = .ok (.ifCond .eq 21, 3) := by decide +kernel
theorem dX9_cut_17 : decode cX9_cut 17 = .ok (.aload_n 0, 1) := by decide +kernel
theorem dX9_cut_18 : decode cX9_cut 18 = .ok (.iload_n 1, 1) := by decide +kernel
theorem dX9_cut_19 : decode cX9_cut 19 = .ok (.aload_n 0, 1) := by decide +kernel
theorem dX9_cut_20 : decode cX9_cut 20 = .ok (.getfield 23, 3) := by decide +kernel
theorem dX9_cut_23 : decode cX9_cut 23 = .ok (.getfield 62, 3) := by decide +kernel
theorem dX9_cut_26 : decode cX9_cut 26 = .ok (.invokestatic 130, 3) := by decide +kernel
theorem dX9_cut_29 : decode cX9_cut 29 = .ok (.invokevirtual 126, 3) := by decide +kernel
theorem dX9_cut_32 : decode cX9_cut 32 = .ok (.goto 4, 3) := by decide +kernel
theorem dX9_cut_35 : decode cX9_cut 35 = .ok (.iconst (-1), 1) := by decide +kernel
theorem dX9_cut_36 : decode cX9_cut 36 = .ok (.ireturn, 1) := by decide +kernel
theorem dX9_turn_0 : decode cX9_turn 0 = .ok (.aload_n 0, 1) := by decide +kernel
theorem dX9_turn_1 : decode cX9_turn 1 = .ok (.aload_n 0, 1) := by decide +kernel
theorem dX9_turn_2 : decode cX9_turn 2 = .ok (.getfield 23, 3) := by decide +kernel
theorem dX9_turn_5 : decode cX9_turn 5 = .ok (.getfield 62, 3) := by decide +kernel
theorem dX9_turn_8 : decode cX9_turn 8 = .ok (.invokestatic 133, 3) := by decide +kernel
theorem dX9_turn_11 : decode cX9_turn 11 = .ok (.invokevirtual 126, 3) := by decide +kernel
theorem dX9_turn_14 : decode cX9_turn 14 = .ok (.ireturn, 1) := by decide +kernel
theorem dX9_deal_0 : decode cX9_deal 0 = .ok (.aload_n 0, 1) := by decide +kernel
theorem dX9_deal_1 : decode cX9_deal 1 = .ok (.aload_n 0, 1) := by decide +kernel
theorem dX9_deal_2 : decode cX9_deal 2 = .ok (.getfield 23, 3) := by decide +kernel
theorem dX9_deal_5 : decode cX9_deal 5 = .ok (.getfield 136, 3) := by decide +kernel
theorem dX9_deal_8 : decode cX9_deal 8 = .ok (.invokevirtual 126, 3) := by decide +kernel
theorem dX9_deal_11 : decode cX9_deal 11 = .ok (.ireturn, 1) := by decide +kernel
theorem dX9_undo_0 : decode cX9_undo 0 = .ok (.aload_n 0, 1) := by decide +kernel
theorem dX9_undo_1 : decode cX9_undo 1 = .ok (.getfield 31, 3) := by decide +kernel
theorem dX9_undo_4 : decode cX9_undo 4 = .ok (.getfield 98, 3) := by decide +kernel
theorem dX9_undo_7 : decode cX9_undo 7 = .ok (.ifCond .ne 6, 3) := by decide +kernel
theorem dX9_undo_10 : decode cX9_undo 10 = .ok (.bipush (-2), 2) := by decide +kernel
theorem dX9_undo_12 : decode cX9_undo 12 = .ok (.ireturn, 1) := by decide +kernel
theorem dX9_undo_13 : decode cX9_undo 13 = .ok (.aload_n 0, 1) := by decide +kernel
theorem dX9_undo_14 : decode cX9_undo 14 = .ok (.aload_n 0, 1) := by decide +kernel
theorem dX9_undo_15 : decode cX9_undo 15 = .ok (.getfield 31, 3) := by decide +kernel
theorem dX9_undo_18 : decode cX9_undo 18 = .ok (.invokevirtual 139, 3) := by decide +kernel
theorem dX9_undo_21 : decode cX9_undo 21 = .ok (.putfield 72, 3) := by decide +kernel
theorem dX9_undo_24 : decode cX9_undo 24 = .ok (.aload_n 0, 1) := by decide +kernel
theorem dX9_undo_25 : decode cX9_undo 25 = .ok (.getfield 31, 3) := by decide +kernel
theorem dX9_undo_28 : decode cX9_undo 28 = .ok (.getfield 98, 3) := by decide +kernel
theorem dX9_undo_31 : decode cX9_undo 31 = .ok (.ireturn, 1) := by decide +kernel
theorem dX9_again_0 : decode cX9_again 0 = .ok (.iload_n 1, 1) := by decide +kernel
theorem dX9_again_1 : decode cX9_again 1 = .ok (.iconst 5, 1) := by decide +kernel
theorem dX9_again_2 : decode cX9_again 2 = .ok (.if_icmp .ne 21, 3) := by decide +kernel
theorem dX9_again_5 : decode cX9_again 5 = .ok (.aload_n 0, 1) := by decide +kernel
theorem dX9_again_6 : decode cX9_again 6 = .ok (.getfield 23, 3) := by decide +kernel
theorem dX9_again_9 : decode cX9_again 9 = .ok (.getfield 136, 3) := by decide +kernel
theorem dX9_again_12 : decode cX9_again 12 = .ok (.aload_n 0, 1) := by decide +kernel
theorem dX9_again_13 : decode cX9_again 13 = .ok (.getfield 23, 3) := by decide +kernel
theorem dX9_again_16 : decode cX9_again 16 = .ok (.getfield 62, 3) := by decide +kernel
theorem dX9_again_19 : decode cX9_again 19 = .ok (.invokestatic 143, 3) := by decide +kernel
theorem dX9_again_22 : decode cX9_again 22 = .ok (.ireturn, 1) := by decide +kernel
theorem dX9_again_23 : decode cX9_again 23 = .ok (.iload_n 1, 1) := by decide +kernel
theorem dX9_again_24 : decode cX9_again 24 = .ok (.invokestatic 117, 3) := by decide +kernel
theorem dX9_again_27 : decode cX9_again 27 = .ok (.ifCond .eq 27, 3) := by decide +kernel
theorem dX9_again_30 : decode cX9_again 30 = .ok (.iload_n 1, 1) := by decide +kernel
theorem dX9_again_31 : decode cX9_again 31 = .ok (.aload_n 0, 1) := by decide +kernel
theorem dX9_again_32 : decode cX9_again 32 = .ok (.getfield 23, 3) := by decide +kernel
theorem dX9_again_35 : decode cX9_again 35 = .ok (.getfield 62, 3) := by decide +kernel
theorem dX9_again_38 : decode cX9_again 38 = .ok (.invokestatic 120, 3) := by decide +kernel
theorem dX9_again_41 : decode cX9_again 41 = .ok (.aload_n 0, 1) := by decide +kernel
theorem dX9_again_42 : decode cX9_again 42 = .ok (.getfield 23, 3) := by decide +kernel
theorem dX9_again_45 : decode cX9_again 45 = .ok (.getfield 62, 3) := by decide +kernel
theorem dX9_again_48 : decode cX9_again 48 = .ok (.invokestatic 143, 3) := by decide +kernel
theorem dX9_again_51 : decode cX9_again 51 = .ok (.goto 4, 3) := by decide +kernel
theorem dX9_again_54 : decode cX9_again 54 = .ok (.iconst (-1), 1) := by decide +kernel
theorem dX9_again_55 : decode cX9_again 55 = .ok (.ireturn, 1) := by decide +kernel
theorem dX9_round_0 : decode cX9_round 0 = .ok (.aload_n 0, 1) := by decide +kernel
theorem dX9_round_1 : decode cX9_round 1 = .ok (.iload_n 1, 1) := by decide +kernel
theorem dX9_round_2 : decode cX9_round 2 = .ok (.invokevirtual 99, 3) := by decide +kernel
theorem dX9_round_5 : decode cX9_round 5 = .ok (.ifCond .eq 10, 3) := by decide +kernel
theorem dX9_round_8 : decode cX9_round 8 = .ok (.iload_n 2, 1) := by decide +kernel
theorem dX9_round_9 : decode cX9_round 9 = .ok (.invokestatic 117, 3) := by decide +kernel
theorem dX9_round_12 : decode cX9_round 12 = .ok (.ifCond .ne 5, 3) := by decide +kernel
theorem dX9_round_15 : decode cX9_round 15 = .ok (.iconst (-1), 1) := by decide +kernel
theorem dX9_round_16 : decode cX9_round 16 = .ok (.ireturn, 1) := by decide +kernel
theorem dX9_round_17 : decode cX9_round 17 = .ok (.iload_n 2, 1) := by decide +kernel
theorem dX9_round_18 : decode cX9_round 18 = .ok (.aload_n 0, 1) := by decide +kernel
theorem dX9_round_19 : decode cX9_round 19 = .ok (.getfield 23, 3) := by decide +kernel
theorem dX9_round_22 : decode cX9_round 22 = .ok (.getfield 62, 3) := by decide +kernel
theorem dX9_round_25 : decode cX9_round 25 = .ok (.invokestatic 120, 3) := by decide +kernel
theorem dX9_round_28 : decode cX9_round 28 = .ok (.aload_n 0, 1) := by decide +kernel
theorem dX9_round_29 : decode cX9_round 29 = .ok (.getfield 23, 3) := by decide +kernel
theorem dX9_round_32 : decode cX9_round 32 = .ok (.getfield 62, 3) := by decide +kernel
theorem dX9_round_35 : decode cX9_round 35 = .ok (.iload_n 1, 1) := by decide +kernel
theorem dX9_round_36 : decode cX9_round 36 = .ok (.invokestatic 146, 3) := by decide +kernel
theorem dX9_round_39 : decode cX9_round 39 = .ok (.ireturn, 1) := by decide +kernel
theorem dX9_rounds_0 : decode cX9_rounds 0 = .ok (.iload_n 1, 1) := by decide +kernel
theorem dX9_rounds_1 : decode cX9_rounds 1 = .ok (.invokestatic 117, 3) := by decide +kernel
theorem dX9_rounds_4 : decode cX9_rounds 4 = .ok (.ifCond .eq 27, 3) := by decide +kernel
theorem dX9_rounds_7 : decode cX9_rounds 7 = .ok (.iload_n 1, 1) := by decide +kernel
theorem dX9_rounds_8 : decode cX9_rounds 8 = .ok (.aload_n 0, 1) := by decide +kernel
theorem dX9_rounds_9 : decode cX9_rounds 9 = .ok (.getfield 23, 3) := by decide +kernel
theorem dX9_rounds_12 : decode cX9_rounds 12 = .ok (.getfield 62, 3) := by decide +kernel
theorem dX9_rounds_15 : decode cX9_rounds 15 = .ok (.invokestatic 120, 3) := by decide +kernel
theorem dX9_rounds_18 : decode cX9_rounds 18 = .ok (.aload_n 0, 1) := by decide +kernel
theorem dX9_rounds_19 : decode cX9_rounds 19 = .ok (.getfield 23, 3) := by decide +kernel
theorem dX9_rounds_22 : decode cX9_rounds 22 = .ok (.getfield 62, 3) := by decide +kernel
theorem dX9_rounds_25 : decode cX9_rounds 25 = .ok (.invokestatic 149, 3) := by decide +kernel
theorem dX9_rounds_28 : decode cX9_rounds 28 = .ok (.goto 4, 3) := by decide +kernel
theorem dX9_rounds_31 : decode cX9_rounds 31 = .ok (.iconst (-1), 1) := by decide +kernel
theorem dX9_rounds_32 : decode cX9_rounds 32 = .ok (.ireturn, 1) := by decide +kernel
theorem dX9_bring_0 : decode cX9_bring 0 = .ok (.aload_n 0, 1) := by decide +kernel
theorem dX9_bring_1 : decode cX9_bring 1 = .ok (.iload_n 1, 1) := by decide +kernel
theorem dX9_bring_2 : decode cX9_bring 2 = .ok (.invokevirtual 106, 3) := by decide +kernel
theorem dX9_bring_5 : decode cX9_bring 5 = .ok (.ifCond .eq 16, 3) := by decide +kernel
theorem dX9_bring_8 : decode cX9_bring 8 = .ok (.aload_n 0, 1) := by decide +kernel
theorem dX9_bring_9 : decode cX9_bring 9 = .ok (.iload_n 2, 1) := by decide +kernel
theorem dX9_bring_10 : decode cX9_bring 10 = .ok (.invokevirtual 99, 3) := by decide +kernel
theorem dX9_bring_13 : decode cX9_bring 13 = .ok (.ifCond .eq 8, 3) := by decide +kernel
theorem dX9_bring_16 : decode cX9_bring 16 = .ok (.iload_n 3, 1) := by decide +kernel
theorem dX9_bring_17 : decode cX9_bring 17 = .ok (.iconst (-1), 1) := by decide +kernel
theorem dX9_bring_18 : decode cX9_bring 18 = .ok (.if_icmp .ge 5, 3) := by decide +kernel
theorem dX9_bring_21 : decode cX9_bring 21 = .ok (.iconst (-1), 1) := by decide +kernel
theorem dX9_bring_22 : decode cX9_bring 22 = .ok (.ireturn, 1) := by decide +kernel
theorem dX9_bring_23 : decode cX9_bring 23 = .ok (.aload_n 0, 1) := by decide +kernel
theorem dX9_bring_24 : decode cX9_bring 24 = .ok (.getfield 72, 3) := by decide +kernel
theorem dX9_bring_27 : decode cX9_bring 27 = .ok (.aload_n 0, 1) := by decide +kernel
theorem dX9_bring_28 : decode cX9_bring 28 = .ok (.getfield 23, 3) := by decide +kernel
theorem dX9_bring_31 : decode cX9_bring 31 = .ok (.getfield 62, 3) := by decide +kernel
theorem dX9_bring_34 : decode cX9_bring 34 = .ok (.iload_n 1, 1) := by decide +kernel
theorem dX9_bring_35 : decode cX9_bring 35 = .ok (.invokestatic 109, 3) := by decide +kernel
theorem dX9_bring_38 : decode cX9_bring 38 = .ok (.istore 4, 2) := by decide +kernel
theorem dX9_bring_40 : decode cX9_bring 40 = .ok (.aload_n 0, 1) := by decide +kernel
theorem dX9_bring_41 : decode cX9_bring 41 = .ok (.getfield 48, 3) := by decide +kernel
theorem dX9_bring_44 : decode cX9_bring 44 = .ok (.iload_n 2, 1) := by decide +kernel
theorem dX9_bring_45 : decode cX9_bring 45 = .ok (.aload_n 0, 1) := by decide +kernel
theorem dX9_bring_46 : decode cX9_bring 46 = .ok (.getfield 23, 3) := by decide +kernel
theorem dX9_bring_49 : decode cX9_bring 49 = .ok (.getfield 62, 3) := by decide +kernel
theorem dX9_bring_52 : decode cX9_bring 52 = .ok (.invokevirtual 152, 3) := by decide +kernel
theorem dX9_bring_55 : decode cX9_bring 55 = .ok (.iload_n 3, 1) := by decide +kernel
theorem dX9_bring_56 : decode cX9_bring 56 = .ok (.iconst (-1), 1) := by decide +kernel
theorem dX9_bring_57 : decode cX9_bring 57 = .ok (.if_icmp .ne 15, 3) := by decide +kernel
theorem dX9_bring_60 : decode cX9_bring 60 = .ok (.aload_n 0, 1) := by decide +kernel
theorem dX9_bring_61 : decode cX9_bring 61 = .ok (.getfield 48, 3) := by decide +kernel
theorem dX9_bring_64 : decode cX9_bring 64 = .ok (.iload 4, 2) := by decide +kernel
theorem dX9_bring_66 : decode cX9_bring 66 = .ok (.invokevirtual 156, 3) := by decide +kernel
theorem dX9_bring_69 : decode cX9_bring 69 = .ok (.goto 20, 3) := by decide +kernel
theorem dX9_bring_72 : decode cX9_bring 72 = .ok (.aload_n 0, 1) := by decide +kernel
theorem dX9_bring_73 : decode cX9_bring 73 = .ok (.getfield 48, 3) := by decide +kernel
theorem dX9_bring_76 : decode cX9_bring 76 = .ok (.iload 4, 2) := by decide +kernel
theorem dX9_bring_78 : decode cX9_bring 78 = .ok (.iload_n 3, 1) := by decide +kernel
theorem dX9_bring_79 : decode cX9_bring 79 = .ok (.aload_n 0, 1) := by decide +kernel
theorem dX9_bring_80 : decode cX9_bring 80 = .ok (.getfield 23, 3) := by decide +kernel
theorem dX9_bring_83 : decode cX9_bring 83 = .ok (.getfield 62, 3) := by decide +kernel
theorem dX9_bring_86 : decode cX9_bring 86 = .ok (.invokevirtual 159, 3) := by decide +kernel
theorem dX9_bring_89 : decode cX9_bring 89 = .ok (.ireturn, 1) := by decide +kernel
theorem dX9_beside_0 : decode cX9_beside 0 = .ok (.aload_n 0, 1) := by decide +kernel
theorem dX9_beside_1 : decode cX9_beside 1 = .ok (.iload_n 1, 1) := by decide +kernel
theorem dX9_beside_2 : decode cX9_beside 2 = .ok (.invokevirtual 106, 3) := by decide +kernel
theorem dX9_beside_5 : decode cX9_beside 5 = .ok (.ifCond .eq 16, 3) := by decide +kernel
theorem dX9_beside_8 : decode cX9_beside 8 = .ok (.aload_n 0, 1) := by decide +kernel
theorem dX9_beside_9 : decode cX9_beside 9 = .ok (.iload_n 2, 1) := by decide +kernel
theorem dX9_beside_10 : decode cX9_beside 10 = .ok (.invokevirtual 106, 3) := by decide +kernel
theorem dX9_beside_13 : decode cX9_beside 13 = .ok (.ifCond .eq 8, 3) := by decide +kernel
theorem dX9_beside_16 : decode cX9_beside 16 = .ok (.iload_n 1, 1) := by decide +kernel
theorem dX9_beside_17 : decode cX9_beside 17 = .ok (.iload_n 2, 1) := by decide +kernel
theorem dX9_beside_18 : decode cX9_beside 18 = .ok (.if_icmp .ne 5, 3) := by decide +kernel
theorem dX9_beside_21 : decode cX9_beside 21 = .ok (.iconst (-1), 1) := by decide +kernel
theorem dX9_beside_22 : decode cX9_beside 22 = .ok (.ireturn, 1) := by decide +kernel
theorem dX9_beside_23 : decode cX9_beside 23 = .ok (.aload_n 0, 1) := by decide +kernel
theorem dX9_beside_24 : decode cX9_beside 24 = .ok (.getfield 72, 3) := by decide +kernel
theorem dX9_beside_27 : decode cX9_beside 27 = .ok (.aload_n 0, 1) := by decide +kernel
theorem dX9_beside_28 : decode cX9_beside 28 = .ok (.getfield 23, 3) := by decide +kernel
theorem dX9_beside_31 : decode cX9_beside 31 = .ok (.getfield 62, 3) := by decide +kernel
theorem dX9_beside_34 : decode cX9_beside 34 = .ok (.iload_n 1, 1) := by decide +kernel
theorem dX9_beside_35 : decode cX9_beside 35 = .ok (.invokestatic 109, 3) := by decide +kernel
theorem dX9_beside_38 : decode cX9_beside 38 = .ok (.istore_n 3, 1) := by decide +kernel
theorem dX9_beside_39 : decode cX9_beside 39 = .ok (.aload_n 0, 1) := by decide +kernel
theorem dX9_beside_40 : decode cX9_beside 40 = .ok (.getfield 72, 3) := by decide +kernel
theorem dX9_beside_43 : decode cX9_beside 43 = .ok (.aload_n 0, 1) := by decide +kernel
theorem dX9_beside_44 : decode cX9_beside 44 = .ok (.getfield 23, 3) := by decide +kernel
theorem dX9_beside_47 : decode cX9_beside 47 = .ok (.getfield 62, 3) := by decide +kernel
theorem dX9_beside_50 : decode cX9_beside 50 = .ok (.iload_n 2, 1) := by decide +kernel
theorem dX9_beside_51 : decode cX9_beside 51 = .ok (.invokestatic 109, 3) := by decide +kernel
theorem dX9_beside_54 : decode cX9_beside 54 = .ok (.istore 4, 2) := by decide +kernel
theorem dX9_beside_56 : decode cX9_beside 56 = .ok (.aload_n 0, 1) := by decide +kernel
theorem dX9_beside_57 : decode cX9_beside 57 = .ok (.getfield 48, 3) := by decide +kernel
theorem dX9_beside_60 : decode cX9_beside 60 = .ok (.iload_n 3, 1) := by decide +kernel
theorem dX9_beside_61 : decode cX9_beside 61 = .ok (.iload 4, 2) := by decide +kernel
theorem dX9_beside_63 : decode cX9_beside 63 = .ok (.aload_n 0, 1) := by decide +kernel
theorem dX9_beside_64 : decode cX9_beside 64 = .ok (.getfield 23, 3) := by decide +kernel
theorem dX9_beside_67 : decode cX9_beside 67 = .ok (.getfield 62, 3) := by decide +kernel
theorem dX9_beside_70 : decode cX9_beside 70 = .ok (.invokevirtual 163, 3) := by decide +kernel
theorem dX9_beside_73 : decode cX9_beside 73 = .ok (.ireturn, 1) := by decide +kernel
theorem dX9_orders_0 : decode cX9_orders 0 = .ok (.iload_n 1, 1) := by decide +kernel
theorem dX9_orders_1 : decode cX9_orders 1 = .ok (.iconst 0, 1) := by decide +kernel
theorem dX9_orders_2 : decode cX9_orders 2 = .ok (.bipush 6, 2) := by decide +kernel
theorem dX9_orders_4 : decode cX9_orders 4 = .ok (.invokestatic 76, 3) := by decide +kernel
theorem dX9_orders_7 : decode cX9_orders 7 = .ok (.ifCond .eq 21, 3) := by decide +kernel
theorem dX9_orders_10 : decode cX9_orders 10 = .ok (.aload_n 0, 1) := by decide +kernel
theorem dX9_orders_11 : decode cX9_orders 11 = .ok (.getfield 48, 3) := by decide +kernel
theorem dX9_orders_14 : decode cX9_orders 14 = .ok (.iload_n 1, 1) := by decide +kernel
theorem dX9_orders_15 : decode cX9_orders 15 = .ok (.aload_n 0, 1) := by decide +kernel
theorem dX9_orders_16 : decode cX9_orders 16 = .ok (.getfield 23, 3) := by decide +kernel
theorem dX9_orders_19 : decode cX9_orders 19 = .ok (.getfield 62, 3) := by decide +kernel
theorem dX9_orders_22 : decode cX9_orders 22 = .ok (.invokevirtual 166, 3) := by decide +kernel
theorem dX9_orders_25 : decode cX9_orders 25 = .ok (.goto 4, 3) := by decide +kernel
theorem dX9_orders_28 : decode cX9_orders 28 = .ok (.iconst (-1), 1) := by decide +kernel
theorem dX9_orders_29 : decode cX9_orders 29 = .ok (.ireturn, 1) := by decide +kernel
theorem dX9_rising_0 : decode cX9_rising 0 = .ok (.aload_n 0, 1) := by decide +kernel
theorem dX9_rising_1 : decode cX9_rising 1 = .ok (.getfield 72, 3) := by decide +kernel
theorem dX9_rising_4 : decode cX9_rising 4 = .ok (.aload_n 0, 1) := by decide +kernel
theorem dX9_rising_5 : decode cX9_rising 5 = .ok (.getfield 23, 3) := by decide +kernel
theorem dX9_rising_8 : decode cX9_rising 8 = .ok (.getfield 62, 3) := by decide +kernel
theorem dX9_rising_11 : decode cX9_rising 11 = .ok (.invokestatic 170, 3) := by decide +kernel
theorem dX9_rising_14 : decode cX9_rising 14 = .ok (.ireturn, 1) := by decide +kernel
theorem dX9_pairs_0 : decode cX9_pairs 0 = .ok (.iconst 0, 1) := by decide +kernel
theorem dX9_pairs_1 : decode cX9_pairs 1 = .ok (.istore_n 1, 1) := by decide +kernel
theorem dX9_pairs_2 : decode cX9_pairs 2 = .ok (.iconst 0, 1) := by decide +kernel
theorem dX9_pairs_3 : decode cX9_pairs 3 = .ok (.istore_n 2, 1) := by decide +kernel
theorem dX9_pairs_4 : decode cX9_pairs 4 = .ok (.iload_n 2, 1) := by decide +kernel
theorem dX9_pairs_5 : decode cX9_pairs 5 = .ok (.iconst 1, 1) := by decide +kernel
theorem dX9_pairs_6 : decode cX9_pairs 6 = .ok (.iadd, 1) := by decide +kernel
theorem dX9_pairs_7 : decode cX9_pairs 7 = .ok (.aload_n 0, 1) := by decide +kernel
theorem dX9_pairs_8 : decode cX9_pairs 8 = .ok (.getfield 23, 3) := by decide +kernel
theorem dX9_pairs_11 : decode cX9_pairs 11 = .ok (.getfield 62, 3) := by decide +kernel
theorem dX9_pairs_14 : decode cX9_pairs 14 = .ok (.if_icmp .ge 40, 3) := by decide +kernel
theorem dX9_pairs_17 : decode cX9_pairs 17 = .ok (.aload_n 0, 1) := by decide +kernel
theorem dX9_pairs_18 : decode cX9_pairs 18 = .ok (.getfield 23, 3) := by decide +kernel
theorem dX9_pairs_21 : decode cX9_pairs 21 = .ok (.aload_n 0, 1) := by decide +kernel
theorem dX9_pairs_22 : decode cX9_pairs 22 = .ok (.getfield 72, 3) := by decide +kernel
theorem dX9_pairs_25 : decode cX9_pairs 25 = .ok (.iload_n 2, 1) := by decide +kernel
theorem dX9_pairs_26 : decode cX9_pairs 26 = .ok (.invokestatic 102, 3) := by decide +kernel
theorem dX9_pairs_29 : decode cX9_pairs 29 = .ok (.aload_n 0, 1) := by decide +kernel
theorem dX9_pairs_30 : decode cX9_pairs 30 = .ok (.getfield 72, 3) := by decide +kernel
theorem dX9_pairs_33 : decode cX9_pairs 33 = .ok (.iload_n 2, 1) := by decide +kernel
theorem dX9_pairs_34 : decode cX9_pairs 34 = .ok (.iconst 1, 1) := by decide +kernel
theorem dX9_pairs_35 : decode cX9_pairs 35 = .ok (.iadd, 1) := by decide +kernel
theorem dX9_pairs_36 : decode cX9_pairs 36 = .ok (.invokestatic 102, 3) := by decide +kernel
theorem dX9_pairs_39 : decode cX9_pairs 39 = .ok (.invokevirtual 173, 3) := by decide +kernel
theorem dX9_pairs_42 : decode cX9_pairs 42 = .ok (.ifCond .eq 6, 3) := by decide +kernel
theorem dX9_pairs_45 : decode cX9_pairs 45 = .ok (.iinc 1 1, 3) := by decide +kernel
theorem dX9_pairs_48 : decode cX9_pairs 48 = .ok (.iinc 2 2, 3) := by decide +kernel
theorem dX9_pairs_51 : decode cX9_pairs 51 = .ok (.goto (-47), 3) := by decide +kernel
theorem dX9_pairs_54 : decode cX9_pairs 54 = .ok (.iload_n 1, 1) := by decide +kernel
theorem dX9_pairs_55 : decode cX9_pairs 55 = .ok (.ireturn, 1) := by decide +kernel
theorem dX9_sure_0 : decode cX9_sure 0 = .ok (.iload_n 1, 1) := by decide +kernel
theorem dX9_sure_1 : decode cX9_sure 1 = .ok (.iconst 0, 1) := by decide +kernel
theorem dX9_sure_2 : decode cX9_sure 2 = .ok (.aload_n 0, 1) := by decide +kernel
theorem dX9_sure_3 : decode cX9_sure 3 = .ok (.getfield 23, 3) := by decide +kernel
theorem dX9_sure_6 : decode cX9_sure 6 = .ok (.getfield 62, 3) := by decide +kernel
theorem dX9_sure_9 : decode cX9_sure 9 = .ok (.invokestatic 76, 3) := by decide +kernel
theorem dX9_sure_12 : decode cX9_sure 12 = .ok (.ifCond .eq 12, 3) := by decide +kernel
theorem dX9_sure_15 : decode cX9_sure 15 = .ok (.iload_n 2, 1) := by decide +kernel
theorem dX9_sure_16 : decode cX9_sure 16 = .ok (.iconst 0, 1) := by decide +kernel
theorem dX9_sure_17 : decode cX9_sure 17 = .ok (.iconst 1, 1) := by decide +kernel
theorem dX9_sure_18 : decode cX9_sure 18 = .ok (.invokestatic 76, 3) := by decide +kernel
theorem dX9_sure_21 : decode cX9_sure 21 = .ok (.ifCond .ne 5, 3) := by decide +kernel
theorem dX9_sure_24 : decode cX9_sure 24 = .ok (.iconst (-1), 1) := by decide +kernel
theorem dX9_sure_25 : decode cX9_sure 25 = .ok (.ireturn, 1) := by decide +kernel
theorem dX9_sure_26 : decode cX9_sure 26 = .ok (.aload_n 0, 1) := by decide +kernel
theorem dX9_sure_27 : decode cX9_sure 27 = .ok (.getfield 55, 3) := by decide +kernel
theorem dX9_sure_30 : decode cX9_sure 30 = .ok (.aload_n 0, 1) := by decide +kernel
theorem dX9_sure_31 : decode cX9_sure 31 = .ok (.getfield 23, 3) := by decide +kernel
theorem dX9_sure_34 : decode cX9_sure 34 = .ok (.aload_n 0, 1) := by decide +kernel
theorem dX9_sure_35 : decode cX9_sure 35 = .ok (.getfield 72, 3) := by decide +kernel
theorem dX9_sure_38 : decode cX9_sure 38 = .ok (.iload_n 1, 1) := by decide +kernel
theorem dX9_sure_39 : decode cX9_sure 39 = .ok (.invokevirtual 177, 3) := by decide +kernel
theorem dX9_sure_42 : decode cX9_sure 42 = .ok (.istore_n 3, 1) := by decide +kernel
theorem dX9_sure_43 : decode cX9_sure 43 = .ok (.iload_n 3, 1) := by decide +kernel
theorem dX9_sure_44 : decode cX9_sure 44 = .ok (.aload_n 0, 1) := by decide +kernel
theorem dX9_sure_45 : decode cX9_sure 45 = .ok (.getfield 23, 3) := by decide +kernel
theorem dX9_sure_48 : decode cX9_sure 48 = .ok (.getfield 62, 3) := by decide +kernel
theorem dX9_sure_51 : decode cX9_sure 51 = .ok (.iload_n 1, 1) := by decide +kernel
theorem dX9_sure_52 : decode cX9_sure 52 = .ok (.invokestatic 181, 3) := by decide +kernel
theorem dX9_sure_55 : decode cX9_sure 55 = .ok (.iload_n 2, 1) := by decide +kernel
theorem dX9_sure_56 : decode cX9_sure 56 = .ok (.invokestatic 186, 3) := by decide +kernel
theorem dX9_sure_59 : decode cX9_sure 59 = .ok (.ireturn, 1) := by decide +kernel
theorem dX9_seen_0 : decode cX9_seen 0 = .ok (.aload_n 0, 1) := by decide +kernel
theorem dX9_seen_1 : decode cX9_seen 1 = .ok (.iload_n 1, 1) := by decide +kernel
theorem dX9_seen_2 : decode cX9_seen 2 = .ok (.invokevirtual 106, 3) := by decide +kernel
theorem dX9_seen_5 : decode cX9_seen 5 = .ok (.ifCond .eq 11, 3) := by decide +kernel
theorem dX9_seen_8 : decode cX9_seen 8 = .ok (.aload_n 0, 1) := by decide +kernel
theorem dX9_seen_9 : decode cX9_seen 9 = .ok (.iload_n 2, 1) := by decide +kernel
theorem dX9_seen_10 : decode cX9_seen 10 = .ok (.invokevirtual 99, 3) := by decide +kernel
theorem dX9_seen_13 : decode cX9_seen 13 = .ok (.ifCond .ne 5, 3) := by decide +kernel
theorem dX9_seen_16 : decode cX9_seen 16 = .ok (.iconst (-1), 1) := by decide +kernel
theorem dX9_seen_17 : decode cX9_seen 17 = .ok (.ireturn, 1) := by decide +kernel
theorem dX9_seen_18 : decode cX9_seen 18 = .ok (.aload_n 0, 1) := by decide +kernel
theorem dX9_seen_19 : decode cX9_seen 19 = .ok (.getfield 41, 3) := by decide +kernel
theorem dX9_seen_22 : decode cX9_seen 22 = .ok (.iload_n 1, 1) := by decide +kernel
theorem dX9_seen_23 : decode cX9_seen 23 = .ok (.iload_n 2, 1) := by decide +kernel
theorem dX9_seen_24 : decode cX9_seen 24 = .ok (.invokevirtual 189, 3) := by decide +kernel
theorem dX9_seen_27 : decode cX9_seen 27 = .ok (.ifCond .eq 13, 3) := by decide +kernel
theorem dX9_seen_30 : decode cX9_seen 30 = .ok (.aload_n 0, 1) := by decide +kernel
theorem dX9_seen_31 : decode cX9_seen 31 = .ok (.getfield 41, 3) := by decide +kernel
theorem dX9_seen_34 : decode cX9_seen 34 = .ok (.getfield 95, 3) := by decide +kernel
theorem dX9_seen_37 : decode cX9_seen 37 = .ok (.goto 5, 3) := by decide +kernel
theorem dX9_seen_40 : decode cX9_seen 40 = .ok (.bipush (-3), 2) := by decide +kernel
theorem dX9_seen_42 : decode cX9_seen 42 = .ok (.ireturn, 1) := by decide +kernel
theorem dX9_forget_0 : decode cX9_forget 0 = .ok (.aload_n 0, 1) := by decide +kernel
theorem dX9_forget_1 : decode cX9_forget 1 = .ok (.getfield 41, 3) := by decide +kernel
theorem dX9_forget_4 : decode cX9_forget 4 = .ok (.getfield 95, 3) := by decide +kernel
theorem dX9_forget_7 : decode cX9_forget 7 = .ok (.istore_n 1, 1) := by decide +kernel
theorem dX9_forget_8 : decode cX9_forget 8 = .ok (.aload_n 0, 1) := by decide +kernel
theorem dX9_forget_9 : decode cX9_forget 9 = .ok (.getfield 41, 3) := by decide +kernel
theorem dX9_forget_12 : decode cX9_forget 12 = .ok (.iconst 0, 1) := by decide +kernel
theorem dX9_forget_13 : decode cX9_forget 13 = .ok (.putfield 95, 3) := by decide +kernel
theorem dX9_forget_16 : decode cX9_forget 16 = .ok (.iload_n 1, 1) := by decide +kernel
theorem dX9_forget_17 : decode cX9_forget 17 = .ok (.ireturn, 1) := by decide +kernel
theorem dX9_done_0 : decode cX9_done 0 = .ok (.iload_n 1, 1) := by decide +kernel
theorem dX9_done_1 : decode cX9_done 1 = .ok (.ifCond .ne 8, 3) := by decide +kernel
theorem dX9_done_4 : decode cX9_done 4 = .ok (.aload_n 0, 1) := by decide +kernel
theorem dX9_done_5 : decode cX9_done 5 = .ok (.invokevirtual 192, 3) := by decide +kernel
theorem dX9_done_8 : decode cX9_done 8 = .ok (.ireturn, 1) := by decide +kernel
theorem dX9_done_9 : decode cX9_done 9 = .ok (.iload_n 1, 1) := by decide +kernel
theorem dX9_done_10 : decode cX9_done 10 = .ok (.iconst 1, 1) := by decide +kernel
theorem dX9_done_11 : decode cX9_done 11 = .ok (.if_icmp .ne 10, 3) := by decide +kernel
theorem dX9_done_14 : decode cX9_done 14 = .ok (.aload_n 0, 1) := by decide +kernel
theorem dX9_done_15 : decode cX9_done 15 = .ok (.invokevirtual 196, 3) := by decide +kernel
theorem dX9_done_18 : decode cX9_done 18 = .ok (.goto 4, 3) := by decide +kernel
theorem dX9_done_21 : decode cX9_done 21 = .ok (.iconst (-1), 1) := by decide +kernel
theorem dX9_done_22 : decode cX9_done 22 = .ok (.ireturn, 1) := by decide +kernel
theorem dX9_likely_0 : decode cX9_likely 0 = .ok (.iload_n 3, 1) := by decide +kernel
theorem dX9_likely_1 : decode cX9_likely 1 = .ok (.iconst 0, 1) := by decide +kernel
theorem dX9_likely_2 : decode cX9_likely 2 = .ok (.iconst 5, 1) := by decide +kernel
theorem dX9_likely_3 : decode cX9_likely 3 = .ok (.invokestatic 76, 3) := by decide +kernel
theorem dX9_likely_6 : decode cX9_likely 6 = .ok (.ifCond .eq 28, 3) := by decide +kernel
theorem dX9_likely_9 : decode cX9_likely 9 = .ok (.iload 4, 2) := by decide +kernel
theorem dX9_likely_11 : decode cX9_likely 11 = .ok (.iconst 0, 1) := by decide +kernel
theorem dX9_likely_12 : decode cX9_likely 12 = .ok (.bipush 10, 2) := by decide +kernel
theorem dX9_likely_14 : decode cX9_likely 14 = .ok (.invokestatic 76, 3) := by decide +kernel
theorem dX9_likely_17 : decode cX9_likely 17 = .ok (.ifCond .eq 17, 3) := by decide +kernel
theorem dX9_likely_20 : decode cX9_likely 20 = .ok (.iload 5, 2) := by decide +kernel
theorem dX9_likely_22 : decode cX9_likely 22 = .ok (.iconst 0, 1) := by decide +kernel
theorem dX9_likely_23 : decode cX9_likely 23 = .ok (.iconst 1, 1) := by decide +kernel
theorem dX9_likely_24 : decode cX9_likely 24 = .ok (.invokestatic 76, 3) := by decide +kernel
theorem dX9_likely_27 : decode cX9_likely 27 = .ok (.ifCond .eq 7, 3) := by decide +kernel
theorem dX9_likely_30 : decode cX9_likely 30 = .ok (.iconst 1, 1) := by decide +kernel
theorem dX9_likely_31 : decode cX9_likely 31 = .ok (.goto 4, 3) := by decide +kernel
theorem dX9_likely_34 : decode cX9_likely 34 = .ok (.iconst 0, 1) := by decide +kernel
theorem dX9_likely_35 : decode cX9_likely 35 = .ok (.istore 6, 2) := by decide +kernel
theorem dX9_likely_37 : decode cX9_likely 37 = .ok (.aload_n 0, 1) := by decide +kernel
theorem dX9_likely_38 : decode cX9_likely 38 = .ok (.iload_n 1, 1) := by decide +kernel
theorem dX9_likely_39 : decode cX9_likely 39 = .ok (.invokevirtual 106, 3) := by decide +kernel
theorem dX9_likely_42 : decode cX9_likely 42 = .ok (.ifCond .eq 16, 3) := by decide +kernel
theorem dX9_likely_45 : decode cX9_likely 45 = .ok (.aload_n 0, 1) := by decide +kernel
theorem dX9_likely_46 : decode cX9_likely 46 = .ok (.iload_n 2, 1) := by decide +kernel
theorem dX9_likely_47 : decode cX9_likely 47 = .ok (.invokevirtual 99, 3) := by decide +kernel
theorem dX9_likely_50 : decode cX9_likely 50 = .ok (.ifCond .eq 8, 3) := by decide +kernel
theorem dX9_likely_53 : decode cX9_likely 53 = .ok (.iload 6, 2) := by decide +kernel
theorem dX9_likely_55 : decode cX9_likely 55 = .ok (.ifCond .ne 5, 3) := by decide +kernel
theorem dX9_likely_58 : decode cX9_likely 58 = .ok (.iconst (-1), 1) := by decide +kernel
theorem dX9_likely_59 : decode cX9_likely 59 = .ok (.ireturn, 1) := by decide +kernel
theorem dX9_likely_60 : decode cX9_likely 60 = .ok (.aload_n 0, 1) := by decide +kernel
theorem dX9_likely_61 : decode cX9_likely 61 = .ok (.getfield 72, 3) := by decide +kernel
theorem dX9_likely_64 : decode cX9_likely 64 = .ok (.aload_n 0, 1) := by decide +kernel
theorem dX9_likely_65 : decode cX9_likely 65 = .ok (.getfield 23, 3) := by decide +kernel
theorem dX9_likely_68 : decode cX9_likely 68 = .ok (.getfield 62, 3) := by decide +kernel
theorem dX9_likely_71 : decode cX9_likely 71 = .ok (.iload_n 1, 1) := by decide +kernel
theorem dX9_likely_72 : decode cX9_likely 72 = .ok (.invokestatic 109, 3) := by decide +kernel
theorem dX9_likely_75 : decode cX9_likely 75 = .ok (.istore 7, 2) := by decide +kernel
theorem dX9_likely_77 : decode cX9_likely 77 = .ok (.iconst 0, 1) := by decide +kernel
theorem dX9_likely_78 : decode cX9_likely 78 = .ok (.istore 8, 2) := by decide +kernel
theorem dX9_likely_80 : decode cX9_likely 80 = .ok (.iconst 0, 1) := by decide +kernel
theorem dX9_likely_81 : decode cX9_likely 81 = .ok (.istore 9, 2) := by decide +kernel
theorem dX9_likely_83 : decode cX9_likely 83 = .ok (.iload 9, 2) := by decide +kernel
theorem dX9_likely_85 : decode cX9_likely 85 = .ok (.iconst 1, 1) := by decide +kernel
theorem dX9_likely_86 : decode cX9_likely 86 = .ok (.iload_n 3, 1) := by decide +kernel
theorem dX9_likely_87 : decode cX9_likely 87 = .ok (.ishl, 1) := by decide +kernel
theorem dX9_likely_88 : decode cX9_likely 88 = .ok (.if_icmp .ge 35, 3) := by decide +kernel
theorem dX9_likely_91 : decode cX9_likely 91 = .ok (.aload_n 0, 1) := by decide +kernel
theorem dX9_likely_92 : decode cX9_likely 92 = .ok (.iload 7, 2) := by decide +kernel
theorem dX9_likely_94 : decode cX9_likely 94 = .ok (.iload 9, 2) := by decide +kernel
theorem dX9_likely_96 : decode cX9_likely 96 = .ok (.iload_n 3, 1) := by decide +kernel
theorem dX9_likely_97 : decode cX9_likely 97 = .ok (.invokevirtual 199, 3) := by decide +kernel
theorem dX9_likely_100 : decode cX9_likely 100 = .ok (.iload_n 2, 1) := by decide +kernel
theorem dX9_likely_101 : decode cX9_likely 101 = .ok (.if_icmp .ne 16, 3) := by decide +kernel
theorem dX9_likely_104 : decode cX9_likely 104 = .ok (.iload 8, 2) := by decide +kernel
theorem dX9_likely_106 : decode cX9_likely 106 = .ok (.iload 9, 2) := by decide +kernel
theorem dX9_likely_108 : decode cX9_likely 108 = .ok (.iload_n 3, 1) := by decide +kernel
theorem dX9_likely_109 : decode cX9_likely 109 = .ok (.iload 4, 2) := by decide +kernel
theorem dX9_likely_111 : decode cX9_likely 111 = .ok (.invokestatic 202, 3) := by decide +kernel
theorem dX9_likely_114 : decode cX9_likely 114 = .ok (.iadd, 1) := by decide +kernel
theorem dX9_likely_115 : decode cX9_likely 115 = .ok (.istore 8, 2) := by decide +kernel
theorem dX9_likely_117 : decode cX9_likely 117 = .ok (.iinc 9 1, 3) := by decide +kernel
theorem dX9_likely_120 : decode cX9_likely 120 = .ok (.goto (-37), 3) := by decide +kernel
theorem dX9_likely_123 : decode cX9_likely 123 = .ok (.iload 8, 2) := by decide +kernel
theorem dX9_likely_125 : decode cX9_likely 125 = .ok (.iload_n 3, 1) := by decide +kernel
theorem dX9_likely_126 : decode cX9_likely 126 = .ok (.invokestatic 205, 3) := by decide +kernel
theorem dX9_likely_129 : decode cX9_likely 129 = .ok (.iload 5, 2) := by decide +kernel
theorem dX9_likely_131 : decode cX9_likely 131 = .ok (.invokestatic 186, 3) := by decide +kernel
theorem dX9_likely_134 : decode cX9_likely 134 = .ok (.ireturn, 1) := by decide +kernel
theorem dX9_dealing_0 : decode cX9_dealing 0 = .ok (.iload_n 1, 1) := by decide +kernel
theorem dX9_dealing_1 : decode cX9_dealing 1 = .ok (.iconst 0, 1) := by decide +kernel
theorem dX9_dealing_2 : decode cX9_dealing 2 = .ok (.sipush 9999, 3) := by decide +kernel
theorem dX9_dealing_5 : decode cX9_dealing 5 = .ok (.invokestatic 76, 3) := by decide +kernel
theorem dX9_dealing_8 : decode cX9_dealing 8 = .ok (.ifCond .eq 22, 3) := by decide +kernel
theorem dX9_dealing_11 : decode cX9_dealing 11 = .ok (.iload_n 2, 1) := by decide +kernel
theorem dX9_dealing_12 : decode cX9_dealing 12 = .ok (.iconst 1, 1) := by decide +kernel
theorem dX9_dealing_13 : decode cX9_dealing 13 = .ok (.bipush 60, 2) := by decide +kernel
theorem dX9_dealing_15 : decode cX9_dealing 15 = .ok (.invokestatic 76, 3) := by decide +kernel
theorem dX9_dealing_18 : decode cX9_dealing 18 = .ok (.ifCond .eq 12, 3) := by decide +kernel
theorem dX9_dealing_21 : decode cX9_dealing 21 = .ok (.iload_n 3, 1) := by decide +kernel
theorem dX9_dealing_22 : decode cX9_dealing 22 = .ok (.iconst 0, 1) := by decide +kernel
theorem dX9_dealing_23 : decode cX9_dealing 23 = .ok (.iconst 2, 1) := by decide +kernel
theorem dX9_dealing_24 : decode cX9_dealing 24 = .ok (.invokestatic 76, 3) := by decide +kernel
theorem dX9_dealing_27 : decode cX9_dealing 27 = .ok (.ifCond .ne 5, 3) := by decide +kernel
theorem dX9_dealing_30 : decode cX9_dealing 30 = .ok (.iconst (-1), 1) := by decide +kernel
theorem dX9_dealing_31 : decode cX9_dealing 31 = .ok (.ireturn, 1) := by decide +kernel
theorem dX9_dealing_32 : decode cX9_dealing 32 = .ok (.aload_n 0, 1) := by decide +kernel
theorem dX9_dealing_33 : decode cX9_dealing 33 = .ok (.getfield 72, 3) := by decide +kernel
theorem dX9_dealing_36 : decode cX9_dealing 36 = .ok (.lstore 4, 2) := by decide +kernel
theorem dX9_dealing_38 : decode cX9_dealing 38 = .ok (.iconst 0, 1) := by decide +kernel
theorem dX9_dealing_39 : decode cX9_dealing 39 = .ok (.istore 6, 2) := by decide +kernel
theorem dX9_dealing_41 : decode cX9_dealing 41 = .ok (.iload 6, 2) := by decide +kernel
theorem dX9_dealing_43 : decode cX9_dealing 43 = .ok (.iload_n 2, 1) := by decide +kernel
theorem dX9_dealing_44 : decode cX9_dealing 44 = .ok (.if_icmp .ge 33, 3) := by decide +kernel
theorem dX9_dealing_47 : decode cX9_dealing 47 = .ok (.lload 4, 2) := by decide +kernel
theorem dX9_dealing_49 : decode cX9_dealing 49 = .ok (.aload_n 0, 1) := by decide +kernel
theorem dX9_dealing_50 : decode cX9_dealing 50 = .ok (.iload_n 1, 1) := by decide +kernel
theorem dX9_dealing_51 : decode cX9_dealing 51 = .ok (.iload 6, 2) := by decide +kernel
theorem dX9_dealing_53 : decode cX9_dealing 53 = .ok (.invokestatic 208, 3) := by decide +kernel
theorem dX9_dealing_56 : decode cX9_dealing 56 = .ok (.invokevirtual 211, 3) := by decide +kernel
theorem dX9_dealing_59 : decode cX9_dealing 59 = .ok (.aload_n 0, 1) := by decide +kernel
theorem dX9_dealing_60 : decode cX9_dealing 60 = .ok (.getfield 23, 3) := by decide +kernel
theorem dX9_dealing_63 : decode cX9_dealing 63 = .ok (.getfield 62, 3) := by decide +kernel
theorem dX9_dealing_66 : decode cX9_dealing 66 = .ok (.invokestatic 214, 3) := by decide +kernel
theorem dX9_dealing_69 : decode cX9_dealing 69 = .ok (.lstore 4, 2) := by decide +kernel
theorem dX9_dealing_71 : decode cX9_dealing 71 = .ok (.iinc 6 1, 3) := by decide +kernel
theorem dX9_dealing_74 : decode cX9_dealing 74 = .ok (.goto (-33), 3) := by decide +kernel
theorem dX9_dealing_77 : decode cX9_dealing 77 = .ok (.iload_n 3, 1) := by decide +kernel
theorem dX9_dealing_78 : decode cX9_dealing 78 = .ok (.ifCond .ne 10, 3) := by decide +kernel
theorem dX9_dealing_81 : decode cX9_dealing 81 = .ok (.lload 4, 2) := by decide +kernel
theorem dX9_dealing_83 : decode cX9_dealing 83 = .ok (.iconst 0, 1) := by decide +kernel
theorem dX9_dealing_84 : decode cX9_dealing 84 = .ok (.invokestatic 102, 3) := by decide +kernel
theorem dX9_dealing_87 : decode cX9_dealing 87 = .ok (.ireturn, 1) := by decide +kernel
theorem dX9_dealing_88 : decode cX9_dealing 88 = .ok (.iload_n 3, 1) := by decide +kernel
theorem dX9_dealing_89 : decode cX9_dealing 89 = .ok (.iconst 1, 1) := by decide +kernel
theorem dX9_dealing_90 : decode cX9_dealing 90 = .ok (.if_icmp .ne 22, 3) := by decide +kernel
theorem dX9_dealing_93 : decode cX9_dealing 93 = .ok (.aload_n 0, 1) := by decide +kernel
theorem dX9_dealing_94 : decode cX9_dealing 94 = .ok (.getfield 72, 3) := by decide +kernel
theorem dX9_dealing_97 : decode cX9_dealing 97 = .ok (.lload 4, 2) := by decide +kernel
theorem dX9_dealing_99 : decode cX9_dealing 99 = .ok (.aload_n 0, 1) := by decide +kernel
theorem dX9_dealing_100 : decode cX9_dealing 100 = .ok (.getfield 23, 3) := by decide +kernel
theorem dX9_dealing_103 : decode cX9_dealing 103 = .ok (.getfield 62, 3) := by decide +kernel
theorem dX9_dealing_106 : decode cX9_dealing 106 = .ok (.invokestatic 218, 3) := by decide +kernel
theorem dX9_dealing_109 : decode cX9_dealing 109 = .ok (.goto 15, 3) := by decide +kernel
theorem dX9_dealing_112 : decode cX9_dealing 112 = .ok (.lload 4, 2) := by decide +kernel
theorem dX9_dealing_114 : decode cX9_dealing 114 = .ok (.aload_n 0, 1) := by decide +kernel
theorem dX9_dealing_115 : decode cX9_dealing 115 = .ok (.getfield 23, 3) := by decide +kernel
theorem dX9_dealing_118 : decode cX9_dealing 118 = .ok (.getfield 62, 3) := by decide +kernel
theorem dX9_dealing_121 : decode cX9_dealing 121 = .ok (.invokestatic 170, 3) := by decide +kernel
theorem dX9_dealing_124 : decode cX9_dealing 124 = .ok (.ireturn, 1) := by decide +kernel
theorem dX9_keep_0 : decode cX9_keep 0 = .ok (.aload_n 0, 1) := by decide +kernel
theorem dX9_keep_1 : decode cX9_keep 1 = .ok (.getfield 35, 3) := by decide +kernel
theorem dX9_keep_4 : decode cX9_keep 4 = .ok (.invokevirtual 222, 3) := by decide +kernel
theorem dX9_keep_7 : decode cX9_keep 7 = .ok (.ifCond .eq 6, 3) := by decide +kernel
theorem dX9_keep_10 : decode cX9_keep 10 = .ok (.bipush (-3), 2) := by decide +kernel
theorem dX9_keep_12 : decode cX9_keep 12 = .ok (.ireturn, 1) := by decide +kernel
theorem dX9_keep_13 : decode cX9_keep 13 = .ok (.aload_n 0, 1) := by decide +kernel
theorem dX9_keep_14 : decode cX9_keep 14 = .ok (.getfield 35, 3) := by decide +kernel
theorem dX9_keep_17 : decode cX9_keep 17 = .ok (.aload_n 0, 1) := by decide +kernel
theorem dX9_keep_18 : decode cX9_keep 18 = .ok (.getfield 72, 3) := by decide +kernel
theorem dX9_keep_21 : decode cX9_keep 21 = .ok (.invokevirtual 226, 3) := by decide +kernel
theorem dX9_keep_24 : decode cX9_keep 24 = .ok (.aload_n 0, 1) := by decide +kernel
theorem dX9_keep_25 : decode cX9_keep 25 = .ok (.getfield 35, 3) := by decide +kernel
theorem dX9_keep_28 : decode cX9_keep 28 = .ok (.getfield 98, 3) := by decide +kernel
theorem dX9_keep_31 : decode cX9_keep 31 = .ok (.ireturn, 1) := by decide +kernel
theorem dX9_back_0 : decode cX9_back 0 = .ok (.aload_n 0, 1) := by decide +kernel
theorem dX9_back_1 : decode cX9_back 1 = .ok (.getfield 35, 3) := by decide +kernel
theorem dX9_back_4 : decode cX9_back 4 = .ok (.getfield 98, 3) := by decide +kernel
theorem dX9_back_7 : decode cX9_back 7 = .ok (.ifCond .ne 6, 3) := by decide +kernel
theorem dX9_back_10 : decode cX9_back 10 = .ok (.bipush (-2), 2) := by decide +kernel
theorem dX9_back_12 : decode cX9_back 12 = .ok (.ireturn, 1) := by decide +kernel
theorem dX9_back_13 : decode cX9_back 13 = .ok (.aload_n 0, 1) := by decide +kernel
theorem dX9_back_14 : decode cX9_back 14 = .ok (.aload_n 0, 1) := by decide +kernel
theorem dX9_back_15 : decode cX9_back 15 = .ok (.getfield 35, 3) := by decide +kernel
theorem dX9_back_18 : decode cX9_back 18 = .ok (.invokevirtual 139, 3) := by decide +kernel
theorem dX9_back_21 : decode cX9_back 21 = .ok (.putfield 72, 3) := by decide +kernel
theorem dX9_back_24 : decode cX9_back 24 = .ok (.aload_n 0, 1) := by decide +kernel
theorem dX9_back_25 : decode cX9_back 25 = .ok (.getfield 31, 3) := by decide +kernel
theorem dX9_back_28 : decode cX9_back 28 = .ok (.iconst 0, 1) := by decide +kernel
theorem dX9_back_29 : decode cX9_back 29 = .ok (.putfield 98, 3) := by decide +kernel
theorem dX9_back_32 : decode cX9_back 32 = .ok (.aload_n 0, 1) := by decide +kernel
theorem dX9_back_33 : decode cX9_back 33 = .ok (.getfield 35, 3) := by decide +kernel
theorem dX9_back_36 : decode cX9_back 36 = .ok (.getfield 98, 3) := by decide +kernel
theorem dX9_back_39 : decode cX9_back 39 = .ok (.ireturn, 1) := by decide +kernel
theorem dX9_count_0 : decode cX9_count 0 = .ok (.iload_n 1, 1) := by decide +kernel
theorem dX9_count_1 : decode cX9_count 1 = .ok (.tableswitch 87 0 5 #[39, 47, 55, 63, 71, 79], 39) := by decide +kernel
theorem dX9_count_40 : decode cX9_count 40 = .ok (.aload_n 0, 1) := by decide +kernel
theorem dX9_count_41 : decode cX9_count 41 = .ok (.getfield 23, 3) := by decide +kernel
theorem dX9_count_44 : decode cX9_count 44 = .ok (.getfield 62, 3) := by decide +kernel
theorem dX9_count_47 : decode cX9_count 47 = .ok (.ireturn, 1) := by decide +kernel
theorem dX9_count_48 : decode cX9_count 48 = .ok (.aload_n 0, 1) := by decide +kernel
theorem dX9_count_49 : decode cX9_count 49 = .ok (.getfield 23, 3) := by decide +kernel
theorem dX9_count_52 : decode cX9_count 52 = .ok (.getfield 230, 3) := by decide +kernel
theorem dX9_count_55 : decode cX9_count 55 = .ok (.ireturn, 1) := by decide +kernel
theorem dX9_count_56 : decode cX9_count 56 = .ok (.aload_n 0, 1) := by decide +kernel
theorem dX9_count_57 : decode cX9_count 57 = .ok (.getfield 41, 3) := by decide +kernel
theorem dX9_count_60 : decode cX9_count 60 = .ok (.getfield 95, 3) := by decide +kernel
theorem dX9_count_63 : decode cX9_count 63 = .ok (.ireturn, 1) := by decide +kernel
theorem dX9_count_64 : decode cX9_count 64 = .ok (.aload_n 0, 1) := by decide +kernel
theorem dX9_count_65 : decode cX9_count 65 = .ok (.getfield 31, 3) := by decide +kernel
theorem dX9_count_68 : decode cX9_count 68 = .ok (.getfield 98, 3) := by decide +kernel
theorem dX9_count_71 : decode cX9_count 71 = .ok (.ireturn, 1) := by decide +kernel
theorem dX9_count_72 : decode cX9_count 72 = .ok (.aload_n 0, 1) := by decide +kernel
theorem dX9_count_73 : decode cX9_count 73 = .ok (.getfield 35, 3) := by decide +kernel
theorem dX9_count_76 : decode cX9_count 76 = .ok (.getfield 98, 3) := by decide +kernel
theorem dX9_count_79 : decode cX9_count 79 = .ok (.ireturn, 1) := by decide +kernel
theorem dX9_count_80 : decode cX9_count 80 = .ok (.aload_n 0, 1) := by decide +kernel
theorem dX9_count_81 : decode cX9_count 81 = .ok (.getfield 10, 3) := by decide +kernel
theorem dX9_count_84 : decode cX9_count 84 = .ok (.getfield 84, 3) := by decide +kernel
theorem dX9_count_87 : decode cX9_count 87 = .ok (.ireturn, 1) := by decide +kernel
theorem dX9_count_88 : decode cX9_count 88 = .ok (.iconst (-1), 1) := by decide +kernel
theorem dX9_count_89 : decode cX9_count 89 = .ok (.ireturn, 1) := by decide +kernel
theorem dX9_within_0 : decode cX9_within 0 = .ok (.iload_n 0, 1) := by decide +kernel
theorem dX9_within_1 : decode cX9_within 1 = .ok (.iload_n 1, 1) := by decide +kernel
theorem dX9_within_2 : decode cX9_within 2 = .ok (.if_icmp .lt 12, 3) := by decide +kernel
theorem dX9_within_5 : decode cX9_within 5 = .ok (.iload_n 0, 1) := by decide +kernel
theorem dX9_within_6 : decode cX9_within 6 = .ok (.iload_n 2, 1) := by decide +kernel
theorem dX9_within_7 : decode cX9_within 7 = .ok (.if_icmp .gt 7, 3) := by decide +kernel
theorem dX9_within_10 : decode cX9_within 10 = .ok (.iconst 1, 1) := by decide +kernel
theorem dX9_within_11 : decode cX9_within 11 = .ok (.goto 4, 3) := by decide +kernel
theorem dX9_within_14 : decode cX9_within 14 = .ok (.iconst 0, 1) := by decide +kernel
theorem dX9_within_15 : decode cX9_within 15 = .ok (.ireturn, 1) := by decide +kernel
theorem dX9_isPlace_0 : decode cX9_isPlace 0 = .ok (.iload_n 1, 1) := by decide +kernel
theorem dX9_isPlace_1 : decode cX9_isPlace 1 = .ok (.iconst 0, 1) := by decide +kernel
theorem dX9_isPlace_2 : decode cX9_isPlace 2 = .ok (.aload_n 0, 1) := by decide +kernel
theorem dX9_isPlace_3 : decode cX9_isPlace 3 = .ok (.getfield 23, 3) := by decide +kernel
theorem dX9_isPlace_6 : decode cX9_isPlace 6 = .ok (.getfield 62, 3) := by decide +kernel
theorem dX9_isPlace_9 : decode cX9_isPlace 9 = .ok (.iconst 1, 1) := by decide +kernel
theorem dX9_isPlace_10 : decode cX9_isPlace 10 = .ok (.isub, 1) := by decide +kernel
theorem dX9_isPlace_11 : decode cX9_isPlace 11 = .ok (.invokestatic 76, 3) := by decide +kernel
theorem dX9_isPlace_14 : decode cX9_isPlace 14 = .ok (.ireturn, 1) := by decide +kernel
theorem dX9_isCard_0 : decode cX9_isCard 0 = .ok (.iload_n 1, 1) := by decide +kernel
theorem dX9_isCard_1 : decode cX9_isCard 1 = .ok (.iconst 0, 1) := by decide +kernel
theorem dX9_isCard_2 : decode cX9_isCard 2 = .ok (.aload_n 0, 1) := by decide +kernel
theorem dX9_isCard_3 : decode cX9_isCard 3 = .ok (.getfield 23, 3) := by decide +kernel
theorem dX9_isCard_6 : decode cX9_isCard 6 = .ok (.getfield 62, 3) := by decide +kernel
theorem dX9_isCard_9 : decode cX9_isCard 9 = .ok (.iconst 1, 1) := by decide +kernel
theorem dX9_isCard_10 : decode cX9_isCard 10 = .ok (.isub, 1) := by decide +kernel
theorem dX9_isCard_11 : decode cX9_isCard 11 = .ok (.invokestatic 76, 3) := by decide +kernel
theorem dX9_isCard_14 : decode cX9_isCard 14 = .ok (.ireturn, 1) := by decide +kernel
theorem dX9_isKind_0 : decode cX9_isKind 0 = .ok (.iload_n 0, 1) := by decide +kernel
theorem dX9_isKind_1 : decode cX9_isKind 1 = .ok (.iconst 0, 1) := by decide +kernel
theorem dX9_isKind_2 : decode cX9_isKind 2 = .ok (.iconst 4, 1) := by decide +kernel
theorem dX9_isKind_3 : decode cX9_isKind 3 = .ok (.invokestatic 76, 3) := by decide +kernel
theorem dX9_isKind_6 : decode cX9_isKind 6 = .ok (.ireturn, 1) := by decide +kernel
theorem dX9_act_0 : decode cX9_act 0 = .ok (.aload_n 0, 1) := by decide +kernel
theorem dX9_act_1 : decode cX9_act 1 = .ok (.getfield 31, 3) := by decide +kernel
theorem dX9_act_4 : decode cX9_act 4 = .ok (.aload_n 0, 1) := by decide +kernel
theorem dX9_act_5 : decode cX9_act 5 = .ok (.getfield 72, 3) := by decide +kernel
theorem dX9_act_8 : decode cX9_act 8 = .ok (.invokevirtual 226, 3) := by decide +kernel
theorem dX9_act_11 : decode cX9_act 11 = .ok (.aload_n 0, 1) := by decide +kernel
theorem dX9_act_12 : decode cX9_act 12 = .ok (.aload_n 0, 1) := by decide +kernel
theorem dX9_act_13 : decode cX9_act 13 = .ok (.getfield 72, 3) := by decide +kernel
theorem dX9_act_16 : decode cX9_act 16 = .ok (.lload_n 1, 1) := by decide +kernel
theorem dX9_act_17 : decode cX9_act 17 = .ok (.aload_n 0, 1) := by decide +kernel
theorem dX9_act_18 : decode cX9_act 18 = .ok (.getfield 23, 3) := by decide +kernel
theorem dX9_act_21 : decode cX9_act 21 = .ok (.getfield 62, 3) := by decide +kernel
theorem dX9_act_24 : decode cX9_act 24 = .ok (.invokestatic 214, 3) := by decide +kernel
theorem dX9_act_27 : decode cX9_act 27 = .ok (.putfield 72, 3) := by decide +kernel
theorem dX9_act_30 : decode cX9_act 30 = .ok (.aload_n 0, 1) := by decide +kernel
theorem dX9_act_31 : decode cX9_act 31 = .ok (.getfield 72, 3) := by decide +kernel
theorem dX9_act_34 : decode cX9_act 34 = .ok (.iconst 0, 1) := by decide +kernel
theorem dX9_act_35 : decode cX9_act 35 = .ok (.invokestatic 102, 3) := by decide +kernel
theorem dX9_act_38 : decode cX9_act 38 = .ok (.ireturn, 1) := by decide +kernel
theorem dX9_fittingKinds_0 : decode cX9_fittingKinds 0 = .ok (.iconst 0, 1) := by decide +kernel
theorem dX9_fittingKinds_1 : decode cX9_fittingKinds 1 = .ok (.istore_n 1, 1) := by decide +kernel
theorem dX9_fittingKinds_2 : decode cX9_fittingKinds 2 = .ok (.iconst 0, 1) := by decide +kernel
theorem dX9_fittingKinds_3 : decode cX9_fittingKinds 3 = .ok (.istore_n 2, 1) := by decide +kernel
theorem dX9_fittingKinds_4 : decode cX9_fittingKinds 4 = .ok (.iload_n 2, 1) := by decide +kernel
theorem dX9_fittingKinds_5 : decode cX9_fittingKinds 5 = .ok (.iconst 5, 1) := by decide +kernel
theorem dX9_fittingKinds_6 : decode cX9_fittingKinds 6 = .ok (.if_icmp .ge 36, 3) := by decide +kernel
theorem dX9_fittingKinds_9 : decode cX9_fittingKinds 9 = .ok (.aload_n 0, 1) := by decide +kernel
theorem dX9_fittingKinds_10 : decode cX9_fittingKinds 10 = .ok (.getfield 41, 3) := by decide +kernel
theorem dX9_fittingKinds_13 : decode cX9_fittingKinds 13 = .ok (.iload_n 2, 1) := by decide +kernel
theorem dX9_fittingKinds_14 : decode cX9_fittingKinds 14 = .ok (.aload_n 0, 1) := by decide +kernel
theorem dX9_fittingKinds_15 : decode cX9_fittingKinds 15 = .ok (.getfield 23, 3) := by decide +kernel
theorem dX9_fittingKinds_18 : decode cX9_fittingKinds 18 = .ok (.getfield 62, 3) := by decide +kernel
theorem dX9_fittingKinds_21 : decode cX9_fittingKinds 21 = .ok (.invokestatic 120, 3) := by decide +kernel
theorem dX9_fittingKinds_24 : decode cX9_fittingKinds 24 = .ok (.invokevirtual 233, 3) := by decide +kernel
theorem dX9_fittingKinds_27 : decode cX9_fittingKinds 27 = .ok (.ifCond .eq 9, 3) := by decide +kernel
theorem dX9_fittingKinds_30 : decode cX9_fittingKinds 30 = .ok (.iload_n 1, 1) := by decide +kernel
theorem dX9_fittingKinds_31 : decode cX9_fittingKinds 31 = .ok (.iconst 1, 1) := by decide +kernel
theorem dX9_fittingKinds_32 : decode cX9_fittingKinds 32 = .ok (.iload_n 2, 1) := by decide +kernel
theorem dX9_fittingKinds_33 : decode cX9_fittingKinds 33 = .ok (.ishl, 1) := by decide +kernel
theorem dX9_fittingKinds_34 : decode cX9_fittingKinds 34 = .ok (.ior, 1) := by decide +kernel
theorem dX9_fittingKinds_35 : decode cX9_fittingKinds 35 = .ok (.istore_n 1, 1) := by decide +kernel
theorem dX9_fittingKinds_36 : decode cX9_fittingKinds 36 = .ok (.iinc 2 1, 3) := by decide +kernel
theorem dX9_fittingKinds_39 : decode cX9_fittingKinds 39 = .ok (.goto (-35), 3) := by decide +kernel
theorem dX9_fittingKinds_42 : decode cX9_fittingKinds 42 = .ok (.aload_n 0, 1) := by decide +kernel
theorem dX9_fittingKinds_43 : decode cX9_fittingKinds 43 = .ok (.getfield 41, 3) := by decide +kernel
theorem dX9_fittingKinds_46 : decode cX9_fittingKinds 46 = .ok (.aload_n 0, 1) := by decide +kernel
theorem dX9_fittingKinds_47 : decode cX9_fittingKinds 47 = .ok (.getfield 23, 3) := by decide +kernel
theorem dX9_fittingKinds_50 : decode cX9_fittingKinds 50 = .ok (.getfield 62, 3) := by decide +kernel
theorem dX9_fittingKinds_53 : decode cX9_fittingKinds 53 = .ok (.invokestatic 133, 3) := by decide +kernel
theorem dX9_fittingKinds_56 : decode cX9_fittingKinds 56 = .ok (.invokevirtual 233, 3) := by decide +kernel
theorem dX9_fittingKinds_59 : decode cX9_fittingKinds 59 = .ok (.ifCond .eq 10, 3) := by decide +kernel
theorem dX9_fittingKinds_62 : decode cX9_fittingKinds 62 = .ok (.iload_n 1, 1) := by decide +kernel
theorem dX9_fittingKinds_63 : decode cX9_fittingKinds 63 = .ok (.bipush 32, 2) := by decide +kernel
theorem dX9_fittingKinds_65 : decode cX9_fittingKinds 65 = .ok (.ior, 1) := by decide +kernel
theorem dX9_fittingKinds_66 : decode cX9_fittingKinds 66 = .ok (.goto 4, 3) := by decide +kernel
theorem dX9_fittingKinds_69 : decode cX9_fittingKinds 69 = .ok (.iload_n 1, 1) := by decide +kernel
theorem dX9_fittingKinds_70 : decode cX9_fittingKinds 70 = .ok (.ireturn, 1) := by decide +kernel
theorem dX9_fittingCuts_0 : decode cX9_fittingCuts 0 = .ok (.iconst 0, 1) := by decide +kernel
theorem dX9_fittingCuts_1 : decode cX9_fittingCuts 1 = .ok (.istore_n 1, 1) := by decide +kernel
theorem dX9_fittingCuts_2 : decode cX9_fittingCuts 2 = .ok (.iconst 0, 1) := by decide +kernel
theorem dX9_fittingCuts_3 : decode cX9_fittingCuts 3 = .ok (.istore_n 2, 1) := by decide +kernel
theorem dX9_fittingCuts_4 : decode cX9_fittingCuts 4 = .ok (.iload_n 2, 1) := by decide +kernel
theorem dX9_fittingCuts_5 : decode cX9_fittingCuts 5 = .ok (.aload_n 0, 1) := by decide +kernel
theorem dX9_fittingCuts_6 : decode cX9_fittingCuts 6 = .ok (.getfield 23, 3) := by decide +kernel
theorem dX9_fittingCuts_9 : decode cX9_fittingCuts 9 = .ok (.getfield 62, 3) := by decide +kernel
theorem dX9_fittingCuts_12 : decode cX9_fittingCuts 12 = .ok (.if_icmp .ge 36, 3) := by decide +kernel
theorem dX9_fittingCuts_15 : decode cX9_fittingCuts 15 = .ok (.aload_n 0, 1) := by decide +kernel
theorem dX9_fittingCuts_16 : decode cX9_fittingCuts 16 = .ok (.getfield 41, 3) := by decide +kernel
theorem dX9_fittingCuts_19 : decode cX9_fittingCuts 19 = .ok (.iload_n 2, 1) := by decide +kernel
theorem dX9_fittingCuts_20 : decode cX9_fittingCuts 20 = .ok (.aload_n 0, 1) := by decide +kernel
theorem dX9_fittingCuts_21 : decode cX9_fittingCuts 21 = .ok (.getfield 23, 3) := by decide +kernel
theorem dX9_fittingCuts_24 : decode cX9_fittingCuts 24 = .ok (.getfield 62, 3) := by decide +kernel
theorem dX9_fittingCuts_27 : decode cX9_fittingCuts 27 = .ok (.invokestatic 130, 3) := by decide +kernel
theorem dX9_fittingCuts_30 : decode cX9_fittingCuts 30 = .ok (.invokevirtual 233, 3) := by decide +kernel
theorem dX9_fittingCuts_33 : decode cX9_fittingCuts 33 = .ok (.ifCond .eq 9, 3) := by decide +kernel
theorem dX9_fittingCuts_36 : decode cX9_fittingCuts 36 = .ok (.iload_n 1, 1) := by decide +kernel
theorem dX9_fittingCuts_37 : decode cX9_fittingCuts 37 = .ok (.iconst 1, 1) := by decide +kernel
theorem dX9_fittingCuts_38 : decode cX9_fittingCuts 38 = .ok (.iload_n 2, 1) := by decide +kernel
theorem dX9_fittingCuts_39 : decode cX9_fittingCuts 39 = .ok (.ishl, 1) := by decide +kernel
theorem dX9_fittingCuts_40 : decode cX9_fittingCuts 40 = .ok (.ior, 1) := by decide +kernel
theorem dX9_fittingCuts_41 : decode cX9_fittingCuts 41 = .ok (.istore_n 1, 1) := by decide +kernel
theorem dX9_fittingCuts_42 : decode cX9_fittingCuts 42 = .ok (.iinc 2 1, 3) := by decide +kernel
theorem dX9_fittingCuts_45 : decode cX9_fittingCuts 45 = .ok (.goto (-41), 3) := by decide +kernel
theorem dX9_fittingCuts_48 : decode cX9_fittingCuts 48 = .ok (.iload_n 1, 1) := by decide +kernel
theorem dX9_fittingCuts_49 : decode cX9_fittingCuts 49 = .ok (.ireturn, 1) := by decide +kernel
theorem dX9_endOfWay_0 : decode cX9_endOfWay 0 = .ok (.iload_n 1, 1) := by decide +kernel
theorem dX9_endOfWay_1 : decode cX9_endOfWay 1 = .ok (.istore 4, 2) := by decide +kernel
theorem dX9_endOfWay_3 : decode cX9_endOfWay 3 = .ok (.iconst 0, 1) := by decide +kernel
theorem dX9_endOfWay_4 : decode cX9_endOfWay 4 = .ok (.istore 5, 2) := by decide +kernel
theorem dX9_endOfWay_6 : decode cX9_endOfWay 6 = .ok (.iload 5, 2) := by decide +kernel
theorem dX9_endOfWay_8 : decode cX9_endOfWay 8 = .ok (.iload_n 3, 1) := by decide +kernel
theorem dX9_endOfWay_9 : decode cX9_endOfWay 9 = .ok (.if_icmp .ge 29, 3) := by decide +kernel
theorem dX9_endOfWay_12 : decode cX9_endOfWay 12 = .ok (.iload_n 2, 1) := by decide +kernel
theorem dX9_endOfWay_13 : decode cX9_endOfWay 13 = .ok (.iload 5, 2) := by decide +kernel
theorem dX9_endOfWay_15 : decode cX9_endOfWay 15 = .ok (.ishr, 1) := by decide +kernel
theorem dX9_endOfWay_16 : decode cX9_endOfWay 16 = .ok (.iconst 1, 1) := by decide +kernel
theorem dX9_endOfWay_17 : decode cX9_endOfWay 17 = .ok (.iand, 1) := by decide +kernel
theorem dX9_endOfWay_18 : decode cX9_endOfWay 18 = .ok (.aload_n 0, 1) := by decide +kernel
theorem dX9_endOfWay_19 : decode cX9_endOfWay 19 = .ok (.getfield 23, 3) := by decide +kernel
theorem dX9_endOfWay_22 : decode cX9_endOfWay 22 = .ok (.getfield 62, 3) := by decide +kernel
theorem dX9_endOfWay_25 : decode cX9_endOfWay 25 = .ok (.iload 4, 2) := by decide +kernel
theorem dX9_endOfWay_27 : decode cX9_endOfWay 27 = .ok (.invokestatic 237, 3) := by decide +kernel
theorem dX9_endOfWay_30 : decode cX9_endOfWay 30 = .ok (.istore 4, 2) := by decide +kernel
theorem dX9_endOfWay_32 : decode cX9_endOfWay 32 = .ok (.iinc 5 1, 3) := by decide +kernel
theorem dX9_endOfWay_35 : decode cX9_endOfWay 35 = .ok (.goto (-29), 3) := by decide +kernel
theorem dX9_endOfWay_38 : decode cX9_endOfWay 38 = .ok (.iload 4, 2) := by decide +kernel
theorem dX9_endOfWay_40 : decode cX9_endOfWay 40 = .ok (.ireturn, 1) := by decide +kernel
theorem dX9_weightOfWay_0 : decode cX9_weightOfWay 0 = .ok (.iconst 1, 1) := by decide +kernel
theorem dX9_weightOfWay_1 : decode cX9_weightOfWay 1 = .ok (.istore_n 3, 1) := by decide +kernel
theorem dX9_weightOfWay_2 : decode cX9_weightOfWay 2 = .ok (.iconst 0, 1) := by decide +kernel
theorem dX9_weightOfWay_3 : decode cX9_weightOfWay 3 = .ok (.istore 4, 2) := by decide +kernel
theorem dX9_weightOfWay_5 : decode cX9_weightOfWay 5 = .ok (.iload 4, 2) := by decide +kernel
theorem dX9_weightOfWay_7 : decode cX9_weightOfWay 7 = .ok (.iload_n 1, 1) := by decide +kernel
theorem dX9_weightOfWay_8 : decode cX9_weightOfWay 8 = .ok (.if_icmp .ge 29, 3) := by decide +kernel
theorem dX9_weightOfWay_11 : decode cX9_weightOfWay 11 = .ok (.iload_n 3, 1) := by decide +kernel
theorem dX9_weightOfWay_12 : decode cX9_weightOfWay 12 = .ok (.iload_n 0, 1) := by decide +kernel
theorem dX9_weightOfWay_13 : decode cX9_weightOfWay 13 = .ok (.iload 4, 2) := by decide +kernel
theorem dX9_weightOfWay_15 : decode cX9_weightOfWay 15 = .ok (.ishr, 1) := by decide +kernel
theorem dX9_weightOfWay_16 : decode cX9_weightOfWay 16 = .ok (.iconst 1, 1) := by decide +kernel
theorem dX9_weightOfWay_17 : decode cX9_weightOfWay 17 = .ok (.iand, 1) := by decide +kernel
theorem dX9_weightOfWay_18 : decode cX9_weightOfWay 18 = .ok (.ifCond .ne 7, 3) := by decide +kernel
theorem dX9_weightOfWay_21 : decode cX9_weightOfWay 21 = .ok (.iload_n 2, 1) := by decide +kernel
theorem dX9_weightOfWay_22 : decode cX9_weightOfWay 22 = .ok (.goto 7, 3) := by decide +kernel
theorem dX9_weightOfWay_25 : decode cX9_weightOfWay 25 = .ok (.bipush 10, 2) := by decide +kernel
theorem dX9_weightOfWay_27 : decode cX9_weightOfWay 27 = .ok (.iload_n 2, 1) := by decide +kernel
theorem dX9_weightOfWay_28 : decode cX9_weightOfWay 28 = .ok (.isub, 1) := by decide +kernel
theorem dX9_weightOfWay_29 : decode cX9_weightOfWay 29 = .ok (.imul, 1) := by decide +kernel
theorem dX9_weightOfWay_30 : decode cX9_weightOfWay 30 = .ok (.istore_n 3, 1) := by decide +kernel
theorem dX9_weightOfWay_31 : decode cX9_weightOfWay 31 = .ok (.iinc 4 1, 3) := by decide +kernel
theorem dX9_weightOfWay_34 : decode cX9_weightOfWay 34 = .ok (.goto (-29), 3) := by decide +kernel
theorem dX9_weightOfWay_37 : decode cX9_weightOfWay 37 = .ok (.iload_n 3, 1) := by decide +kernel
theorem dX9_weightOfWay_38 : decode cX9_weightOfWay 38 = .ok (.ireturn, 1) := by decide +kernel
theorem dX9_powerOfTen_0 : decode cX9_powerOfTen 0 = .ok (.iconst 1, 1) := by decide +kernel
theorem dX9_powerOfTen_1 : decode cX9_powerOfTen 1 = .ok (.istore_n 1, 1) := by decide +kernel
theorem dX9_powerOfTen_2 : decode cX9_powerOfTen 2 = .ok (.iconst 0, 1) := by decide +kernel
theorem dX9_powerOfTen_3 : decode cX9_powerOfTen 3 = .ok (.istore_n 2, 1) := by decide +kernel
theorem dX9_powerOfTen_4 : decode cX9_powerOfTen 4 = .ok (.iload_n 2, 1) := by decide +kernel
theorem dX9_powerOfTen_5 : decode cX9_powerOfTen 5 = .ok (.iload_n 0, 1) := by decide +kernel
theorem dX9_powerOfTen_6 : decode cX9_powerOfTen 6 = .ok (.if_icmp .ge 14, 3) := by decide +kernel
theorem dX9_powerOfTen_9 : decode cX9_powerOfTen 9 = .ok (.iload_n 1, 1) := by decide +kernel
theorem dX9_powerOfTen_10 : decode cX9_powerOfTen 10 = .ok (.bipush 10, 2) := by decide +kernel
theorem dX9_powerOfTen_12 : decode cX9_powerOfTen 12 = .ok (.imul, 1) := by decide +kernel
theorem dX9_powerOfTen_13 : decode cX9_powerOfTen 13 = .ok (.istore_n 1, 1) := by decide +kernel
theorem dX9_powerOfTen_14 : decode cX9_powerOfTen 14 = .ok (.iinc 2 1, 3) := by decide +kernel
theorem dX9_powerOfTen_17 : decode cX9_powerOfTen 17 = .ok (.goto (-13), 3) := by decide +kernel
theorem dX9_powerOfTen_20 : decode cX9_powerOfTen 20 = .ok (.iload_n 1, 1) := by decide +kernel
theorem dX9_powerOfTen_21 : decode cX9_powerOfTen 21 = .ok (.ireturn, 1) := by decide +kernel
theorem dX9_drawOf_0 : decode cX9_drawOf 0 = .ok (.ldc2_w 240, 3) := by decide +kernel
theorem dX9_drawOf_3 : decode cX9_drawOf 3 = .ok (.iload_n 0, 1) := by decide +kernel
theorem dX9_drawOf_4 : decode cX9_drawOf 4 = .ok (.i2l, 1) := by decide +kernel
theorem dX9_drawOf_5 : decode cX9_drawOf 5 = .ok (.lmul, 1) := by decide +kernel
theorem dX9_drawOf_6 : decode cX9_drawOf 6 = .ok (.ldc2_w 242, 3) := by decide +kernel
theorem dX9_drawOf_9 : decode cX9_drawOf 9 = .ok (.iload_n 1, 1) := by decide +kernel
theorem dX9_drawOf_10 : decode cX9_drawOf 10 = .ok (.i2l, 1) := by decide +kernel
theorem dX9_drawOf_11 : decode cX9_drawOf 11 = .ok (.lmul, 1) := by decide +kernel
theorem dX9_drawOf_12 : decode cX9_drawOf 12 = .ok (.ladd, 1) := by decide +kernel
theorem dX9_drawOf_13 : decode cX9_drawOf 13 = .ok (.lconst 1, 1) := by decide +kernel
theorem dX9_drawOf_14 : decode cX9_drawOf 14 = .ok (.ladd, 1) := by decide +kernel
theorem dX9_drawOf_15 : decode cX9_drawOf 15 = .ok (.lstore_n 2, 1) := by decide +kernel
theorem dX9_drawOf_16 : decode cX9_drawOf 16 = .ok (.lload_n 2, 1) := by decide +kernel
theorem dX9_drawOf_17 : decode cX9_drawOf 17 = .ok (.lload_n 2, 1) := by decide +kernel
theorem dX9_drawOf_18 : decode cX9_drawOf 18 = .ok (.lmul, 1) := by decide +kernel
theorem dX9_drawOf_19 : decode cX9_drawOf 19 = .ok (.ldc2_w 244, 3) := by decide +kernel
theorem dX9_drawOf_22 : decode cX9_drawOf 22 = .ok (.lrem, 1) := by decide +kernel
theorem dX9_drawOf_23 : decode cX9_drawOf 23 = .ok (.ldc2_w 246, 3) := by decide +kernel
theorem dX9_drawOf_26 : decode cX9_drawOf 26 = .ok (.ldiv, 1) := by decide +kernel
theorem dX9_drawOf_27 : decode cX9_drawOf 27 = .ok (.l2i, 1) := by decide +kernel
theorem dX9_drawOf_28 : decode cX9_drawOf 28 = .ok (.ireturn, 1) := by decide +kernel
theorem dX9_drawnMove_0 : decode cX9_drawnMove 0 = .ok (.iload_n 1, 1) := by decide +kernel
theorem dX9_drawnMove_1 : decode cX9_drawnMove 1 = .ok (.bipush 7, 2) := by decide +kernel
theorem dX9_drawnMove_3 : decode cX9_drawnMove 3 = .ok (.irem, 1) := by decide +kernel
theorem dX9_drawnMove_4 : decode cX9_drawnMove 4 = .ok (.istore_n 2, 1) := by decide +kernel
theorem dX9_drawnMove_5 : decode cX9_drawnMove 5 = .ok (.iload_n 2, 1) := by decide +kernel
theorem dX9_drawnMove_6 : decode cX9_drawnMove 6 = .ok (.iconst 5, 1) := by decide +kernel
theorem dX9_drawnMove_7 : decode cX9_drawnMove 7 = .ok (.if_icmp .ge 15, 3) := by decide +kernel
theorem dX9_drawnMove_10 : decode cX9_drawnMove 10 = .ok (.iload_n 2, 1) := by decide +kernel
theorem dX9_drawnMove_11 : decode cX9_drawnMove 11 = .ok (.aload_n 0, 1) := by decide +kernel
theorem dX9_drawnMove_12 : decode cX9_drawnMove 12 = .ok (.getfield 23, 3) := by decide +kernel
theorem dX9_drawnMove_15 : decode cX9_drawnMove 15 = .ok (.getfield 62, 3) := by decide +kernel
theorem dX9_drawnMove_18 : decode cX9_drawnMove 18 = .ok (.invokestatic 120, 3) := by decide +kernel
theorem dX9_drawnMove_21 : decode cX9_drawnMove 21 = .ok (.lreturn, 1) := by decide +kernel
theorem dX9_drawnMove_22 : decode cX9_drawnMove 22 = .ok (.iload_n 2, 1) := by decide +kernel
theorem dX9_drawnMove_23 : decode cX9_drawnMove 23 = .ok (.iconst 5, 1) := by decide +kernel
theorem dX9_drawnMove_24 : decode cX9_drawnMove 24 = .ok (.if_icmp .ne 36, 3) := by decide +kernel
theorem dX9_drawnMove_27 : decode cX9_drawnMove 27 = .ok (.aload_n 0, 1) := by decide +kernel
theorem dX9_drawnMove_28 : decode cX9_drawnMove 28 = .ok (.getfield 23, 3) := by decide +kernel
theorem dX9_drawnMove_31 : decode cX9_drawnMove 31 = .ok (.getfield 62, 3) := by decide +kernel
theorem dX9_drawnMove_34 : decode cX9_drawnMove 34 = .ok (.ifCond .le 26, 3) := by decide +kernel
theorem dX9_drawnMove_37 : decode cX9_drawnMove 37 = .ok (.iload_n 1, 1) := by decide +kernel
theorem dX9_drawnMove_38 : decode cX9_drawnMove 38 = .ok (.bipush 8, 2) := by decide +kernel
theorem dX9_drawnMove_40 : decode cX9_drawnMove 40 = .ok (.idiv, 1) := by decide +kernel
theorem dX9_drawnMove_41 : decode cX9_drawnMove 41 = .ok (.aload_n 0, 1) := by decide +kernel
theorem dX9_drawnMove_42 : decode cX9_drawnMove 42 = .ok (.getfield 23, 3) := by decide +kernel
theorem dX9_drawnMove_45 : decode cX9_drawnMove 45 = .ok (.getfield 62, 3) := by decide +kernel
theorem dX9_drawnMove_48 : decode cX9_drawnMove 48 = .ok (.irem, 1) := by decide +kernel
theorem dX9_drawnMove_49 : decode cX9_drawnMove 49 = .ok (.aload_n 0, 1) := by decide +kernel
theorem dX9_drawnMove_50 : decode cX9_drawnMove 50 = .ok (.getfield 23, 3) := by decide +kernel
theorem dX9_drawnMove_53 : decode cX9_drawnMove 53 = .ok (.getfield 62, 3) := by decide +kernel
theorem dX9_drawnMove_56 : decode cX9_drawnMove 56 = .ok (.invokestatic 130, 3) := by decide +kernel
theorem dX9_drawnMove_59 : decode cX9_drawnMove 59 = .ok (.lreturn, 1) := by decide +kernel
theorem dX9_drawnMove_60 : decode cX9_drawnMove 60 = .ok (.aload_n 0, 1) := by decide +kernel
theorem dX9_drawnMove_61 : decode cX9_drawnMove 61 = .ok (.getfield 23, 3) := by decide +kernel
theorem dX9_drawnMove_64 : decode cX9_drawnMove 64 = .ok (.getfield 62, 3) := by decide +kernel
theorem dX9_drawnMove_67 : decode cX9_drawnMove 67 = .ok (.invokestatic 133, 3) := by decide +kernel
theorem dX9_drawnMove_70 : decode cX9_drawnMove 70 = .ok (.lreturn, 1) := by decide +kernel
end
section
/-! decode rows -/
theorem dX10_init_0 : decode cX10_init 0 = .ok (.aload_n 0, 1) := by decide +kernel
theorem dX10_init_1 : decode cX10_init 1 = .ok (.invokespecial 1, 3) := by decide +kernel
theorem dX10_init_4 : decode cX10_init 4 = .ok (.aload_n 0, 1) := by decide +kernel
theorem dX10_init_5 : decode cX10_init 5 = .ok (.bipush 16, 2) := by decide +kernel
theorem dX10_init_7 : decode cX10_init 7 = .ok (.newarray .int, 2) := by decide +kernel
theorem dX10_init_9 : decode cX10_init 9 = .ok (.putfield 7, 3) := by decide +kernel
theorem dX10_init_12 : decode cX10_init 12 = .ok (.aload_n 0, 1) := by decide +kernel
theorem dX10_init_13 : decode cX10_init 13 = .ok (.bipush 16, 2) := by decide +kernel
theorem dX10_init_15 : decode cX10_init 15 = .ok (.newarray .int, 2) := by decide +kernel
theorem dX10_init_17 : decode cX10_init 17 = .ok (.putfield 13, 3) := by decide +kernel
theorem dX10_init_20 : decode cX10_init 20 = .ok (.aload_n 0, 1) := by decide +kernel
theorem dX10_init_21 : decode cX10_init 21 = .ok (.bipush 16, 2) := by decide +kernel
theorem dX10_init_23 : decode cX10_init 23 = .ok (.newarray .int, 2) := by decide +kernel
theorem dX10_init_25 : decode cX10_init 25 = .ok (.putfield 16, 3) := by decide +kernel
theorem dX10_init_28 : decode cX10_init 28 = .ok (.aload_n 0, 1) := by decide +kernel
theorem dX10_init_29 : decode cX10_init 29 = .ok (.sipush 128, 3) := by decide +kernel
theorem dX10_init_32 : decode cX10_init 32 = .ok (.newarray .int, 2) := by decide +kernel
theorem dX10_init_34 : decode cX10_init 34 = .ok (.putfield 19, 3) := by decide +kernel
theorem dX10_init_37 : decode cX10_init 37 = .ok (.aload_n 0, 1) := by decide +kernel
theorem dX10_init_38 : decode cX10_init 38 = .ok (.bipush 32, 2) := by decide +kernel
theorem dX10_init_40 : decode cX10_init 40 = .ok (.newarray .int, 2) := by decide +kernel
theorem dX10_init_42 : decode cX10_init 42 = .ok (.putfield 22, 3) := by decide +kernel
theorem dX10_init_45 : decode cX10_init 45 = .ok (.aload_n 0, 1) := by decide +kernel
theorem dX10_init_46 : decode cX10_init 46 = .ok (.bipush 16, 2) := by decide +kernel
theorem dX10_init_48 : decode cX10_init 48 = .ok (.newarray .int, 2) := by decide +kernel
theorem dX10_init_50 : decode cX10_init 50 = .ok (.putfield 25, 3) := by decide +kernel
theorem dX10_init_53 : decode cX10_init 53 = .ok (.aload_n 0, 1) := by decide +kernel
theorem dX10_init_54 : decode cX10_init 54 = .ok (.sipush 200, 3) := by decide +kernel
theorem dX10_init_57 : decode cX10_init 57 = .ok (.newarray .int, 2) := by decide +kernel
theorem dX10_init_59 : decode cX10_init 59 = .ok (.putfield 28, 3) := by decide +kernel
theorem dX10_init_62 : decode cX10_init 62 = .ok (.aload_n 0, 1) := by decide +kernel
theorem dX10_init_63 : decode cX10_init 63 = .ok (.iconst 2, 1) := by decide +kernel
theorem dX10_init_64 : decode cX10_init 64 = .ok (.newarray .int, 2) := by decide +kernel
theorem dX10_init_66 : decode cX10_init 66 = .ok (.putfield 31, 3) := by decide +kernel
theorem dX10_init_69 : decode cX10_init 69 = .ok (.aload_n 0, 1) := by decide +kernel
theorem dX10_init_70 : decode cX10_init 70 = .ok (.bipush 16, 2) := by decide +kernel
theorem dX10_init_72 : decode cX10_init 72 = .ok (.newarray .int, 2) := by decide +kernel
theorem dX10_init_74 : decode cX10_init 74 = .ok (.putfield 34, 3) := by decide +kernel
theorem dX10_init_77 : decode cX10_init 77 = .ok (.aload_n 0, 1) := by decide +kernel
theorem dX10_init_78 : decode cX10_init 78 = .ok (.bipush 16, 2) := by decide +kernel
theorem dX10_init_80 : decode cX10_init 80 = .ok (.newarray .int, 2) := by decide +kernel
theorem dX10_init_82 : decode cX10_init 82 = .ok (.putfield 37, 3) := by decide +kernel
theorem dX10_init_85 : decode cX10_init 85 = .ok (.aload_n 0, 1) := by decide +kernel
theorem dX10_init_86 : decode cX10_init 86 = .ok (.bipush 16, 2) := by decide +kernel
theorem dX10_init_88 : decode cX10_init 88 = .ok (.newarray .int, 2) := by decide +kernel
theorem dX10_init_90 : decode cX10_init 90 = .ok (.putfield 40, 3) := by decide +kernel
theorem dX10_init_93 : decode cX10_init 93 = .ok (.aload_n 0, 1) := by decide +kernel
theorem dX10_init_94 : decode cX10_init 94 = .ok (.bipush 16, 2) := by decide +kernel
theorem dX10_init_96 : decode cX10_init 96 = .ok (.newarray .int, 2) := by decide +kernel
theorem dX10_init_98 : decode cX10_init 98 = .ok (.putfield 43, 3) := by decide +kernel
theorem dX10_init_101 : decode cX10_init 101 = .ok (.aload_n 0, 1) := by decide +kernel
theorem dX10_init_102 : decode cX10_init 102 = .ok (.bipush 32, 2) := by decide +kernel
theorem dX10_init_104 : decode cX10_init 104 = .ok (.newarray .int, 2) := by decide +kernel
theorem dX10_init_106 : decode cX10_init 106 = .ok (.putfield 46, 3) := by decide +kernel
theorem dX10_init_109 : decode cX10_init 109 = .ok (.aload_n 0, 1) := by decide +kernel
theorem dX10_init_110 : decode cX10_init 110 = .ok (.bipush 32, 2) := by decide +kernel
theorem dX10_init_112 : decode cX10_init 112 = .ok (.newarray .int, 2) := by decide +kernel
theorem dX10_init_114 : decode cX10_init 114 = .ok (.putfield 49, 3) := by decide +kernel
theorem dX10_init_117 : decode cX10_init 117 = .ok (.aload_n 0, 1) := by decide +kernel
theorem dX10_init_118 : decode cX10_init 118 = .ok (.bipush 16, 2) := by decide +kernel
theorem dX10_init_120 : decode cX10_init 120 = .ok (.newarray .int, 2) := by decide +kernel
theorem dX10_init_122 : decode cX10_init 122 = .ok (.putfield 52, 3) := by decide +kernel
theorem dX10_init_125 : decode cX10_init 125 = .ok (.aload_n 0, 1) := by decide +kernel
theorem dX10_init_126 : decode cX10_init 126 = .ok (.sipush 2048, 3) := by decide +kernel
theorem dX10_init_129 : decode cX10_init 129 = .ok (.newarray .int, 2) := by decide +kernel
theorem dX10_init_131 : decode cX10_init 131 = .ok (.putfield 55, 3) := by decide +kernel
theorem dX10_init_134 : decode cX10_init 134 = .ok (.aload_n 0, 1) := by decide +kernel
theorem dX10_init_135 : decode cX10_init 135 = .ok (.invokevirtual 58, 3) := by decide +kernel
theorem dX10_init_138 : decode cX10_init 138 = .ok (.aload_n 0, 1) := by decide +kernel
theorem dX10_init_139 : decode cX10_init 139 = .ok (.bipush 10, 2) := by decide +kernel
theorem dX10_init_141 : decode cX10_init 141 = .ok (.putfield 61, 3) := by decide +kernel
theorem dX10_init_144 : decode cX10_init 144 = .ok (.aload_n 0, 1) := by decide +kernel
theorem dX10_init_145 : decode cX10_init 145 = .ok (.invokevirtual 65, 3) := by decide +kernel
theorem dX10_init_148 : decode cX10_init 148 = .ok (.aload_n 0, 1) := by decide +kernel
theorem dX10_init_149 : decode cX10_init 149 = .ok (.getfield 34, 3) := by decide +kernel
theorem dX10_init_152 : decode cX10_init 152 = .ok (.iconst 3, 1) := by decide +kernel
theorem dX10_init_153 : decode cX10_init 153 = .ok (.iconst 0, 1) := by decide +kernel
theorem dX10_init_154 : decode cX10_init 154 = .ok (.iastore, 1) := by decide +kernel
theorem dX10_init_155 : decode cX10_init 155 = .ok (.aload_n 0, 1) := by decide +kernel
theorem dX10_init_156 : decode cX10_init 156 = .ok (.getfield 34, 3) := by decide +kernel
theorem dX10_init_159 : decode cX10_init 159 = .ok (.iconst 4, 1) := by decide +kernel
theorem dX10_init_160 : decode cX10_init 160 = .ok (.iconst 2, 1) := by decide +kernel
theorem dX10_init_161 : decode cX10_init 161 = .ok (.iastore, 1) := by decide +kernel
theorem dX10_init_162 : decode cX10_init 162 = .ok (.aload_n 0, 1) := by decide +kernel
theorem dX10_init_163 : decode cX10_init 163 = .ok (.getfield 37, 3) := by decide +kernel
theorem dX10_init_166 : decode cX10_init 166 = .ok (.iconst 0, 1) := by decide +kernel
theorem dX10_init_167 : decode cX10_init 167 = .ok (.iconst 0, 1) := by decide +kernel
theorem dX10_init_168 : decode cX10_init 168 = .ok (.iastore, 1) := by decide +kernel
theorem dX10_init_169 : decode cX10_init 169 = .ok (.aload_n 0, 1) := by decide +kernel
theorem dX10_init_170 : decode cX10_init 170 = .ok (.getfield 37, 3) := by decide +kernel
theorem dX10_init_173 : decode cX10_init 173 = .ok (.iconst 1, 1) := by decide +kernel
theorem dX10_init_174 : decode cX10_init 174 = .ok (.bipush 9, 2) := by decide +kernel
theorem dX10_init_176 : decode cX10_init 176 = .ok (.iastore, 1) := by decide +kernel
theorem dX10_init_177 : decode cX10_init 177 = .ok (.aload_n 0, 1) := by decide +kernel
theorem dX10_init_178 : decode cX10_init 178 = .ok (.getfield 37, 3) := by decide +kernel
theorem dX10_init_181 : decode cX10_init 181 = .ok (.iconst 2, 1) := by decide +kernel
theorem dX10_init_182 : decode cX10_init 182 = .ok (.iconst 1, 1) := by decide +kernel
theorem dX10_init_183 : decode cX10_init 183 = .ok (.iastore, 1) := by decide +kernel
theorem dX10_init_184 : decode cX10_init 184 = .ok (.aload_n 0, 1) := by decide +kernel
theorem dX10_init_185 : decode cX10_init 185 = .ok (.iconst 3, 1) := by decide +kernel
theorem dX10_init_186 : decode cX10_init 186 = .ok (.putfield 68, 3) := by decide +kernel
theorem dX10_init_189 : decode cX10_init 189 = .ok (.aload_n 0, 1) := by decide +kernel
theorem dX10_init_190 : decode cX10_init 190 = .ok (.invokevirtual 71, 3) := by decide +kernel
theorem dX10_init_193 : decode cX10_init 193 = .ok (.return_, 1) := by decide +kernel
theorem dX10_in_0 : decode cX10_in 0 = .ok (.iload_n 0, 1) := by decide +kernel
theorem dX10_in_1 : decode cX10_in 1 = .ok (.iload_n 1, 1) := by decide +kernel
theorem dX10_in_2 : decode cX10_in 2 = .ok (.if_icmp .lt 12, 3) := by decide +kernel
theorem dX10_in_5 : decode cX10_in 5 = .ok (.iload_n 0, 1) := by decide +kernel
theorem dX10_in_6 : decode cX10_in 6 = .ok (.iload_n 2, 1) := by decide +kernel
theorem dX10_in_7 : decode cX10_in 7 = .ok (.if_icmp .gt 7, 3) := by decide +kernel
theorem dX10_in_10 : decode cX10_in 10 = .ok (.iconst 1, 1) := by decide +kernel
theorem dX10_in_11 : decode cX10_in 11 = .ok (.goto 4, 3) := by decide +kernel
theorem dX10_in_14 : decode cX10_in 14 = .ok (.iconst 0, 1) := by decide +kernel
theorem dX10_in_15 : decode cX10_in 15 = .ok (.ireturn, 1) := by decide +kernel
theorem dX10_isCard_0 : decode cX10_isCard 0 = .ok (.iload_n 1, 1) := by decide +kernel
theorem dX10_isCard_1 : decode cX10_isCard 1 = .ok (.iconst 0, 1) := by decide +kernel
theorem dX10_isCard_2 : decode cX10_isCard 2 = .ok (.aload_n 0, 1) := by decide +kernel
theorem dX10_isCard_3 : decode cX10_isCard 3 = .ok (.getfield 74, 3) := by decide +kernel
theorem dX10_isCard_6 : decode cX10_isCard 6 = .ok (.iconst 1, 1) := by decide +kernel
theorem dX10_isCard_7 : decode cX10_isCard 7 = .ok (.isub, 1) := by decide +kernel
theorem dX10_isCard_8 : decode cX10_isCard 8 = .ok (.invokestatic 77, 3) := by decide +kernel
theorem dX10_isCard_11 : decode cX10_isCard 11 = .ok (.ireturn, 1) := by decide +kernel
theorem dX10_isKind_0 : decode cX10_isKind 0 = .ok (.iload_n 0, 1) := by decide +kernel
theorem dX10_isKind_1 : decode cX10_isKind 1 = .ok (.iconst 0, 1) := by decide +kernel
theorem dX10_isKind_2 : decode cX10_isKind 2 = .ok (.iconst 4, 1) := by decide +kernel
theorem dX10_isKind_3 : decode cX10_isKind 3 = .ok (.invokestatic 77, 3) := by decide +kernel
theorem dX10_isKind_6 : decode cX10_isKind 6 = .ok (.ireturn, 1) := by decide +kernel
theorem dX10_write_0 : decode cX10_write 0 = .ok (.iload_n 1, 1) := by decide +kernel
theorem dX10_write_1 : decode cX10_write 1 = .ok (.bipush 32, 2) := by decide +kernel
theorem dX10_write_3 : decode cX10_write 3 = .ok (.bipush 126, 2) := by decide +kernel
theorem dX10_write_5 : decode cX10_write 5 = .ok (.invokestatic 77, 3) := by decide +kernel
theorem dX10_write_8 : decode cX10_write 8 = .ok (.ifCond .ne 5, 3) := by decide +kernel
theorem dX10_write_11 : decode cX10_write 11 = .ok (.iconst (-1), 1) := by decide +kernel
theorem dX10_write_12 : decode cX10_write 12 = .ok (.ireturn, 1) := by decide +kernel
theorem dX10_write_13 : decode cX10_write 13 = .ok (.aload_n 0, 1) := by decide +kernel
theorem dX10_write_14 : decode cX10_write 14 = .ok (.getfield 81, 3) := by decide +kernel
theorem dX10_write_17 : decode cX10_write 17 = .ok (.sipush 200, 3) := by decide +kernel
theorem dX10_write_20 : decode cX10_write 20 = .ok (.if_icmp .ne 6, 3) := by decide +kernel
theorem dX10_write_23 : decode cX10_write 23 = .ok (.bipush (-3), 2) := by decide +kernel
theorem dX10_write_25 : decode cX10_write 25 = .ok (.ireturn, 1) := by decide +kernel
theorem dX10_write_26 : decode cX10_write 26 = .ok (.aload_n 0, 1) := by decide +kernel
theorem dX10_write_27 : decode cX10_write 27 = .ok (.getfield 28, 3) := by decide +kernel
theorem dX10_write_30 : decode cX10_write 30 = .ok (.aload_n 0, 1) := by decide +kernel
theorem dX10_write_31 : decode cX10_write 31 = .ok (.getfield 81, 3) := by decide +kernel
theorem dX10_write_34 : decode cX10_write 34 = .ok (.iload_n 1, 1) := by decide +kernel
theorem dX10_write_35 : decode cX10_write 35 = .ok (.iastore, 1) := by decide +kernel
theorem dX10_write_36 : decode cX10_write 36 = .ok (.aload_n 0, 1) := by decide +kernel
theorem dX10_write_37 : decode cX10_write 37 = .ok (.dup, 1) := by decide +kernel
theorem dX10_write_38 : decode cX10_write 38 = .ok (.getfield 81, 3) := by decide +kernel
theorem dX10_write_41 : decode cX10_write 41 = .ok (.iconst 1, 1) := by decide +kernel
theorem dX10_write_42 : decode cX10_write 42 = .ok (.iadd, 1) := by decide +kernel
theorem dX10_write_43 : decode cX10_write 43 = .ok (.putfield 81, 3) := by decide +kernel
theorem dX10_write_46 : decode cX10_write 46 = .ok (.aload_n 0, 1) := by decide +kernel
theorem dX10_write_47 : decode cX10_write 47 = .ok (.getfield 81, 3) := by decide +kernel
theorem dX10_write_50 : decode cX10_write 50 = .ok (.ireturn, 1) := by decide +kernel
theorem dX10_wipe_0 : decode cX10_wipe 0 = .ok (.aload_n 0, 1) := by decide +kernel
theorem dX10_wipe_1 : decode cX10_wipe 1 = .ok (.getfield 81, 3) := by decide +kernel
theorem dX10_wipe_4 : decode cX10_wipe 4 = .ok (.istore_n 1, 1) := by decide +kernel
theorem dX10_wipe_5 : decode cX10_wipe 5 = .ok (.aload_n 0, 1) := by decide +kernel
theorem dX10_wipe_6 : decode cX10_wipe 6 = .ok (.iconst 0, 1) := by decide +kernel
theorem dX10_wipe_7 : decode cX10_wipe 7 = .ok (.putfield 81, 3) := by decide +kernel
theorem dX10_wipe_10 : decode cX10_wipe 10 = .ok (.iload_n 1, 1) := by decide +kernel
theorem dX10_wipe_11 : decode cX10_wipe 11 = .ok (.ireturn, 1) := by decide +kernel
theorem dX10_letterAt_0 : decode cX10_letterAt 0 = .ok (.iload_n 1, 1) := by decide +kernel
theorem dX10_letterAt_1 : decode cX10_letterAt 1 = .ok (.aload_n 0, 1) := by decide +kernel
theorem dX10_letterAt_2 : decode cX10_letterAt 2 = .ok (.getfield 81, 3) := by decide +kernel
theorem dX10_letterAt_5 : decode cX10_letterAt 5 = .ok (.if_icmp .ge 12, 3) := by decide +kernel
theorem dX10_letterAt_8 : decode cX10_letterAt 8 = .ok (.aload_n 0, 1) := by decide +kernel
theorem dX10_letterAt_9 : decode cX10_letterAt 9 = .ok (.getfield 28, 3) := by decide +kernel
theorem dX10_letterAt_12 : decode cX10_letterAt 12 = .ok (.iload_n 1, 1) := by decide +kernel
theorem dX10_letterAt_13 : decode cX10_letterAt 13 = .ok (.iaload, 1) := by decide +kernel
theorem dX10_letterAt_14 : decode cX10_letterAt 14 = .ok (.goto 4, 3) := by decide +kernel
theorem dX10_letterAt_17 : decode cX10_letterAt 17 = .ok (.iconst (-1), 1) := by decide +kernel
theorem dX10_letterAt_18 : decode cX10_letterAt 18 = .ok (.ireturn, 1) := by decide +kernel
theorem dX10_isFigure_0 : decode cX10_isFigure 0 = .ok (.iload_n 0, 1) := by decide +kernel
theorem dX10_isFigure_1 : decode cX10_isFigure 1 = .ok (.bipush 48, 2) := by decide +kernel
theorem dX10_isFigure_3 : decode cX10_isFigure 3 = .ok (.bipush 57, 2) := by decide +kernel
theorem dX10_isFigure_5 : decode cX10_isFigure 5 = .ok (.invokestatic 77, 3) := by decide +kernel
theorem dX10_isFigure_8 : decode cX10_isFigure 8 = .ok (.ireturn, 1) := by decide +kernel
theorem dX10_readNumbers_0 : decode cX10_readNumbers 0 = .ok (.iconst 0, 1) := by decide +kernel
theorem dX10_readNumbers_1 : decode cX10_readNumbers 1 = .ok (.istore_n 2, 1) := by decide +kernel
theorem dX10_readNumbers_2 : decode cX10_readNumbers 2 = .ok (.iload_n 2, 1) := by decide +kernel
theorem dX10_readNumbers_3 : decode cX10_readNumbers 3 = .ok (.iload_n 1, 1) := by decide +kernel
theorem dX10_readNumbers_4 : decode cX10_readNumbers 4 = .ok (.if_icmp .ge 140, 3) := by decide +kernel
theorem dX10_readNumbers_7 : decode cX10_readNumbers 7 = .ok (.aload_n 0, 1) := by decide +kernel
theorem dX10_readNumbers_8 : decode cX10_readNumbers 8 = .ok (.aload_n 0, 1) := by decide +kernel
theorem dX10_readNumbers_9 : decode cX10_readNumbers 9 = .ok (.getfield 84, 3) := by decide +kernel
theorem dX10_readNumbers_12 : decode cX10_readNumbers 12 = .ok (.invokevirtual 87, 3) := by decide +kernel
theorem dX10_readNumbers_15 : decode cX10_readNumbers 15 = .ok (.invokestatic 91, 3) := by decide +kernel
theorem dX10_readNumbers_18 : decode cX10_readNumbers 18 = .ok (.ifCond .ne 5, 3) := by decide +kernel
theorem dX10_readNumbers_21 : decode cX10_readNumbers 21 = .ok (.iconst 0, 1) := by decide +kernel
theorem dX10_readNumbers_22 : decode cX10_readNumbers 22 = .ok (.ireturn, 1) := by decide +kernel
theorem dX10_readNumbers_23 : decode cX10_readNumbers 23 = .ok (.aload_n 0, 1) := by decide +kernel
theorem dX10_readNumbers_24 : decode cX10_readNumbers 24 = .ok (.getfield 31, 3) := by decide +kernel
theorem dX10_readNumbers_27 : decode cX10_readNumbers 27 = .ok (.iload_n 2, 1) := by decide +kernel
theorem dX10_readNumbers_28 : decode cX10_readNumbers 28 = .ok (.aload_n 0, 1) := by decide +kernel
theorem dX10_readNumbers_29 : decode cX10_readNumbers 29 = .ok (.aload_n 0, 1) := by decide +kernel
theorem dX10_readNumbers_30 : decode cX10_readNumbers 30 = .ok (.getfield 84, 3) := by decide +kernel
theorem dX10_readNumbers_33 : decode cX10_readNumbers 33 = .ok (.invokevirtual 87, 3) := by decide +kernel
theorem dX10_readNumbers_36 : decode cX10_readNumbers 36 = .ok (.bipush 48, 2) := by decide +kernel
theorem dX10_readNumbers_38 : decode cX10_readNumbers 38 = .ok (.isub, 1) := by decide +kernel
theorem dX10_readNumbers_39 : decode cX10_readNumbers 39 = .ok (.iastore, 1) := by decide +kernel
theorem dX10_readNumbers_40 : decode cX10_readNumbers 40 = .ok (.aload_n 0, 1) := by decide +kernel
theorem dX10_readNumbers_41 : decode cX10_readNumbers 41 = .ok (.dup, 1) := by decide +kernel
theorem dX10_readNumbers_42 : decode cX10_readNumbers 42 = .ok (.getfield 84, 3) := by decide +kernel
theorem dX10_readNumbers_45 : decode cX10_readNumbers 45 = .ok (.iconst 1, 1) := by decide +kernel
theorem dX10_readNumbers_46 : decode cX10_readNumbers 46 = .ok (.iadd, 1) := by decide +kernel
theorem dX10_readNumbers_47 : decode cX10_readNumbers 47 = .ok (.putfield 84, 3) := by decide +kernel
theorem dX10_readNumbers_50 : decode cX10_readNumbers 50 = .ok (.aload_n 0, 1) := by decide +kernel
theorem dX10_readNumbers_51 : decode cX10_readNumbers 51 = .ok (.aload_n 0, 1) := by decide +kernel
theorem dX10_readNumbers_52 : decode cX10_readNumbers 52 = .ok (.getfield 84, 3) := by decide +kernel
theorem dX10_readNumbers_55 : decode cX10_readNumbers 55 = .ok (.invokevirtual 87, 3) := by decide +kernel
theorem dX10_readNumbers_58 : decode cX10_readNumbers 58 = .ok (.invokestatic 91, 3) := by decide +kernel
theorem dX10_readNumbers_61 : decode cX10_readNumbers 61 = .ok (.ifCond .eq 40, 3) := by decide +kernel
theorem dX10_readNumbers_64 : decode cX10_readNumbers 64 = .ok (.aload_n 0, 1) := by decide +kernel
theorem dX10_readNumbers_65 : decode cX10_readNumbers 65 = .ok (.getfield 31, 3) := by decide +kernel
theorem dX10_readNumbers_68 : decode cX10_readNumbers 68 = .ok (.iload_n 2, 1) := by decide +kernel
theorem dX10_readNumbers_69 : decode cX10_readNumbers 69 = .ok (.bipush 10, 2) := by decide +kernel
theorem dX10_readNumbers_71 : decode cX10_readNumbers 71 = .ok (.aload_n 0, 1) := by decide +kernel
theorem dX10_readNumbers_72 : decode cX10_readNumbers 72 = .ok (.getfield 31, 3) := by decide +kernel
theorem dX10_readNumbers_75 : decode cX10_readNumbers 75 = .ok (.iload_n 2, 1) := by decide +kernel
theorem dX10_readNumbers_76 : decode cX10_readNumbers 76 = .ok (.iaload, 1) := by decide +kernel
theorem dX10_readNumbers_77 : decode cX10_readNumbers 77 = .ok (.imul, 1) := by decide +kernel
theorem dX10_readNumbers_78 : decode cX10_readNumbers 78 = .ok (.aload_n 0, 1) := by decide +kernel
theorem dX10_readNumbers_79 : decode cX10_readNumbers 79 = .ok (.aload_n 0, 1) := by decide +kernel
theorem dX10_readNumbers_80 : decode cX10_readNumbers 80 = .ok (.getfield 84, 3) := by decide +kernel
theorem dX10_readNumbers_83 : decode cX10_readNumbers 83 = .ok (.invokevirtual 87, 3) := by decide +kernel
theorem dX10_readNumbers_86 : decode cX10_readNumbers 86 = .ok (.iadd, 1) := by decide +kernel
theorem dX10_readNumbers_87 : decode cX10_readNumbers 87 = .ok (.bipush 48, 2) := by decide +kernel
theorem dX10_readNumbers_89 : decode cX10_readNumbers 89 = .ok (.isub, 1) := by decide +kernel
theorem dX10_readNumbers_90 : decode cX10_readNumbers 90 = .ok (.iastore, 1) := by decide +kernel
theorem dX10_readNumbers_91 : decode cX10_readNumbers 91 = .ok (.aload_n 0, 1) := by decide +kernel
theorem dX10_readNumbers_92 : decode cX10_readNumbers 92 = .ok (.dup, 1) := by decide +kernel
theorem dX10_readNumbers_93 : decode cX10_readNumbers 93 = .ok (.getfield 84, 3) := by decide +kernel
theorem dX10_readNumbers_96 : decode cX10_readNumbers 96 = .ok (.iconst 1, 1) := by decide +kernel
theorem dX10_readNumbers_97 : decode cX10_readNumbers 97 = .ok (.iadd, 1) := by decide +kernel
theorem dX10_readNumbers_98 : decode cX10_readNumbers 98 = .ok (.putfield 84, 3) := by decide +kernel
theorem dX10_readNumbers_101 : decode cX10_readNumbers 101 = .ok (.aload_n 0, 1) := by decide +kernel
theorem dX10_readNumbers_102 : decode cX10_readNumbers 102 = .ok (.aload_n 0, 1) := by decide +kernel
theorem dX10_readNumbers_103 : decode cX10_readNumbers 103 = .ok (.getfield 84, 3) := by decide +kernel
theorem dX10_readNumbers_106 : decode cX10_readNumbers 106 = .ok (.invokevirtual 87, 3) := by decide +kernel
theorem dX10_readNumbers_109 : decode cX10_readNumbers 109 = .ok (.iload_n 2, 1) := by decide +kernel
theorem dX10_readNumbers_110 : decode cX10_readNumbers 110 = .ok (.iload_n 1, 1) := by decide +kernel
theorem dX10_readNumbers_111 : decode cX10_readNumbers 111 = .ok (.iconst 1, 1) := by decide +kernel
theorem dX10_readNumbers_112 : decode cX10_readNumbers 112 = .ok (.isub, 1) := by decide +kernel
theorem dX10_readNumbers_113 : decode cX10_readNumbers 113 = .ok (.if_icmp .ge 8, 3) := by decide +kernel
theorem dX10_readNumbers_116 : decode cX10_readNumbers 116 = .ok (.bipush 44, 2) := by decide +kernel
theorem dX10_readNumbers_118 : decode cX10_readNumbers 118 = .ok (.goto 5, 3) := by decide +kernel
theorem dX10_readNumbers_121 : decode cX10_readNumbers 121 = .ok (.bipush 59, 2) := by decide +kernel
theorem dX10_readNumbers_123 : decode cX10_readNumbers 123 = .ok (.if_icmp .eq 5, 3) := by decide +kernel
theorem dX10_readNumbers_126 : decode cX10_readNumbers 126 = .ok (.iconst 0, 1) := by decide +kernel
theorem dX10_readNumbers_127 : decode cX10_readNumbers 127 = .ok (.ireturn, 1) := by decide +kernel
theorem dX10_readNumbers_128 : decode cX10_readNumbers 128 = .ok (.aload_n 0, 1) := by decide +kernel
theorem dX10_readNumbers_129 : decode cX10_readNumbers 129 = .ok (.dup, 1) := by decide +kernel
theorem dX10_readNumbers_130 : decode cX10_readNumbers 130 = .ok (.getfield 84, 3) := by decide +kernel
theorem dX10_readNumbers_133 : decode cX10_readNumbers 133 = .ok (.iconst 1, 1) := by decide +kernel
theorem dX10_readNumbers_134 : decode cX10_readNumbers 134 = .ok (.iadd, 1) := by decide +kernel
theorem dX10_readNumbers_135 : decode cX10_readNumbers 135 = .ok (.putfield 84, 3) := by decide +kernel
theorem dX10_readNumbers_138 : decode cX10_readNumbers 138 = .ok (.iinc 2 1, 3) := by decide +kernel
theorem dX10_readNumbers_141 : decode cX10_readNumbers 141 = .ok (.goto (-139), 3) := by decide +kernel
theorem dX10_readNumbers_144 : decode cX10_readNumbers 144 = .ok (.iconst 1, 1) := by decide +kernel
theorem dX10_readNumbers_145 : decode cX10_readNumbers 145 = .ok (.ireturn, 1) := by decide +kernel
theorem dX10_isTold_0 : decode cX10_isTold 0 = .ok (.aload_n 0, 1) := by decide +kernel
theorem dX10_isTold_1 : decode cX10_isTold 1 = .ok (.getfield 31, 3) := by decide +kernel
theorem dX10_isTold_4 : decode cX10_isTold 4 = .ok (.iload_n 1, 1) := by decide +kernel
theorem dX10_isTold_5 : decode cX10_isTold 5 = .ok (.iaload, 1) := by decide +kernel
theorem dX10_isTold_6 : decode cX10_isTold 6 = .ok (.iload_n 2, 1) := by decide +kernel
theorem dX10_isTold_7 : decode cX10_isTold 7 = .ok (.iload_n 3, 1) := by decide +kernel
theorem dX10_isTold_8 : decode cX10_isTold 8 = .ok (.invokestatic 77, 3) := by decide +kernel
theorem dX10_isTold_11 : decode cX10_isTold 11 = .ok (.ireturn, 1) := by decide +kernel
theorem dX10_colours_0 : decode cX10_colours 0 = .ok (.iconst 0, 1) := by decide +kernel
theorem dX10_colours_1 : decode cX10_colours 1 = .ok (.istore_n 1, 1) := by decide +kernel
theorem dX10_colours_2 : decode cX10_colours 2 = .ok (.iload_n 1, 1) := by decide +kernel
theorem dX10_colours_3 : decode cX10_colours 3 = .ok (.bipush 16, 2) := by decide +kernel
theorem dX10_colours_5 : decode cX10_colours 5 = .ok (.if_icmp .ge 18, 3) := by decide +kernel
theorem dX10_colours_8 : decode cX10_colours 8 = .ok (.aload_n 0, 1) := by decide +kernel
theorem dX10_colours_9 : decode cX10_colours 9 = .ok (.getfield 34, 3) := by decide +kernel
theorem dX10_colours_12 : decode cX10_colours 12 = .ok (.iload_n 1, 1) := by decide +kernel
theorem dX10_colours_13 : decode cX10_colours 13 = .ok (.iload_n 1, 1) := by decide +kernel
theorem dX10_colours_14 : decode cX10_colours 14 = .ok (.iconst 2, 1) := by decide +kernel
theorem dX10_colours_15 : decode cX10_colours 15 = .ok (.irem, 1) := by decide +kernel
theorem dX10_colours_16 : decode cX10_colours 16 = .ok (.iastore, 1) := by decide +kernel
theorem dX10_colours_17 : decode cX10_colours 17 = .ok (.iinc 1 1, 3) := by decide +kernel
theorem dX10_colours_20 : decode cX10_colours 20 = .ok (.goto (-18), 3) := by decide +kernel
theorem dX10_colours_23 : decode cX10_colours 23 = .ok (.return_, 1) := by decide +kernel
theorem dX10_clearTold_0 : decode cX10_clearTold 0 = .ok (.aload_n 0, 1) := by decide +kernel
theorem dX10_clearTold_1 : decode cX10_clearTold 1 = .ok (.iconst 0, 1) := by decide +kernel
theorem dX10_clearTold_2 : decode cX10_clearTold 2 = .ok (.putfield 95, 3) := by decide +kernel
theorem dX10_clearTold_5 : decode cX10_clearTold 5 = .ok (.aload_n 0, 1) := by decide +kernel
theorem dX10_clearTold_6 : decode cX10_clearTold 6 = .ok (.bipush 8, 2) := by decide +kernel
theorem dX10_clearTold_8 : decode cX10_clearTold 8 = .ok (.putfield 61, 3) := by decide +kernel
theorem dX10_clearTold_11 : decode cX10_clearTold 11 = .ok (.aload_n 0, 1) := by decide +kernel
theorem dX10_clearTold_12 : decode cX10_clearTold 12 = .ok (.iconst 0, 1) := by decide +kernel
theorem dX10_clearTold_13 : decode cX10_clearTold 13 = .ok (.putfield 68, 3) := by decide +kernel
theorem dX10_clearTold_16 : decode cX10_clearTold 16 = .ok (.aload_n 0, 1) := by decide +kernel
theorem dX10_clearTold_17 : decode cX10_clearTold 17 = .ok (.invokevirtual 65, 3) := by decide +kernel
theorem dX10_clearTold_20 : decode cX10_clearTold 20 = .ok (.return_, 1) := by decide +kernel
theorem dX10_readCardsOf_0 : decode cX10_readCardsOf 0 = .ok (.aload_n 0, 1) := by decide +kernel
theorem dX10_readCardsOf_1 : decode cX10_readCardsOf 1 = .ok (.getfield 95, 3) := by decide +kernel
theorem dX10_readCardsOf_4 : decode cX10_readCardsOf 4 = .ok (.ifCond .ne 26, 3) := by decide +kernel
theorem dX10_readCardsOf_7 : decode cX10_readCardsOf 7 = .ok (.aload_n 0, 1) := by decide +kernel
theorem dX10_readCardsOf_8 : decode cX10_readCardsOf 8 = .ok (.iconst 1, 1) := by decide +kernel
theorem dX10_readCardsOf_9 : decode cX10_readCardsOf 9 = .ok (.invokevirtual 99, 3) := by decide +kernel
theorem dX10_readCardsOf_12 : decode cX10_readCardsOf 12 = .ok (.ifCond .eq 18, 3) := by decide +kernel
theorem dX10_readCardsOf_15 : decode cX10_readCardsOf 15 = .ok (.aload_n 0, 1) := by decide +kernel
theorem dX10_readCardsOf_16 : decode cX10_readCardsOf 16 = .ok (.iconst 0, 1) := by decide +kernel
theorem dX10_readCardsOf_17 : decode cX10_readCardsOf 17 = .ok (.iconst 2, 1) := by decide +kernel
theorem dX10_readCardsOf_18 : decode cX10_readCardsOf 18 = .ok (.bipush 16, 2) := by decide +kernel
theorem dX10_readCardsOf_20 : decode cX10_readCardsOf 20 = .ok (.invokevirtual 102, 3) := by decide +kernel
theorem dX10_readCardsOf_23 : decode cX10_readCardsOf 23 = .ok (.ifCond .eq 7, 3) := by decide +kernel
theorem dX10_readCardsOf_26 : decode cX10_readCardsOf 26 = .ok (.iconst 1, 1) := by decide +kernel
theorem dX10_readCardsOf_27 : decode cX10_readCardsOf 27 = .ok (.goto 4, 3) := by decide +kernel
theorem dX10_readCardsOf_30 : decode cX10_readCardsOf 30 = .ok (.iconst 0, 1) := by decide +kernel
theorem dX10_readCardsOf_31 : decode cX10_readCardsOf 31 = .ok (.istore_n 1, 1) := by decide +kernel
theorem dX10_readCardsOf_32 : decode cX10_readCardsOf 32 = .ok (.aload_n 0, 1) := by decide +kernel
theorem dX10_readCardsOf_33 : decode cX10_readCardsOf 33 = .ok (.iload_n 1, 1) := by decide +kernel
theorem dX10_readCardsOf_34 : decode cX10_readCardsOf 34 = .ok (.ifCond .eq 12, 3) := by decide +kernel
theorem dX10_readCardsOf_37 : decode cX10_readCardsOf 37 = .ok (.aload_n 0, 1) := by decide +kernel
theorem dX10_readCardsOf_38 : decode cX10_readCardsOf 38 = .ok (.getfield 31, 3) := by decide +kernel
theorem dX10_readCardsOf_41 : decode cX10_readCardsOf 41 = .ok (.iconst 0, 1) := by decide +kernel
theorem dX10_readCardsOf_42 : decode cX10_readCardsOf 42 = .ok (.iaload, 1) := by decide +kernel
theorem dX10_readCardsOf_43 : decode cX10_readCardsOf 43 = .ok (.goto 7, 3) := by decide +kernel
theorem dX10_readCardsOf_46 : decode cX10_readCardsOf 46 = .ok (.aload_n 0, 1) := by decide +kernel
theorem dX10_readCardsOf_47 : decode cX10_readCardsOf 47 = .ok (.getfield 61, 3) := by decide +kernel
theorem dX10_readCardsOf_50 : decode cX10_readCardsOf 50 = .ok (.putfield 61, 3) := by decide +kernel
theorem dX10_readCardsOf_53 : decode cX10_readCardsOf 53 = .ok (.iload_n 1, 1) := by decide +kernel
theorem dX10_readCardsOf_54 : decode cX10_readCardsOf 54 = .ok (.ireturn, 1) := by decide +kernel
theorem dX10_readColourOf_0 : decode cX10_readColourOf 0 = .ok (.aload_n 0, 1) := by decide +kernel
theorem dX10_readColourOf_1 : decode cX10_readColourOf 1 = .ok (.iconst 2, 1) := by decide +kernel
theorem dX10_readColourOf_2 : decode cX10_readColourOf 2 = .ok (.invokevirtual 99, 3) := by decide +kernel
theorem dX10_readColourOf_5 : decode cX10_readColourOf 5 = .ok (.ifCond .eq 28, 3) := by decide +kernel
theorem dX10_readColourOf_8 : decode cX10_readColourOf 8 = .ok (.aload_n 0, 1) := by decide +kernel
theorem dX10_readColourOf_9 : decode cX10_readColourOf 9 = .ok (.iconst 0, 1) := by decide +kernel
theorem dX10_readColourOf_10 : decode cX10_readColourOf 10 = .ok (.iconst 0, 1) := by decide +kernel
theorem dX10_readColourOf_11 : decode cX10_readColourOf 11 = .ok (.aload_n 0, 1) := by decide +kernel
theorem dX10_readColourOf_12 : decode cX10_readColourOf 12 = .ok (.getfield 61, 3) := by decide +kernel
theorem dX10_readColourOf_15 : decode cX10_readColourOf 15 = .ok (.iconst 1, 1) := by decide +kernel
theorem dX10_readColourOf_16 : decode cX10_readColourOf 16 = .ok (.isub, 1) := by decide +kernel
theorem dX10_readColourOf_17 : decode cX10_readColourOf 17 = .ok (.invokevirtual 102, 3) := by decide +kernel
theorem dX10_readColourOf_20 : decode cX10_readColourOf 20 = .ok (.ifCond .eq 13, 3) := by decide +kernel
theorem dX10_readColourOf_23 : decode cX10_readColourOf 23 = .ok (.aload_n 0, 1) := by decide +kernel
theorem dX10_readColourOf_24 : decode cX10_readColourOf 24 = .ok (.iconst 1, 1) := by decide +kernel
theorem dX10_readColourOf_25 : decode cX10_readColourOf 25 = .ok (.iconst 0, 1) := by decide +kernel
theorem dX10_readColourOf_26 : decode cX10_readColourOf 26 = .ok (.iconst 3, 1) := by decide +kernel
theorem dX10_readColourOf_27 : decode cX10_readColourOf 27 = .ok (.invokevirtual 102, 3) := by decide +kernel
theorem dX10_readColourOf_30 : decode cX10_readColourOf 30 = .ok (.ifCond .ne 5, 3) := by decide +kernel
theorem dX10_readColourOf_33 : decode cX10_readColourOf 33 = .ok (.iconst 0, 1) := by decide +kernel
theorem dX10_readColourOf_34 : decode cX10_readColourOf 34 = .ok (.ireturn, 1) := by decide +kernel
theorem dX10_readColourOf_35 : decode cX10_readColourOf 35 = .ok (.aload_n 0, 1) := by decide +kernel
theorem dX10_readColourOf_36 : decode cX10_readColourOf 36 = .ok (.getfield 34, 3) := by decide +kernel
theorem dX10_readColourOf_39 : decode cX10_readColourOf 39 = .ok (.aload_n 0, 1) := by decide +kernel
theorem dX10_readColourOf_40 : decode cX10_readColourOf 40 = .ok (.getfield 31, 3) := by decide +kernel
theorem dX10_readColourOf_43 : decode cX10_readColourOf 43 = .ok (.iconst 0, 1) := by decide +kernel
theorem dX10_readColourOf_44 : decode cX10_readColourOf 44 = .ok (.iaload, 1) := by decide +kernel
theorem dX10_readColourOf_45 : decode cX10_readColourOf 45 = .ok (.aload_n 0, 1) := by decide +kernel
theorem dX10_readColourOf_46 : decode cX10_readColourOf 46 = .ok (.getfield 31, 3) := by decide +kernel
theorem dX10_readColourOf_49 : decode cX10_readColourOf 49 = .ok (.iconst 1, 1) := by decide +kernel
theorem dX10_readColourOf_50 : decode cX10_readColourOf 50 = .ok (.iaload, 1) := by decide +kernel
theorem dX10_readColourOf_51 : decode cX10_readColourOf 51 = .ok (.iastore, 1) := by decide +kernel
theorem dX10_readColourOf_52 : decode cX10_readColourOf 52 = .ok (.iconst 1, 1) := by decide +kernel
theorem dX10_readColourOf_53 : decode cX10_readColourOf 53 = .ok (.ireturn, 1) := by decide +kernel
theorem dX10_readDealOf_0 : decode cX10_readDealOf 0 = .ok (.aload_n 0, 1) := by decide +kernel
theorem dX10_readDealOf_1 : decode cX10_readDealOf 1 = .ok (.getfield 68, 3) := by decide +kernel
theorem dX10_readDealOf_4 : decode cX10_readDealOf 4 = .ok (.bipush 16, 2) := by decide +kernel
theorem dX10_readDealOf_6 : decode cX10_readDealOf 6 = .ok (.if_icmp .eq 21, 3) := by decide +kernel
theorem dX10_readDealOf_9 : decode cX10_readDealOf 9 = .ok (.aload_n 0, 1) := by decide +kernel
theorem dX10_readDealOf_10 : decode cX10_readDealOf 10 = .ok (.iconst 1, 1) := by decide +kernel
theorem dX10_readDealOf_11 : decode cX10_readDealOf 11 = .ok (.invokevirtual 99, 3) := by decide +kernel
theorem dX10_readDealOf_14 : decode cX10_readDealOf 14 = .ok (.ifCond .eq 13, 3) := by decide +kernel
theorem dX10_readDealOf_17 : decode cX10_readDealOf 17 = .ok (.aload_n 0, 1) := by decide +kernel
theorem dX10_readDealOf_18 : decode cX10_readDealOf 18 = .ok (.iconst 0, 1) := by decide +kernel
theorem dX10_readDealOf_19 : decode cX10_readDealOf 19 = .ok (.iconst 0, 1) := by decide +kernel
theorem dX10_readDealOf_20 : decode cX10_readDealOf 20 = .ok (.iload_n 2, 1) := by decide +kernel
theorem dX10_readDealOf_21 : decode cX10_readDealOf 21 = .ok (.invokevirtual 102, 3) := by decide +kernel
theorem dX10_readDealOf_24 : decode cX10_readDealOf 24 = .ok (.ifCond .ne 5, 3) := by decide +kernel
theorem dX10_readDealOf_27 : decode cX10_readDealOf 27 = .ok (.iconst 0, 1) := by decide +kernel
theorem dX10_readDealOf_28 : decode cX10_readDealOf 28 = .ok (.ireturn, 1) := by decide +kernel
theorem dX10_readDealOf_29 : decode cX10_readDealOf 29 = .ok (.aload_n 0, 1) := by decide +kernel
theorem dX10_readDealOf_30 : decode cX10_readDealOf 30 = .ok (.getfield 37, 3) := by decide +kernel
theorem dX10_readDealOf_33 : decode cX10_readDealOf 33 = .ok (.aload_n 0, 1) := by decide +kernel
theorem dX10_readDealOf_34 : decode cX10_readDealOf 34 = .ok (.getfield 68, 3) := by decide +kernel
theorem dX10_readDealOf_37 : decode cX10_readDealOf 37 = .ok (.iload_n 1, 1) := by decide +kernel
theorem dX10_readDealOf_38 : decode cX10_readDealOf 38 = .ok (.aload_n 0, 1) := by decide +kernel
theorem dX10_readDealOf_39 : decode cX10_readDealOf 39 = .ok (.getfield 31, 3) := by decide +kernel
theorem dX10_readDealOf_42 : decode cX10_readDealOf 42 = .ok (.iconst 0, 1) := by decide +kernel
theorem dX10_readDealOf_43 : decode cX10_readDealOf 43 = .ok (.iaload, 1) := by decide +kernel
theorem dX10_readDealOf_44 : decode cX10_readDealOf 44 = .ok (.iadd, 1) := by decide +kernel
theorem dX10_readDealOf_45 : decode cX10_readDealOf 45 = .ok (.iastore, 1) := by decide +kernel
theorem dX10_readDealOf_46 : decode cX10_readDealOf 46 = .ok (.aload_n 0, 1) := by decide +kernel
theorem dX10_readDealOf_47 : decode cX10_readDealOf 47 = .ok (.dup, 1) := by decide +kernel
theorem dX10_readDealOf_48 : decode cX10_readDealOf 48 = .ok (.getfield 68, 3) := by decide +kernel
theorem dX10_readDealOf_51 : decode cX10_readDealOf 51 = .ok (.iconst 1, 1) := by decide +kernel
theorem dX10_readDealOf_52 : decode cX10_readDealOf 52 = .ok (.iadd, 1) := by decide +kernel
theorem dX10_readDealOf_53 : decode cX10_readDealOf 53 = .ok (.putfield 68, 3) := by decide +kernel
theorem dX10_readDealOf_56 : decode cX10_readDealOf 56 = .ok (.iconst 1, 1) := by decide +kernel
theorem dX10_readDealOf_57 : decode cX10_readDealOf 57 = .ok (.ireturn, 1) := by decide +kernel
theorem dX10_readItem_0 : decode cX10_readItem 0 = .ok (.aload_n 0, 1) := by decide +kernel
theorem dX10_readItem_1 : decode cX10_readItem 1 = .ok (.aload_n 0, 1) := by decide +kernel
theorem dX10_readItem_2 : decode cX10_readItem 2 = .ok (.getfield 84, 3) := by decide +kernel
theorem dX10_readItem_5 : decode cX10_readItem 5 = .ok (.invokevirtual 87, 3) := by decide +kernel
theorem dX10_readItem_8 : decode cX10_readItem 8 = .ok (.istore_n 1, 1) := by decide +kernel
theorem dX10_readItem_9 : decode cX10_readItem 9 = .ok (.aload_n 0, 1) := by decide +kernel
theorem dX10_readItem_10 : decode cX10_readItem 10 = .ok (.dup, 1) := by decide +kernel
theorem dX10_readItem_11 : decode cX10_readItem 11 = .ok (.getfield 84, 3) := by decide +kernel
theorem dX10_readItem_14 : decode cX10_readItem 14 = .ok (.iconst 1, 1) := by decide +kernel
theorem dX10_readItem_15 : decode cX10_readItem 15 = .ok (.iadd, 1) := by decide +kernel
theorem dX10_readItem_16 : decode cX10_readItem 16 = .ok (.putfield 84, 3) := by decide +kernel
theorem dX10_readItem_19 : decode cX10_readItem 19 = .ok (.iload_n 1, 1) := by decide +kernel
theorem dX10_readItem_20 : decode cX10_readItem 20 = .ok (.bipush 110, 2) := by decide +kernel
theorem dX10_readItem_22 : decode cX10_readItem 22 = .ok (.if_icmp .ne 8, 3) := by decide +kernel
theorem dX10_readItem_25 : decode cX10_readItem 25 = .ok (.aload_n 0, 1) := by decide +kernel
theorem dX10_readItem_26 : decode cX10_readItem 26 = .ok (.invokevirtual 105, 3) := by decide +kernel
theorem dX10_readItem_29 : decode cX10_readItem 29 = .ok (.ireturn, 1) := by decide +kernel
theorem dX10_readItem_30 : decode cX10_readItem 30 = .ok (.aload_n 0, 1) := by decide +kernel
theorem dX10_readItem_31 : decode cX10_readItem 31 = .ok (.iconst 1, 1) := by decide +kernel
theorem dX10_readItem_32 : decode cX10_readItem 32 = .ok (.putfield 95, 3) := by decide +kernel
theorem dX10_readItem_35 : decode cX10_readItem 35 = .ok (.iload_n 1, 1) := by decide +kernel
theorem dX10_readItem_36 : decode cX10_readItem 36 = .ok (.lookupswitch 61 #[(99, 36), (108, 41), (120, 48)], 36) := by decide +kernel
theorem dX10_readItem_72 : decode cX10_readItem 72 = .ok (.aload_n 0, 1) := by decide +kernel
theorem dX10_readItem_73 : decode cX10_readItem 73 = .ok (.invokevirtual 109, 3) := by decide +kernel
theorem dX10_readItem_76 : decode cX10_readItem 76 = .ok (.ireturn, 1) := by decide +kernel
theorem dX10_readItem_77 : decode cX10_readItem 77 = .ok (.aload_n 0, 1) := by decide +kernel
theorem dX10_readItem_78 : decode cX10_readItem 78 = .ok (.iconst 0, 1) := by decide +kernel
theorem dX10_readItem_79 : decode cX10_readItem 79 = .ok (.iconst 4, 1) := by decide +kernel
theorem dX10_readItem_80 : decode cX10_readItem 80 = .ok (.invokevirtual 112, 3) := by decide +kernel
theorem dX10_readItem_83 : decode cX10_readItem 83 = .ok (.ireturn, 1) := by decide +kernel
theorem dX10_readItem_84 : decode cX10_readItem 84 = .ok (.aload_n 0, 1) := by decide +kernel
theorem dX10_readItem_85 : decode cX10_readItem 85 = .ok (.bipush 6, 2) := by decide +kernel
theorem dX10_readItem_87 : decode cX10_readItem 87 = .ok (.aload_n 0, 1) := by decide +kernel
theorem dX10_readItem_88 : decode cX10_readItem 88 = .ok (.getfield 61, 3) := by decide +kernel
theorem dX10_readItem_91 : decode cX10_readItem 91 = .ok (.iconst 1, 1) := by decide +kernel
theorem dX10_readItem_92 : decode cX10_readItem 92 = .ok (.isub, 1) := by decide +kernel
theorem dX10_readItem_93 : decode cX10_readItem 93 = .ok (.invokevirtual 112, 3) := by decide +kernel
theorem dX10_readItem_96 : decode cX10_readItem 96 = .ok (.ireturn, 1) := by decide +kernel
theorem dX10_readItem_97 : decode cX10_readItem 97 = .ok (.iconst 0, 1) := by decide +kernel
theorem dX10_readItem_98 : decode cX10_readItem 98 = .ok (.ireturn, 1) := by decide +kernel
theorem dX10_fault_0 : decode cX10_fault 0 = .ok (.aload_n 0, 1) := by decide +kernel
theorem dX10_fault_1 : decode cX10_fault 1 = .ok (.iconst 0, 1) := by decide +kernel
theorem dX10_fault_2 : decode cX10_fault 2 = .ok (.putfield 84, 3) := by decide +kernel
theorem dX10_fault_5 : decode cX10_fault 5 = .ok (.aload_n 0, 1) := by decide +kernel
theorem dX10_fault_6 : decode cX10_fault 6 = .ok (.invokevirtual 58, 3) := by decide +kernel
theorem dX10_fault_9 : decode cX10_fault 9 = .ok (.aload_n 0, 1) := by decide +kernel
theorem dX10_fault_10 : decode cX10_fault 10 = .ok (.getfield 84, 3) := by decide +kernel
theorem dX10_fault_13 : decode cX10_fault 13 = .ok (.aload_n 0, 1) := by decide +kernel
theorem dX10_fault_14 : decode cX10_fault 14 = .ok (.getfield 81, 3) := by decide +kernel
theorem dX10_fault_17 : decode cX10_fault 17 = .ok (.if_icmp .ge 20, 3) := by decide +kernel
theorem dX10_fault_20 : decode cX10_fault 20 = .ok (.aload_n 0, 1) := by decide +kernel
theorem dX10_fault_21 : decode cX10_fault 21 = .ok (.getfield 84, 3) := by decide +kernel
theorem dX10_fault_24 : decode cX10_fault 24 = .ok (.istore_n 1, 1) := by decide +kernel
theorem dX10_fault_25 : decode cX10_fault 25 = .ok (.aload_n 0, 1) := by decide +kernel
theorem dX10_fault_26 : decode cX10_fault 26 = .ok (.invokevirtual 116, 3) := by decide +kernel
theorem dX10_fault_29 : decode cX10_fault 29 = .ok (.ifCond .ne 5, 3) := by decide +kernel
theorem dX10_fault_32 : decode cX10_fault 32 = .ok (.iload_n 1, 1) := by decide +kernel
theorem dX10_fault_33 : decode cX10_fault 33 = .ok (.ireturn, 1) := by decide +kernel
theorem dX10_fault_34 : decode cX10_fault 34 = .ok (.goto (-25), 3) := by decide +kernel
theorem dX10_fault_37 : decode cX10_fault 37 = .ok (.bipush (-4), 2) := by decide +kernel
theorem dX10_fault_39 : decode cX10_fault 39 = .ok (.ireturn, 1) := by decide +kernel
theorem dX10_lay_0 : decode cX10_lay 0 = .ok (.aload_n 0, 1) := by decide +kernel
theorem dX10_lay_1 : decode cX10_lay 1 = .ok (.getfield 81, 3) := by decide +kernel
theorem dX10_lay_4 : decode cX10_lay 4 = .ok (.ifCond .eq 12, 3) := by decide +kernel
theorem dX10_lay_7 : decode cX10_lay 7 = .ok (.aload_n 0, 1) := by decide +kernel
theorem dX10_lay_8 : decode cX10_lay 8 = .ok (.invokevirtual 119, 3) := by decide +kernel
theorem dX10_lay_11 : decode cX10_lay 11 = .ok (.bipush (-4), 2) := by decide +kernel
theorem dX10_lay_13 : decode cX10_lay 13 = .ok (.if_icmp .eq 6, 3) := by decide +kernel
theorem dX10_lay_16 : decode cX10_lay 16 = .ok (.bipush (-2), 2) := by decide +kernel
theorem dX10_lay_18 : decode cX10_lay 18 = .ok (.ireturn, 1) := by decide +kernel
theorem dX10_lay_19 : decode cX10_lay 19 = .ok (.aload_n 0, 1) := by decide +kernel
theorem dX10_lay_20 : decode cX10_lay 20 = .ok (.invokevirtual 71, 3) := by decide +kernel
theorem dX10_lay_23 : decode cX10_lay 23 = .ok (.aload_n 0, 1) := by decide +kernel
theorem dX10_lay_24 : decode cX10_lay 24 = .ok (.getfield 74, 3) := by decide +kernel
theorem dX10_lay_27 : decode cX10_lay 27 = .ok (.ireturn, 1) := by decide +kernel
theorem dX10_copies_0 : decode cX10_copies 0 = .ok (.iconst 0, 1) := by decide +kernel
theorem dX10_copies_1 : decode cX10_copies 1 = .ok (.istore 5, 2) := by decide +kernel
theorem dX10_copies_3 : decode cX10_copies 3 = .ok (.iload 5, 2) := by decide +kernel
theorem dX10_copies_5 : decode cX10_copies 5 = .ok (.iload 4, 2) := by decide +kernel
theorem dX10_copies_7 : decode cX10_copies 7 = .ok (.if_icmp .ge 21, 3) := by decide +kernel
theorem dX10_copies_10 : decode cX10_copies 10 = .ok (.aload_n 0, 1) := by decide +kernel
theorem dX10_copies_11 : decode cX10_copies 11 = .ok (.iload_n 1, 1) := by decide +kernel
theorem dX10_copies_12 : decode cX10_copies 12 = .ok (.iload 5, 2) := by decide +kernel
theorem dX10_copies_14 : decode cX10_copies 14 = .ok (.iadd, 1) := by decide +kernel
theorem dX10_copies_15 : decode cX10_copies 15 = .ok (.aload_n 2, 1) := by decide +kernel
theorem dX10_copies_16 : decode cX10_copies 16 = .ok (.iload_n 3, 1) := by decide +kernel
theorem dX10_copies_17 : decode cX10_copies 17 = .ok (.iload 5, 2) := by decide +kernel
theorem dX10_copies_19 : decode cX10_copies 19 = .ok (.iadd, 1) := by decide +kernel
theorem dX10_copies_20 : decode cX10_copies 20 = .ok (.iaload, 1) := by decide +kernel
theorem dX10_copies_21 : decode cX10_copies 21 = .ok (.iastore, 1) := by decide +kernel
theorem dX10_copies_22 : decode cX10_copies 22 = .ok (.iinc 5 1, 3) := by decide +kernel
theorem dX10_copies_25 : decode cX10_copies 25 = .ok (.goto (-22), 3) := by decide +kernel
theorem dX10_copies_28 : decode cX10_copies 28 = .ok (.return_, 1) := by decide +kernel
theorem dX10_settles_0 : decode cX10_settles 0 = .ok (.aload_n 0, 1) := by decide +kernel
theorem dX10_settles_1 : decode cX10_settles 1 = .ok (.aload_n 0, 1) := by decide +kernel
theorem dX10_settles_2 : decode cX10_settles 2 = .ok (.getfield 61, 3) := by decide +kernel
theorem dX10_settles_5 : decode cX10_settles 5 = .ok (.putfield 74, 3) := by decide +kernel
theorem dX10_settles_8 : decode cX10_settles 8 = .ok (.aload_n 0, 1) := by decide +kernel
theorem dX10_settles_9 : decode cX10_settles 9 = .ok (.getfield 7, 3) := by decide +kernel
theorem dX10_settles_12 : decode cX10_settles 12 = .ok (.iconst 0, 1) := by decide +kernel
theorem dX10_settles_13 : decode cX10_settles 13 = .ok (.aload_n 0, 1) := by decide +kernel
theorem dX10_settles_14 : decode cX10_settles 14 = .ok (.getfield 34, 3) := by decide +kernel
theorem dX10_settles_17 : decode cX10_settles 17 = .ok (.iconst 0, 1) := by decide +kernel
theorem dX10_settles_18 : decode cX10_settles 18 = .ok (.bipush 16, 2) := by decide +kernel
theorem dX10_settles_20 : decode cX10_settles 20 = .ok (.invokestatic 123, 3) := by decide +kernel
theorem dX10_settles_23 : decode cX10_settles 23 = .ok (.aload_n 0, 1) := by decide +kernel
theorem dX10_settles_24 : decode cX10_settles 24 = .ok (.aload_n 0, 1) := by decide +kernel
theorem dX10_settles_25 : decode cX10_settles 25 = .ok (.getfield 68, 3) := by decide +kernel
theorem dX10_settles_28 : decode cX10_settles 28 = .ok (.putfield 127, 3) := by decide +kernel
theorem dX10_settles_31 : decode cX10_settles 31 = .ok (.aload_n 0, 1) := by decide +kernel
theorem dX10_settles_32 : decode cX10_settles 32 = .ok (.getfield 13, 3) := by decide +kernel
theorem dX10_settles_35 : decode cX10_settles 35 = .ok (.iconst 0, 1) := by decide +kernel
theorem dX10_settles_36 : decode cX10_settles 36 = .ok (.aload_n 0, 1) := by decide +kernel
theorem dX10_settles_37 : decode cX10_settles 37 = .ok (.getfield 37, 3) := by decide +kernel
theorem dX10_settles_40 : decode cX10_settles 40 = .ok (.iconst 0, 1) := by decide +kernel
theorem dX10_settles_41 : decode cX10_settles 41 = .ok (.bipush 16, 2) := by decide +kernel
theorem dX10_settles_43 : decode cX10_settles 43 = .ok (.invokestatic 123, 3) := by decide +kernel
theorem dX10_settles_46 : decode cX10_settles 46 = .ok (.aload_n 0, 1) := by decide +kernel
theorem dX10_settles_47 : decode cX10_settles 47 = .ok (.getfield 16, 3) := by decide +kernel
theorem dX10_settles_50 : decode cX10_settles 50 = .ok (.invokestatic 130, 3) := by decide +kernel
theorem dX10_settles_53 : decode cX10_settles 53 = .ok (.aload_n 0, 1) := by decide +kernel
theorem dX10_settles_54 : decode cX10_settles 54 = .ok (.iconst 0, 1) := by decide +kernel
theorem dX10_settles_55 : decode cX10_settles 55 = .ok (.putfield 134, 3) := by decide +kernel
theorem dX10_settles_58 : decode cX10_settles 58 = .ok (.aload_n 0, 1) := by decide +kernel
theorem dX10_settles_59 : decode cX10_settles 59 = .ok (.iconst 0, 1) := by decide +kernel
theorem dX10_settles_60 : decode cX10_settles 60 = .ok (.putfield 137, 3) := by decide +kernel
theorem dX10_settles_63 : decode cX10_settles 63 = .ok (.aload_n 0, 1) := by decide +kernel
theorem dX10_settles_64 : decode cX10_settles 64 = .ok (.iconst 0, 1) := by decide +kernel
theorem dX10_settles_65 : decode cX10_settles 65 = .ok (.putfield 140, 3) := by decide +kernel
theorem dX10_settles_68 : decode cX10_settles 68 = .ok (.return_, 1) := by decide +kernel
theorem dX10_lies_0 : decode cX10_lies 0 = .ok (.iconst 0, 1) := by decide +kernel
theorem dX10_lies_1 : decode cX10_lies 1 = .ok (.istore_n 1, 1) := by decide +kernel
theorem dX10_lies_2 : decode cX10_lies 2 = .ok (.iload_n 1, 1) := by decide +kernel
theorem dX10_lies_3 : decode cX10_lies 3 = .ok (.bipush 16, 2) := by decide +kernel
theorem dX10_lies_5 : decode cX10_lies 5 = .ok (.if_icmp .ge 13, 3) := by decide +kernel
theorem dX10_lies_8 : decode cX10_lies 8 = .ok (.aload_n 0, 1) := by decide +kernel
theorem dX10_lies_9 : decode cX10_lies 9 = .ok (.iload_n 1, 1) := by decide +kernel
theorem dX10_lies_10 : decode cX10_lies 10 = .ok (.iload_n 1, 1) := by decide +kernel
theorem dX10_lies_11 : decode cX10_lies 11 = .ok (.iastore, 1) := by decide +kernel
theorem dX10_lies_12 : decode cX10_lies 12 = .ok (.iinc 1 1, 3) := by decide +kernel
theorem dX10_lies_15 : decode cX10_lies 15 = .ok (.goto (-13), 3) := by decide +kernel
theorem dX10_lies_18 : decode cX10_lies 18 = .ok (.return_, 1) := by decide +kernel
theorem dX10_asItIs_0 : decode cX10_asItIs 0 = .ok (.aload_n 0, 1) := by decide +kernel
theorem dX10_asItIs_1 : decode cX10_asItIs 1 = .ok (.getfield 40, 3) := by decide +kernel
theorem dX10_asItIs_4 : decode cX10_asItIs 4 = .ok (.iconst 0, 1) := by decide +kernel
theorem dX10_asItIs_5 : decode cX10_asItIs 5 = .ok (.aload_n 0, 1) := by decide +kernel
theorem dX10_asItIs_6 : decode cX10_asItIs 6 = .ok (.getfield 16, 3) := by decide +kernel
theorem dX10_asItIs_9 : decode cX10_asItIs 9 = .ok (.iconst 0, 1) := by decide +kernel
theorem dX10_asItIs_10 : decode cX10_asItIs 10 = .ok (.bipush 16, 2) := by decide +kernel
theorem dX10_asItIs_12 : decode cX10_asItIs 12 = .ok (.invokestatic 123, 3) := by decide +kernel
theorem dX10_asItIs_15 : decode cX10_asItIs 15 = .ok (.return_, 1) := by decide +kernel
theorem dX10_falls_0 : decode cX10_falls 0 = .ok (.iconst 0, 1) := by decide +kernel
theorem dX10_falls_1 : decode cX10_falls 1 = .ok (.istore 4, 2) := by decide +kernel
theorem dX10_falls_3 : decode cX10_falls 3 = .ok (.iload 4, 2) := by decide +kernel
theorem dX10_falls_5 : decode cX10_falls 5 = .ok (.aload_n 0, 1) := by decide +kernel
theorem dX10_falls_6 : decode cX10_falls 6 = .ok (.getfield 74, 3) := by decide +kernel
theorem dX10_falls_9 : decode cX10_falls 9 = .ok (.if_icmp .ge 49, 3) := by decide +kernel
theorem dX10_falls_12 : decode cX10_falls 12 = .ok (.iload 4, 2) := by decide +kernel
theorem dX10_falls_14 : decode cX10_falls 14 = .ok (.iconst 2, 1) := by decide +kernel
theorem dX10_falls_15 : decode cX10_falls 15 = .ok (.irem, 1) := by decide +kernel
theorem dX10_falls_16 : decode cX10_falls 16 = .ok (.ifCond .ne 14, 3) := by decide +kernel
theorem dX10_falls_19 : decode cX10_falls 19 = .ok (.iload_n 1, 1) := by decide +kernel
theorem dX10_falls_20 : decode cX10_falls 20 = .ok (.iload 4, 2) := by decide +kernel
theorem dX10_falls_22 : decode cX10_falls 22 = .ok (.iconst 2, 1) := by decide +kernel
theorem dX10_falls_23 : decode cX10_falls 23 = .ok (.idiv, 1) := by decide +kernel
theorem dX10_falls_24 : decode cX10_falls 24 = .ok (.iload_n 2, 1) := by decide +kernel
theorem dX10_falls_25 : decode cX10_falls 25 = .ok (.imul, 1) := by decide +kernel
theorem dX10_falls_26 : decode cX10_falls 26 = .ok (.iadd, 1) := by decide +kernel
theorem dX10_falls_27 : decode cX10_falls 27 = .ok (.goto 9, 3) := by decide +kernel
theorem dX10_falls_30 : decode cX10_falls 30 = .ok (.iload_n 3, 1) := by decide +kernel
theorem dX10_falls_31 : decode cX10_falls 31 = .ok (.iload 4, 2) := by decide +kernel
theorem dX10_falls_33 : decode cX10_falls 33 = .ok (.iconst 2, 1) := by decide +kernel
theorem dX10_falls_34 : decode cX10_falls 34 = .ok (.idiv, 1) := by decide +kernel
theorem dX10_falls_35 : decode cX10_falls 35 = .ok (.iadd, 1) := by decide +kernel
theorem dX10_falls_36 : decode cX10_falls 36 = .ok (.istore 5, 2) := by decide +kernel
theorem dX10_falls_38 : decode cX10_falls 38 = .ok (.aload_n 0, 1) := by decide +kernel
theorem dX10_falls_39 : decode cX10_falls 39 = .ok (.getfield 43, 3) := by decide +kernel
theorem dX10_falls_42 : decode cX10_falls 42 = .ok (.iload 4, 2) := by decide +kernel
theorem dX10_falls_44 : decode cX10_falls 44 = .ok (.aload_n 0, 1) := by decide +kernel
theorem dX10_falls_45 : decode cX10_falls 45 = .ok (.getfield 40, 3) := by decide +kernel
theorem dX10_falls_48 : decode cX10_falls 48 = .ok (.iload 5, 2) := by decide +kernel
theorem dX10_falls_50 : decode cX10_falls 50 = .ok (.iaload, 1) := by decide +kernel
theorem dX10_falls_51 : decode cX10_falls 51 = .ok (.iastore, 1) := by decide +kernel
theorem dX10_falls_52 : decode cX10_falls 52 = .ok (.iinc 4 1, 3) := by decide +kernel
theorem dX10_falls_55 : decode cX10_falls 55 = .ok (.goto (-52), 3) := by decide +kernel
theorem dX10_falls_58 : decode cX10_falls 58 = .ok (.return_, 1) := by decide +kernel
theorem dX10_milks_0 : decode cX10_milks 0 = .ok (.iconst 0, 1) := by decide +kernel
theorem dX10_milks_1 : decode cX10_milks 1 = .ok (.istore_n 1, 1) := by decide +kernel
theorem dX10_milks_2 : decode cX10_milks 2 = .ok (.iload_n 1, 1) := by decide +kernel
theorem dX10_milks_3 : decode cX10_milks 3 = .ok (.aload_n 0, 1) := by decide +kernel
theorem dX10_milks_4 : decode cX10_milks 4 = .ok (.getfield 74, 3) := by decide +kernel
theorem dX10_milks_7 : decode cX10_milks 7 = .ok (.if_icmp .ge 42, 3) := by decide +kernel
theorem dX10_milks_10 : decode cX10_milks 10 = .ok (.aload_n 0, 1) := by decide +kernel
theorem dX10_milks_11 : decode cX10_milks 11 = .ok (.getfield 43, 3) := by decide +kernel
theorem dX10_milks_14 : decode cX10_milks 14 = .ok (.iload_n 1, 1) := by decide +kernel
theorem dX10_milks_15 : decode cX10_milks 15 = .ok (.aload_n 0, 1) := by decide +kernel
theorem dX10_milks_16 : decode cX10_milks 16 = .ok (.getfield 40, 3) := by decide +kernel
theorem dX10_milks_19 : decode cX10_milks 19 = .ok (.iload_n 1, 1) := by decide +kernel
theorem dX10_milks_20 : decode cX10_milks 20 = .ok (.iconst 2, 1) := by decide +kernel
theorem dX10_milks_21 : decode cX10_milks 21 = .ok (.irem, 1) := by decide +kernel
theorem dX10_milks_22 : decode cX10_milks 22 = .ok (.ifCond .ne 9, 3) := by decide +kernel
theorem dX10_milks_25 : decode cX10_milks 25 = .ok (.iload_n 1, 1) := by decide +kernel
theorem dX10_milks_26 : decode cX10_milks 26 = .ok (.iconst 2, 1) := by decide +kernel
theorem dX10_milks_27 : decode cX10_milks 27 = .ok (.idiv, 1) := by decide +kernel
theorem dX10_milks_28 : decode cX10_milks 28 = .ok (.goto 13, 3) := by decide +kernel
theorem dX10_milks_31 : decode cX10_milks 31 = .ok (.aload_n 0, 1) := by decide +kernel
theorem dX10_milks_32 : decode cX10_milks 32 = .ok (.getfield 74, 3) := by decide +kernel
theorem dX10_milks_35 : decode cX10_milks 35 = .ok (.iconst 1, 1) := by decide +kernel
theorem dX10_milks_36 : decode cX10_milks 36 = .ok (.isub, 1) := by decide +kernel
theorem dX10_milks_37 : decode cX10_milks 37 = .ok (.iload_n 1, 1) := by decide +kernel
theorem dX10_milks_38 : decode cX10_milks 38 = .ok (.iconst 2, 1) := by decide +kernel
theorem dX10_milks_39 : decode cX10_milks 39 = .ok (.idiv, 1) := by decide +kernel
theorem dX10_milks_40 : decode cX10_milks 40 = .ok (.isub, 1) := by decide +kernel
theorem dX10_milks_41 : decode cX10_milks 41 = .ok (.iaload, 1) := by decide +kernel
theorem dX10_milks_42 : decode cX10_milks 42 = .ok (.iastore, 1) := by decide +kernel
theorem dX10_milks_43 : decode cX10_milks 43 = .ok (.iinc 1 1, 3) := by decide +kernel
theorem dX10_milks_46 : decode cX10_milks 46 = .ok (.goto (-44), 3) := by decide +kernel
theorem dX10_milks_49 : decode cX10_milks 49 = .ok (.return_, 1) := by decide +kernel
theorem dX10_under_0 : decode cX10_under 0 = .ok (.aload_n 0, 1) := by decide +kernel
theorem dX10_under_1 : decode cX10_under 1 = .ok (.getfield 46, 3) := by decide +kernel
theorem dX10_under_4 : decode cX10_under 4 = .ok (.iconst 0, 1) := by decide +kernel
theorem dX10_under_5 : decode cX10_under 5 = .ok (.aload_n 0, 1) := by decide +kernel
theorem dX10_under_6 : decode cX10_under 6 = .ok (.getfield 40, 3) := by decide +kernel
theorem dX10_under_9 : decode cX10_under 9 = .ok (.iconst 0, 1) := by decide +kernel
theorem dX10_under_10 : decode cX10_under 10 = .ok (.aload_n 0, 1) := by decide +kernel
theorem dX10_under_11 : decode cX10_under 11 = .ok (.getfield 74, 3) := by decide +kernel
theorem dX10_under_14 : decode cX10_under 14 = .ok (.invokestatic 123, 3) := by decide +kernel
theorem dX10_under_17 : decode cX10_under 17 = .ok (.iconst 0, 1) := by decide +kernel
theorem dX10_under_18 : decode cX10_under 18 = .ok (.istore_n 1, 1) := by decide +kernel
theorem dX10_under_19 : decode cX10_under 19 = .ok (.aload_n 0, 1) := by decide +kernel
theorem dX10_under_20 : decode cX10_under 20 = .ok (.getfield 74, 3) := by decide +kernel
theorem dX10_under_23 : decode cX10_under 23 = .ok (.istore_n 2, 1) := by decide +kernel
theorem dX10_under_24 : decode cX10_under 24 = .ok (.iconst 0, 1) := by decide +kernel
theorem dX10_under_25 : decode cX10_under 25 = .ok (.istore_n 3, 1) := by decide +kernel
theorem dX10_under_26 : decode cX10_under 26 = .ok (.iload_n 3, 1) := by decide +kernel
theorem dX10_under_27 : decode cX10_under 27 = .ok (.aload_n 0, 1) := by decide +kernel
theorem dX10_under_28 : decode cX10_under 28 = .ok (.getfield 74, 3) := by decide +kernel
theorem dX10_under_31 : decode cX10_under 31 = .ok (.if_icmp .ge 53, 3) := by decide +kernel
theorem dX10_under_34 : decode cX10_under 34 = .ok (.aload_n 0, 1) := by decide +kernel
theorem dX10_under_35 : decode cX10_under 35 = .ok (.getfield 43, 3) := by decide +kernel
theorem dX10_under_38 : decode cX10_under 38 = .ok (.iload_n 3, 1) := by decide +kernel
theorem dX10_under_39 : decode cX10_under 39 = .ok (.aload_n 0, 1) := by decide +kernel
theorem dX10_under_40 : decode cX10_under 40 = .ok (.getfield 46, 3) := by decide +kernel
theorem dX10_under_43 : decode cX10_under 43 = .ok (.iload_n 1, 1) := by decide +kernel
theorem dX10_under_44 : decode cX10_under 44 = .ok (.iaload, 1) := by decide +kernel
theorem dX10_under_45 : decode cX10_under 45 = .ok (.iastore, 1) := by decide +kernel
theorem dX10_under_46 : decode cX10_under 46 = .ok (.iinc 1 1, 3) := by decide +kernel
theorem dX10_under_49 : decode cX10_under 49 = .ok (.iload_n 1, 1) := by decide +kernel
theorem dX10_under_50 : decode cX10_under 50 = .ok (.iload_n 2, 1) := by decide +kernel
theorem dX10_under_51 : decode cX10_under 51 = .ok (.if_icmp .ge 27, 3) := by decide +kernel
theorem dX10_under_54 : decode cX10_under 54 = .ok (.aload_n 0, 1) := by decide +kernel
theorem dX10_under_55 : decode cX10_under 55 = .ok (.getfield 46, 3) := by decide +kernel
theorem dX10_under_58 : decode cX10_under 58 = .ok (.iload_n 2, 1) := by decide +kernel
theorem dX10_under_59 : decode cX10_under 59 = .ok (.bipush 32, 2) := by decide +kernel
theorem dX10_under_61 : decode cX10_under 61 = .ok (.irem, 1) := by decide +kernel
theorem dX10_under_62 : decode cX10_under 62 = .ok (.aload_n 0, 1) := by decide +kernel
theorem dX10_under_63 : decode cX10_under 63 = .ok (.getfield 46, 3) := by decide +kernel
theorem dX10_under_66 : decode cX10_under 66 = .ok (.iload_n 1, 1) := by decide +kernel
theorem dX10_under_67 : decode cX10_under 67 = .ok (.bipush 32, 2) := by decide +kernel
theorem dX10_under_69 : decode cX10_under 69 = .ok (.irem, 1) := by decide +kernel
theorem dX10_under_70 : decode cX10_under 70 = .ok (.iaload, 1) := by decide +kernel
theorem dX10_under_71 : decode cX10_under 71 = .ok (.iastore, 1) := by decide +kernel
theorem dX10_under_72 : decode cX10_under 72 = .ok (.iinc 2 1, 3) := by decide +kernel
theorem dX10_under_75 : decode cX10_under 75 = .ok (.iinc 1 1, 3) := by decide +kernel
theorem dX10_under_78 : decode cX10_under 78 = .ok (.iinc 3 1, 3) := by decide +kernel
theorem dX10_under_81 : decode cX10_under 81 = .ok (.goto (-55), 3) := by decide +kernel
theorem dX10_under_84 : decode cX10_under 84 = .ok (.return_, 1) := by decide +kernel
theorem dX10_cuts_0 : decode cX10_cuts 0 = .ok (.iconst 0, 1) := by decide +kernel
theorem dX10_cuts_1 : decode cX10_cuts 1 = .ok (.istore_n 2, 1) := by decide +kernel
theorem dX10_cuts_2 : decode cX10_cuts 2 = .ok (.iload_n 2, 1) := by decide +kernel
theorem dX10_cuts_3 : decode cX10_cuts 3 = .ok (.aload_n 0, 1) := by decide +kernel
theorem dX10_cuts_4 : decode cX10_cuts 4 = .ok (.getfield 74, 3) := by decide +kernel
theorem dX10_cuts_7 : decode cX10_cuts 7 = .ok (.if_icmp .ge 28, 3) := by decide +kernel
theorem dX10_cuts_10 : decode cX10_cuts 10 = .ok (.aload_n 0, 1) := by decide +kernel
theorem dX10_cuts_11 : decode cX10_cuts 11 = .ok (.getfield 43, 3) := by decide +kernel
theorem dX10_cuts_14 : decode cX10_cuts 14 = .ok (.iload_n 2, 1) := by decide +kernel
theorem dX10_cuts_15 : decode cX10_cuts 15 = .ok (.aload_n 0, 1) := by decide +kernel
theorem dX10_cuts_16 : decode cX10_cuts 16 = .ok (.getfield 40, 3) := by decide +kernel
theorem dX10_cuts_19 : decode cX10_cuts 19 = .ok (.iload_n 2, 1) := by decide +kernel
theorem dX10_cuts_20 : decode cX10_cuts 20 = .ok (.iload_n 1, 1) := by decide +kernel
theorem dX10_cuts_21 : decode cX10_cuts 21 = .ok (.iadd, 1) := by decide +kernel
theorem dX10_cuts_22 : decode cX10_cuts 22 = .ok (.aload_n 0, 1) := by decide +kernel
theorem dX10_cuts_23 : decode cX10_cuts 23 = .ok (.getfield 74, 3) := by decide +kernel
theorem dX10_cuts_26 : decode cX10_cuts 26 = .ok (.irem, 1) := by decide +kernel
theorem dX10_cuts_27 : decode cX10_cuts 27 = .ok (.iaload, 1) := by decide +kernel
theorem dX10_cuts_28 : decode cX10_cuts 28 = .ok (.iastore, 1) := by decide +kernel
theorem dX10_cuts_29 : decode cX10_cuts 29 = .ok (.iinc 2 1, 3) := by decide +kernel
theorem dX10_cuts_32 : decode cX10_cuts 32 = .ok (.goto (-30), 3) := by decide +kernel
theorem dX10_cuts_35 : decode cX10_cuts 35 = .ok (.return_, 1) := by decide +kernel
theorem dX10_acts_0 : decode cX10_acts 0 = .ok (.aload_n 0, 1) := by decide +kernel
theorem dX10_acts_1 : decode cX10_acts 1 = .ok (.getfield 74, 3) := by decide +kernel
theorem dX10_acts_4 : decode cX10_acts 4 = .ok (.iconst 1, 1) := by decide +kernel
theorem dX10_acts_5 : decode cX10_acts 5 = .ok (.iadd, 1) := by decide +kernel
theorem dX10_acts_6 : decode cX10_acts 6 = .ok (.iconst 2, 1) := by decide +kernel
theorem dX10_acts_7 : decode cX10_acts 7 = .ok (.idiv, 1) := by decide +kernel
theorem dX10_acts_8 : decode cX10_acts 8 = .ok (.istore_n 2, 1) := by decide +kernel
theorem dX10_acts_9 : decode cX10_acts 9 = .ok (.aload_n 0, 1) := by decide +kernel
theorem dX10_acts_10 : decode cX10_acts 10 = .ok (.getfield 74, 3) := by decide +kernel
theorem dX10_acts_13 : decode cX10_acts 13 = .ok (.iload_n 2, 1) := by decide +kernel
theorem dX10_acts_14 : decode cX10_acts 14 = .ok (.isub, 1) := by decide +kernel
theorem dX10_acts_15 : decode cX10_acts 15 = .ok (.istore_n 3, 1) := by decide +kernel
theorem dX10_acts_16 : decode cX10_acts 16 = .ok (.iload_n 1, 1) := by decide +kernel
theorem dX10_acts_17 : decode cX10_acts 17 = .ok (.tableswitch 130 0 5 #[39, 49, 59, 66, 73, 88], 39) := by decide +kernel
theorem dX10_acts_56 : decode cX10_acts 56 = .ok (.aload_n 0, 1) := by decide +kernel
theorem dX10_acts_57 : decode cX10_acts 57 = .ok (.iconst 0, 1) := by decide +kernel
theorem dX10_acts_58 : decode cX10_acts 58 = .ok (.iconst 1, 1) := by decide +kernel
theorem dX10_acts_59 : decode cX10_acts 59 = .ok (.iload_n 2, 1) := by decide +kernel
theorem dX10_acts_60 : decode cX10_acts 60 = .ok (.invokevirtual 143, 3) := by decide +kernel
theorem dX10_acts_63 : decode cX10_acts 63 = .ok (.goto 92, 3) := by decide +kernel
theorem dX10_acts_66 : decode cX10_acts 66 = .ok (.aload_n 0, 1) := by decide +kernel
theorem dX10_acts_67 : decode cX10_acts 67 = .ok (.iload_n 3, 1) := by decide +kernel
theorem dX10_acts_68 : decode cX10_acts 68 = .ok (.iconst 1, 1) := by decide +kernel
theorem dX10_acts_69 : decode cX10_acts 69 = .ok (.iconst 0, 1) := by decide +kernel
theorem dX10_acts_70 : decode cX10_acts 70 = .ok (.invokevirtual 143, 3) := by decide +kernel
theorem dX10_acts_73 : decode cX10_acts 73 = .ok (.goto 82, 3) := by decide +kernel
theorem dX10_acts_76 : decode cX10_acts 76 = .ok (.aload_n 0, 1) := by decide +kernel
theorem dX10_acts_77 : decode cX10_acts 77 = .ok (.invokevirtual 147, 3) := by decide +kernel
theorem dX10_acts_80 : decode cX10_acts 80 = .ok (.goto 75, 3) := by decide +kernel
theorem dX10_acts_83 : decode cX10_acts 83 = .ok (.aload_n 0, 1) := by decide +kernel
theorem dX10_acts_84 : decode cX10_acts 84 = .ok (.invokevirtual 150, 3) := by decide +kernel
theorem dX10_acts_87 : decode cX10_acts 87 = .ok (.goto 68, 3) := by decide +kernel
theorem dX10_acts_90 : decode cX10_acts 90 = .ok (.aload_n 0, 1) := by decide +kernel
theorem dX10_acts_91 : decode cX10_acts 91 = .ok (.aload_n 0, 1) := by decide +kernel
theorem dX10_acts_92 : decode cX10_acts 92 = .ok (.getfield 74, 3) := by decide +kernel
theorem dX10_acts_95 : decode cX10_acts 95 = .ok (.iconst 1, 1) := by decide +kernel
theorem dX10_acts_96 : decode cX10_acts 96 = .ok (.isub, 1) := by decide +kernel
theorem dX10_acts_97 : decode cX10_acts 97 = .ok (.iconst (-1), 1) := by decide +kernel
theorem dX10_acts_98 : decode cX10_acts 98 = .ok (.iconst 0, 1) := by decide +kernel
theorem dX10_acts_99 : decode cX10_acts 99 = .ok (.invokevirtual 143, 3) := by decide +kernel
theorem dX10_acts_102 : decode cX10_acts 102 = .ok (.goto 53, 3) := by decide +kernel
theorem dX10_acts_105 : decode cX10_acts 105 = .ok (.iconst 0, 1) := by decide +kernel
theorem dX10_acts_106 : decode cX10_acts 106 = .ok (.istore 4, 2) := by decide +kernel
theorem dX10_acts_108 : decode cX10_acts 108 = .ok (.iload 4, 2) := by decide +kernel
theorem dX10_acts_110 : decode cX10_acts 110 = .ok (.aload_n 0, 1) := by decide +kernel
theorem dX10_acts_111 : decode cX10_acts 111 = .ok (.getfield 74, 3) := by decide +kernel
theorem dX10_acts_114 : decode cX10_acts 114 = .ok (.if_icmp .ge 30, 3) := by decide +kernel
theorem dX10_acts_117 : decode cX10_acts 117 = .ok (.aload_n 0, 1) := by decide +kernel
theorem dX10_acts_118 : decode cX10_acts 118 = .ok (.getfield 43, 3) := by decide +kernel
theorem dX10_acts_121 : decode cX10_acts 121 = .ok (.iload 4, 2) := by decide +kernel
theorem dX10_acts_123 : decode cX10_acts 123 = .ok (.aload_n 0, 1) := by decide +kernel
theorem dX10_acts_124 : decode cX10_acts 124 = .ok (.getfield 40, 3) := by decide +kernel
theorem dX10_acts_127 : decode cX10_acts 127 = .ok (.aload_n 0, 1) := by decide +kernel
theorem dX10_acts_128 : decode cX10_acts 128 = .ok (.getfield 74, 3) := by decide +kernel
theorem dX10_acts_131 : decode cX10_acts 131 = .ok (.iconst 1, 1) := by decide +kernel
theorem dX10_acts_132 : decode cX10_acts 132 = .ok (.isub, 1) := by decide +kernel
theorem dX10_acts_133 : decode cX10_acts 133 = .ok (.iload 4, 2) := by decide +kernel
theorem dX10_acts_135 : decode cX10_acts 135 = .ok (.isub, 1) := by decide +kernel
theorem dX10_acts_136 : decode cX10_acts 136 = .ok (.iaload, 1) := by decide +kernel
theorem dX10_acts_137 : decode cX10_acts 137 = .ok (.iastore, 1) := by decide +kernel
theorem dX10_acts_138 : decode cX10_acts 138 = .ok (.iinc 4 1, 3) := by decide +kernel
theorem dX10_acts_141 : decode cX10_acts 141 = .ok (.goto (-33), 3) := by decide +kernel
theorem dX10_acts_144 : decode cX10_acts 144 = .ok (.goto 11, 3) := by decide +kernel
theorem dX10_acts_147 : decode cX10_acts 147 = .ok (.aload_n 0, 1) := by decide +kernel
theorem dX10_acts_148 : decode cX10_acts 148 = .ok (.iload_n 1, 1) := by decide +kernel
theorem dX10_acts_149 : decode cX10_acts 149 = .ok (.bipush 6, 2) := by decide +kernel
theorem dX10_acts_151 : decode cX10_acts 151 = .ok (.isub, 1) := by decide +kernel
theorem dX10_acts_152 : decode cX10_acts 152 = .ok (.invokevirtual 153, 3) := by decide +kernel
theorem dX10_acts_155 : decode cX10_acts 155 = .ok (.aload_n 0, 1) := by decide +kernel
theorem dX10_acts_156 : decode cX10_acts 156 = .ok (.getfield 40, 3) := by decide +kernel
theorem dX10_acts_159 : decode cX10_acts 159 = .ok (.iconst 0, 1) := by decide +kernel
theorem dX10_acts_160 : decode cX10_acts 160 = .ok (.aload_n 0, 1) := by decide +kernel
theorem dX10_acts_161 : decode cX10_acts 161 = .ok (.getfield 43, 3) := by decide +kernel
theorem dX10_acts_164 : decode cX10_acts 164 = .ok (.iconst 0, 1) := by decide +kernel
theorem dX10_acts_165 : decode cX10_acts 165 = .ok (.aload_n 0, 1) := by decide +kernel
theorem dX10_acts_166 : decode cX10_acts 166 = .ok (.getfield 74, 3) := by decide +kernel
theorem dX10_acts_169 : decode cX10_acts 169 = .ok (.invokestatic 123, 3) := by decide +kernel
theorem dX10_acts_172 : decode cX10_acts 172 = .ok (.return_, 1) := by decide +kernel
theorem dX10_deals_0 : decode cX10_deals 0 = .ok (.iconst 0, 1) := by decide +kernel
theorem dX10_deals_1 : decode cX10_deals 1 = .ok (.istore_n 1, 1) := by decide +kernel
theorem dX10_deals_2 : decode cX10_deals 2 = .ok (.iload_n 1, 1) := by decide +kernel
theorem dX10_deals_3 : decode cX10_deals 3 = .ok (.aload_n 0, 1) := by decide +kernel
theorem dX10_deals_4 : decode cX10_deals 4 = .ok (.getfield 127, 3) := by decide +kernel
theorem dX10_deals_7 : decode cX10_deals 7 = .ok (.if_icmp .ge 19, 3) := by decide +kernel
theorem dX10_deals_10 : decode cX10_deals 10 = .ok (.aload_n 0, 1) := by decide +kernel
theorem dX10_deals_11 : decode cX10_deals 11 = .ok (.aload_n 0, 1) := by decide +kernel
theorem dX10_deals_12 : decode cX10_deals 12 = .ok (.getfield 13, 3) := by decide +kernel
theorem dX10_deals_15 : decode cX10_deals 15 = .ok (.iload_n 1, 1) := by decide +kernel
theorem dX10_deals_16 : decode cX10_deals 16 = .ok (.iaload, 1) := by decide +kernel
theorem dX10_deals_17 : decode cX10_deals 17 = .ok (.invokevirtual 157, 3) := by decide +kernel
theorem dX10_deals_20 : decode cX10_deals 20 = .ok (.iinc 1 1, 3) := by decide +kernel
theorem dX10_deals_23 : decode cX10_deals 23 = .ok (.goto (-21), 3) := by decide +kernel
theorem dX10_deals_26 : decode cX10_deals 26 = .ok (.return_, 1) := by decide +kernel
theorem dX10_placeOf_0 : decode cX10_placeOf 0 = .ok (.iconst 0, 1) := by decide +kernel
theorem dX10_placeOf_1 : decode cX10_placeOf 1 = .ok (.istore_n 2, 1) := by decide +kernel
theorem dX10_placeOf_2 : decode cX10_placeOf 2 = .ok (.aload_n 0, 1) := by decide +kernel
theorem dX10_placeOf_3 : decode cX10_placeOf 3 = .ok (.getfield 40, 3) := by decide +kernel
theorem dX10_placeOf_6 : decode cX10_placeOf 6 = .ok (.iload_n 2, 1) := by decide +kernel
theorem dX10_placeOf_7 : decode cX10_placeOf 7 = .ok (.iaload, 1) := by decide +kernel
theorem dX10_placeOf_8 : decode cX10_placeOf 8 = .ok (.iload_n 1, 1) := by decide +kernel
theorem dX10_placeOf_9 : decode cX10_placeOf 9 = .ok (.if_icmp .eq 9, 3) := by decide +kernel
theorem dX10_placeOf_12 : decode cX10_placeOf 12 = .ok (.iinc 2 1, 3) := by decide +kernel
theorem dX10_placeOf_15 : decode cX10_placeOf 15 = .ok (.goto (-13), 3) := by decide +kernel
theorem dX10_placeOf_18 : decode cX10_placeOf 18 = .ok (.iload_n 2, 1) := by decide +kernel
theorem dX10_placeOf_19 : decode cX10_placeOf 19 = .ok (.ireturn, 1) := by decide +kernel
theorem dX10_at_0 : decode cX10_at 0 = .ok (.aload_n 0, 1) := by decide +kernel
theorem dX10_at_1 : decode cX10_at 1 = .ok (.iload_n 1, 1) := by decide +kernel
theorem dX10_at_2 : decode cX10_at 2 = .ok (.invokevirtual 159, 3) := by decide +kernel
theorem dX10_at_5 : decode cX10_at 5 = .ok (.ifCond .eq 12, 3) := by decide +kernel
theorem dX10_at_8 : decode cX10_at 8 = .ok (.aload_n 0, 1) := by decide +kernel
theorem dX10_at_9 : decode cX10_at 9 = .ok (.getfield 16, 3) := by decide +kernel
theorem dX10_at_12 : decode cX10_at 12 = .ok (.iload_n 1, 1) := by decide +kernel
theorem dX10_at_13 : decode cX10_at 13 = .ok (.iaload, 1) := by decide +kernel
theorem dX10_at_14 : decode cX10_at 14 = .ok (.goto 4, 3) := by decide +kernel
theorem dX10_at_17 : decode cX10_at 17 = .ok (.iconst (-1), 1) := by decide +kernel
theorem dX10_at_18 : decode cX10_at 18 = .ok (.ireturn, 1) := by decide +kernel
theorem dX10_where_0 : decode cX10_where 0 = .ok (.aload_n 0, 1) := by decide +kernel
theorem dX10_where_1 : decode cX10_where 1 = .ok (.iload_n 1, 1) := by decide +kernel
theorem dX10_where_2 : decode cX10_where 2 = .ok (.invokevirtual 159, 3) := by decide +kernel
theorem dX10_where_5 : decode cX10_where 5 = .ok (.ifCond .ne 5, 3) := by decide +kernel
theorem dX10_where_8 : decode cX10_where 8 = .ok (.iconst (-1), 1) := by decide +kernel
theorem dX10_where_9 : decode cX10_where 9 = .ok (.ireturn, 1) := by decide +kernel
theorem dX10_where_10 : decode cX10_where 10 = .ok (.aload_n 0, 1) := by decide +kernel
theorem dX10_where_11 : decode cX10_where 11 = .ok (.invokevirtual 162, 3) := by decide +kernel
theorem dX10_where_14 : decode cX10_where 14 = .ok (.aload_n 0, 1) := by decide +kernel
theorem dX10_where_15 : decode cX10_where 15 = .ok (.iload_n 1, 1) := by decide +kernel
theorem dX10_where_16 : decode cX10_where 16 = .ok (.invokevirtual 165, 3) := by decide +kernel
theorem dX10_where_19 : decode cX10_where 19 = .ok (.ireturn, 1) := by decide +kernel
theorem dX10_colour_0 : decode cX10_colour 0 = .ok (.aload_n 0, 1) := by decide +kernel
theorem dX10_colour_1 : decode cX10_colour 1 = .ok (.iload_n 1, 1) := by decide +kernel
theorem dX10_colour_2 : decode cX10_colour 2 = .ok (.invokevirtual 159, 3) := by decide +kernel
theorem dX10_colour_5 : decode cX10_colour 5 = .ok (.ifCond .eq 12, 3) := by decide +kernel
theorem dX10_colour_8 : decode cX10_colour 8 = .ok (.aload_n 0, 1) := by decide +kernel
theorem dX10_colour_9 : decode cX10_colour 9 = .ok (.getfield 7, 3) := by decide +kernel
theorem dX10_colour_12 : decode cX10_colour 12 = .ok (.iload_n 1, 1) := by decide +kernel
theorem dX10_colour_13 : decode cX10_colour 13 = .ok (.iaload, 1) := by decide +kernel
theorem dX10_colour_14 : decode cX10_colour 14 = .ok (.goto 4, 3) := by decide +kernel
theorem dX10_colour_17 : decode cX10_colour 17 = .ok (.iconst (-1), 1) := by decide +kernel
theorem dX10_colour_18 : decode cX10_colour 18 = .ok (.ireturn, 1) := by decide +kernel
theorem dX10_remembers_0 : decode cX10_remembers 0 = .ok (.aload_n 0, 1) := by decide +kernel
theorem dX10_remembers_1 : decode cX10_remembers 1 = .ok (.getfield 134, 3) := by decide +kernel
theorem dX10_remembers_4 : decode cX10_remembers 4 = .ok (.bipush 8, 2) := by decide +kernel
theorem dX10_remembers_6 : decode cX10_remembers 6 = .ok (.if_icmp .ne 42, 3) := by decide +kernel
theorem dX10_remembers_9 : decode cX10_remembers 9 = .ok (.iconst 0, 1) := by decide +kernel
theorem dX10_remembers_10 : decode cX10_remembers 10 = .ok (.istore_n 1, 1) := by decide +kernel
theorem dX10_remembers_11 : decode cX10_remembers 11 = .ok (.iload_n 1, 1) := by decide +kernel
theorem dX10_remembers_12 : decode cX10_remembers 12 = .ok (.bipush 112, 2) := by decide +kernel
theorem dX10_remembers_14 : decode cX10_remembers 14 = .ok (.if_icmp .ge 24, 3) := by decide +kernel
theorem dX10_remembers_17 : decode cX10_remembers 17 = .ok (.aload_n 0, 1) := by decide +kernel
theorem dX10_remembers_18 : decode cX10_remembers 18 = .ok (.getfield 19, 3) := by decide +kernel
theorem dX10_remembers_21 : decode cX10_remembers 21 = .ok (.iload_n 1, 1) := by decide +kernel
theorem dX10_remembers_22 : decode cX10_remembers 22 = .ok (.aload_n 0, 1) := by decide +kernel
theorem dX10_remembers_23 : decode cX10_remembers 23 = .ok (.getfield 19, 3) := by decide +kernel
theorem dX10_remembers_26 : decode cX10_remembers 26 = .ok (.iload_n 1, 1) := by decide +kernel
theorem dX10_remembers_27 : decode cX10_remembers 27 = .ok (.bipush 16, 2) := by decide +kernel
theorem dX10_remembers_29 : decode cX10_remembers 29 = .ok (.iadd, 1) := by decide +kernel
theorem dX10_remembers_30 : decode cX10_remembers 30 = .ok (.iaload, 1) := by decide +kernel
theorem dX10_remembers_31 : decode cX10_remembers 31 = .ok (.iastore, 1) := by decide +kernel
theorem dX10_remembers_32 : decode cX10_remembers 32 = .ok (.iinc 1 1, 3) := by decide +kernel
theorem dX10_remembers_35 : decode cX10_remembers 35 = .ok (.goto (-24), 3) := by decide +kernel
theorem dX10_remembers_38 : decode cX10_remembers 38 = .ok (.aload_n 0, 1) := by decide +kernel
theorem dX10_remembers_39 : decode cX10_remembers 39 = .ok (.dup, 1) := by decide +kernel
theorem dX10_remembers_40 : decode cX10_remembers 40 = .ok (.getfield 134, 3) := by decide +kernel
theorem dX10_remembers_43 : decode cX10_remembers 43 = .ok (.iconst 1, 1) := by decide +kernel
theorem dX10_remembers_44 : decode cX10_remembers 44 = .ok (.isub, 1) := by decide +kernel
theorem dX10_remembers_45 : decode cX10_remembers 45 = .ok (.putfield 134, 3) := by decide +kernel
theorem dX10_remembers_48 : decode cX10_remembers 48 = .ok (.aload_n 0, 1) := by decide +kernel
theorem dX10_remembers_49 : decode cX10_remembers 49 = .ok (.getfield 19, 3) := by decide +kernel
theorem dX10_remembers_52 : decode cX10_remembers 52 = .ok (.bipush 16, 2) := by decide +kernel
theorem dX10_remembers_54 : decode cX10_remembers 54 = .ok (.aload_n 0, 1) := by decide +kernel
theorem dX10_remembers_55 : decode cX10_remembers 55 = .ok (.getfield 134, 3) := by decide +kernel
theorem dX10_remembers_58 : decode cX10_remembers 58 = .ok (.imul, 1) := by decide +kernel
theorem dX10_remembers_59 : decode cX10_remembers 59 = .ok (.aload_n 0, 1) := by decide +kernel
theorem dX10_remembers_60 : decode cX10_remembers 60 = .ok (.getfield 16, 3) := by decide +kernel
theorem dX10_remembers_63 : decode cX10_remembers 63 = .ok (.iconst 0, 1) := by decide +kernel
theorem dX10_remembers_64 : decode cX10_remembers 64 = .ok (.bipush 16, 2) := by decide +kernel
theorem dX10_remembers_66 : decode cX10_remembers 66 = .ok (.invokestatic 123, 3) := by decide +kernel
theorem dX10_remembers_69 : decode cX10_remembers 69 = .ok (.aload_n 0, 1) := by decide +kernel
theorem dX10_remembers_70 : decode cX10_remembers 70 = .ok (.dup, 1) := by decide +kernel
theorem dX10_remembers_71 : decode cX10_remembers 71 = .ok (.getfield 134, 3) := by decide +kernel
theorem dX10_remembers_74 : decode cX10_remembers 74 = .ok (.iconst 1, 1) := by decide +kernel
theorem dX10_remembers_75 : decode cX10_remembers 75 = .ok (.iadd, 1) := by decide +kernel
theorem dX10_remembers_76 : decode cX10_remembers 76 = .ok (.putfield 134, 3) := by decide +kernel
theorem dX10_remembers_79 : decode cX10_remembers 79 = .ok (.return_, 1) := by decide +kernel
theorem dX10_does_0 : decode cX10_does 0 = .ok (.aload_n 0, 1) := by decide +kernel
theorem dX10_does_1 : decode cX10_does 1 = .ok (.invokevirtual 168, 3) := by decide +kernel
theorem dX10_does_4 : decode cX10_does 4 = .ok (.aload_n 0, 1) := by decide +kernel
theorem dX10_does_5 : decode cX10_does 5 = .ok (.invokevirtual 162, 3) := by decide +kernel
theorem dX10_does_8 : decode cX10_does 8 = .ok (.aload_n 0, 1) := by decide +kernel
theorem dX10_does_9 : decode cX10_does 9 = .ok (.iload_n 1, 1) := by decide +kernel
theorem dX10_does_10 : decode cX10_does 10 = .ok (.invokevirtual 157, 3) := by decide +kernel
theorem dX10_does_13 : decode cX10_does 13 = .ok (.aload_n 0, 1) := by decide +kernel
theorem dX10_does_14 : decode cX10_does 14 = .ok (.getfield 16, 3) := by decide +kernel
theorem dX10_does_17 : decode cX10_does 17 = .ok (.iconst 0, 1) := by decide +kernel
theorem dX10_does_18 : decode cX10_does 18 = .ok (.aload_n 0, 1) := by decide +kernel
theorem dX10_does_19 : decode cX10_does 19 = .ok (.getfield 40, 3) := by decide +kernel
theorem dX10_does_22 : decode cX10_does 22 = .ok (.iconst 0, 1) := by decide +kernel
theorem dX10_does_23 : decode cX10_does 23 = .ok (.bipush 16, 2) := by decide +kernel
theorem dX10_does_25 : decode cX10_does 25 = .ok (.invokestatic 123, 3) := by decide +kernel
theorem dX10_does_28 : decode cX10_does 28 = .ok (.aload_n 0, 1) := by decide +kernel
theorem dX10_does_29 : decode cX10_does 29 = .ok (.getfield 16, 3) := by decide +kernel
theorem dX10_does_32 : decode cX10_does 32 = .ok (.iconst 0, 1) := by decide +kernel
theorem dX10_does_33 : decode cX10_does 33 = .ok (.iaload, 1) := by decide +kernel
theorem dX10_does_34 : decode cX10_does 34 = .ok (.ireturn, 1) := by decide +kernel
theorem dX10_lace_0 : decode cX10_lace 0 = .ok (.iload_n 1, 1) := by decide +kernel
theorem dX10_lace_1 : decode cX10_lace 1 = .ok (.invokestatic 171, 3) := by decide +kernel
theorem dX10_lace_4 : decode cX10_lace 4 = .ok (.ifCond .eq 11, 3) := by decide +kernel
theorem dX10_lace_7 : decode cX10_lace 7 = .ok (.aload_n 0, 1) := by decide +kernel
theorem dX10_lace_8 : decode cX10_lace 8 = .ok (.iload_n 1, 1) := by decide +kernel
theorem dX10_lace_9 : decode cX10_lace 9 = .ok (.invokevirtual 174, 3) := by decide +kernel
theorem dX10_lace_12 : decode cX10_lace 12 = .ok (.goto 4, 3) := by decide +kernel
theorem dX10_lace_15 : decode cX10_lace 15 = .ok (.iconst (-1), 1) := by decide +kernel
theorem dX10_lace_16 : decode cX10_lace 16 = .ok (.ireturn, 1) := by decide +kernel
theorem dX10_cut_0 : decode cX10_cut 0 = .ok (.aload_n 0, 1) := by decide +kernel
theorem dX10_cut_1 : decode cX10_cut 1 = .ok (.iload_n 1, 1) := by decide +kernel
theorem dX10_cut_2 : decode cX10_cut 2 = .ok (.invokevirtual 159, 3) := by decide +kernel
theorem dX10_cut_5 : decode cX10_cut 5 = .ok (.ifCond .eq 14, 3) := by decide +kernel
theorem dX10_cut_8 : decode cX10_cut 8 = .ok (.aload_n 0, 1) := by decide +kernel
theorem dX10_cut_9 : decode cX10_cut 9 = .ok (.bipush 6, 2) := by decide +kernel
theorem dX10_cut_11 : decode cX10_cut 11 = .ok (.iload_n 1, 1) := by decide +kernel
theorem dX10_cut_12 : decode cX10_cut 12 = .ok (.iadd, 1) := by decide +kernel
theorem dX10_cut_13 : decode cX10_cut 13 = .ok (.invokevirtual 174, 3) := by decide +kernel
theorem dX10_cut_16 : decode cX10_cut 16 = .ok (.goto 4, 3) := by decide +kernel
theorem dX10_cut_19 : decode cX10_cut 19 = .ok (.iconst (-1), 1) := by decide +kernel
theorem dX10_cut_20 : decode cX10_cut 20 = .ok (.ireturn, 1) := by decide +kernel
theorem dX10_turn_0 : decode cX10_turn 0 = .ok (.aload_n 0, 1) := by decide +kernel
theorem dX10_turn_1 : decode cX10_turn 1 = .ok (.iconst 5, 1) := by decide +kernel
theorem dX10_turn_2 : decode cX10_turn 2 = .ok (.invokevirtual 174, 3) := by decide +kernel
theorem dX10_turn_5 : decode cX10_turn 5 = .ok (.ireturn, 1) := by decide +kernel
theorem dX10_deal_0 : decode cX10_deal 0 = .ok (.aload_n 0, 1) := by decide +kernel
theorem dX10_deal_1 : decode cX10_deal 1 = .ok (.invokevirtual 168, 3) := by decide +kernel
theorem dX10_deal_4 : decode cX10_deal 4 = .ok (.aload_n 0, 1) := by decide +kernel
theorem dX10_deal_5 : decode cX10_deal 5 = .ok (.invokevirtual 162, 3) := by decide +kernel
theorem dX10_deal_8 : decode cX10_deal 8 = .ok (.aload_n 0, 1) := by decide +kernel
theorem dX10_deal_9 : decode cX10_deal 9 = .ok (.invokevirtual 177, 3) := by decide +kernel
theorem dX10_deal_12 : decode cX10_deal 12 = .ok (.aload_n 0, 1) := by decide +kernel
theorem dX10_deal_13 : decode cX10_deal 13 = .ok (.getfield 16, 3) := by decide +kernel
theorem dX10_deal_16 : decode cX10_deal 16 = .ok (.iconst 0, 1) := by decide +kernel
theorem dX10_deal_17 : decode cX10_deal 17 = .ok (.aload_n 0, 1) := by decide +kernel
theorem dX10_deal_18 : decode cX10_deal 18 = .ok (.getfield 40, 3) := by decide +kernel
theorem dX10_deal_21 : decode cX10_deal 21 = .ok (.iconst 0, 1) := by decide +kernel
theorem dX10_deal_22 : decode cX10_deal 22 = .ok (.bipush 16, 2) := by decide +kernel
theorem dX10_deal_24 : decode cX10_deal 24 = .ok (.invokestatic 123, 3) := by decide +kernel
theorem dX10_deal_27 : decode cX10_deal 27 = .ok (.aload_n 0, 1) := by decide +kernel
theorem dX10_deal_28 : decode cX10_deal 28 = .ok (.getfield 16, 3) := by decide +kernel
theorem dX10_deal_31 : decode cX10_deal 31 = .ok (.iconst 0, 1) := by decide +kernel
theorem dX10_deal_32 : decode cX10_deal 32 = .ok (.iaload, 1) := by decide +kernel
theorem dX10_deal_33 : decode cX10_deal 33 = .ok (.ireturn, 1) := by decide +kernel
theorem dX10_undo_0 : decode cX10_undo 0 = .ok (.aload_n 0, 1) := by decide +kernel
theorem dX10_undo_1 : decode cX10_undo 1 = .ok (.getfield 134, 3) := by decide +kernel
theorem dX10_undo_4 : decode cX10_undo 4 = .ok (.ifCond .ne 6, 3) := by decide +kernel
theorem dX10_undo_7 : decode cX10_undo 7 = .ok (.bipush (-2), 2) := by decide +kernel
theorem dX10_undo_9 : decode cX10_undo 9 = .ok (.ireturn, 1) := by decide +kernel
theorem dX10_undo_10 : decode cX10_undo 10 = .ok (.aload_n 0, 1) := by decide +kernel
theorem dX10_undo_11 : decode cX10_undo 11 = .ok (.dup, 1) := by decide +kernel
theorem dX10_undo_12 : decode cX10_undo 12 = .ok (.getfield 134, 3) := by decide +kernel
theorem dX10_undo_15 : decode cX10_undo 15 = .ok (.iconst 1, 1) := by decide +kernel
theorem dX10_undo_16 : decode cX10_undo 16 = .ok (.isub, 1) := by decide +kernel
theorem dX10_undo_17 : decode cX10_undo 17 = .ok (.putfield 134, 3) := by decide +kernel
theorem dX10_undo_20 : decode cX10_undo 20 = .ok (.aload_n 0, 1) := by decide +kernel
theorem dX10_undo_21 : decode cX10_undo 21 = .ok (.getfield 16, 3) := by decide +kernel
theorem dX10_undo_24 : decode cX10_undo 24 = .ok (.iconst 0, 1) := by decide +kernel
theorem dX10_undo_25 : decode cX10_undo 25 = .ok (.aload_n 0, 1) := by decide +kernel
theorem dX10_undo_26 : decode cX10_undo 26 = .ok (.getfield 19, 3) := by decide +kernel
theorem dX10_undo_29 : decode cX10_undo 29 = .ok (.bipush 16, 2) := by decide +kernel
theorem dX10_undo_31 : decode cX10_undo 31 = .ok (.aload_n 0, 1) := by decide +kernel
theorem dX10_undo_32 : decode cX10_undo 32 = .ok (.getfield 134, 3) := by decide +kernel
theorem dX10_undo_35 : decode cX10_undo 35 = .ok (.imul, 1) := by decide +kernel
theorem dX10_undo_36 : decode cX10_undo 36 = .ok (.bipush 16, 2) := by decide +kernel
theorem dX10_undo_38 : decode cX10_undo 38 = .ok (.invokestatic 123, 3) := by decide +kernel
theorem dX10_undo_41 : decode cX10_undo 41 = .ok (.aload_n 0, 1) := by decide +kernel
theorem dX10_undo_42 : decode cX10_undo 42 = .ok (.getfield 134, 3) := by decide +kernel
theorem dX10_undo_45 : decode cX10_undo 45 = .ok (.ireturn, 1) := by decide +kernel
theorem dX10_isInOrder_0 : decode cX10_isInOrder 0 = .ok (.iconst 1, 1) := by decide +kernel
theorem dX10_isInOrder_1 : decode cX10_isInOrder 1 = .ok (.istore_n 1, 1) := by decide +kernel
theorem dX10_isInOrder_2 : decode cX10_isInOrder 2 = .ok (.iconst 0, 1) := by decide +kernel
theorem dX10_isInOrder_3 : decode cX10_isInOrder 3 = .ok (.istore_n 2, 1) := by decide +kernel
theorem dX10_isInOrder_4 : decode cX10_isInOrder 4 = .ok (.iload_n 2, 1) := by decide +kernel
theorem dX10_isInOrder_5 : decode cX10_isInOrder 5 = .ok (.aload_n 0, 1) := by decide +kernel
theorem dX10_isInOrder_6 : decode cX10_isInOrder 6 = .ok (.getfield 74, 3) := by decide +kernel
theorem dX10_isInOrder_9 : decode cX10_isInOrder 9 = .ok (.if_icmp .ge 29, 3) := by decide +kernel
theorem dX10_isInOrder_12 : decode cX10_isInOrder 12 = .ok (.iload_n 1, 1) := by decide +kernel
theorem dX10_isInOrder_13 : decode cX10_isInOrder 13 = .ok (.ifCond .eq 17, 3) := by decide +kernel
theorem dX10_isInOrder_16 : decode cX10_isInOrder 16 = .ok (.aload_n 0, 1) := by decide +kernel
theorem dX10_isInOrder_17 : decode cX10_isInOrder 17 = .ok (.getfield 40, 3) := by decide +kernel
theorem dX10_isInOrder_20 : decode cX10_isInOrder 20 = .ok (.iload_n 2, 1) := by decide +kernel
theorem dX10_isInOrder_21 : decode cX10_isInOrder 21 = .ok (.iaload, 1) := by decide +kernel
theorem dX10_isInOrder_22 : decode cX10_isInOrder 22 = .ok (.iload_n 2, 1) := by decide +kernel
theorem dX10_isInOrder_23 : decode cX10_isInOrder 23 = .ok (.if_icmp .ne 7, 3) := by decide +kernel
theorem dX10_isInOrder_26 : decode cX10_isInOrder 26 = .ok (.iconst 1, 1) := by decide +kernel
theorem dX10_isInOrder_27 : decode cX10_isInOrder 27 = .ok (.goto 4, 3) := by decide +kernel
theorem dX10_isInOrder_30 : decode cX10_isInOrder 30 = .ok (.iconst 0, 1) := by decide +kernel
theorem dX10_isInOrder_31 : decode cX10_isInOrder 31 = .ok (.istore_n 1, 1) := by decide +kernel
theorem dX10_isInOrder_32 : decode cX10_isInOrder 32 = .ok (.iinc 2 1, 3) := by decide +kernel
theorem dX10_isInOrder_35 : decode cX10_isInOrder 35 = .ok (.goto (-31), 3) := by decide +kernel
theorem dX10_isInOrder_38 : decode cX10_isInOrder 38 = .ok (.iload_n 1, 1) := by decide +kernel
theorem dX10_isInOrder_39 : decode cX10_isInOrder 39 = .ok (.ireturn, 1) := by decide +kernel
theorem dX10_again_0 : decode cX10_again 0 = .ok (.iload_n 1, 1) := by decide +kernel
theorem dX10_again_1 : decode cX10_again 1 = .ok (.iconst 0, 1) := by decide +kernel
theorem dX10_again_2 : decode cX10_again 2 = .ok (.iconst 5, 1) := by decide +kernel
theorem dX10_again_3 : decode cX10_again 3 = .ok (.invokestatic 77, 3) := by decide +kernel
theorem dX10_again_6 : decode cX10_again 6 = .ok (.ifCond .ne 5, 3) := by decide +kernel
theorem dX10_again_9 : decode cX10_again 9 = .ok (.iconst (-1), 1) := by decide +kernel
theorem dX10_again_10 : decode cX10_again 10 = .ok (.ireturn, 1) := by decide +kernel
theorem dX10_again_11 : decode cX10_again 11 = .ok (.aload_n 0, 1) := by decide +kernel
theorem dX10_again_12 : decode cX10_again 12 = .ok (.getfield 40, 3) := by decide +kernel
theorem dX10_again_15 : decode cX10_again 15 = .ok (.invokestatic 130, 3) := by decide +kernel
theorem dX10_again_18 : decode cX10_again 18 = .ok (.iconst 0, 1) := by decide +kernel
theorem dX10_again_19 : decode cX10_again 19 = .ok (.istore_n 2, 1) := by decide +kernel
theorem dX10_again_20 : decode cX10_again 20 = .ok (.iconst 1, 1) := by decide +kernel
theorem dX10_again_21 : decode cX10_again 21 = .ok (.istore_n 3, 1) := by decide +kernel
theorem dX10_again_22 : decode cX10_again 22 = .ok (.iload_n 3, 1) := by decide +kernel
theorem dX10_again_23 : decode cX10_again 23 = .ok (.ifCond .eq 39, 3) := by decide +kernel
theorem dX10_again_26 : decode cX10_again 26 = .ok (.iload_n 1, 1) := by decide +kernel
theorem dX10_again_27 : decode cX10_again 27 = .ok (.iconst 5, 1) := by decide +kernel
theorem dX10_again_28 : decode cX10_again 28 = .ok (.if_icmp .ne 10, 3) := by decide +kernel
theorem dX10_again_31 : decode cX10_again 31 = .ok (.aload_n 0, 1) := by decide +kernel
theorem dX10_again_32 : decode cX10_again 32 = .ok (.invokevirtual 177, 3) := by decide +kernel
theorem dX10_again_35 : decode cX10_again 35 = .ok (.goto 8, 3) := by decide +kernel
theorem dX10_again_38 : decode cX10_again 38 = .ok (.aload_n 0, 1) := by decide +kernel
theorem dX10_again_39 : decode cX10_again 39 = .ok (.iload_n 1, 1) := by decide +kernel
theorem dX10_again_40 : decode cX10_again 40 = .ok (.invokevirtual 157, 3) := by decide +kernel
theorem dX10_again_43 : decode cX10_again 43 = .ok (.iinc 2 1, 3) := by decide +kernel
theorem dX10_again_46 : decode cX10_again 46 = .ok (.aload_n 0, 1) := by decide +kernel
theorem dX10_again_47 : decode cX10_again 47 = .ok (.invokevirtual 180, 3) := by decide +kernel
theorem dX10_again_50 : decode cX10_again 50 = .ok (.ifCond .ne 7, 3) := by decide +kernel
theorem dX10_again_53 : decode cX10_again 53 = .ok (.iconst 1, 1) := by decide +kernel
theorem dX10_again_54 : decode cX10_again 54 = .ok (.goto 4, 3) := by decide +kernel
theorem dX10_again_57 : decode cX10_again 57 = .ok (.iconst 0, 1) := by decide +kernel
theorem dX10_again_58 : decode cX10_again 58 = .ok (.istore_n 3, 1) := by decide +kernel
theorem dX10_again_59 : decode cX10_again 59 = .ok (.goto (-37), 3) := by decide +kernel
theorem dX10_again_62 : decode cX10_again 62 = .ok (.iload_n 2, 1) := by decide +kernel
theorem dX10_again_63 : decode cX10_again 63 = .ok (.ireturn, 1) := by decide +kernel
theorem dX10_round_0 : decode cX10_round 0 = .ok (.aload_n 0, 1) := by decide +kernel
theorem dX10_round_1 : decode cX10_round 1 = .ok (.iload_n 1, 1) := by decide +kernel
theorem dX10_round_2 : decode cX10_round 2 = .ok (.invokevirtual 159, 3) := by decide +kernel
theorem dX10_round_5 : decode cX10_round 5 = .ok (.ifCond .eq 10, 3) := by decide +kernel
theorem dX10_round_8 : decode cX10_round 8 = .ok (.iload_n 2, 1) := by decide +kernel
theorem dX10_round_9 : decode cX10_round 9 = .ok (.invokestatic 171, 3) := by decide +kernel
theorem dX10_round_12 : decode cX10_round 12 = .ok (.ifCond .ne 5, 3) := by decide +kernel
theorem dX10_round_15 : decode cX10_round 15 = .ok (.iconst (-1), 1) := by decide +kernel
theorem dX10_round_16 : decode cX10_round 16 = .ok (.ireturn, 1) := by decide +kernel
theorem dX10_round_17 : decode cX10_round 17 = .ok (.aload_n 0, 1) := by decide +kernel
theorem dX10_round_18 : decode cX10_round 18 = .ok (.getfield 40, 3) := by decide +kernel
theorem dX10_round_21 : decode cX10_round 21 = .ok (.invokestatic 130, 3) := by decide +kernel
theorem dX10_round_24 : decode cX10_round 24 = .ok (.iconst 0, 1) := by decide +kernel
theorem dX10_round_25 : decode cX10_round 25 = .ok (.istore_n 3, 1) := by decide +kernel
theorem dX10_round_26 : decode cX10_round 26 = .ok (.iconst 1, 1) := by decide +kernel
theorem dX10_round_27 : decode cX10_round 27 = .ok (.istore 4, 2) := by decide +kernel
theorem dX10_round_29 : decode cX10_round 29 = .ok (.iload 4, 2) := by decide +kernel
theorem dX10_round_31 : decode cX10_round 31 = .ok (.ifCond .eq 31, 3) := by decide +kernel
theorem dX10_round_34 : decode cX10_round 34 = .ok (.aload_n 0, 1) := by decide +kernel
theorem dX10_round_35 : decode cX10_round 35 = .ok (.iload_n 2, 1) := by decide +kernel
theorem dX10_round_36 : decode cX10_round 36 = .ok (.invokevirtual 157, 3) := by decide +kernel
theorem dX10_round_39 : decode cX10_round 39 = .ok (.iinc 3 1, 3) := by decide +kernel
theorem dX10_round_42 : decode cX10_round 42 = .ok (.aload_n 0, 1) := by decide +kernel
theorem dX10_round_43 : decode cX10_round 43 = .ok (.getfield 40, 3) := by decide +kernel
theorem dX10_round_46 : decode cX10_round 46 = .ok (.iload_n 1, 1) := by decide +kernel
theorem dX10_round_47 : decode cX10_round 47 = .ok (.iaload, 1) := by decide +kernel
theorem dX10_round_48 : decode cX10_round 48 = .ok (.iload_n 1, 1) := by decide +kernel
theorem dX10_round_49 : decode cX10_round 49 = .ok (.if_icmp .eq 7, 3) := by decide +kernel
theorem dX10_round_52 : decode cX10_round 52 = .ok (.iconst 1, 1) := by decide +kernel
theorem dX10_round_53 : decode cX10_round 53 = .ok (.goto 4, 3) := by decide +kernel
theorem dX10_round_56 : decode cX10_round 56 = .ok (.iconst 0, 1) := by decide +kernel
theorem dX10_round_57 : decode cX10_round 57 = .ok (.istore 4, 2) := by decide +kernel
theorem dX10_round_59 : decode cX10_round 59 = .ok (.goto (-30), 3) := by decide +kernel
theorem dX10_round_62 : decode cX10_round 62 = .ok (.iload_n 3, 1) := by decide +kernel
theorem dX10_round_63 : decode cX10_round 63 = .ok (.ireturn, 1) := by decide +kernel
theorem dX10_rounds_0 : decode cX10_rounds 0 = .ok (.iload_n 1, 1) := by decide +kernel
theorem dX10_rounds_1 : decode cX10_rounds 1 = .ok (.invokestatic 171, 3) := by decide +kernel
theorem dX10_rounds_4 : decode cX10_rounds 4 = .ok (.ifCond .ne 5, 3) := by decide +kernel
theorem dX10_rounds_7 : decode cX10_rounds 7 = .ok (.iconst (-1), 1) := by decide +kernel
theorem dX10_rounds_8 : decode cX10_rounds 8 = .ok (.ireturn, 1) := by decide +kernel
theorem dX10_rounds_9 : decode cX10_rounds 9 = .ok (.aload_n 0, 1) := by decide +kernel
theorem dX10_rounds_10 : decode cX10_rounds 10 = .ok (.getfield 40, 3) := by decide +kernel
theorem dX10_rounds_13 : decode cX10_rounds 13 = .ok (.invokestatic 130, 3) := by decide +kernel
theorem dX10_rounds_16 : decode cX10_rounds 16 = .ok (.aload_n 0, 1) := by decide +kernel
theorem dX10_rounds_17 : decode cX10_rounds 17 = .ok (.iload_n 1, 1) := by decide +kernel
theorem dX10_rounds_18 : decode cX10_rounds 18 = .ok (.invokevirtual 157, 3) := by decide +kernel
theorem dX10_rounds_21 : decode cX10_rounds 21 = .ok (.iconst 0, 1) := by decide +kernel
theorem dX10_rounds_22 : decode cX10_rounds 22 = .ok (.istore_n 2, 1) := by decide +kernel
theorem dX10_rounds_23 : decode cX10_rounds 23 = .ok (.iconst 0, 1) := by decide +kernel
theorem dX10_rounds_24 : decode cX10_rounds 24 = .ok (.istore_n 3, 1) := by decide +kernel
theorem dX10_rounds_25 : decode cX10_rounds 25 = .ok (.iconst 0, 1) := by decide +kernel
theorem dX10_rounds_26 : decode cX10_rounds 26 = .ok (.istore 4, 2) := by decide +kernel
theorem dX10_rounds_28 : decode cX10_rounds 28 = .ok (.iload 4, 2) := by decide +kernel
theorem dX10_rounds_30 : decode cX10_rounds 30 = .ok (.aload_n 0, 1) := by decide +kernel
theorem dX10_rounds_31 : decode cX10_rounds 31 = .ok (.getfield 74, 3) := by decide +kernel
theorem dX10_rounds_34 : decode cX10_rounds 34 = .ok (.if_icmp .ge 58, 3) := by decide +kernel
theorem dX10_rounds_37 : decode cX10_rounds 37 = .ok (.iload_n 3, 1) := by decide +kernel
theorem dX10_rounds_38 : decode cX10_rounds 38 = .ok (.iload_n 2, 1) := by decide +kernel
theorem dX10_rounds_39 : decode cX10_rounds 39 = .ok (.iload 4, 2) := by decide +kernel
theorem dX10_rounds_41 : decode cX10_rounds 41 = .ok (.ishr, 1) := by decide +kernel
theorem dX10_rounds_42 : decode cX10_rounds 42 = .ok (.iconst 1, 1) := by decide +kernel
theorem dX10_rounds_43 : decode cX10_rounds 43 = .ok (.iand, 1) := by decide +kernel
theorem dX10_rounds_44 : decode cX10_rounds 44 = .ok (.ifCond .ne 7, 3) := by decide +kernel
theorem dX10_rounds_47 : decode cX10_rounds 47 = .ok (.iconst 1, 1) := by decide +kernel
theorem dX10_rounds_48 : decode cX10_rounds 48 = .ok (.goto 4, 3) := by decide +kernel
theorem dX10_rounds_51 : decode cX10_rounds 51 = .ok (.iconst 0, 1) := by decide +kernel
theorem dX10_rounds_52 : decode cX10_rounds 52 = .ok (.iadd, 1) := by decide +kernel
theorem dX10_rounds_53 : decode cX10_rounds 53 = .ok (.istore_n 3, 1) := by decide +kernel
theorem dX10_rounds_54 : decode cX10_rounds 54 = .ok (.iload 4, 2) := by decide +kernel
theorem dX10_rounds_56 : decode cX10_rounds 56 = .ok (.istore 5, 2) := by decide +kernel
theorem dX10_rounds_58 : decode cX10_rounds 58 = .ok (.iload_n 2, 1) := by decide +kernel
theorem dX10_rounds_59 : decode cX10_rounds 59 = .ok (.iload 5, 2) := by decide +kernel
theorem dX10_rounds_61 : decode cX10_rounds 61 = .ok (.ishr, 1) := by decide +kernel
theorem dX10_rounds_62 : decode cX10_rounds 62 = .ok (.iconst 1, 1) := by decide +kernel
theorem dX10_rounds_63 : decode cX10_rounds 63 = .ok (.iand, 1) := by decide +kernel
theorem dX10_rounds_64 : decode cX10_rounds 64 = .ok (.ifCond .ne 22, 3) := by decide +kernel
theorem dX10_rounds_67 : decode cX10_rounds 67 = .ok (.iload_n 2, 1) := by decide +kernel
theorem dX10_rounds_68 : decode cX10_rounds 68 = .ok (.iconst 1, 1) := by decide +kernel
theorem dX10_rounds_69 : decode cX10_rounds 69 = .ok (.iload 5, 2) := by decide +kernel
theorem dX10_rounds_71 : decode cX10_rounds 71 = .ok (.ishl, 1) := by decide +kernel
theorem dX10_rounds_72 : decode cX10_rounds 72 = .ok (.ior, 1) := by decide +kernel
theorem dX10_rounds_73 : decode cX10_rounds 73 = .ok (.istore_n 2, 1) := by decide +kernel
theorem dX10_rounds_74 : decode cX10_rounds 74 = .ok (.aload_n 0, 1) := by decide +kernel
theorem dX10_rounds_75 : decode cX10_rounds 75 = .ok (.getfield 40, 3) := by decide +kernel
theorem dX10_rounds_78 : decode cX10_rounds 78 = .ok (.iload 5, 2) := by decide +kernel
theorem dX10_rounds_80 : decode cX10_rounds 80 = .ok (.iaload, 1) := by decide +kernel
theorem dX10_rounds_81 : decode cX10_rounds 81 = .ok (.istore 5, 2) := by decide +kernel
theorem dX10_rounds_83 : decode cX10_rounds 83 = .ok (.goto (-25), 3) := by decide +kernel
theorem dX10_rounds_86 : decode cX10_rounds 86 = .ok (.iinc 4 1, 3) := by decide +kernel
theorem dX10_rounds_89 : decode cX10_rounds 89 = .ok (.goto (-61), 3) := by decide +kernel
theorem dX10_rounds_92 : decode cX10_rounds 92 = .ok (.iload_n 3, 1) := by decide +kernel
theorem dX10_rounds_93 : decode cX10_rounds 93 = .ok (.ireturn, 1) := by decide +kernel
theorem dX10_findGoes_0 : decode cX10_findGoes 0 = .ok (.iconst 0, 1) := by decide +kernel
theorem dX10_findGoes_1 : decode cX10_findGoes 1 = .ok (.istore_n 1, 1) := by decide +kernel
theorem dX10_findGoes_2 : decode cX10_findGoes 2 = .ok (.iload_n 1, 1) := by decide +kernel
theorem dX10_findGoes_3 : decode cX10_findGoes 3 = .ok (.iconst 1, 1) := by decide +kernel
theorem dX10_findGoes_4 : decode cX10_findGoes 4 = .ok (.if_icmp .gt 54, 3) := by decide +kernel
theorem dX10_findGoes_7 : decode cX10_findGoes 7 = .ok (.aload_n 0, 1) := by decide +kernel
theorem dX10_findGoes_8 : decode cX10_findGoes 8 = .ok (.getfield 40, 3) := by decide +kernel
theorem dX10_findGoes_11 : decode cX10_findGoes 11 = .ok (.invokestatic 130, 3) := by decide +kernel
theorem dX10_findGoes_14 : decode cX10_findGoes 14 = .ok (.aload_n 0, 1) := by decide +kernel
theorem dX10_findGoes_15 : decode cX10_findGoes 15 = .ok (.iload_n 1, 1) := by decide +kernel
theorem dX10_findGoes_16 : decode cX10_findGoes 16 = .ok (.invokevirtual 157, 3) := by decide +kernel
theorem dX10_findGoes_19 : decode cX10_findGoes 19 = .ok (.iconst 0, 1) := by decide +kernel
theorem dX10_findGoes_20 : decode cX10_findGoes 20 = .ok (.istore_n 2, 1) := by decide +kernel
theorem dX10_findGoes_21 : decode cX10_findGoes 21 = .ok (.iload_n 2, 1) := by decide +kernel
theorem dX10_findGoes_22 : decode cX10_findGoes 22 = .ok (.aload_n 0, 1) := by decide +kernel
theorem dX10_findGoes_23 : decode cX10_findGoes 23 = .ok (.getfield 74, 3) := by decide +kernel
theorem dX10_findGoes_26 : decode cX10_findGoes 26 = .ok (.if_icmp .ge 26, 3) := by decide +kernel
theorem dX10_findGoes_29 : decode cX10_findGoes 29 = .ok (.aload_n 0, 1) := by decide +kernel
theorem dX10_findGoes_30 : decode cX10_findGoes 30 = .ok (.getfield 49, 3) := by decide +kernel
theorem dX10_findGoes_33 : decode cX10_findGoes 33 = .ok (.bipush 16, 2) := by decide +kernel
theorem dX10_findGoes_35 : decode cX10_findGoes 35 = .ok (.iload_n 1, 1) := by decide +kernel
theorem dX10_findGoes_36 : decode cX10_findGoes 36 = .ok (.imul, 1) := by decide +kernel
theorem dX10_findGoes_37 : decode cX10_findGoes 37 = .ok (.aload_n 0, 1) := by decide +kernel
theorem dX10_findGoes_38 : decode cX10_findGoes 38 = .ok (.getfield 40, 3) := by decide +kernel
theorem dX10_findGoes_41 : decode cX10_findGoes 41 = .ok (.iload_n 2, 1) := by decide +kernel
theorem dX10_findGoes_42 : decode cX10_findGoes 42 = .ok (.iaload, 1) := by decide +kernel
theorem dX10_findGoes_43 : decode cX10_findGoes 43 = .ok (.iadd, 1) := by decide +kernel
theorem dX10_findGoes_44 : decode cX10_findGoes 44 = .ok (.iload_n 2, 1) := by decide +kernel
theorem dX10_findGoes_45 : decode cX10_findGoes 45 = .ok (.iastore, 1) := by decide +kernel
theorem dX10_findGoes_46 : decode cX10_findGoes 46 = .ok (.iinc 2 1, 3) := by decide +kernel
theorem dX10_findGoes_49 : decode cX10_findGoes 49 = .ok (.goto (-28), 3) := by decide +kernel
theorem dX10_findGoes_52 : decode cX10_findGoes 52 = .ok (.iinc 1 1, 3) := by decide +kernel
theorem dX10_findGoes_55 : decode cX10_findGoes 55 = .ok (.goto (-53), 3) := by decide +kernel
theorem dX10_findGoes_58 : decode cX10_findGoes 58 = .ok (.return_, 1) := by decide +kernel
theorem dX10_findFar_0 : decode cX10_findFar 0 = .ok (.aload_n 0, 1) := by decide +kernel
theorem dX10_findFar_1 : decode cX10_findFar 1 = .ok (.invokevirtual 183, 3) := by decide +kernel
theorem dX10_findFar_4 : decode cX10_findFar 4 = .ok (.iconst 0, 1) := by decide +kernel
theorem dX10_findFar_5 : decode cX10_findFar 5 = .ok (.istore_n 2, 1) := by decide +kernel
theorem dX10_findFar_6 : decode cX10_findFar 6 = .ok (.iload_n 2, 1) := by decide +kernel
theorem dX10_findFar_7 : decode cX10_findFar 7 = .ok (.bipush 16, 2) := by decide +kernel
theorem dX10_findFar_9 : decode cX10_findFar 9 = .ok (.if_icmp .ge 26, 3) := by decide +kernel
theorem dX10_findFar_12 : decode cX10_findFar 12 = .ok (.aload_n 0, 1) := by decide +kernel
theorem dX10_findFar_13 : decode cX10_findFar 13 = .ok (.getfield 52, 3) := by decide +kernel
theorem dX10_findFar_16 : decode cX10_findFar 16 = .ok (.iload_n 2, 1) := by decide +kernel
theorem dX10_findFar_17 : decode cX10_findFar 17 = .ok (.iload_n 2, 1) := by decide +kernel
theorem dX10_findFar_18 : decode cX10_findFar 18 = .ok (.iload_n 1, 1) := by decide +kernel
theorem dX10_findFar_19 : decode cX10_findFar 19 = .ok (.if_icmp .ne 7, 3) := by decide +kernel
theorem dX10_findFar_22 : decode cX10_findFar 22 = .ok (.iconst 0, 1) := by decide +kernel
theorem dX10_findFar_23 : decode cX10_findFar 23 = .ok (.goto 5, 3) := by decide +kernel
theorem dX10_findFar_26 : decode cX10_findFar 26 = .ok (.bipush (-4), 2) := by decide +kernel
theorem dX10_findFar_28 : decode cX10_findFar 28 = .ok (.iastore, 1) := by decide +kernel
theorem dX10_findFar_29 : decode cX10_findFar 29 = .ok (.iinc 2 1, 3) := by decide +kernel
theorem dX10_findFar_32 : decode cX10_findFar 32 = .ok (.goto (-26), 3) := by decide +kernel
theorem dX10_findFar_35 : decode cX10_findFar 35 = .ok (.iconst 1, 1) := by decide +kernel
theorem dX10_findFar_36 : decode cX10_findFar 36 = .ok (.istore_n 2, 1) := by decide +kernel
theorem dX10_findFar_37 : decode cX10_findFar 37 = .ok (.iload_n 2, 1) := by decide +kernel
theorem dX10_findFar_38 : decode cX10_findFar 38 = .ok (.bipush 16, 2) := by decide +kernel
theorem dX10_findFar_40 : decode cX10_findFar 40 = .ok (.if_icmp .ge 99, 3) := by decide +kernel
theorem dX10_findFar_43 : decode cX10_findFar 43 = .ok (.iconst 0, 1) := by decide +kernel
theorem dX10_findFar_44 : decode cX10_findFar 44 = .ok (.istore_n 3, 1) := by decide +kernel
theorem dX10_findFar_45 : decode cX10_findFar 45 = .ok (.iload_n 3, 1) := by decide +kernel
theorem dX10_findFar_46 : decode cX10_findFar 46 = .ok (.aload_n 0, 1) := by decide +kernel
theorem dX10_findFar_47 : decode cX10_findFar 47 = .ok (.getfield 74, 3) := by decide +kernel
theorem dX10_findFar_50 : decode cX10_findFar 50 = .ok (.if_icmp .ge 83, 3) := by decide +kernel
theorem dX10_findFar_53 : decode cX10_findFar 53 = .ok (.aload_n 0, 1) := by decide +kernel
theorem dX10_findFar_54 : decode cX10_findFar 54 = .ok (.getfield 52, 3) := by decide +kernel
theorem dX10_findFar_57 : decode cX10_findFar 57 = .ok (.aload_n 0, 1) := by decide +kernel
theorem dX10_findFar_58 : decode cX10_findFar 58 = .ok (.getfield 49, 3) := by decide +kernel
theorem dX10_findFar_61 : decode cX10_findFar 61 = .ok (.iload_n 3, 1) := by decide +kernel
theorem dX10_findFar_62 : decode cX10_findFar 62 = .ok (.iaload, 1) := by decide +kernel
theorem dX10_findFar_63 : decode cX10_findFar 63 = .ok (.iaload, 1) := by decide +kernel
theorem dX10_findFar_64 : decode cX10_findFar 64 = .ok (.iload_n 2, 1) := by decide +kernel
theorem dX10_findFar_65 : decode cX10_findFar 65 = .ok (.iconst 1, 1) := by decide +kernel
theorem dX10_findFar_66 : decode cX10_findFar 66 = .ok (.isub, 1) := by decide +kernel
theorem dX10_findFar_67 : decode cX10_findFar 67 = .ok (.if_icmp .eq 23, 3) := by decide +kernel
theorem dX10_findFar_70 : decode cX10_findFar 70 = .ok (.aload_n 0, 1) := by decide +kernel
theorem dX10_findFar_71 : decode cX10_findFar 71 = .ok (.getfield 52, 3) := by decide +kernel
theorem dX10_findFar_74 : decode cX10_findFar 74 = .ok (.aload_n 0, 1) := by decide +kernel
theorem dX10_findFar_75 : decode cX10_findFar 75 = .ok (.getfield 49, 3) := by decide +kernel
theorem dX10_findFar_78 : decode cX10_findFar 78 = .ok (.bipush 16, 2) := by decide +kernel
theorem dX10_findFar_80 : decode cX10_findFar 80 = .ok (.iload_n 3, 1) := by decide +kernel
theorem dX10_findFar_81 : decode cX10_findFar 81 = .ok (.iadd, 1) := by decide +kernel
theorem dX10_findFar_82 : decode cX10_findFar 82 = .ok (.iaload, 1) := by decide +kernel
theorem dX10_findFar_83 : decode cX10_findFar 83 = .ok (.iaload, 1) := by decide +kernel
theorem dX10_findFar_84 : decode cX10_findFar 84 = .ok (.iload_n 2, 1) := by decide +kernel
theorem dX10_findFar_85 : decode cX10_findFar 85 = .ok (.iconst 1, 1) := by decide +kernel
theorem dX10_findFar_86 : decode cX10_findFar 86 = .ok (.isub, 1) := by decide +kernel
theorem dX10_findFar_87 : decode cX10_findFar 87 = .ok (.if_icmp .ne 7, 3) := by decide +kernel
theorem dX10_findFar_90 : decode cX10_findFar 90 = .ok (.iconst 1, 1) := by decide +kernel
theorem dX10_findFar_91 : decode cX10_findFar 91 = .ok (.goto 4, 3) := by decide +kernel
theorem dX10_findFar_94 : decode cX10_findFar 94 = .ok (.iconst 0, 1) := by decide +kernel
theorem dX10_findFar_95 : decode cX10_findFar 95 = .ok (.istore 4, 2) := by decide +kernel
theorem dX10_findFar_97 : decode cX10_findFar 97 = .ok (.aload_n 0, 1) := by decide +kernel
theorem dX10_findFar_98 : decode cX10_findFar 98 = .ok (.getfield 52, 3) := by decide +kernel
theorem dX10_findFar_101 : decode cX10_findFar 101 = .ok (.iload_n 3, 1) := by decide +kernel
theorem dX10_findFar_102 : decode cX10_findFar 102 = .ok (.aload_n 0, 1) := by decide +kernel
theorem dX10_findFar_103 : decode cX10_findFar 103 = .ok (.getfield 52, 3) := by decide +kernel
theorem dX10_findFar_106 : decode cX10_findFar 106 = .ok (.iload_n 3, 1) := by decide +kernel
theorem dX10_findFar_107 : decode cX10_findFar 107 = .ok (.iaload, 1) := by decide +kernel
theorem dX10_findFar_108 : decode cX10_findFar 108 = .ok (.ifCond .ge 12, 3) := by decide +kernel
theorem dX10_findFar_111 : decode cX10_findFar 111 = .ok (.iload 4, 2) := by decide +kernel
theorem dX10_findFar_113 : decode cX10_findFar 113 = .ok (.ifCond .eq 7, 3) := by decide +kernel
theorem dX10_findFar_116 : decode cX10_findFar 116 = .ok (.iload_n 2, 1) := by decide +kernel
theorem dX10_findFar_117 : decode cX10_findFar 117 = .ok (.goto 9, 3) := by decide +kernel
theorem dX10_findFar_120 : decode cX10_findFar 120 = .ok (.aload_n 0, 1) := by decide +kernel
theorem dX10_findFar_121 : decode cX10_findFar 121 = .ok (.getfield 52, 3) := by decide +kernel
theorem dX10_findFar_124 : decode cX10_findFar 124 = .ok (.iload_n 3, 1) := by decide +kernel
theorem dX10_findFar_125 : decode cX10_findFar 125 = .ok (.iaload, 1) := by decide +kernel
theorem dX10_findFar_126 : decode cX10_findFar 126 = .ok (.iastore, 1) := by decide +kernel
theorem dX10_findFar_127 : decode cX10_findFar 127 = .ok (.iinc 3 1, 3) := by decide +kernel
theorem dX10_findFar_130 : decode cX10_findFar 130 = .ok (.goto (-85), 3) := by decide +kernel
theorem dX10_findFar_133 : decode cX10_findFar 133 = .ok (.iinc 2 1, 3) := by decide +kernel
theorem dX10_findFar_136 : decode cX10_findFar 136 = .ok (.goto (-99), 3) := by decide +kernel
theorem dX10_findFar_139 : decode cX10_findFar 139 = .ok (.return_, 1) := by decide +kernel
theorem dX10_bring_0 : decode cX10_bring 0 = .ok (.aload_n 0, 1) := by decide +kernel
theorem dX10_bring_1 : decode cX10_bring 1 = .ok (.iload_n 1, 1) := by decide +kernel
theorem dX10_bring_2 : decode cX10_bring 2 = .ok (.invokevirtual 159, 3) := by decide +kernel
theorem dX10_bring_5 : decode cX10_bring 5 = .ok (.ifCond .eq 16, 3) := by decide +kernel
theorem dX10_bring_8 : decode cX10_bring 8 = .ok (.aload_n 0, 1) := by decide +kernel
theorem dX10_bring_9 : decode cX10_bring 9 = .ok (.iload_n 2, 1) := by decide +kernel
theorem dX10_bring_10 : decode cX10_bring 10 = .ok (.invokevirtual 159, 3) := by decide +kernel
theorem dX10_bring_13 : decode cX10_bring 13 = .ok (.ifCond .eq 8, 3) := by decide +kernel
theorem dX10_bring_16 : decode cX10_bring 16 = .ok (.iload_n 3, 1) := by decide +kernel
theorem dX10_bring_17 : decode cX10_bring 17 = .ok (.iconst (-1), 1) := by decide +kernel
theorem dX10_bring_18 : decode cX10_bring 18 = .ok (.if_icmp .ge 5, 3) := by decide +kernel
theorem dX10_bring_21 : decode cX10_bring 21 = .ok (.iconst (-1), 1) := by decide +kernel
theorem dX10_bring_22 : decode cX10_bring 22 = .ok (.ireturn, 1) := by decide +kernel
theorem dX10_bring_23 : decode cX10_bring 23 = .ok (.aload_n 0, 1) := by decide +kernel
theorem dX10_bring_24 : decode cX10_bring 24 = .ok (.iload_n 2, 1) := by decide +kernel
theorem dX10_bring_25 : decode cX10_bring 25 = .ok (.invokevirtual 186, 3) := by decide +kernel
theorem dX10_bring_28 : decode cX10_bring 28 = .ok (.aload_n 0, 1) := by decide +kernel
theorem dX10_bring_29 : decode cX10_bring 29 = .ok (.invokevirtual 162, 3) := by decide +kernel
theorem dX10_bring_32 : decode cX10_bring 32 = .ok (.aload_n 0, 1) := by decide +kernel
theorem dX10_bring_33 : decode cX10_bring 33 = .ok (.iload_n 1, 1) := by decide +kernel
theorem dX10_bring_34 : decode cX10_bring 34 = .ok (.invokevirtual 165, 3) := by decide +kernel
theorem dX10_bring_37 : decode cX10_bring 37 = .ok (.istore 4, 2) := by decide +kernel
theorem dX10_bring_39 : decode cX10_bring 39 = .ok (.aload_n 0, 1) := by decide +kernel
theorem dX10_bring_40 : decode cX10_bring 40 = .ok (.getfield 52, 3) := by decide +kernel
theorem dX10_bring_43 : decode cX10_bring 43 = .ok (.iload 4, 2) := by decide +kernel
theorem dX10_bring_45 : decode cX10_bring 45 = .ok (.iaload, 1) := by decide +kernel
theorem dX10_bring_46 : decode cX10_bring 46 = .ok (.istore 5, 2) := by decide +kernel
theorem dX10_bring_48 : decode cX10_bring 48 = .ok (.iload 5, 2) := by decide +kernel
theorem dX10_bring_50 : decode cX10_bring 50 = .ok (.ifCond .lt 7, 3) := by decide +kernel
theorem dX10_bring_53 : decode cX10_bring 53 = .ok (.iload_n 3, 1) := by decide +kernel
theorem dX10_bring_54 : decode cX10_bring 54 = .ok (.ifCond .ge 6, 3) := by decide +kernel
theorem dX10_bring_57 : decode cX10_bring 57 = .ok (.iload 5, 2) := by decide +kernel
theorem dX10_bring_59 : decode cX10_bring 59 = .ok (.ireturn, 1) := by decide +kernel
theorem dX10_bring_60 : decode cX10_bring 60 = .ok (.iconst 0, 1) := by decide +kernel
theorem dX10_bring_61 : decode cX10_bring 61 = .ok (.istore 6, 2) := by decide +kernel
theorem dX10_bring_63 : decode cX10_bring 63 = .ok (.iload 6, 2) := by decide +kernel
theorem dX10_bring_65 : decode cX10_bring 65 = .ok (.iload 5, 2) := by decide +kernel
theorem dX10_bring_67 : decode cX10_bring 67 = .ok (.if_icmp .ge 62, 3) := by decide +kernel
theorem dX10_bring_70 : decode cX10_bring 70 = .ok (.aload_n 0, 1) := by decide +kernel
theorem dX10_bring_71 : decode cX10_bring 71 = .ok (.getfield 52, 3) := by decide +kernel
theorem dX10_bring_74 : decode cX10_bring 74 = .ok (.aload_n 0, 1) := by decide +kernel
theorem dX10_bring_75 : decode cX10_bring 75 = .ok (.getfield 49, 3) := by decide +kernel
theorem dX10_bring_78 : decode cX10_bring 78 = .ok (.iload 4, 2) := by decide +kernel
theorem dX10_bring_80 : decode cX10_bring 80 = .ok (.iaload, 1) := by decide +kernel
theorem dX10_bring_81 : decode cX10_bring 81 = .ok (.iaload, 1) := by decide +kernel
theorem dX10_bring_82 : decode cX10_bring 82 = .ok (.iload 5, 2) := by decide +kernel
theorem dX10_bring_84 : decode cX10_bring 84 = .ok (.iconst 1, 1) := by decide +kernel
theorem dX10_bring_85 : decode cX10_bring 85 = .ok (.isub, 1) := by decide +kernel
theorem dX10_bring_86 : decode cX10_bring 86 = .ok (.iload 6, 2) := by decide +kernel
theorem dX10_bring_88 : decode cX10_bring 88 = .ok (.isub, 1) := by decide +kernel
theorem dX10_bring_89 : decode cX10_bring 89 = .ok (.if_icmp .ne 7, 3) := by decide +kernel
theorem dX10_bring_92 : decode cX10_bring 92 = .ok (.iconst 0, 1) := by decide +kernel
theorem dX10_bring_93 : decode cX10_bring 93 = .ok (.goto 4, 3) := by decide +kernel
theorem dX10_bring_96 : decode cX10_bring 96 = .ok (.iconst 1, 1) := by decide +kernel
theorem dX10_bring_97 : decode cX10_bring 97 = .ok (.istore 7, 2) := by decide +kernel
theorem dX10_bring_99 : decode cX10_bring 99 = .ok (.iload 6, 2) := by decide +kernel
theorem dX10_bring_101 : decode cX10_bring 101 = .ok (.iload_n 3, 1) := by decide +kernel
theorem dX10_bring_102 : decode cX10_bring 102 = .ok (.if_icmp .ne 6, 3) := by decide +kernel
theorem dX10_bring_105 : decode cX10_bring 105 = .ok (.iload 7, 2) := by decide +kernel
theorem dX10_bring_107 : decode cX10_bring 107 = .ok (.ireturn, 1) := by decide +kernel
theorem dX10_bring_108 : decode cX10_bring 108 = .ok (.aload_n 0, 1) := by decide +kernel
theorem dX10_bring_109 : decode cX10_bring 109 = .ok (.getfield 49, 3) := by decide +kernel
theorem dX10_bring_112 : decode cX10_bring 112 = .ok (.bipush 16, 2) := by decide +kernel
theorem dX10_bring_114 : decode cX10_bring 114 = .ok (.iload 7, 2) := by decide +kernel
theorem dX10_bring_116 : decode cX10_bring 116 = .ok (.imul, 1) := by decide +kernel
theorem dX10_bring_117 : decode cX10_bring 117 = .ok (.iload 4, 2) := by decide +kernel
theorem dX10_bring_119 : decode cX10_bring 119 = .ok (.iadd, 1) := by decide +kernel
theorem dX10_bring_120 : decode cX10_bring 120 = .ok (.iaload, 1) := by decide +kernel
theorem dX10_bring_121 : decode cX10_bring 121 = .ok (.istore 4, 2) := by decide +kernel
theorem dX10_bring_123 : decode cX10_bring 123 = .ok (.iinc 6 1, 3) := by decide +kernel
theorem dX10_bring_126 : decode cX10_bring 126 = .ok (.goto (-63), 3) := by decide +kernel
theorem dX10_bring_129 : decode cX10_bring 129 = .ok (.bipush (-4), 2) := by decide +kernel
theorem dX10_bring_131 : decode cX10_bring 131 = .ok (.ireturn, 1) := by decide +kernel
theorem dX10_beside_0 : decode cX10_beside 0 = .ok (.aload_n 0, 1) := by decide +kernel
theorem dX10_beside_1 : decode cX10_beside 1 = .ok (.iload_n 1, 1) := by decide +kernel
theorem dX10_beside_2 : decode cX10_beside 2 = .ok (.invokevirtual 159, 3) := by decide +kernel
theorem dX10_beside_5 : decode cX10_beside 5 = .ok (.ifCond .eq 16, 3) := by decide +kernel
theorem dX10_beside_8 : decode cX10_beside 8 = .ok (.aload_n 0, 1) := by decide +kernel
theorem dX10_beside_9 : decode cX10_beside 9 = .ok (.iload_n 2, 1) := by decide +kernel
theorem dX10_beside_10 : decode cX10_beside 10 = .ok (.invokevirtual 159, 3) := by decide +kernel
theorem dX10_beside_13 : decode cX10_beside 13 = .ok (.ifCond .eq 8, 3) := by decide +kernel
theorem dX10_beside_16 : decode cX10_beside 16 = .ok (.iload_n 1, 1) := by decide +kernel
theorem dX10_beside_17 : decode cX10_beside 17 = .ok (.iload_n 2, 1) := by decide +kernel
theorem dX10_beside_18 : decode cX10_beside 18 = .ok (.if_icmp .ne 5, 3) := by decide +kernel
theorem dX10_beside_21 : decode cX10_beside 21 = .ok (.iconst (-1), 1) := by decide +kernel
theorem dX10_beside_22 : decode cX10_beside 22 = .ok (.ireturn, 1) := by decide +kernel
theorem dX10_beside_23 : decode cX10_beside 23 = .ok (.aload_n 0, 1) := by decide +kernel
theorem dX10_beside_24 : decode cX10_beside 24 = .ok (.invokevirtual 183, 3) := by decide +kernel
theorem dX10_beside_27 : decode cX10_beside 27 = .ok (.aload_n 0, 1) := by decide +kernel
theorem dX10_beside_28 : decode cX10_beside 28 = .ok (.invokevirtual 162, 3) := by decide +kernel
theorem dX10_beside_31 : decode cX10_beside 31 = .ok (.aload_n 0, 1) := by decide +kernel
theorem dX10_beside_32 : decode cX10_beside 32 = .ok (.iload_n 1, 1) := by decide +kernel
theorem dX10_beside_33 : decode cX10_beside 33 = .ok (.invokevirtual 165, 3) := by decide +kernel
theorem dX10_beside_36 : decode cX10_beside 36 = .ok (.istore_n 3, 1) := by decide +kernel
theorem dX10_beside_37 : decode cX10_beside 37 = .ok (.aload_n 0, 1) := by decide +kernel
theorem dX10_beside_38 : decode cX10_beside 38 = .ok (.iload_n 2, 1) := by decide +kernel
theorem dX10_beside_39 : decode cX10_beside 39 = .ok (.invokevirtual 165, 3) := by decide +kernel
theorem dX10_beside_42 : decode cX10_beside 42 = .ok (.istore 4, 2) := by decide +kernel
theorem dX10_beside_44 : decode cX10_beside 44 = .ok (.iconst 0, 1) := by decide +kernel
theorem dX10_beside_45 : decode cX10_beside 45 = .ok (.istore 5, 2) := by decide +kernel
theorem dX10_beside_47 : decode cX10_beside 47 = .ok (.iload 5, 2) := by decide +kernel
theorem dX10_beside_49 : decode cX10_beside 49 = .ok (.bipush 8, 2) := by decide +kernel
theorem dX10_beside_51 : decode cX10_beside 51 = .ok (.if_icmp .gt 110, 3) := by decide +kernel
theorem dX10_beside_54 : decode cX10_beside 54 = .ok (.iconst 0, 1) := by decide +kernel
theorem dX10_beside_55 : decode cX10_beside 55 = .ok (.istore 6, 2) := by decide +kernel
theorem dX10_beside_57 : decode cX10_beside 57 = .ok (.iload 6, 2) := by decide +kernel
theorem dX10_beside_59 : decode cX10_beside 59 = .ok (.iconst 1, 1) := by decide +kernel
theorem dX10_beside_60 : decode cX10_beside 60 = .ok (.iload 5, 2) := by decide +kernel
theorem dX10_beside_62 : decode cX10_beside 62 = .ok (.ishl, 1) := by decide +kernel
theorem dX10_beside_63 : decode cX10_beside 63 = .ok (.if_icmp .ge 92, 3) := by decide +kernel
theorem dX10_beside_66 : decode cX10_beside 66 = .ok (.iload_n 3, 1) := by decide +kernel
theorem dX10_beside_67 : decode cX10_beside 67 = .ok (.istore 7, 2) := by decide +kernel
theorem dX10_beside_69 : decode cX10_beside 69 = .ok (.iload 4, 2) := by decide +kernel
theorem dX10_beside_71 : decode cX10_beside 71 = .ok (.istore 8, 2) := by decide +kernel
theorem dX10_beside_73 : decode cX10_beside 73 = .ok (.iconst 0, 1) := by decide +kernel
theorem dX10_beside_74 : decode cX10_beside 74 = .ok (.istore 9, 2) := by decide +kernel
theorem dX10_beside_76 : decode cX10_beside 76 = .ok (.iload 9, 2) := by decide +kernel
theorem dX10_beside_78 : decode cX10_beside 78 = .ok (.iload 5, 2) := by decide +kernel
theorem dX10_beside_80 : decode cX10_beside 80 = .ok (.if_icmp .ge 48, 3) := by decide +kernel
theorem dX10_beside_83 : decode cX10_beside 83 = .ok (.iload 6, 2) := by decide +kernel
theorem dX10_beside_85 : decode cX10_beside 85 = .ok (.iload 9, 2) := by decide +kernel
theorem dX10_beside_87 : decode cX10_beside 87 = .ok (.ishr, 1) := by decide +kernel
theorem dX10_beside_88 : decode cX10_beside 88 = .ok (.iconst 1, 1) := by decide +kernel
theorem dX10_beside_89 : decode cX10_beside 89 = .ok (.iand, 1) := by decide +kernel
theorem dX10_beside_90 : decode cX10_beside 90 = .ok (.istore 10, 2) := by decide +kernel
theorem dX10_beside_92 : decode cX10_beside 92 = .ok (.aload_n 0, 1) := by decide +kernel
theorem dX10_beside_93 : decode cX10_beside 93 = .ok (.getfield 49, 3) := by decide +kernel
theorem dX10_beside_96 : decode cX10_beside 96 = .ok (.bipush 16, 2) := by decide +kernel
theorem dX10_beside_98 : decode cX10_beside 98 = .ok (.iload 10, 2) := by decide +kernel
theorem dX10_beside_100 : decode cX10_beside 100 = .ok (.imul, 1) := by decide +kernel
theorem dX10_beside_101 : decode cX10_beside 101 = .ok (.iload 7, 2) := by decide +kernel
theorem dX10_beside_103 : decode cX10_beside 103 = .ok (.iadd, 1) := by decide +kernel
theorem dX10_beside_104 : decode cX10_beside 104 = .ok (.iaload, 1) := by decide +kernel
theorem dX10_beside_105 : decode cX10_beside 105 = .ok (.istore 7, 2) := by decide +kernel
theorem dX10_beside_107 : decode cX10_beside 107 = .ok (.aload_n 0, 1) := by decide +kernel
theorem dX10_beside_108 : decode cX10_beside 108 = .ok (.getfield 49, 3) := by decide +kernel
theorem dX10_beside_111 : decode cX10_beside 111 = .ok (.bipush 16, 2) := by decide +kernel
theorem dX10_beside_113 : decode cX10_beside 113 = .ok (.iload 10, 2) := by decide +kernel
theorem dX10_beside_115 : decode cX10_beside 115 = .ok (.imul, 1) := by decide +kernel
theorem dX10_beside_116 : decode cX10_beside 116 = .ok (.iload 8, 2) := by decide +kernel
theorem dX10_beside_118 : decode cX10_beside 118 = .ok (.iadd, 1) := by decide +kernel
theorem dX10_beside_119 : decode cX10_beside 119 = .ok (.iaload, 1) := by decide +kernel
theorem dX10_beside_120 : decode cX10_beside 120 = .ok (.istore 8, 2) := by decide +kernel
theorem dX10_beside_122 : decode cX10_beside 122 = .ok (.iinc 9 1, 3) := by decide +kernel
theorem dX10_beside_125 : decode cX10_beside 125 = .ok (.goto (-49), 3) := by decide +kernel
theorem dX10_beside_128 : decode cX10_beside 128 = .ok (.iload 7, 2) := by decide +kernel
theorem dX10_beside_130 : decode cX10_beside 130 = .ok (.iload 8, 2) := by decide +kernel
theorem dX10_beside_132 : decode cX10_beside 132 = .ok (.isub, 1) := by decide +kernel
theorem dX10_beside_133 : decode cX10_beside 133 = .ok (.iconst 1, 1) := by decide +kernel
theorem dX10_beside_134 : decode cX10_beside 134 = .ok (.if_icmp .eq 12, 3) := by decide +kernel
theorem dX10_beside_137 : decode cX10_beside 137 = .ok (.iload 8, 2) := by decide +kernel
theorem dX10_beside_139 : decode cX10_beside 139 = .ok (.iload 7, 2) := by decide +kernel
theorem dX10_beside_141 : decode cX10_beside 141 = .ok (.isub, 1) := by decide +kernel
theorem dX10_beside_142 : decode cX10_beside 142 = .ok (.iconst 1, 1) := by decide +kernel
theorem dX10_beside_143 : decode cX10_beside 143 = .ok (.if_icmp .ne 6, 3) := by decide +kernel
theorem dX10_beside_146 : decode cX10_beside 146 = .ok (.iload 5, 2) := by decide +kernel
theorem dX10_beside_148 : decode cX10_beside 148 = .ok (.ireturn, 1) := by decide +kernel
theorem dX10_beside_149 : decode cX10_beside 149 = .ok (.iinc 6 1, 3) := by decide +kernel
theorem dX10_beside_152 : decode cX10_beside 152 = .ok (.goto (-95), 3) := by decide +kernel
theorem dX10_beside_155 : decode cX10_beside 155 = .ok (.iinc 5 1, 3) := by decide +kernel
theorem dX10_beside_158 : decode cX10_beside 158 = .ok (.goto (-111), 3) := by decide +kernel
theorem dX10_beside_161 : decode cX10_beside 161 = .ok (.bipush (-4), 2) := by decide +kernel
theorem dX10_beside_163 : decode cX10_beside 163 = .ok (.ireturn, 1) := by decide +kernel
theorem dX10_isMet_0 : decode cX10_isMet 0 = .ok (.iconst 0, 1) := by decide +kernel
theorem dX10_isMet_1 : decode cX10_isMet 1 = .ok (.istore_n 1, 1) := by decide +kernel
theorem dX10_isMet_2 : decode cX10_isMet 2 = .ok (.iconst 0, 1) := by decide +kernel
theorem dX10_isMet_3 : decode cX10_isMet 3 = .ok (.istore_n 2, 1) := by decide +kernel
theorem dX10_isMet_4 : decode cX10_isMet 4 = .ok (.iload_n 2, 1) := by decide +kernel
theorem dX10_isMet_5 : decode cX10_isMet 5 = .ok (.aload_n 0, 1) := by decide +kernel
theorem dX10_isMet_6 : decode cX10_isMet 6 = .ok (.getfield 189, 3) := by decide +kernel
theorem dX10_isMet_9 : decode cX10_isMet 9 = .ok (.if_icmp .ge 75, 3) := by decide +kernel
theorem dX10_isMet_12 : decode cX10_isMet 12 = .ok (.iconst 1, 1) := by decide +kernel
theorem dX10_isMet_13 : decode cX10_isMet 13 = .ok (.istore_n 3, 1) := by decide +kernel
theorem dX10_isMet_14 : decode cX10_isMet 14 = .ok (.iconst 0, 1) := by decide +kernel
theorem dX10_isMet_15 : decode cX10_isMet 15 = .ok (.istore 4, 2) := by decide +kernel
theorem dX10_isMet_17 : decode cX10_isMet 17 = .ok (.iload 4, 2) := by decide +kernel
theorem dX10_isMet_19 : decode cX10_isMet 19 = .ok (.aload_n 0, 1) := by decide +kernel
theorem dX10_isMet_20 : decode cX10_isMet 20 = .ok (.getfield 74, 3) := by decide +kernel
theorem dX10_isMet_23 : decode cX10_isMet 23 = .ok (.if_icmp .ge 41, 3) := by decide +kernel
theorem dX10_isMet_26 : decode cX10_isMet 26 = .ok (.iload_n 3, 1) := by decide +kernel
theorem dX10_isMet_27 : decode cX10_isMet 27 = .ok (.ifCond .eq 29, 3) := by decide +kernel
theorem dX10_isMet_30 : decode cX10_isMet 30 = .ok (.aload_n 0, 1) := by decide +kernel
theorem dX10_isMet_31 : decode cX10_isMet 31 = .ok (.getfield 55, 3) := by decide +kernel
theorem dX10_isMet_34 : decode cX10_isMet 34 = .ok (.bipush 16, 2) := by decide +kernel
theorem dX10_isMet_36 : decode cX10_isMet 36 = .ok (.iload_n 2, 1) := by decide +kernel
theorem dX10_isMet_37 : decode cX10_isMet 37 = .ok (.imul, 1) := by decide +kernel
theorem dX10_isMet_38 : decode cX10_isMet 38 = .ok (.iload 4, 2) := by decide +kernel
theorem dX10_isMet_40 : decode cX10_isMet 40 = .ok (.iadd, 1) := by decide +kernel
theorem dX10_isMet_41 : decode cX10_isMet 41 = .ok (.iaload, 1) := by decide +kernel
theorem dX10_isMet_42 : decode cX10_isMet 42 = .ok (.aload_n 0, 1) := by decide +kernel
theorem dX10_isMet_43 : decode cX10_isMet 43 = .ok (.getfield 40, 3) := by decide +kernel
theorem dX10_isMet_46 : decode cX10_isMet 46 = .ok (.iload 4, 2) := by decide +kernel
theorem dX10_isMet_48 : decode cX10_isMet 48 = .ok (.iaload, 1) := by decide +kernel
theorem dX10_isMet_49 : decode cX10_isMet 49 = .ok (.if_icmp .ne 7, 3) := by decide +kernel
theorem dX10_isMet_52 : decode cX10_isMet 52 = .ok (.iconst 1, 1) := by decide +kernel
theorem dX10_isMet_53 : decode cX10_isMet 53 = .ok (.goto 4, 3) := by decide +kernel
theorem dX10_isMet_56 : decode cX10_isMet 56 = .ok (.iconst 0, 1) := by decide +kernel
theorem dX10_isMet_57 : decode cX10_isMet 57 = .ok (.istore_n 3, 1) := by decide +kernel
theorem dX10_isMet_58 : decode cX10_isMet 58 = .ok (.iinc 4 1, 3) := by decide +kernel
theorem dX10_isMet_61 : decode cX10_isMet 61 = .ok (.goto (-44), 3) := by decide +kernel
theorem dX10_isMet_64 : decode cX10_isMet 64 = .ok (.iload_n 1, 1) := by decide +kernel
theorem dX10_isMet_65 : decode cX10_isMet 65 = .ok (.ifCond .ne 7, 3) := by decide +kernel
theorem dX10_isMet_68 : decode cX10_isMet 68 = .ok (.iload_n 3, 1) := by decide +kernel
theorem dX10_isMet_69 : decode cX10_isMet 69 = .ok (.ifCond .eq 7, 3) := by decide +kernel
theorem dX10_isMet_72 : decode cX10_isMet 72 = .ok (.iconst 1, 1) := by decide +kernel
theorem dX10_isMet_73 : decode cX10_isMet 73 = .ok (.goto 4, 3) := by decide +kernel
theorem dX10_isMet_76 : decode cX10_isMet 76 = .ok (.iconst 0, 1) := by decide +kernel
theorem dX10_isMet_77 : decode cX10_isMet 77 = .ok (.istore_n 1, 1) := by decide +kernel
theorem dX10_isMet_78 : decode cX10_isMet 78 = .ok (.iinc 2 1, 3) := by decide +kernel
theorem dX10_isMet_81 : decode cX10_isMet 81 = .ok (.goto (-77), 3) := by decide +kernel
theorem dX10_isMet_84 : decode cX10_isMet 84 = .ok (.iload_n 1, 1) := by decide +kernel
theorem dX10_isMet_85 : decode cX10_isMet 85 = .ok (.ireturn, 1) := by decide +kernel
theorem dX10_orders_0 : decode cX10_orders 0 = .ok (.iload_n 1, 1) := by decide +kernel
theorem dX10_orders_1 : decode cX10_orders 1 = .ok (.iconst 0, 1) := by decide +kernel
theorem dX10_orders_2 : decode cX10_orders 2 = .ok (.bipush 6, 2) := by decide +kernel
theorem dX10_orders_4 : decode cX10_orders 4 = .ok (.invokestatic 77, 3) := by decide +kernel
theorem dX10_orders_7 : decode cX10_orders 7 = .ok (.ifCond .ne 5, 3) := by decide +kernel
theorem dX10_orders_10 : decode cX10_orders 10 = .ok (.iconst (-1), 1) := by decide +kernel
theorem dX10_orders_11 : decode cX10_orders 11 = .ok (.ireturn, 1) := by decide +kernel
theorem dX10_orders_12 : decode cX10_orders 12 = .ok (.aload_n 0, 1) := by decide +kernel
theorem dX10_orders_13 : decode cX10_orders 13 = .ok (.iconst 0, 1) := by decide +kernel
theorem dX10_orders_14 : decode cX10_orders 14 = .ok (.putfield 189, 3) := by decide +kernel
theorem dX10_orders_17 : decode cX10_orders 17 = .ok (.iconst 0, 1) := by decide +kernel
theorem dX10_orders_18 : decode cX10_orders 18 = .ok (.istore_n 2, 1) := by decide +kernel
theorem dX10_orders_19 : decode cX10_orders 19 = .ok (.iload_n 2, 1) := by decide +kernel
theorem dX10_orders_20 : decode cX10_orders 20 = .ok (.iload_n 1, 1) := by decide +kernel
theorem dX10_orders_21 : decode cX10_orders 21 = .ok (.if_icmp .gt 94, 3) := by decide +kernel
theorem dX10_orders_24 : decode cX10_orders 24 = .ok (.iconst 0, 1) := by decide +kernel
theorem dX10_orders_25 : decode cX10_orders 25 = .ok (.istore_n 3, 1) := by decide +kernel
theorem dX10_orders_26 : decode cX10_orders 26 = .ok (.iload_n 3, 1) := by decide +kernel
theorem dX10_orders_27 : decode cX10_orders 27 = .ok (.iconst 1, 1) := by decide +kernel
theorem dX10_orders_28 : decode cX10_orders 28 = .ok (.iload_n 2, 1) := by decide +kernel
theorem dX10_orders_29 : decode cX10_orders 29 = .ok (.ishl, 1) := by decide +kernel
theorem dX10_orders_30 : decode cX10_orders 30 = .ok (.if_icmp .ge 79, 3) := by decide +kernel
theorem dX10_orders_33 : decode cX10_orders 33 = .ok (.aload_n 0, 1) := by decide +kernel
theorem dX10_orders_34 : decode cX10_orders 34 = .ok (.getfield 40, 3) := by decide +kernel
theorem dX10_orders_37 : decode cX10_orders 37 = .ok (.invokestatic 130, 3) := by decide +kernel
theorem dX10_orders_40 : decode cX10_orders 40 = .ok (.iconst 0, 1) := by decide +kernel
theorem dX10_orders_41 : decode cX10_orders 41 = .ok (.istore 4, 2) := by decide +kernel
theorem dX10_orders_43 : decode cX10_orders 43 = .ok (.iload 4, 2) := by decide +kernel
theorem dX10_orders_45 : decode cX10_orders 45 = .ok (.iload_n 2, 1) := by decide +kernel
theorem dX10_orders_46 : decode cX10_orders 46 = .ok (.if_icmp .ge 19, 3) := by decide +kernel
theorem dX10_orders_49 : decode cX10_orders 49 = .ok (.aload_n 0, 1) := by decide +kernel
theorem dX10_orders_50 : decode cX10_orders 50 = .ok (.iload_n 3, 1) := by decide +kernel
theorem dX10_orders_51 : decode cX10_orders 51 = .ok (.iload 4, 2) := by decide +kernel
theorem dX10_orders_53 : decode cX10_orders 53 = .ok (.ishr, 1) := by decide +kernel
theorem dX10_orders_54 : decode cX10_orders 54 = .ok (.iconst 1, 1) := by decide +kernel
theorem dX10_orders_55 : decode cX10_orders 55 = .ok (.iand, 1) := by decide +kernel
theorem dX10_orders_56 : decode cX10_orders 56 = .ok (.invokevirtual 157, 3) := by decide +kernel
theorem dX10_orders_59 : decode cX10_orders 59 = .ok (.iinc 4 1, 3) := by decide +kernel
theorem dX10_orders_62 : decode cX10_orders 62 = .ok (.goto (-19), 3) := by decide +kernel
theorem dX10_orders_65 : decode cX10_orders 65 = .ok (.aload_n 0, 1) := by decide +kernel
theorem dX10_orders_66 : decode cX10_orders 66 = .ok (.invokevirtual 192, 3) := by decide +kernel
theorem dX10_orders_69 : decode cX10_orders 69 = .ok (.ifCond .ne 34, 3) := by decide +kernel
theorem dX10_orders_72 : decode cX10_orders 72 = .ok (.aload_n 0, 1) := by decide +kernel
theorem dX10_orders_73 : decode cX10_orders 73 = .ok (.getfield 55, 3) := by decide +kernel
theorem dX10_orders_76 : decode cX10_orders 76 = .ok (.bipush 16, 2) := by decide +kernel
theorem dX10_orders_78 : decode cX10_orders 78 = .ok (.aload_n 0, 1) := by decide +kernel
theorem dX10_orders_79 : decode cX10_orders 79 = .ok (.getfield 189, 3) := by decide +kernel
theorem dX10_orders_82 : decode cX10_orders 82 = .ok (.imul, 1) := by decide +kernel
theorem dX10_orders_83 : decode cX10_orders 83 = .ok (.aload_n 0, 1) := by decide +kernel
theorem dX10_orders_84 : decode cX10_orders 84 = .ok (.getfield 40, 3) := by decide +kernel
theorem dX10_orders_87 : decode cX10_orders 87 = .ok (.iconst 0, 1) := by decide +kernel
theorem dX10_orders_88 : decode cX10_orders 88 = .ok (.bipush 16, 2) := by decide +kernel
theorem dX10_orders_90 : decode cX10_orders 90 = .ok (.invokestatic 123, 3) := by decide +kernel
theorem dX10_orders_93 : decode cX10_orders 93 = .ok (.aload_n 0, 1) := by decide +kernel
theorem dX10_orders_94 : decode cX10_orders 94 = .ok (.dup, 1) := by decide +kernel
theorem dX10_orders_95 : decode cX10_orders 95 = .ok (.getfield 189, 3) := by decide +kernel
theorem dX10_orders_98 : decode cX10_orders 98 = .ok (.iconst 1, 1) := by decide +kernel
theorem dX10_orders_99 : decode cX10_orders 99 = .ok (.iadd, 1) := by decide +kernel
theorem dX10_orders_100 : decode cX10_orders 100 = .ok (.putfield 189, 3) := by decide +kernel
theorem dX10_orders_103 : decode cX10_orders 103 = .ok (.iinc 3 1, 3) := by decide +kernel
theorem dX10_orders_106 : decode cX10_orders 106 = .ok (.goto (-80), 3) := by decide +kernel
theorem dX10_orders_109 : decode cX10_orders 109 = .ok (.iinc 2 1, 3) := by decide +kernel
theorem dX10_orders_112 : decode cX10_orders 112 = .ok (.goto (-93), 3) := by decide +kernel
theorem dX10_orders_115 : decode cX10_orders 115 = .ok (.aload_n 0, 1) := by decide +kernel
theorem dX10_orders_116 : decode cX10_orders 116 = .ok (.getfield 189, 3) := by decide +kernel
theorem dX10_orders_119 : decode cX10_orders 119 = .ok (.ireturn, 1) := by decide +kernel
theorem dX10_risingNow_0 : decode cX10_risingNow 0 = .ok (.iconst 1, 1) := by decide +kernel
theorem dX10_risingNow_1 : decode cX10_risingNow 1 = .ok (.istore_n 1, 1) := by decide +kernel
theorem dX10_risingNow_2 : decode cX10_risingNow 2 = .ok (.iconst 0, 1) := by decide +kernel
theorem dX10_risingNow_3 : decode cX10_risingNow 3 = .ok (.istore_n 2, 1) := by decide +kernel
theorem dX10_risingNow_4 : decode cX10_risingNow 4 = .ok (.iload_n 2, 1) := by decide +kernel
theorem dX10_risingNow_5 : decode cX10_risingNow 5 = .ok (.iconst 1, 1) := by decide +kernel
theorem dX10_risingNow_6 : decode cX10_risingNow 6 = .ok (.iadd, 1) := by decide +kernel
theorem dX10_risingNow_7 : decode cX10_risingNow 7 = .ok (.aload_n 0, 1) := by decide +kernel
theorem dX10_risingNow_8 : decode cX10_risingNow 8 = .ok (.getfield 74, 3) := by decide +kernel
theorem dX10_risingNow_11 : decode cX10_risingNow 11 = .ok (.if_icmp .ge 32, 3) := by decide +kernel
theorem dX10_risingNow_14 : decode cX10_risingNow 14 = .ok (.iload_n 1, 1) := by decide +kernel
theorem dX10_risingNow_15 : decode cX10_risingNow 15 = .ok (.aload_n 0, 1) := by decide +kernel
theorem dX10_risingNow_16 : decode cX10_risingNow 16 = .ok (.iload_n 2, 1) := by decide +kernel
theorem dX10_risingNow_17 : decode cX10_risingNow 17 = .ok (.iconst 1, 1) := by decide +kernel
theorem dX10_risingNow_18 : decode cX10_risingNow 18 = .ok (.iadd, 1) := by decide +kernel
theorem dX10_risingNow_19 : decode cX10_risingNow 19 = .ok (.invokevirtual 165, 3) := by decide +kernel
theorem dX10_risingNow_22 : decode cX10_risingNow 22 = .ok (.aload_n 0, 1) := by decide +kernel
theorem dX10_risingNow_23 : decode cX10_risingNow 23 = .ok (.iload_n 2, 1) := by decide +kernel
theorem dX10_risingNow_24 : decode cX10_risingNow 24 = .ok (.invokevirtual 165, 3) := by decide +kernel
theorem dX10_risingNow_27 : decode cX10_risingNow 27 = .ok (.if_icmp .ge 7, 3) := by decide +kernel
theorem dX10_risingNow_30 : decode cX10_risingNow 30 = .ok (.iconst 1, 1) := by decide +kernel
theorem dX10_risingNow_31 : decode cX10_risingNow 31 = .ok (.goto 4, 3) := by decide +kernel
theorem dX10_risingNow_34 : decode cX10_risingNow 34 = .ok (.iconst 0, 1) := by decide +kernel
theorem dX10_risingNow_35 : decode cX10_risingNow 35 = .ok (.iadd, 1) := by decide +kernel
theorem dX10_risingNow_36 : decode cX10_risingNow 36 = .ok (.istore_n 1, 1) := by decide +kernel
theorem dX10_risingNow_37 : decode cX10_risingNow 37 = .ok (.iinc 2 1, 3) := by decide +kernel
theorem dX10_risingNow_40 : decode cX10_risingNow 40 = .ok (.goto (-36), 3) := by decide +kernel
theorem dX10_risingNow_43 : decode cX10_risingNow 43 = .ok (.iload_n 1, 1) := by decide +kernel
theorem dX10_risingNow_44 : decode cX10_risingNow 44 = .ok (.ireturn, 1) := by decide +kernel
theorem dX10_rising_0 : decode cX10_rising 0 = .ok (.aload_n 0, 1) := by decide +kernel
theorem dX10_rising_1 : decode cX10_rising 1 = .ok (.invokevirtual 162, 3) := by decide +kernel
theorem dX10_rising_4 : decode cX10_rising 4 = .ok (.aload_n 0, 1) := by decide +kernel
theorem dX10_rising_5 : decode cX10_rising 5 = .ok (.invokevirtual 195, 3) := by decide +kernel
theorem dX10_rising_8 : decode cX10_rising 8 = .ok (.ireturn, 1) := by decide +kernel
theorem dX10_unlike_0 : decode cX10_unlike 0 = .ok (.iconst 0, 1) := by decide +kernel
theorem dX10_unlike_1 : decode cX10_unlike 1 = .ok (.istore_n 2, 1) := by decide +kernel
theorem dX10_unlike_2 : decode cX10_unlike 2 = .ok (.iconst 0, 1) := by decide +kernel
theorem dX10_unlike_3 : decode cX10_unlike 3 = .ok (.istore_n 3, 1) := by decide +kernel
theorem dX10_unlike_4 : decode cX10_unlike 4 = .ok (.iload_n 3, 1) := by decide +kernel
theorem dX10_unlike_5 : decode cX10_unlike 5 = .ok (.iconst 1, 1) := by decide +kernel
theorem dX10_unlike_6 : decode cX10_unlike 6 = .ok (.iadd, 1) := by decide +kernel
theorem dX10_unlike_7 : decode cX10_unlike 7 = .ok (.aload_n 0, 1) := by decide +kernel
theorem dX10_unlike_8 : decode cX10_unlike 8 = .ok (.getfield 74, 3) := by decide +kernel
theorem dX10_unlike_11 : decode cX10_unlike 11 = .ok (.if_icmp .ge 38, 3) := by decide +kernel
theorem dX10_unlike_14 : decode cX10_unlike 14 = .ok (.iload_n 2, 1) := by decide +kernel
theorem dX10_unlike_15 : decode cX10_unlike 15 = .ok (.aload_n 0, 1) := by decide +kernel
theorem dX10_unlike_16 : decode cX10_unlike 16 = .ok (.getfield 7, 3) := by decide +kernel
theorem dX10_unlike_19 : decode cX10_unlike 19 = .ok (.aload_n 1, 1) := by decide +kernel
theorem dX10_unlike_20 : decode cX10_unlike 20 = .ok (.iload_n 3, 1) := by decide +kernel
theorem dX10_unlike_21 : decode cX10_unlike 21 = .ok (.iaload, 1) := by decide +kernel
theorem dX10_unlike_22 : decode cX10_unlike 22 = .ok (.iaload, 1) := by decide +kernel
theorem dX10_unlike_23 : decode cX10_unlike 23 = .ok (.aload_n 0, 1) := by decide +kernel
theorem dX10_unlike_24 : decode cX10_unlike 24 = .ok (.getfield 7, 3) := by decide +kernel
theorem dX10_unlike_27 : decode cX10_unlike 27 = .ok (.aload_n 1, 1) := by decide +kernel
theorem dX10_unlike_28 : decode cX10_unlike 28 = .ok (.iload_n 3, 1) := by decide +kernel
theorem dX10_unlike_29 : decode cX10_unlike 29 = .ok (.iconst 1, 1) := by decide +kernel
theorem dX10_unlike_30 : decode cX10_unlike 30 = .ok (.iadd, 1) := by decide +kernel
theorem dX10_unlike_31 : decode cX10_unlike 31 = .ok (.iaload, 1) := by decide +kernel
theorem dX10_unlike_32 : decode cX10_unlike 32 = .ok (.iaload, 1) := by decide +kernel
theorem dX10_unlike_33 : decode cX10_unlike 33 = .ok (.if_icmp .eq 7, 3) := by decide +kernel
theorem dX10_unlike_36 : decode cX10_unlike 36 = .ok (.iconst 1, 1) := by decide +kernel
theorem dX10_unlike_37 : decode cX10_unlike 37 = .ok (.goto 4, 3) := by decide +kernel
theorem dX10_unlike_40 : decode cX10_unlike 40 = .ok (.iconst 0, 1) := by decide +kernel
theorem dX10_unlike_41 : decode cX10_unlike 41 = .ok (.iadd, 1) := by decide +kernel
theorem dX10_unlike_42 : decode cX10_unlike 42 = .ok (.istore_n 2, 1) := by decide +kernel
theorem dX10_unlike_43 : decode cX10_unlike 43 = .ok (.iinc 3 2, 3) := by decide +kernel
theorem dX10_unlike_46 : decode cX10_unlike 46 = .ok (.goto (-42), 3) := by decide +kernel
theorem dX10_unlike_49 : decode cX10_unlike 49 = .ok (.iload_n 2, 1) := by decide +kernel
theorem dX10_unlike_50 : decode cX10_unlike 50 = .ok (.ireturn, 1) := by decide +kernel
theorem dX10_pairs_0 : decode cX10_pairs 0 = .ok (.aload_n 0, 1) := by decide +kernel
theorem dX10_pairs_1 : decode cX10_pairs 1 = .ok (.aload_n 0, 1) := by decide +kernel
theorem dX10_pairs_2 : decode cX10_pairs 2 = .ok (.getfield 16, 3) := by decide +kernel
theorem dX10_pairs_5 : decode cX10_pairs 5 = .ok (.invokevirtual 198, 3) := by decide +kernel
theorem dX10_pairs_8 : decode cX10_pairs 8 = .ok (.ireturn, 1) := by decide +kernel
theorem dX10_lowest_0 : decode cX10_lowest 0 = .ok (.iload_n 0, 1) := by decide +kernel
theorem dX10_lowest_1 : decode cX10_lowest 1 = .ok (.istore_n 3, 1) := by decide +kernel
theorem dX10_lowest_2 : decode cX10_lowest 2 = .ok (.iload_n 1, 1) := by decide +kernel
theorem dX10_lowest_3 : decode cX10_lowest 3 = .ok (.istore 4, 2) := by decide +kernel
theorem dX10_lowest_5 : decode cX10_lowest 5 = .ok (.iload 4, 2) := by decide +kernel
theorem dX10_lowest_7 : decode cX10_lowest 7 = .ok (.ifCond .le 19, 3) := by decide +kernel
theorem dX10_lowest_10 : decode cX10_lowest 10 = .ok (.iload_n 3, 1) := by decide +kernel
theorem dX10_lowest_11 : decode cX10_lowest 11 = .ok (.iload 4, 2) := by decide +kernel
theorem dX10_lowest_13 : decode cX10_lowest 13 = .ok (.irem, 1) := by decide +kernel
theorem dX10_lowest_14 : decode cX10_lowest 14 = .ok (.istore 5, 2) := by decide +kernel
theorem dX10_lowest_16 : decode cX10_lowest 16 = .ok (.iload 4, 2) := by decide +kernel
theorem dX10_lowest_18 : decode cX10_lowest 18 = .ok (.istore_n 3, 1) := by decide +kernel
theorem dX10_lowest_19 : decode cX10_lowest 19 = .ok (.iload 5, 2) := by decide +kernel
theorem dX10_lowest_21 : decode cX10_lowest 21 = .ok (.istore 4, 2) := by decide +kernel
theorem dX10_lowest_23 : decode cX10_lowest 23 = .ok (.goto (-18), 3) := by decide +kernel
theorem dX10_lowest_26 : decode cX10_lowest 26 = .ok (.iload_n 2, 1) := by decide +kernel
theorem dX10_lowest_27 : decode cX10_lowest 27 = .ok (.ifCond .ne 7, 3) := by decide +kernel
theorem dX10_lowest_30 : decode cX10_lowest 30 = .ok (.iload_n 0, 1) := by decide +kernel
theorem dX10_lowest_31 : decode cX10_lowest 31 = .ok (.goto 4, 3) := by decide +kernel
theorem dX10_lowest_34 : decode cX10_lowest 34 = .ok (.iload_n 1, 1) := by decide +kernel
theorem dX10_lowest_35 : decode cX10_lowest 35 = .ok (.iload_n 3, 1) := by decide +kernel
theorem dX10_lowest_36 : decode cX10_lowest 36 = .ok (.idiv, 1) := by decide +kernel
theorem dX10_lowest_37 : decode cX10_lowest 37 = .ok (.ireturn, 1) := by decide +kernel
theorem dX10_bits_0 : decode cX10_bits 0 = .ok (.iconst 0, 1) := by decide +kernel
theorem dX10_bits_1 : decode cX10_bits 1 = .ok (.istore_n 1, 1) := by decide +kernel
theorem dX10_bits_2 : decode cX10_bits 2 = .ok (.iconst 0, 1) := by decide +kernel
theorem dX10_bits_3 : decode cX10_bits 3 = .ok (.istore_n 2, 1) := by decide +kernel
theorem dX10_bits_4 : decode cX10_bits 4 = .ok (.iload_n 2, 1) := by decide +kernel
theorem dX10_bits_5 : decode cX10_bits 5 = .ok (.bipush 16, 2) := by decide +kernel
theorem dX10_bits_7 : decode cX10_bits 7 = .ok (.if_icmp .ge 17, 3) := by decide +kernel
theorem dX10_bits_10 : decode cX10_bits 10 = .ok (.iload_n 1, 1) := by decide +kernel
theorem dX10_bits_11 : decode cX10_bits 11 = .ok (.iload_n 0, 1) := by decide +kernel
theorem dX10_bits_12 : decode cX10_bits 12 = .ok (.iload_n 2, 1) := by decide +kernel
theorem dX10_bits_13 : decode cX10_bits 13 = .ok (.ishr, 1) := by decide +kernel
theorem dX10_bits_14 : decode cX10_bits 14 = .ok (.iconst 1, 1) := by decide +kernel
theorem dX10_bits_15 : decode cX10_bits 15 = .ok (.iand, 1) := by decide +kernel
theorem dX10_bits_16 : decode cX10_bits 16 = .ok (.iadd, 1) := by decide +kernel
theorem dX10_bits_17 : decode cX10_bits 17 = .ok (.istore_n 1, 1) := by decide +kernel
theorem dX10_bits_18 : decode cX10_bits 18 = .ok (.iinc 2 1, 3) := by decide +kernel
theorem dX10_bits_21 : decode cX10_bits 21 = .ok (.goto (-17), 3) := by decide +kernel
theorem dX10_bits_24 : decode cX10_bits 24 = .ok (.iload_n 1, 1) := by decide +kernel
theorem dX10_bits_25 : decode cX10_bits 25 = .ok (.ireturn, 1) := by decide +kernel
theorem dX10_sure_0 : decode cX10_sure 0 = .ok (.iload_n 1, 1) := by decide +kernel
theorem dX10_sure_1 : decode cX10_sure 1 = .ok (.iconst 0, 1) := by decide +kernel
theorem dX10_sure_2 : decode cX10_sure 2 = .ok (.aload_n 0, 1) := by decide +kernel
theorem dX10_sure_3 : decode cX10_sure 3 = .ok (.getfield 74, 3) := by decide +kernel
theorem dX10_sure_6 : decode cX10_sure 6 = .ok (.invokestatic 77, 3) := by decide +kernel
theorem dX10_sure_9 : decode cX10_sure 9 = .ok (.ifCond .eq 12, 3) := by decide +kernel
theorem dX10_sure_12 : decode cX10_sure 12 = .ok (.iload_n 2, 1) := by decide +kernel
theorem dX10_sure_13 : decode cX10_sure 13 = .ok (.iconst 0, 1) := by decide +kernel
theorem dX10_sure_14 : decode cX10_sure 14 = .ok (.iconst 1, 1) := by decide +kernel
theorem dX10_sure_15 : decode cX10_sure 15 = .ok (.invokestatic 77, 3) := by decide +kernel
theorem dX10_sure_18 : decode cX10_sure 18 = .ok (.ifCond .ne 5, 3) := by decide +kernel
theorem dX10_sure_21 : decode cX10_sure 21 = .ok (.iconst (-1), 1) := by decide +kernel
theorem dX10_sure_22 : decode cX10_sure 22 = .ok (.ireturn, 1) := by decide +kernel
theorem dX10_sure_23 : decode cX10_sure 23 = .ok (.iconst 0, 1) := by decide +kernel
theorem dX10_sure_24 : decode cX10_sure 24 = .ok (.istore_n 3, 1) := by decide +kernel
theorem dX10_sure_25 : decode cX10_sure 25 = .ok (.iconst 0, 1) := by decide +kernel
theorem dX10_sure_26 : decode cX10_sure 26 = .ok (.istore 4, 2) := by decide +kernel
theorem dX10_sure_28 : decode cX10_sure 28 = .ok (.iconst 0, 1) := by decide +kernel
theorem dX10_sure_29 : decode cX10_sure 29 = .ok (.istore 5, 2) := by decide +kernel
theorem dX10_sure_31 : decode cX10_sure 31 = .ok (.iload 5, 2) := by decide +kernel
theorem dX10_sure_33 : decode cX10_sure 33 = .ok (.iconst 1, 1) := by decide +kernel
theorem dX10_sure_34 : decode cX10_sure 34 = .ok (.aload_n 0, 1) := by decide +kernel
theorem dX10_sure_35 : decode cX10_sure 35 = .ok (.getfield 74, 3) := by decide +kernel
theorem dX10_sure_38 : decode cX10_sure 38 = .ok (.ishl, 1) := by decide +kernel
theorem dX10_sure_39 : decode cX10_sure 39 = .ok (.if_icmp .ge 144, 3) := by decide +kernel
theorem dX10_sure_42 : decode cX10_sure 42 = .ok (.iload 5, 2) := by decide +kernel
theorem dX10_sure_44 : decode cX10_sure 44 = .ok (.invokestatic 202, 3) := by decide +kernel
theorem dX10_sure_47 : decode cX10_sure 47 = .ok (.iload_n 1, 1) := by decide +kernel
theorem dX10_sure_48 : decode cX10_sure 48 = .ok (.if_icmp .ne 129, 3) := by decide +kernel
theorem dX10_sure_51 : decode cX10_sure 51 = .ok (.iload_n 1, 1) := by decide +kernel
theorem dX10_sure_52 : decode cX10_sure 52 = .ok (.iconst 1, 1) := by decide +kernel
theorem dX10_sure_53 : decode cX10_sure 53 = .ok (.isub, 1) := by decide +kernel
theorem dX10_sure_54 : decode cX10_sure 54 = .ok (.istore 6, 2) := by decide +kernel
theorem dX10_sure_56 : decode cX10_sure 56 = .ok (.iload_n 1, 1) := by decide +kernel
theorem dX10_sure_57 : decode cX10_sure 57 = .ok (.istore 7, 2) := by decide +kernel
theorem dX10_sure_59 : decode cX10_sure 59 = .ok (.iconst 0, 1) := by decide +kernel
theorem dX10_sure_60 : decode cX10_sure 60 = .ok (.istore 8, 2) := by decide +kernel
theorem dX10_sure_62 : decode cX10_sure 62 = .ok (.iload 8, 2) := by decide +kernel
theorem dX10_sure_64 : decode cX10_sure 64 = .ok (.aload_n 0, 1) := by decide +kernel
theorem dX10_sure_65 : decode cX10_sure 65 = .ok (.getfield 74, 3) := by decide +kernel
theorem dX10_sure_68 : decode cX10_sure 68 = .ok (.if_icmp .ge 81, 3) := by decide +kernel
theorem dX10_sure_71 : decode cX10_sure 71 = .ok (.iload 5, 2) := by decide +kernel
theorem dX10_sure_73 : decode cX10_sure 73 = .ok (.iload 8, 2) := by decide +kernel
theorem dX10_sure_75 : decode cX10_sure 75 = .ok (.ishr, 1) := by decide +kernel
theorem dX10_sure_76 : decode cX10_sure 76 = .ok (.iconst 1, 1) := by decide +kernel
theorem dX10_sure_77 : decode cX10_sure 77 = .ok (.iand, 1) := by decide +kernel
theorem dX10_sure_78 : decode cX10_sure 78 = .ok (.iconst 1, 1) := by decide +kernel
theorem dX10_sure_79 : decode cX10_sure 79 = .ok (.if_icmp .ne 7, 3) := by decide +kernel
theorem dX10_sure_82 : decode cX10_sure 82 = .ok (.iconst 1, 1) := by decide +kernel
theorem dX10_sure_83 : decode cX10_sure 83 = .ok (.goto 4, 3) := by decide +kernel
theorem dX10_sure_86 : decode cX10_sure 86 = .ok (.iconst 0, 1) := by decide +kernel
theorem dX10_sure_87 : decode cX10_sure 87 = .ok (.istore 9, 2) := by decide +kernel
theorem dX10_sure_89 : decode cX10_sure 89 = .ok (.aload_n 0, 1) := by decide +kernel
theorem dX10_sure_90 : decode cX10_sure 90 = .ok (.getfield 43, 3) := by decide +kernel
theorem dX10_sure_93 : decode cX10_sure 93 = .ok (.iload 8, 2) := by decide +kernel
theorem dX10_sure_95 : decode cX10_sure 95 = .ok (.aload_n 0, 1) := by decide +kernel
theorem dX10_sure_96 : decode cX10_sure 96 = .ok (.getfield 16, 3) := by decide +kernel
theorem dX10_sure_99 : decode cX10_sure 99 = .ok (.iload 9, 2) := by decide +kernel
theorem dX10_sure_101 : decode cX10_sure 101 = .ok (.ifCond .eq 8, 3) := by decide +kernel
theorem dX10_sure_104 : decode cX10_sure 104 = .ok (.iload 6, 2) := by decide +kernel
theorem dX10_sure_106 : decode cX10_sure 106 = .ok (.goto 5, 3) := by decide +kernel
theorem dX10_sure_109 : decode cX10_sure 109 = .ok (.iload 7, 2) := by decide +kernel
theorem dX10_sure_111 : decode cX10_sure 111 = .ok (.iaload, 1) := by decide +kernel
theorem dX10_sure_112 : decode cX10_sure 112 = .ok (.iastore, 1) := by decide +kernel
theorem dX10_sure_113 : decode cX10_sure 113 = .ok (.iload 6, 2) := by decide +kernel
theorem dX10_sure_115 : decode cX10_sure 115 = .ok (.iload 9, 2) := by decide +kernel
theorem dX10_sure_117 : decode cX10_sure 117 = .ok (.ifCond .eq 7, 3) := by decide +kernel
theorem dX10_sure_120 : decode cX10_sure 120 = .ok (.iconst 1, 1) := by decide +kernel
theorem dX10_sure_121 : decode cX10_sure 121 = .ok (.goto 4, 3) := by decide +kernel
theorem dX10_sure_124 : decode cX10_sure 124 = .ok (.iconst 0, 1) := by decide +kernel
theorem dX10_sure_125 : decode cX10_sure 125 = .ok (.isub, 1) := by decide +kernel
theorem dX10_sure_126 : decode cX10_sure 126 = .ok (.istore 6, 2) := by decide +kernel
theorem dX10_sure_128 : decode cX10_sure 128 = .ok (.iload 7, 2) := by decide +kernel
theorem dX10_sure_130 : decode cX10_sure 130 = .ok (.iload 9, 2) := by decide +kernel
theorem dX10_sure_132 : decode cX10_sure 132 = .ok (.ifCond .eq 7, 3) := by decide +kernel
theorem dX10_sure_135 : decode cX10_sure 135 = .ok (.iconst 0, 1) := by decide +kernel
theorem dX10_sure_136 : decode cX10_sure 136 = .ok (.goto 4, 3) := by decide +kernel
theorem dX10_sure_139 : decode cX10_sure 139 = .ok (.iconst 1, 1) := by decide +kernel
theorem dX10_sure_140 : decode cX10_sure 140 = .ok (.iadd, 1) := by decide +kernel
theorem dX10_sure_141 : decode cX10_sure 141 = .ok (.istore 7, 2) := by decide +kernel
theorem dX10_sure_143 : decode cX10_sure 143 = .ok (.iinc 8 1, 3) := by decide +kernel
theorem dX10_sure_146 : decode cX10_sure 146 = .ok (.goto (-84), 3) := by decide +kernel
theorem dX10_sure_149 : decode cX10_sure 149 = .ok (.iinc 4 1, 3) := by decide +kernel
theorem dX10_sure_152 : decode cX10_sure 152 = .ok (.iload_n 3, 1) := by decide +kernel
theorem dX10_sure_153 : decode cX10_sure 153 = .ok (.aload_n 0, 1) := by decide +kernel
theorem dX10_sure_154 : decode cX10_sure 154 = .ok (.aload_n 0, 1) := by decide +kernel
theorem dX10_sure_155 : decode cX10_sure 155 = .ok (.getfield 43, 3) := by decide +kernel
theorem dX10_sure_158 : decode cX10_sure 158 = .ok (.invokevirtual 198, 3) := by decide +kernel
theorem dX10_sure_161 : decode cX10_sure 161 = .ok (.aload_n 0, 1) := by decide +kernel
theorem dX10_sure_162 : decode cX10_sure 162 = .ok (.getfield 74, 3) := by decide +kernel
theorem dX10_sure_165 : decode cX10_sure 165 = .ok (.iconst 2, 1) := by decide +kernel
theorem dX10_sure_166 : decode cX10_sure 166 = .ok (.idiv, 1) := by decide +kernel
theorem dX10_sure_167 : decode cX10_sure 167 = .ok (.if_icmp .ne 7, 3) := by decide +kernel
theorem dX10_sure_170 : decode cX10_sure 170 = .ok (.iconst 1, 1) := by decide +kernel
theorem dX10_sure_171 : decode cX10_sure 171 = .ok (.goto 4, 3) := by decide +kernel
theorem dX10_sure_174 : decode cX10_sure 174 = .ok (.iconst 0, 1) := by decide +kernel
theorem dX10_sure_175 : decode cX10_sure 175 = .ok (.iadd, 1) := by decide +kernel
theorem dX10_sure_176 : decode cX10_sure 176 = .ok (.istore_n 3, 1) := by decide +kernel
theorem dX10_sure_177 : decode cX10_sure 177 = .ok (.iinc 5 1, 3) := by decide +kernel
theorem dX10_sure_180 : decode cX10_sure 180 = .ok (.goto (-149), 3) := by decide +kernel
theorem dX10_sure_183 : decode cX10_sure 183 = .ok (.iload_n 3, 1) := by decide +kernel
theorem dX10_sure_184 : decode cX10_sure 184 = .ok (.iload 4, 2) := by decide +kernel
theorem dX10_sure_186 : decode cX10_sure 186 = .ok (.iload_n 2, 1) := by decide +kernel
theorem dX10_sure_187 : decode cX10_sure 187 = .ok (.invokestatic 205, 3) := by decide +kernel
theorem dX10_sure_190 : decode cX10_sure 190 = .ok (.ireturn, 1) := by decide +kernel
theorem dX10_seen_0 : decode cX10_seen 0 = .ok (.aload_n 0, 1) := by decide +kernel
theorem dX10_seen_1 : decode cX10_seen 1 = .ok (.iload_n 1, 1) := by decide +kernel
theorem dX10_seen_2 : decode cX10_seen 2 = .ok (.invokevirtual 159, 3) := by decide +kernel
theorem dX10_seen_5 : decode cX10_seen 5 = .ok (.ifCond .eq 11, 3) := by decide +kernel
theorem dX10_seen_8 : decode cX10_seen 8 = .ok (.aload_n 0, 1) := by decide +kernel
theorem dX10_seen_9 : decode cX10_seen 9 = .ok (.iload_n 2, 1) := by decide +kernel
theorem dX10_seen_10 : decode cX10_seen 10 = .ok (.invokevirtual 159, 3) := by decide +kernel
theorem dX10_seen_13 : decode cX10_seen 13 = .ok (.ifCond .ne 5, 3) := by decide +kernel
theorem dX10_seen_16 : decode cX10_seen 16 = .ok (.iconst (-1), 1) := by decide +kernel
theorem dX10_seen_17 : decode cX10_seen 17 = .ok (.ireturn, 1) := by decide +kernel
theorem dX10_seen_18 : decode cX10_seen 18 = .ok (.aload_n 0, 1) := by decide +kernel
theorem dX10_seen_19 : decode cX10_seen 19 = .ok (.getfield 140, 3) := by decide +kernel
theorem dX10_seen_22 : decode cX10_seen 22 = .ok (.bipush 8, 2) := by decide +kernel
theorem dX10_seen_24 : decode cX10_seen 24 = .ok (.if_icmp .ne 6, 3) := by decide +kernel
theorem dX10_seen_27 : decode cX10_seen 27 = .ok (.bipush (-3), 2) := by decide +kernel
theorem dX10_seen_29 : decode cX10_seen 29 = .ok (.ireturn, 1) := by decide +kernel
theorem dX10_seen_30 : decode cX10_seen 30 = .ok (.aload_n 0, 1) := by decide +kernel
theorem dX10_seen_31 : decode cX10_seen 31 = .ok (.getfield 25, 3) := by decide +kernel
theorem dX10_seen_34 : decode cX10_seen 34 = .ok (.iconst 2, 1) := by decide +kernel
theorem dX10_seen_35 : decode cX10_seen 35 = .ok (.aload_n 0, 1) := by decide +kernel
theorem dX10_seen_36 : decode cX10_seen 36 = .ok (.getfield 140, 3) := by decide +kernel
theorem dX10_seen_39 : decode cX10_seen 39 = .ok (.imul, 1) := by decide +kernel
theorem dX10_seen_40 : decode cX10_seen 40 = .ok (.iload_n 1, 1) := by decide +kernel
theorem dX10_seen_41 : decode cX10_seen 41 = .ok (.iastore, 1) := by decide +kernel
theorem dX10_seen_42 : decode cX10_seen 42 = .ok (.aload_n 0, 1) := by decide +kernel
theorem dX10_seen_43 : decode cX10_seen 43 = .ok (.getfield 25, 3) := by decide +kernel
theorem dX10_seen_46 : decode cX10_seen 46 = .ok (.iconst 2, 1) := by decide +kernel
theorem dX10_seen_47 : decode cX10_seen 47 = .ok (.aload_n 0, 1) := by decide +kernel
theorem dX10_seen_48 : decode cX10_seen 48 = .ok (.getfield 140, 3) := by decide +kernel
theorem dX10_seen_51 : decode cX10_seen 51 = .ok (.imul, 1) := by decide +kernel
theorem dX10_seen_52 : decode cX10_seen 52 = .ok (.iconst 1, 1) := by decide +kernel
theorem dX10_seen_53 : decode cX10_seen 53 = .ok (.iadd, 1) := by decide +kernel
theorem dX10_seen_54 : decode cX10_seen 54 = .ok (.iload_n 2, 1) := by decide +kernel
theorem dX10_seen_55 : decode cX10_seen 55 = .ok (.iastore, 1) := by decide +kernel
theorem dX10_seen_56 : decode cX10_seen 56 = .ok (.aload_n 0, 1) := by decide +kernel
theorem dX10_seen_57 : decode cX10_seen 57 = .ok (.dup, 1) := by decide +kernel
theorem dX10_seen_58 : decode cX10_seen 58 = .ok (.getfield 140, 3) := by decide +kernel
theorem dX10_seen_61 : decode cX10_seen 61 = .ok (.iconst 1, 1) := by decide +kernel
theorem dX10_seen_62 : decode cX10_seen 62 = .ok (.iadd, 1) := by decide +kernel
theorem dX10_seen_63 : decode cX10_seen 63 = .ok (.putfield 140, 3) := by decide +kernel
theorem dX10_seen_66 : decode cX10_seen 66 = .ok (.aload_n 0, 1) := by decide +kernel
theorem dX10_seen_67 : decode cX10_seen 67 = .ok (.getfield 140, 3) := by decide +kernel
theorem dX10_seen_70 : decode cX10_seen 70 = .ok (.ireturn, 1) := by decide +kernel
theorem dX10_forget_0 : decode cX10_forget 0 = .ok (.aload_n 0, 1) := by decide +kernel
theorem dX10_forget_1 : decode cX10_forget 1 = .ok (.getfield 140, 3) := by decide +kernel
theorem dX10_forget_4 : decode cX10_forget 4 = .ok (.istore_n 1, 1) := by decide +kernel
theorem dX10_forget_5 : decode cX10_forget 5 = .ok (.aload_n 0, 1) := by decide +kernel
theorem dX10_forget_6 : decode cX10_forget 6 = .ok (.iconst 0, 1) := by decide +kernel
theorem dX10_forget_7 : decode cX10_forget 7 = .ok (.putfield 140, 3) := by decide +kernel
theorem dX10_forget_10 : decode cX10_forget 10 = .ok (.iload_n 1, 1) := by decide +kernel
theorem dX10_forget_11 : decode cX10_forget 11 = .ok (.ireturn, 1) := by decide +kernel
theorem dX10_isBy_0 : decode cX10_isBy 0 = .ok (.aload_n 0, 1) := by decide +kernel
theorem dX10_isBy_1 : decode cX10_isBy 1 = .ok (.getfield 40, 3) := by decide +kernel
theorem dX10_isBy_4 : decode cX10_isBy 4 = .ok (.invokestatic 130, 3) := by decide +kernel
theorem dX10_isBy_7 : decode cX10_isBy 7 = .ok (.aload_n 0, 1) := by decide +kernel
theorem dX10_isBy_8 : decode cX10_isBy 8 = .ok (.iload_n 1, 1) := by decide +kernel
theorem dX10_isBy_9 : decode cX10_isBy 9 = .ok (.invokevirtual 157, 3) := by decide +kernel
theorem dX10_isBy_12 : decode cX10_isBy 12 = .ok (.iconst 1, 1) := by decide +kernel
theorem dX10_isBy_13 : decode cX10_isBy 13 = .ok (.istore_n 2, 1) := by decide +kernel
theorem dX10_isBy_14 : decode cX10_isBy 14 = .ok (.iconst 0, 1) := by decide +kernel
theorem dX10_isBy_15 : decode cX10_isBy 15 = .ok (.istore_n 3, 1) := by decide +kernel
theorem dX10_isBy_16 : decode cX10_isBy 16 = .ok (.iload_n 3, 1) := by decide +kernel
theorem dX10_isBy_17 : decode cX10_isBy 17 = .ok (.aload_n 0, 1) := by decide +kernel
theorem dX10_isBy_18 : decode cX10_isBy 18 = .ok (.getfield 140, 3) := by decide +kernel
theorem dX10_isBy_21 : decode cX10_isBy 21 = .ok (.if_icmp .ge 45, 3) := by decide +kernel
theorem dX10_isBy_24 : decode cX10_isBy 24 = .ok (.iload_n 2, 1) := by decide +kernel
theorem dX10_isBy_25 : decode cX10_isBy 25 = .ok (.ifCond .eq 33, 3) := by decide +kernel
theorem dX10_isBy_28 : decode cX10_isBy 28 = .ok (.aload_n 0, 1) := by decide +kernel
theorem dX10_isBy_29 : decode cX10_isBy 29 = .ok (.getfield 40, 3) := by decide +kernel
theorem dX10_isBy_32 : decode cX10_isBy 32 = .ok (.aload_n 0, 1) := by decide +kernel
theorem dX10_isBy_33 : decode cX10_isBy 33 = .ok (.getfield 25, 3) := by decide +kernel
theorem dX10_isBy_36 : decode cX10_isBy 36 = .ok (.iconst 2, 1) := by decide +kernel
theorem dX10_isBy_37 : decode cX10_isBy 37 = .ok (.iload_n 3, 1) := by decide +kernel
theorem dX10_isBy_38 : decode cX10_isBy 38 = .ok (.imul, 1) := by decide +kernel
theorem dX10_isBy_39 : decode cX10_isBy 39 = .ok (.iconst 1, 1) := by decide +kernel
theorem dX10_isBy_40 : decode cX10_isBy 40 = .ok (.iadd, 1) := by decide +kernel
theorem dX10_isBy_41 : decode cX10_isBy 41 = .ok (.iaload, 1) := by decide +kernel
theorem dX10_isBy_42 : decode cX10_isBy 42 = .ok (.iaload, 1) := by decide +kernel
theorem dX10_isBy_43 : decode cX10_isBy 43 = .ok (.aload_n 0, 1) := by decide +kernel
theorem dX10_isBy_44 : decode cX10_isBy 44 = .ok (.getfield 25, 3) := by decide +kernel
theorem dX10_isBy_47 : decode cX10_isBy 47 = .ok (.iconst 2, 1) := by decide +kernel
theorem dX10_isBy_48 : decode cX10_isBy 48 = .ok (.iload_n 3, 1) := by decide +kernel
theorem dX10_isBy_49 : decode cX10_isBy 49 = .ok (.imul, 1) := by decide +kernel
theorem dX10_isBy_50 : decode cX10_isBy 50 = .ok (.iaload, 1) := by decide +kernel
theorem dX10_isBy_51 : decode cX10_isBy 51 = .ok (.if_icmp .ne 7, 3) := by decide +kernel
theorem dX10_isBy_54 : decode cX10_isBy 54 = .ok (.iconst 1, 1) := by decide +kernel
theorem dX10_isBy_55 : decode cX10_isBy 55 = .ok (.goto 4, 3) := by decide +kernel
theorem dX10_isBy_58 : decode cX10_isBy 58 = .ok (.iconst 0, 1) := by decide +kernel
theorem dX10_isBy_59 : decode cX10_isBy 59 = .ok (.istore_n 2, 1) := by decide +kernel
theorem dX10_isBy_60 : decode cX10_isBy 60 = .ok (.iinc 3 1, 3) := by decide +kernel
theorem dX10_isBy_63 : decode cX10_isBy 63 = .ok (.goto (-47), 3) := by decide +kernel
theorem dX10_isBy_66 : decode cX10_isBy 66 = .ok (.iload_n 2, 1) := by decide +kernel
theorem dX10_isBy_67 : decode cX10_isBy 67 = .ok (.ireturn, 1) := by decide +kernel
theorem dX10_done_0 : decode cX10_done 0 = .ok (.iload_n 1, 1) := by decide +kernel
theorem dX10_done_1 : decode cX10_done 1 = .ok (.iconst 0, 1) := by decide +kernel
theorem dX10_done_2 : decode cX10_done 2 = .ok (.iconst 1, 1) := by decide +kernel
theorem dX10_done_3 : decode cX10_done 3 = .ok (.invokestatic 77, 3) := by decide +kernel
theorem dX10_done_6 : decode cX10_done 6 = .ok (.ifCond .ne 5, 3) := by decide +kernel
theorem dX10_done_9 : decode cX10_done 9 = .ok (.iconst (-1), 1) := by decide +kernel
theorem dX10_done_10 : decode cX10_done 10 = .ok (.ireturn, 1) := by decide +kernel
theorem dX10_done_11 : decode cX10_done 11 = .ok (.iconst 0, 1) := by decide +kernel
theorem dX10_done_12 : decode cX10_done 12 = .ok (.istore_n 2, 1) := by decide +kernel
theorem dX10_done_13 : decode cX10_done 13 = .ok (.iconst 0, 1) := by decide +kernel
theorem dX10_done_14 : decode cX10_done 14 = .ok (.istore_n 3, 1) := by decide +kernel
theorem dX10_done_15 : decode cX10_done 15 = .ok (.iload_n 3, 1) := by decide +kernel
theorem dX10_done_16 : decode cX10_done 16 = .ok (.iload_n 1, 1) := by decide +kernel
theorem dX10_done_17 : decode cX10_done 17 = .ok (.ifCond .ne 8, 3) := by decide +kernel
theorem dX10_done_20 : decode cX10_done 20 = .ok (.bipush 6, 2) := by decide +kernel
theorem dX10_done_22 : decode cX10_done 22 = .ok (.goto 7, 3) := by decide +kernel
theorem dX10_done_25 : decode cX10_done 25 = .ok (.aload_n 0, 1) := by decide +kernel
theorem dX10_done_26 : decode cX10_done 26 = .ok (.getfield 74, 3) := by decide +kernel
theorem dX10_done_29 : decode cX10_done 29 = .ok (.if_icmp .ge 38, 3) := by decide +kernel
theorem dX10_done_32 : decode cX10_done 32 = .ok (.iload_n 2, 1) := by decide +kernel
theorem dX10_done_33 : decode cX10_done 33 = .ok (.aload_n 0, 1) := by decide +kernel
theorem dX10_done_34 : decode cX10_done 34 = .ok (.iload_n 1, 1) := by decide +kernel
theorem dX10_done_35 : decode cX10_done 35 = .ok (.ifCond .ne 7, 3) := by decide +kernel
theorem dX10_done_38 : decode cX10_done 38 = .ok (.iload_n 3, 1) := by decide +kernel
theorem dX10_done_39 : decode cX10_done 39 = .ok (.goto 7, 3) := by decide +kernel
theorem dX10_done_42 : decode cX10_done 42 = .ok (.bipush 6, 2) := by decide +kernel
theorem dX10_done_44 : decode cX10_done 44 = .ok (.iload_n 3, 1) := by decide +kernel
theorem dX10_done_45 : decode cX10_done 45 = .ok (.iadd, 1) := by decide +kernel
theorem dX10_done_46 : decode cX10_done 46 = .ok (.invokevirtual 209, 3) := by decide +kernel
theorem dX10_done_49 : decode cX10_done 49 = .ok (.ifCond .eq 9, 3) := by decide +kernel
theorem dX10_done_52 : decode cX10_done 52 = .ok (.iconst 1, 1) := by decide +kernel
theorem dX10_done_53 : decode cX10_done 53 = .ok (.iload_n 3, 1) := by decide +kernel
theorem dX10_done_54 : decode cX10_done 54 = .ok (.ishl, 1) := by decide +kernel
theorem dX10_done_55 : decode cX10_done 55 = .ok (.goto 4, 3) := by decide +kernel
theorem dX10_done_58 : decode cX10_done 58 = .ok (.iconst 0, 1) := by decide +kernel
theorem dX10_done_59 : decode cX10_done 59 = .ok (.ior, 1) := by decide +kernel
theorem dX10_done_60 : decode cX10_done 60 = .ok (.istore_n 2, 1) := by decide +kernel
theorem dX10_done_61 : decode cX10_done 61 = .ok (.iinc 3 1, 3) := by decide +kernel
theorem dX10_done_64 : decode cX10_done 64 = .ok (.goto (-49), 3) := by decide +kernel
theorem dX10_done_67 : decode cX10_done 67 = .ok (.iload_n 2, 1) := by decide +kernel
theorem dX10_done_68 : decode cX10_done 68 = .ok (.ireturn, 1) := by decide +kernel
theorem dX10_likely_0 : decode cX10_likely 0 = .ok (.aload_n 0, 1) := by decide +kernel
theorem dX10_likely_1 : decode cX10_likely 1 = .ok (.iload_n 1, 1) := by decide +kernel
theorem dX10_likely_2 : decode cX10_likely 2 = .ok (.invokevirtual 159, 3) := by decide +kernel
theorem dX10_likely_5 : decode cX10_likely 5 = .ok (.ifCond .eq 41, 3) := by decide +kernel
theorem dX10_likely_8 : decode cX10_likely 8 = .ok (.aload_n 0, 1) := by decide +kernel
theorem dX10_likely_9 : decode cX10_likely 9 = .ok (.iload_n 2, 1) := by decide +kernel
theorem dX10_likely_10 : decode cX10_likely 10 = .ok (.invokevirtual 159, 3) := by decide +kernel
theorem dX10_likely_13 : decode cX10_likely 13 = .ok (.ifCond .eq 33, 3) := by decide +kernel
theorem dX10_likely_16 : decode cX10_likely 16 = .ok (.iload_n 3, 1) := by decide +kernel
theorem dX10_likely_17 : decode cX10_likely 17 = .ok (.iconst 0, 1) := by decide +kernel
theorem dX10_likely_18 : decode cX10_likely 18 = .ok (.iconst 5, 1) := by decide +kernel
theorem dX10_likely_19 : decode cX10_likely 19 = .ok (.invokestatic 77, 3) := by decide +kernel
theorem dX10_likely_22 : decode cX10_likely 22 = .ok (.ifCond .eq 24, 3) := by decide +kernel
theorem dX10_likely_25 : decode cX10_likely 25 = .ok (.iload 4, 2) := by decide +kernel
theorem dX10_likely_27 : decode cX10_likely 27 = .ok (.iconst 0, 1) := by decide +kernel
theorem dX10_likely_28 : decode cX10_likely 28 = .ok (.bipush 10, 2) := by decide +kernel
theorem dX10_likely_30 : decode cX10_likely 30 = .ok (.invokestatic 77, 3) := by decide +kernel
theorem dX10_likely_33 : decode cX10_likely 33 = .ok (.ifCond .eq 13, 3) := by decide +kernel
theorem dX10_likely_36 : decode cX10_likely 36 = .ok (.iload 5, 2) := by decide +kernel
theorem dX10_likely_38 : decode cX10_likely 38 = .ok (.iconst 0, 1) := by decide +kernel
theorem dX10_likely_39 : decode cX10_likely 39 = .ok (.iconst 1, 1) := by decide +kernel
theorem dX10_likely_40 : decode cX10_likely 40 = .ok (.invokestatic 77, 3) := by decide +kernel
theorem dX10_likely_43 : decode cX10_likely 43 = .ok (.ifCond .ne 5, 3) := by decide +kernel
theorem dX10_likely_46 : decode cX10_likely 46 = .ok (.iconst (-1), 1) := by decide +kernel
theorem dX10_likely_47 : decode cX10_likely 47 = .ok (.ireturn, 1) := by decide +kernel
theorem dX10_likely_48 : decode cX10_likely 48 = .ok (.aload_n 0, 1) := by decide +kernel
theorem dX10_likely_49 : decode cX10_likely 49 = .ok (.invokevirtual 183, 3) := by decide +kernel
theorem dX10_likely_52 : decode cX10_likely 52 = .ok (.aload_n 0, 1) := by decide +kernel
theorem dX10_likely_53 : decode cX10_likely 53 = .ok (.invokevirtual 162, 3) := by decide +kernel
theorem dX10_likely_56 : decode cX10_likely 56 = .ok (.aload_n 0, 1) := by decide +kernel
theorem dX10_likely_57 : decode cX10_likely 57 = .ok (.iload_n 1, 1) := by decide +kernel
theorem dX10_likely_58 : decode cX10_likely 58 = .ok (.invokevirtual 165, 3) := by decide +kernel
theorem dX10_likely_61 : decode cX10_likely 61 = .ok (.istore 6, 2) := by decide +kernel
theorem dX10_likely_63 : decode cX10_likely 63 = .ok (.iconst 0, 1) := by decide +kernel
theorem dX10_likely_64 : decode cX10_likely 64 = .ok (.istore 7, 2) := by decide +kernel
theorem dX10_likely_66 : decode cX10_likely 66 = .ok (.iconst 1, 1) := by decide +kernel
theorem dX10_likely_67 : decode cX10_likely 67 = .ok (.istore 8, 2) := by decide +kernel
theorem dX10_likely_69 : decode cX10_likely 69 = .ok (.iconst 0, 1) := by decide +kernel
theorem dX10_likely_70 : decode cX10_likely 70 = .ok (.istore 9, 2) := by decide +kernel
theorem dX10_likely_72 : decode cX10_likely 72 = .ok (.iload 9, 2) := by decide +kernel
theorem dX10_likely_74 : decode cX10_likely 74 = .ok (.iload_n 3, 1) := by decide +kernel
theorem dX10_likely_75 : decode cX10_likely 75 = .ok (.if_icmp .ge 16, 3) := by decide +kernel
theorem dX10_likely_78 : decode cX10_likely 78 = .ok (.iload 8, 2) := by decide +kernel
theorem dX10_likely_80 : decode cX10_likely 80 = .ok (.bipush 10, 2) := by decide +kernel
theorem dX10_likely_82 : decode cX10_likely 82 = .ok (.imul, 1) := by decide +kernel
theorem dX10_likely_83 : decode cX10_likely 83 = .ok (.istore 8, 2) := by decide +kernel
theorem dX10_likely_85 : decode cX10_likely 85 = .ok (.iinc 9 1, 3) := by decide +kernel
theorem dX10_likely_88 : decode cX10_likely 88 = .ok (.goto (-16), 3) := by decide +kernel
theorem dX10_likely_91 : decode cX10_likely 91 = .ok (.iconst 0, 1) := by decide +kernel
theorem dX10_likely_92 : decode cX10_likely 92 = .ok (.istore 9, 2) := by decide +kernel
theorem dX10_likely_94 : decode cX10_likely 94 = .ok (.iload 9, 2) := by decide +kernel
theorem dX10_likely_96 : decode cX10_likely 96 = .ok (.iconst 1, 1) := by decide +kernel
theorem dX10_likely_97 : decode cX10_likely 97 = .ok (.iload_n 3, 1) := by decide +kernel
theorem dX10_likely_98 : decode cX10_likely 98 = .ok (.ishl, 1) := by decide +kernel
theorem dX10_likely_99 : decode cX10_likely 99 = .ok (.if_icmp .ge 92, 3) := by decide +kernel
theorem dX10_likely_102 : decode cX10_likely 102 = .ok (.iload 6, 2) := by decide +kernel
theorem dX10_likely_104 : decode cX10_likely 104 = .ok (.istore 10, 2) := by decide +kernel
theorem dX10_likely_106 : decode cX10_likely 106 = .ok (.iconst 1, 1) := by decide +kernel
theorem dX10_likely_107 : decode cX10_likely 107 = .ok (.istore 11, 2) := by decide +kernel
theorem dX10_likely_109 : decode cX10_likely 109 = .ok (.iconst 0, 1) := by decide +kernel
theorem dX10_likely_110 : decode cX10_likely 110 = .ok (.istore 12, 2) := by decide +kernel
theorem dX10_likely_112 : decode cX10_likely 112 = .ok (.iload 12, 2) := by decide +kernel
theorem dX10_likely_114 : decode cX10_likely 114 = .ok (.iload_n 3, 1) := by decide +kernel
theorem dX10_likely_115 : decode cX10_likely 115 = .ok (.if_icmp .ge 53, 3) := by decide +kernel
theorem dX10_likely_118 : decode cX10_likely 118 = .ok (.iload 9, 2) := by decide +kernel
theorem dX10_likely_120 : decode cX10_likely 120 = .ok (.iload 12, 2) := by decide +kernel
theorem dX10_likely_122 : decode cX10_likely 122 = .ok (.ishr, 1) := by decide +kernel
theorem dX10_likely_123 : decode cX10_likely 123 = .ok (.iconst 1, 1) := by decide +kernel
theorem dX10_likely_124 : decode cX10_likely 124 = .ok (.iand, 1) := by decide +kernel
theorem dX10_likely_125 : decode cX10_likely 125 = .ok (.istore 13, 2) := by decide +kernel
theorem dX10_likely_127 : decode cX10_likely 127 = .ok (.iload 11, 2) := by decide +kernel
theorem dX10_likely_129 : decode cX10_likely 129 = .ok (.iload 13, 2) := by decide +kernel
theorem dX10_likely_131 : decode cX10_likely 131 = .ok (.ifCond .ne 8, 3) := by decide +kernel
theorem dX10_likely_134 : decode cX10_likely 134 = .ok (.iload 4, 2) := by decide +kernel
theorem dX10_likely_136 : decode cX10_likely 136 = .ok (.goto 8, 3) := by decide +kernel
theorem dX10_likely_139 : decode cX10_likely 139 = .ok (.bipush 10, 2) := by decide +kernel
theorem dX10_likely_141 : decode cX10_likely 141 = .ok (.iload 4, 2) := by decide +kernel
theorem dX10_likely_143 : decode cX10_likely 143 = .ok (.isub, 1) := by decide +kernel
theorem dX10_likely_144 : decode cX10_likely 144 = .ok (.imul, 1) := by decide +kernel
theorem dX10_likely_145 : decode cX10_likely 145 = .ok (.istore 11, 2) := by decide +kernel
theorem dX10_likely_147 : decode cX10_likely 147 = .ok (.aload_n 0, 1) := by decide +kernel
theorem dX10_likely_148 : decode cX10_likely 148 = .ok (.getfield 49, 3) := by decide +kernel
theorem dX10_likely_151 : decode cX10_likely 151 = .ok (.bipush 16, 2) := by decide +kernel
theorem dX10_likely_153 : decode cX10_likely 153 = .ok (.iload 13, 2) := by decide +kernel
theorem dX10_likely_155 : decode cX10_likely 155 = .ok (.imul, 1) := by decide +kernel
theorem dX10_likely_156 : decode cX10_likely 156 = .ok (.iload 10, 2) := by decide +kernel
theorem dX10_likely_158 : decode cX10_likely 158 = .ok (.iadd, 1) := by decide +kernel
theorem dX10_likely_159 : decode cX10_likely 159 = .ok (.iaload, 1) := by decide +kernel
theorem dX10_likely_160 : decode cX10_likely 160 = .ok (.istore 10, 2) := by decide +kernel
theorem dX10_likely_162 : decode cX10_likely 162 = .ok (.iinc 12 1, 3) := by decide +kernel
theorem dX10_likely_165 : decode cX10_likely 165 = .ok (.goto (-53), 3) := by decide +kernel
theorem dX10_likely_168 : decode cX10_likely 168 = .ok (.iload 7, 2) := by decide +kernel
theorem dX10_likely_170 : decode cX10_likely 170 = .ok (.iload 10, 2) := by decide +kernel
theorem dX10_likely_172 : decode cX10_likely 172 = .ok (.iload_n 2, 1) := by decide +kernel
theorem dX10_likely_173 : decode cX10_likely 173 = .ok (.if_icmp .ne 8, 3) := by decide +kernel
theorem dX10_likely_176 : decode cX10_likely 176 = .ok (.iload 11, 2) := by decide +kernel
theorem dX10_likely_178 : decode cX10_likely 178 = .ok (.goto 4, 3) := by decide +kernel
theorem dX10_likely_181 : decode cX10_likely 181 = .ok (.iconst 0, 1) := by decide +kernel
theorem dX10_likely_182 : decode cX10_likely 182 = .ok (.iadd, 1) := by decide +kernel
theorem dX10_likely_183 : decode cX10_likely 183 = .ok (.istore 7, 2) := by decide +kernel
theorem dX10_likely_185 : decode cX10_likely 185 = .ok (.iinc 9 1, 3) := by decide +kernel
theorem dX10_likely_188 : decode cX10_likely 188 = .ok (.goto (-94), 3) := by decide +kernel
theorem dX10_likely_191 : decode cX10_likely 191 = .ok (.iload 7, 2) := by decide +kernel
theorem dX10_likely_193 : decode cX10_likely 193 = .ok (.iload 8, 2) := by decide +kernel
theorem dX10_likely_195 : decode cX10_likely 195 = .ok (.iload 5, 2) := by decide +kernel
theorem dX10_likely_197 : decode cX10_likely 197 = .ok (.invokestatic 205, 3) := by decide +kernel
theorem dX10_likely_200 : decode cX10_likely 200 = .ok (.ireturn, 1) := by decide +kernel
theorem dX10_dealing_0 : decode cX10_dealing 0 = .ok (.iload_n 1, 1) := by decide +kernel
theorem dX10_dealing_1 : decode cX10_dealing 1 = .ok (.iconst 0, 1) := by decide +kernel
theorem dX10_dealing_2 : decode cX10_dealing 2 = .ok (.sipush 9999, 3) := by decide +kernel
theorem dX10_dealing_5 : decode cX10_dealing 5 = .ok (.invokestatic 77, 3) := by decide +kernel
theorem dX10_dealing_8 : decode cX10_dealing 8 = .ok (.ifCond .eq 22, 3) := by decide +kernel
theorem dX10_dealing_11 : decode cX10_dealing 11 = .ok (.iload_n 2, 1) := by decide +kernel
theorem dX10_dealing_12 : decode cX10_dealing 12 = .ok (.iconst 1, 1) := by decide +kernel
theorem dX10_dealing_13 : decode cX10_dealing 13 = .ok (.bipush 60, 2) := by decide +kernel
theorem dX10_dealing_15 : decode cX10_dealing 15 = .ok (.invokestatic 77, 3) := by decide +kernel
theorem dX10_dealing_18 : decode cX10_dealing 18 = .ok (.ifCond .eq 12, 3) := by decide +kernel
theorem dX10_dealing_21 : decode cX10_dealing 21 = .ok (.iload_n 3, 1) := by decide +kernel
theorem dX10_dealing_22 : decode cX10_dealing 22 = .ok (.iconst 0, 1) := by decide +kernel
theorem dX10_dealing_23 : decode cX10_dealing 23 = .ok (.iconst 2, 1) := by decide +kernel
theorem dX10_dealing_24 : decode cX10_dealing 24 = .ok (.invokestatic 77, 3) := by decide +kernel
theorem dX10_dealing_27 : decode cX10_dealing 27 = .ok (.ifCond .ne 5, 3) := by decide +kernel
theorem dX10_dealing_30 : decode cX10_dealing 30 = .ok (.iconst (-1), 1) := by decide +kernel
theorem dX10_dealing_31 : decode cX10_dealing 31 = .ok (.ireturn, 1) := by decide +kernel
theorem dX10_dealing_32 : decode cX10_dealing 32 = .ok (.aload_n 0, 1) := by decide +kernel
theorem dX10_dealing_33 : decode cX10_dealing 33 = .ok (.invokevirtual 162, 3) := by decide +kernel
theorem dX10_dealing_36 : decode cX10_dealing 36 = .ok (.iconst 0, 1) := by decide +kernel
theorem dX10_dealing_37 : decode cX10_dealing 37 = .ok (.istore 4, 2) := by decide +kernel
theorem dX10_dealing_39 : decode cX10_dealing 39 = .ok (.iload 4, 2) := by decide +kernel
theorem dX10_dealing_41 : decode cX10_dealing 41 = .ok (.iload_n 2, 1) := by decide +kernel
theorem dX10_dealing_42 : decode cX10_dealing 42 = .ok (.if_icmp .ge 88, 3) := by decide +kernel
theorem dX10_dealing_45 : decode cX10_dealing 45 = .ok (.ldc2_w 212, 3) := by decide +kernel
theorem dX10_dealing_48 : decode cX10_dealing 48 = .ok (.iload_n 1, 1) := by decide +kernel
theorem dX10_dealing_49 : decode cX10_dealing 49 = .ok (.i2l, 1) := by decide +kernel
theorem dX10_dealing_50 : decode cX10_dealing 50 = .ok (.lmul, 1) := by decide +kernel
theorem dX10_dealing_51 : decode cX10_dealing 51 = .ok (.ldc2_w 214, 3) := by decide +kernel
theorem dX10_dealing_54 : decode cX10_dealing 54 = .ok (.iload 4, 2) := by decide +kernel
theorem dX10_dealing_56 : decode cX10_dealing 56 = .ok (.i2l, 1) := by decide +kernel
theorem dX10_dealing_57 : decode cX10_dealing 57 = .ok (.lmul, 1) := by decide +kernel
theorem dX10_dealing_58 : decode cX10_dealing 58 = .ok (.ladd, 1) := by decide +kernel
theorem dX10_dealing_59 : decode cX10_dealing 59 = .ok (.lconst 1, 1) := by decide +kernel
theorem dX10_dealing_60 : decode cX10_dealing 60 = .ok (.ladd, 1) := by decide +kernel
theorem dX10_dealing_61 : decode cX10_dealing 61 = .ok (.lstore 5, 2) := by decide +kernel
theorem dX10_dealing_63 : decode cX10_dealing 63 = .ok (.lload 5, 2) := by decide +kernel
theorem dX10_dealing_65 : decode cX10_dealing 65 = .ok (.lload 5, 2) := by decide +kernel
theorem dX10_dealing_67 : decode cX10_dealing 67 = .ok (.lmul, 1) := by decide +kernel
theorem dX10_dealing_68 : decode cX10_dealing 68 = .ok (.ldc2_w 216, 3) := by decide +kernel
theorem dX10_dealing_71 : decode cX10_dealing 71 = .ok (.lrem, 1) := by decide +kernel
theorem dX10_dealing_72 : decode cX10_dealing 72 = .ok (.ldc2_w 218, 3) := by decide +kernel
theorem dX10_dealing_75 : decode cX10_dealing 75 = .ok (.ldiv, 1) := by decide +kernel
theorem dX10_dealing_76 : decode cX10_dealing 76 = .ok (.l2i, 1) := by decide +kernel
theorem dX10_dealing_77 : decode cX10_dealing 77 = .ok (.istore 7, 2) := by decide +kernel
theorem dX10_dealing_79 : decode cX10_dealing 79 = .ok (.iload 7, 2) := by decide +kernel
theorem dX10_dealing_81 : decode cX10_dealing 81 = .ok (.bipush 7, 2) := by decide +kernel
theorem dX10_dealing_83 : decode cX10_dealing 83 = .ok (.irem, 1) := by decide +kernel
theorem dX10_dealing_84 : decode cX10_dealing 84 = .ok (.istore 8, 2) := by decide +kernel
theorem dX10_dealing_86 : decode cX10_dealing 86 = .ok (.aload_n 0, 1) := by decide +kernel
theorem dX10_dealing_87 : decode cX10_dealing 87 = .ok (.iload 8, 2) := by decide +kernel
theorem dX10_dealing_89 : decode cX10_dealing 89 = .ok (.iconst 5, 1) := by decide +kernel
theorem dX10_dealing_90 : decode cX10_dealing 90 = .ok (.if_icmp .ge 8, 3) := by decide +kernel
theorem dX10_dealing_93 : decode cX10_dealing 93 = .ok (.iload 8, 2) := by decide +kernel
theorem dX10_dealing_95 : decode cX10_dealing 95 = .ok (.goto 26, 3) := by decide +kernel
theorem dX10_dealing_98 : decode cX10_dealing 98 = .ok (.iload 8, 2) := by decide +kernel
theorem dX10_dealing_100 : decode cX10_dealing 100 = .ok (.iconst 5, 1) := by decide +kernel
theorem dX10_dealing_101 : decode cX10_dealing 101 = .ok (.if_icmp .ne 19, 3) := by decide +kernel
theorem dX10_dealing_104 : decode cX10_dealing 104 = .ok (.bipush 6, 2) := by decide +kernel
theorem dX10_dealing_106 : decode cX10_dealing 106 = .ok (.iload 7, 2) := by decide +kernel
theorem dX10_dealing_108 : decode cX10_dealing 108 = .ok (.bipush 8, 2) := by decide +kernel
theorem dX10_dealing_110 : decode cX10_dealing 110 = .ok (.idiv, 1) := by decide +kernel
theorem dX10_dealing_111 : decode cX10_dealing 111 = .ok (.aload_n 0, 1) := by decide +kernel
theorem dX10_dealing_112 : decode cX10_dealing 112 = .ok (.getfield 74, 3) := by decide +kernel
theorem dX10_dealing_115 : decode cX10_dealing 115 = .ok (.irem, 1) := by decide +kernel
theorem dX10_dealing_116 : decode cX10_dealing 116 = .ok (.iadd, 1) := by decide +kernel
theorem dX10_dealing_117 : decode cX10_dealing 117 = .ok (.goto 4, 3) := by decide +kernel
theorem dX10_dealing_120 : decode cX10_dealing 120 = .ok (.iconst 5, 1) := by decide +kernel
theorem dX10_dealing_121 : decode cX10_dealing 121 = .ok (.invokevirtual 157, 3) := by decide +kernel
theorem dX10_dealing_124 : decode cX10_dealing 124 = .ok (.iinc 4 1, 3) := by decide +kernel
theorem dX10_dealing_127 : decode cX10_dealing 127 = .ok (.goto (-88), 3) := by decide +kernel
theorem dX10_dealing_130 : decode cX10_dealing 130 = .ok (.iconst 0, 1) := by decide +kernel
theorem dX10_dealing_131 : decode cX10_dealing 131 = .ok (.istore 4, 2) := by decide +kernel
theorem dX10_dealing_133 : decode cX10_dealing 133 = .ok (.iconst 0, 1) := by decide +kernel
theorem dX10_dealing_134 : decode cX10_dealing 134 = .ok (.istore 5, 2) := by decide +kernel
theorem dX10_dealing_136 : decode cX10_dealing 136 = .ok (.iload 5, 2) := by decide +kernel
theorem dX10_dealing_138 : decode cX10_dealing 138 = .ok (.aload_n 0, 1) := by decide +kernel
theorem dX10_dealing_139 : decode cX10_dealing 139 = .ok (.getfield 74, 3) := by decide +kernel
theorem dX10_dealing_142 : decode cX10_dealing 142 = .ok (.if_icmp .ge 36, 3) := by decide +kernel
theorem dX10_dealing_145 : decode cX10_dealing 145 = .ok (.iload 4, 2) := by decide +kernel
theorem dX10_dealing_147 : decode cX10_dealing 147 = .ok (.aload_n 0, 1) := by decide +kernel
theorem dX10_dealing_148 : decode cX10_dealing 148 = .ok (.getfield 40, 3) := by decide +kernel
theorem dX10_dealing_151 : decode cX10_dealing 151 = .ok (.iload 5, 2) := by decide +kernel
theorem dX10_dealing_153 : decode cX10_dealing 153 = .ok (.iaload, 1) := by decide +kernel
theorem dX10_dealing_154 : decode cX10_dealing 154 = .ok (.aload_n 0, 1) := by decide +kernel
theorem dX10_dealing_155 : decode cX10_dealing 155 = .ok (.getfield 16, 3) := by decide +kernel
theorem dX10_dealing_158 : decode cX10_dealing 158 = .ok (.iload 5, 2) := by decide +kernel
theorem dX10_dealing_160 : decode cX10_dealing 160 = .ok (.iaload, 1) := by decide +kernel
theorem dX10_dealing_161 : decode cX10_dealing 161 = .ok (.if_icmp .ne 7, 3) := by decide +kernel
theorem dX10_dealing_164 : decode cX10_dealing 164 = .ok (.iconst 1, 1) := by decide +kernel
theorem dX10_dealing_165 : decode cX10_dealing 165 = .ok (.goto 4, 3) := by decide +kernel
theorem dX10_dealing_168 : decode cX10_dealing 168 = .ok (.iconst 0, 1) := by decide +kernel
theorem dX10_dealing_169 : decode cX10_dealing 169 = .ok (.iadd, 1) := by decide +kernel
theorem dX10_dealing_170 : decode cX10_dealing 170 = .ok (.istore 4, 2) := by decide +kernel
theorem dX10_dealing_172 : decode cX10_dealing 172 = .ok (.iinc 5 1, 3) := by decide +kernel
theorem dX10_dealing_175 : decode cX10_dealing 175 = .ok (.goto (-39), 3) := by decide +kernel
theorem dX10_dealing_178 : decode cX10_dealing 178 = .ok (.iload_n 3, 1) := by decide +kernel
theorem dX10_dealing_179 : decode cX10_dealing 179 = .ok (.ifCond .ne 12, 3) := by decide +kernel
theorem dX10_dealing_182 : decode cX10_dealing 182 = .ok (.aload_n 0, 1) := by decide +kernel
theorem dX10_dealing_183 : decode cX10_dealing 183 = .ok (.getfield 40, 3) := by decide +kernel
theorem dX10_dealing_186 : decode cX10_dealing 186 = .ok (.iconst 0, 1) := by decide +kernel
theorem dX10_dealing_187 : decode cX10_dealing 187 = .ok (.iaload, 1) := by decide +kernel
theorem dX10_dealing_188 : decode cX10_dealing 188 = .ok (.goto 17, 3) := by decide +kernel
theorem dX10_dealing_191 : decode cX10_dealing 191 = .ok (.iload_n 3, 1) := by decide +kernel
theorem dX10_dealing_192 : decode cX10_dealing 192 = .ok (.iconst 1, 1) := by decide +kernel
theorem dX10_dealing_193 : decode cX10_dealing 193 = .ok (.if_icmp .ne 8, 3) := by decide +kernel
theorem dX10_dealing_196 : decode cX10_dealing 196 = .ok (.iload 4, 2) := by decide +kernel
theorem dX10_dealing_198 : decode cX10_dealing 198 = .ok (.goto 7, 3) := by decide +kernel
theorem dX10_dealing_201 : decode cX10_dealing 201 = .ok (.aload_n 0, 1) := by decide +kernel
theorem dX10_dealing_202 : decode cX10_dealing 202 = .ok (.invokevirtual 195, 3) := by decide +kernel
theorem dX10_dealing_205 : decode cX10_dealing 205 = .ok (.ireturn, 1) := by decide +kernel
theorem dX10_keep_0 : decode cX10_keep 0 = .ok (.aload_n 0, 1) := by decide +kernel
theorem dX10_keep_1 : decode cX10_keep 1 = .ok (.getfield 137, 3) := by decide +kernel
theorem dX10_keep_4 : decode cX10_keep 4 = .ok (.iconst 2, 1) := by decide +kernel
theorem dX10_keep_5 : decode cX10_keep 5 = .ok (.if_icmp .ne 6, 3) := by decide +kernel
theorem dX10_keep_8 : decode cX10_keep 8 = .ok (.bipush (-3), 2) := by decide +kernel
theorem dX10_keep_10 : decode cX10_keep 10 = .ok (.ireturn, 1) := by decide +kernel
theorem dX10_keep_11 : decode cX10_keep 11 = .ok (.aload_n 0, 1) := by decide +kernel
theorem dX10_keep_12 : decode cX10_keep 12 = .ok (.getfield 22, 3) := by decide +kernel
theorem dX10_keep_15 : decode cX10_keep 15 = .ok (.bipush 16, 2) := by decide +kernel
theorem dX10_keep_17 : decode cX10_keep 17 = .ok (.aload_n 0, 1) := by decide +kernel
theorem dX10_keep_18 : decode cX10_keep 18 = .ok (.getfield 137, 3) := by decide +kernel
theorem dX10_keep_21 : decode cX10_keep 21 = .ok (.imul, 1) := by decide +kernel
theorem dX10_keep_22 : decode cX10_keep 22 = .ok (.aload_n 0, 1) := by decide +kernel
theorem dX10_keep_23 : decode cX10_keep 23 = .ok (.getfield 16, 3) := by decide +kernel
theorem dX10_keep_26 : decode cX10_keep 26 = .ok (.iconst 0, 1) := by decide +kernel
theorem dX10_keep_27 : decode cX10_keep 27 = .ok (.bipush 16, 2) := by decide +kernel
theorem dX10_keep_29 : decode cX10_keep 29 = .ok (.invokestatic 123, 3) := by decide +kernel
theorem dX10_keep_32 : decode cX10_keep 32 = .ok (.aload_n 0, 1) := by decide +kernel
theorem dX10_keep_33 : decode cX10_keep 33 = .ok (.dup, 1) := by decide +kernel
theorem dX10_keep_34 : decode cX10_keep 34 = .ok (.getfield 137, 3) := by decide +kernel
theorem dX10_keep_37 : decode cX10_keep 37 = .ok (.iconst 1, 1) := by decide +kernel
theorem dX10_keep_38 : decode cX10_keep 38 = .ok (.iadd, 1) := by decide +kernel
theorem dX10_keep_39 : decode cX10_keep 39 = .ok (.putfield 137, 3) := by decide +kernel
theorem dX10_keep_42 : decode cX10_keep 42 = .ok (.aload_n 0, 1) := by decide +kernel
theorem dX10_keep_43 : decode cX10_keep 43 = .ok (.getfield 137, 3) := by decide +kernel
theorem dX10_keep_46 : decode cX10_keep 46 = .ok (.ireturn, 1) := by decide +kernel
theorem dX10_back_0 : decode cX10_back 0 = .ok (.aload_n 0, 1) := by decide +kernel
theorem dX10_back_1 : decode cX10_back 1 = .ok (.getfield 137, 3) := by decide +kernel
theorem dX10_back_4 : decode cX10_back 4 = .ok (.ifCond .ne 6, 3) := by decide +kernel
theorem dX10_back_7 : decode cX10_back 7 = .ok (.bipush (-2), 2) := by decide +kernel
theorem dX10_back_9 : decode cX10_back 9 = .ok (.ireturn, 1) := by decide +kernel
theorem dX10_back_10 : decode cX10_back 10 = .ok (.aload_n 0, 1) := by decide +kernel
theorem dX10_back_11 : decode cX10_back 11 = .ok (.dup, 1) := by decide +kernel
theorem dX10_back_12 : decode cX10_back 12 = .ok (.getfield 137, 3) := by decide +kernel
theorem dX10_back_15 : decode cX10_back 15 = .ok (.iconst 1, 1) := by decide +kernel
theorem dX10_back_16 : decode cX10_back 16 = .ok (.isub, 1) := by decide +kernel
theorem dX10_back_17 : decode cX10_back 17 = .ok (.putfield 137, 3) := by decide +kernel
theorem dX10_back_20 : decode cX10_back 20 = .ok (.aload_n 0, 1) := by decide +kernel
theorem dX10_back_21 : decode cX10_back 21 = .ok (.getfield 16, 3) := by decide +kernel
theorem dX10_back_24 : decode cX10_back 24 = .ok (.iconst 0, 1) := by decide +kernel
theorem dX10_back_25 : decode cX10_back 25 = .ok (.aload_n 0, 1) := by decide +kernel
theorem dX10_back_26 : decode cX10_back 26 = .ok (.getfield 22, 3) := by decide +kernel
theorem dX10_back_29 : decode cX10_back 29 = .ok (.bipush 16, 2) := by decide +kernel
theorem dX10_back_31 : decode cX10_back 31 = .ok (.aload_n 0, 1) := by decide +kernel
theorem dX10_back_32 : decode cX10_back 32 = .ok (.getfield 137, 3) := by decide +kernel
theorem dX10_back_35 : decode cX10_back 35 = .ok (.imul, 1) := by decide +kernel
theorem dX10_back_36 : decode cX10_back 36 = .ok (.bipush 16, 2) := by decide +kernel
theorem dX10_back_38 : decode cX10_back 38 = .ok (.invokestatic 123, 3) := by decide +kernel
theorem dX10_back_41 : decode cX10_back 41 = .ok (.aload_n 0, 1) := by decide +kernel
theorem dX10_back_42 : decode cX10_back 42 = .ok (.iconst 0, 1) := by decide +kernel
theorem dX10_back_43 : decode cX10_back 43 = .ok (.putfield 134, 3) := by decide +kernel
theorem dX10_back_46 : decode cX10_back 46 = .ok (.aload_n 0, 1) := by decide +kernel
theorem dX10_back_47 : decode cX10_back 47 = .ok (.getfield 137, 3) := by decide +kernel
theorem dX10_back_50 : decode cX10_back 50 = .ok (.ireturn, 1) := by decide +kernel
theorem dX10_count_0 : decode cX10_count 0 = .ok (.iload_n 1, 1) := by decide +kernel
theorem dX10_count_1 : decode cX10_count 1 = .ok (.tableswitch 69 0 5 #[39, 44, 49, 54, 59, 64], 39) := by decide +kernel
theorem dX10_count_40 : decode cX10_count 40 = .ok (.aload_n 0, 1) := by decide +kernel
theorem dX10_count_41 : decode cX10_count 41 = .ok (.getfield 74, 3) := by decide +kernel
theorem dX10_count_44 : decode cX10_count 44 = .ok (.ireturn, 1) := by decide +kernel
theorem dX10_count_45 : decode cX10_count 45 = .ok (.aload_n 0, 1) := by decide +kernel
theorem dX10_count_46 : decode cX10_count 46 = .ok (.getfield 127, 3) := by decide +kernel
theorem dX10_count_49 : decode cX10_count 49 = .ok (.ireturn, 1) := by decide +kernel
theorem dX10_count_50 : decode cX10_count 50 = .ok (.aload_n 0, 1) := by decide +kernel
theorem dX10_count_51 : decode cX10_count 51 = .ok (.getfield 140, 3) := by decide +kernel
theorem dX10_count_54 : decode cX10_count 54 = .ok (.ireturn, 1) := by decide +kernel
theorem dX10_count_55 : decode cX10_count 55 = .ok (.aload_n 0, 1) := by decide +kernel
theorem dX10_count_56 : decode cX10_count 56 = .ok (.getfield 134, 3) := by decide +kernel
theorem dX10_count_59 : decode cX10_count 59 = .ok (.ireturn, 1) := by decide +kernel
theorem dX10_count_60 : decode cX10_count 60 = .ok (.aload_n 0, 1) := by decide +kernel
theorem dX10_count_61 : decode cX10_count 61 = .ok (.getfield 137, 3) := by decide +kernel
theorem dX10_count_64 : decode cX10_count 64 = .ok (.ireturn, 1) := by decide +kernel
theorem dX10_count_65 : decode cX10_count 65 = .ok (.aload_n 0, 1) := by decide +kernel
theorem dX10_count_66 : decode cX10_count 66 = .ok (.getfield 81, 3) := by decide +kernel
theorem dX10_count_69 : decode cX10_count 69 = .ok (.ireturn, 1) := by decide +kernel
theorem dX10_count_70 : decode cX10_count 70 = .ok (.iconst (-1), 1) := by decide +kernel
theorem dX10_count_71 : decode cX10_count 71 = .ok (.ireturn, 1) := by decide +kernel
end
section
/-! decode rows -/
theorem dL_law_0 : decode cL_law 0 = .ok (.new 7, 3) := by decide +kernel
theorem dL_law_3 : decode cL_law 3 = .ok (.dup, 1) := by decide +kernel
theorem dL_law_4 : decode cL_law 4 = .ok (.invokespecial 9, 3) := by decide +kernel
theorem dL_law_7 : decode cL_law 7 = .ok (.astore_n 1, 1) := by decide +kernel
theorem dL_law_8 : decode cL_law 8 = .ok (.new 10, 3) := by decide +kernel
theorem dL_law_11 : decode cL_law 11 = .ok (.dup, 1) := by decide +kernel
theorem dL_law_12 : decode cL_law 12 = .ok (.invokespecial 12, 3) := by decide +kernel
theorem dL_law_15 : decode cL_law 15 = .ok (.astore_n 2, 1) := by decide +kernel
theorem dL_law_16 : decode cL_law 16 = .ok (.iconst 0, 1) := by decide +kernel
theorem dL_law_17 : decode cL_law 17 = .ok (.istore_n 3, 1) := by decide +kernel
theorem dL_law_18 : decode cL_law 18 = .ok (.iload_n 3, 1) := by decide +kernel
theorem dL_law_19 : decode cL_law 19 = .ok (.aload_n 0, 1) := by decide +kernel
theorem dL_law_20 : decode cL_law 20 = .ok (.arraylength, 1) := by decide +kernel
theorem dL_law_21 : decode cL_law 21 = .ok (.bipush 6, 2) := by decide +kernel
theorem dL_law_23 : decode cL_law 23 = .ok (.isub, 1) := by decide +kernel
theorem dL_law_24 : decode cL_law 24 = .ok (.if_icmp .gt 823, 3) := by decide +kernel
theorem dL_law_27 : decode cL_law 27 = .ok (.aload_n 0, 1) := by decide +kernel
theorem dL_law_28 : decode cL_law 28 = .ok (.iload_n 3, 1) := by decide +kernel
theorem dL_law_29 : decode cL_law 29 = .ok (.iaload, 1) := by decide +kernel
theorem dL_law_30 : decode cL_law 30 = .ok (.bipush 31, 2) := by decide +kernel
theorem dL_law_32 : decode cL_law 32 = .ok (.iand, 1) := by decide +kernel
theorem dL_law_33 : decode cL_law 33 = .ok (.tableswitch 808 0 28 #[131, 154, 167, 180, 193, 216, 239, 262, 285, 308, 321, 334, 347, 370, 403, 426, 469, 502, 525, 538, 551, 584, 617, 630, 653, 716, 759, 772, 785], 131) := by decide +kernel
theorem dL_law_164 : decode cL_law 164 = .ok (.aload_n 1, 1) := by decide +kernel
theorem dL_law_165 : decode cL_law 165 = .ok (.aload_n 0, 1) := by decide +kernel
theorem dL_law_166 : decode cL_law 166 = .ok (.iload_n 3, 1) := by decide +kernel
theorem dL_law_167 : decode cL_law 167 = .ok (.iconst 1, 1) := by decide +kernel
theorem dL_law_168 : decode cL_law 168 = .ok (.iadd, 1) := by decide +kernel
theorem dL_law_169 : decode cL_law 169 = .ok (.iaload, 1) := by decide +kernel
theorem dL_law_170 : decode cL_law 170 = .ok (.invokevirtual 13, 3) := by decide +kernel
theorem dL_law_173 : decode cL_law 173 = .ok (.aload_n 2, 1) := by decide +kernel
theorem dL_law_174 : decode cL_law 174 = .ok (.aload_n 0, 1) := by decide +kernel
theorem dL_law_175 : decode cL_law 175 = .ok (.iload_n 3, 1) := by decide +kernel
theorem dL_law_176 : decode cL_law 176 = .ok (.iconst 1, 1) := by decide +kernel
theorem dL_law_177 : decode cL_law 177 = .ok (.iadd, 1) := by decide +kernel
theorem dL_law_178 : decode cL_law 178 = .ok (.iaload, 1) := by decide +kernel
theorem dL_law_179 : decode cL_law 179 = .ok (.invokevirtual 17, 3) := by decide +kernel
theorem dL_law_182 : decode cL_law 182 = .ok (.if_icmp .eq 659, 3) := by decide +kernel
theorem dL_law_185 : decode cL_law 185 = .ok (.iconst 0, 1) := by decide +kernel
theorem dL_law_186 : decode cL_law 186 = .ok (.ireturn, 1) := by decide +kernel
theorem dL_law_187 : decode cL_law 187 = .ok (.aload_n 1, 1) := by decide +kernel
theorem dL_law_188 : decode cL_law 188 = .ok (.invokevirtual 18, 3) := by decide +kernel
theorem dL_law_191 : decode cL_law 191 = .ok (.aload_n 2, 1) := by decide +kernel
theorem dL_law_192 : decode cL_law 192 = .ok (.invokevirtual 22, 3) := by decide +kernel
theorem dL_law_195 : decode cL_law 195 = .ok (.if_icmp .eq 646, 3) := by decide +kernel
theorem dL_law_198 : decode cL_law 198 = .ok (.iconst 0, 1) := by decide +kernel
theorem dL_law_199 : decode cL_law 199 = .ok (.ireturn, 1) := by decide +kernel
theorem dL_law_200 : decode cL_law 200 = .ok (.aload_n 1, 1) := by decide +kernel
theorem dL_law_201 : decode cL_law 201 = .ok (.invokevirtual 23, 3) := by decide +kernel
theorem dL_law_204 : decode cL_law 204 = .ok (.aload_n 2, 1) := by decide +kernel
theorem dL_law_205 : decode cL_law 205 = .ok (.invokevirtual 26, 3) := by decide +kernel
theorem dL_law_208 : decode cL_law 208 = .ok (.if_icmp .eq 633, 3) := by decide +kernel
theorem dL_law_211 : decode cL_law 211 = .ok (.iconst 0, 1) := by decide +kernel
theorem dL_law_212 : decode cL_law 212 = .ok (.ireturn, 1) := by decide +kernel
theorem dL_law_213 : decode cL_law 213 = .ok (.aload_n 1, 1) := by decide +kernel
theorem dL_law_214 : decode cL_law 214 = .ok (.invokevirtual 27, 3) := by decide +kernel
theorem dL_law_217 : decode cL_law 217 = .ok (.aload_n 2, 1) := by decide +kernel
theorem dL_law_218 : decode cL_law 218 = .ok (.invokevirtual 30, 3) := by decide +kernel
theorem dL_law_221 : decode cL_law 221 = .ok (.if_icmp .eq 620, 3) := by decide +kernel
theorem dL_law_224 : decode cL_law 224 = .ok (.iconst 0, 1) := by decide +kernel
theorem dL_law_225 : decode cL_law 225 = .ok (.ireturn, 1) := by decide +kernel
theorem dL_law_226 : decode cL_law 226 = .ok (.aload_n 1, 1) := by decide +kernel
theorem dL_law_227 : decode cL_law 227 = .ok (.aload_n 0, 1) := by decide +kernel
theorem dL_law_228 : decode cL_law 228 = .ok (.iload_n 3, 1) := by decide +kernel
theorem dL_law_229 : decode cL_law 229 = .ok (.iconst 1, 1) := by decide +kernel
theorem dL_law_230 : decode cL_law 230 = .ok (.iadd, 1) := by decide +kernel
theorem dL_law_231 : decode cL_law 231 = .ok (.iaload, 1) := by decide +kernel
theorem dL_law_232 : decode cL_law 232 = .ok (.invokevirtual 31, 3) := by decide +kernel
theorem dL_law_235 : decode cL_law 235 = .ok (.aload_n 2, 1) := by decide +kernel
theorem dL_law_236 : decode cL_law 236 = .ok (.aload_n 0, 1) := by decide +kernel
theorem dL_law_237 : decode cL_law 237 = .ok (.iload_n 3, 1) := by decide +kernel
theorem dL_law_238 : decode cL_law 238 = .ok (.iconst 1, 1) := by decide +kernel
theorem dL_law_239 : decode cL_law 239 = .ok (.iadd, 1) := by decide +kernel
theorem dL_law_240 : decode cL_law 240 = .ok (.iaload, 1) := by decide +kernel
theorem dL_law_241 : decode cL_law 241 = .ok (.invokevirtual 34, 3) := by decide +kernel
theorem dL_law_244 : decode cL_law 244 = .ok (.if_icmp .eq 597, 3) := by decide +kernel
theorem dL_law_247 : decode cL_law 247 = .ok (.iconst 0, 1) := by decide +kernel
theorem dL_law_248 : decode cL_law 248 = .ok (.ireturn, 1) := by decide +kernel
theorem dL_law_249 : decode cL_law 249 = .ok (.aload_n 1, 1) := by decide +kernel
theorem dL_law_250 : decode cL_law 250 = .ok (.aload_n 0, 1) := by decide +kernel
theorem dL_law_251 : decode cL_law 251 = .ok (.iload_n 3, 1) := by decide +kernel
theorem dL_law_252 : decode cL_law 252 = .ok (.iconst 1, 1) := by decide +kernel
theorem dL_law_253 : decode cL_law 253 = .ok (.iadd, 1) := by decide +kernel
theorem dL_law_254 : decode cL_law 254 = .ok (.iaload, 1) := by decide +kernel
theorem dL_law_255 : decode cL_law 255 = .ok (.invokevirtual 35, 3) := by decide +kernel
theorem dL_law_258 : decode cL_law 258 = .ok (.aload_n 2, 1) := by decide +kernel
theorem dL_law_259 : decode cL_law 259 = .ok (.aload_n 0, 1) := by decide +kernel
theorem dL_law_260 : decode cL_law 260 = .ok (.iload_n 3, 1) := by decide +kernel
theorem dL_law_261 : decode cL_law 261 = .ok (.iconst 1, 1) := by decide +kernel
theorem dL_law_262 : decode cL_law 262 = .ok (.iadd, 1) := by decide +kernel
theorem dL_law_263 : decode cL_law 263 = .ok (.iaload, 1) := by decide +kernel
theorem dL_law_264 : decode cL_law 264 = .ok (.invokevirtual 38, 3) := by decide +kernel
theorem dL_law_267 : decode cL_law 267 = .ok (.if_icmp .eq 574, 3) := by decide +kernel
theorem dL_law_270 : decode cL_law 270 = .ok (.iconst 0, 1) := by decide +kernel
theorem dL_law_271 : decode cL_law 271 = .ok (.ireturn, 1) := by decide +kernel
theorem dL_law_272 : decode cL_law 272 = .ok (.aload_n 1, 1) := by decide +kernel
theorem dL_law_273 : decode cL_law 273 = .ok (.aload_n 0, 1) := by decide +kernel
theorem dL_law_274 : decode cL_law 274 = .ok (.iload_n 3, 1) := by decide +kernel
theorem dL_law_275 : decode cL_law 275 = .ok (.iconst 1, 1) := by decide +kernel
theorem dL_law_276 : decode cL_law 276 = .ok (.iadd, 1) := by decide +kernel
theorem dL_law_277 : decode cL_law 277 = .ok (.iaload, 1) := by decide +kernel
theorem dL_law_278 : decode cL_law 278 = .ok (.invokevirtual 39, 3) := by decide +kernel
theorem dL_law_281 : decode cL_law 281 = .ok (.aload_n 2, 1) := by decide +kernel
theorem dL_law_282 : decode cL_law 282 = .ok (.aload_n 0, 1) := by decide +kernel
theorem dL_law_283 : decode cL_law 283 = .ok (.iload_n 3, 1) := by decide +kernel
theorem dL_law_284 : decode cL_law 284 = .ok (.iconst 1, 1) := by decide +kernel
theorem dL_law_285 : decode cL_law 285 = .ok (.iadd, 1) := by decide +kernel
theorem dL_law_286 : decode cL_law 286 = .ok (.iaload, 1) := by decide +kernel
theorem dL_law_287 : decode cL_law 287 = .ok (.invokevirtual 42, 3) := by decide +kernel
theorem dL_law_290 : decode cL_law 290 = .ok (.if_icmp .eq 551, 3) := by decide +kernel
theorem dL_law_293 : decode cL_law 293 = .ok (.iconst 0, 1) := by decide +kernel
theorem dL_law_294 : decode cL_law 294 = .ok (.ireturn, 1) := by decide +kernel
theorem dL_law_295 : decode cL_law 295 = .ok (.aload_n 1, 1) := by decide +kernel
theorem dL_law_296 : decode cL_law 296 = .ok (.aload_n 0, 1) := by decide +kernel
theorem dL_law_297 : decode cL_law 297 = .ok (.iload_n 3, 1) := by decide +kernel
theorem dL_law_298 : decode cL_law 298 = .ok (.iconst 1, 1) := by decide +kernel
theorem dL_law_299 : decode cL_law 299 = .ok (.iadd, 1) := by decide +kernel
theorem dL_law_300 : decode cL_law 300 = .ok (.iaload, 1) := by decide +kernel
theorem dL_law_301 : decode cL_law 301 = .ok (.invokevirtual 43, 3) := by decide +kernel
theorem dL_law_304 : decode cL_law 304 = .ok (.aload_n 2, 1) := by decide +kernel
theorem dL_law_305 : decode cL_law 305 = .ok (.aload_n 0, 1) := by decide +kernel
theorem dL_law_306 : decode cL_law 306 = .ok (.iload_n 3, 1) := by decide +kernel
theorem dL_law_307 : decode cL_law 307 = .ok (.iconst 1, 1) := by decide +kernel
theorem dL_law_308 : decode cL_law 308 = .ok (.iadd, 1) := by decide +kernel
theorem dL_law_309 : decode cL_law 309 = .ok (.iaload, 1) := by decide +kernel
theorem dL_law_310 : decode cL_law 310 = .ok (.invokevirtual 46, 3) := by decide +kernel
theorem dL_law_313 : decode cL_law 313 = .ok (.if_icmp .eq 528, 3) := by decide +kernel
theorem dL_law_316 : decode cL_law 316 = .ok (.iconst 0, 1) := by decide +kernel
theorem dL_law_317 : decode cL_law 317 = .ok (.ireturn, 1) := by decide +kernel
theorem dL_law_318 : decode cL_law 318 = .ok (.aload_n 1, 1) := by decide +kernel
theorem dL_law_319 : decode cL_law 319 = .ok (.aload_n 0, 1) := by decide +kernel
theorem dL_law_320 : decode cL_law 320 = .ok (.iload_n 3, 1) := by decide +kernel
theorem dL_law_321 : decode cL_law 321 = .ok (.iconst 1, 1) := by decide +kernel
theorem dL_law_322 : decode cL_law 322 = .ok (.iadd, 1) := by decide +kernel
theorem dL_law_323 : decode cL_law 323 = .ok (.iaload, 1) := by decide +kernel
theorem dL_law_324 : decode cL_law 324 = .ok (.invokevirtual 47, 3) := by decide +kernel
theorem dL_law_327 : decode cL_law 327 = .ok (.aload_n 2, 1) := by decide +kernel
theorem dL_law_328 : decode cL_law 328 = .ok (.aload_n 0, 1) := by decide +kernel
theorem dL_law_329 : decode cL_law 329 = .ok (.iload_n 3, 1) := by decide +kernel
theorem dL_law_330 : decode cL_law 330 = .ok (.iconst 1, 1) := by decide +kernel
theorem dL_law_331 : decode cL_law 331 = .ok (.iadd, 1) := by decide +kernel
theorem dL_law_332 : decode cL_law 332 = .ok (.iaload, 1) := by decide +kernel
theorem dL_law_333 : decode cL_law 333 = .ok (.invokevirtual 50, 3) := by decide +kernel
theorem dL_law_336 : decode cL_law 336 = .ok (.if_icmp .eq 505, 3) := by decide +kernel
theorem dL_law_339 : decode cL_law 339 = .ok (.iconst 0, 1) := by decide +kernel
theorem dL_law_340 : decode cL_law 340 = .ok (.ireturn, 1) := by decide +kernel
theorem dL_law_341 : decode cL_law 341 = .ok (.aload_n 1, 1) := by decide +kernel
theorem dL_law_342 : decode cL_law 342 = .ok (.invokevirtual 51, 3) := by decide +kernel
theorem dL_law_345 : decode cL_law 345 = .ok (.aload_n 2, 1) := by decide +kernel
theorem dL_law_346 : decode cL_law 346 = .ok (.invokevirtual 54, 3) := by decide +kernel
theorem dL_law_349 : decode cL_law 349 = .ok (.if_icmp .eq 492, 3) := by decide +kernel
theorem dL_law_352 : decode cL_law 352 = .ok (.iconst 0, 1) := by decide +kernel
theorem dL_law_353 : decode cL_law 353 = .ok (.ireturn, 1) := by decide +kernel
theorem dL_law_354 : decode cL_law 354 = .ok (.aload_n 1, 1) := by decide +kernel
theorem dL_law_355 : decode cL_law 355 = .ok (.invokevirtual 55, 3) := by decide +kernel
theorem dL_law_358 : decode cL_law 358 = .ok (.aload_n 2, 1) := by decide +kernel
theorem dL_law_359 : decode cL_law 359 = .ok (.invokevirtual 58, 3) := by decide +kernel
theorem dL_law_362 : decode cL_law 362 = .ok (.if_icmp .eq 479, 3) := by decide +kernel
theorem dL_law_365 : decode cL_law 365 = .ok (.iconst 0, 1) := by decide +kernel
theorem dL_law_366 : decode cL_law 366 = .ok (.ireturn, 1) := by decide +kernel
theorem dL_law_367 : decode cL_law 367 = .ok (.aload_n 1, 1) := by decide +kernel
theorem dL_law_368 : decode cL_law 368 = .ok (.invokevirtual 59, 3) := by decide +kernel
theorem dL_law_371 : decode cL_law 371 = .ok (.aload_n 2, 1) := by decide +kernel
theorem dL_law_372 : decode cL_law 372 = .ok (.invokevirtual 62, 3) := by decide +kernel
theorem dL_law_375 : decode cL_law 375 = .ok (.if_icmp .eq 466, 3) := by decide +kernel
theorem dL_law_378 : decode cL_law 378 = .ok (.iconst 0, 1) := by decide +kernel
theorem dL_law_379 : decode cL_law 379 = .ok (.ireturn, 1) := by decide +kernel
theorem dL_law_380 : decode cL_law 380 = .ok (.aload_n 1, 1) := by decide +kernel
theorem dL_law_381 : decode cL_law 381 = .ok (.aload_n 0, 1) := by decide +kernel
theorem dL_law_382 : decode cL_law 382 = .ok (.iload_n 3, 1) := by decide +kernel
theorem dL_law_383 : decode cL_law 383 = .ok (.iconst 1, 1) := by decide +kernel
theorem dL_law_384 : decode cL_law 384 = .ok (.iadd, 1) := by decide +kernel
theorem dL_law_385 : decode cL_law 385 = .ok (.iaload, 1) := by decide +kernel
theorem dL_law_386 : decode cL_law 386 = .ok (.invokevirtual 63, 3) := by decide +kernel
theorem dL_law_389 : decode cL_law 389 = .ok (.aload_n 2, 1) := by decide +kernel
theorem dL_law_390 : decode cL_law 390 = .ok (.aload_n 0, 1) := by decide +kernel
theorem dL_law_391 : decode cL_law 391 = .ok (.iload_n 3, 1) := by decide +kernel
theorem dL_law_392 : decode cL_law 392 = .ok (.iconst 1, 1) := by decide +kernel
theorem dL_law_393 : decode cL_law 393 = .ok (.iadd, 1) := by decide +kernel
theorem dL_law_394 : decode cL_law 394 = .ok (.iaload, 1) := by decide +kernel
theorem dL_law_395 : decode cL_law 395 = .ok (.invokevirtual 66, 3) := by decide +kernel
theorem dL_law_398 : decode cL_law 398 = .ok (.if_icmp .eq 443, 3) := by decide +kernel
theorem dL_law_401 : decode cL_law 401 = .ok (.iconst 0, 1) := by decide +kernel
theorem dL_law_402 : decode cL_law 402 = .ok (.ireturn, 1) := by decide +kernel
theorem dL_law_403 : decode cL_law 403 = .ok (.aload_n 1, 1) := by decide +kernel
theorem dL_law_404 : decode cL_law 404 = .ok (.aload_n 0, 1) := by decide +kernel
theorem dL_law_405 : decode cL_law 405 = .ok (.iload_n 3, 1) := by decide +kernel
theorem dL_law_406 : decode cL_law 406 = .ok (.iconst 1, 1) := by decide +kernel
theorem dL_law_407 : decode cL_law 407 = .ok (.iadd, 1) := by decide +kernel
theorem dL_law_408 : decode cL_law 408 = .ok (.iaload, 1) := by decide +kernel
theorem dL_law_409 : decode cL_law 409 = .ok (.aload_n 0, 1) := by decide +kernel
theorem dL_law_410 : decode cL_law 410 = .ok (.iload_n 3, 1) := by decide +kernel
theorem dL_law_411 : decode cL_law 411 = .ok (.iconst 2, 1) := by decide +kernel
theorem dL_law_412 : decode cL_law 412 = .ok (.iadd, 1) := by decide +kernel
theorem dL_law_413 : decode cL_law 413 = .ok (.iaload, 1) := by decide +kernel
theorem dL_law_414 : decode cL_law 414 = .ok (.invokevirtual 67, 3) := by decide +kernel
theorem dL_law_417 : decode cL_law 417 = .ok (.aload_n 2, 1) := by decide +kernel
theorem dL_law_418 : decode cL_law 418 = .ok (.aload_n 0, 1) := by decide +kernel
theorem dL_law_419 : decode cL_law 419 = .ok (.iload_n 3, 1) := by decide +kernel
theorem dL_law_420 : decode cL_law 420 = .ok (.iconst 1, 1) := by decide +kernel
theorem dL_law_421 : decode cL_law 421 = .ok (.iadd, 1) := by decide +kernel
theorem dL_law_422 : decode cL_law 422 = .ok (.iaload, 1) := by decide +kernel
theorem dL_law_423 : decode cL_law 423 = .ok (.aload_n 0, 1) := by decide +kernel
theorem dL_law_424 : decode cL_law 424 = .ok (.iload_n 3, 1) := by decide +kernel
theorem dL_law_425 : decode cL_law 425 = .ok (.iconst 2, 1) := by decide +kernel
theorem dL_law_426 : decode cL_law 426 = .ok (.iadd, 1) := by decide +kernel
theorem dL_law_427 : decode cL_law 427 = .ok (.iaload, 1) := by decide +kernel
theorem dL_law_428 : decode cL_law 428 = .ok (.invokevirtual 71, 3) := by decide +kernel
theorem dL_law_431 : decode cL_law 431 = .ok (.if_icmp .eq 410, 3) := by decide +kernel
theorem dL_law_434 : decode cL_law 434 = .ok (.iconst 0, 1) := by decide +kernel
theorem dL_law_435 : decode cL_law 435 = .ok (.ireturn, 1) := by decide +kernel
theorem dL_law_436 : decode cL_law 436 = .ok (.aload_n 1, 1) := by decide +kernel
theorem dL_law_437 : decode cL_law 437 = .ok (.aload_n 0, 1) := by decide +kernel
theorem dL_law_438 : decode cL_law 438 = .ok (.iload_n 3, 1) := by decide +kernel
theorem dL_law_439 : decode cL_law 439 = .ok (.iconst 1, 1) := by decide +kernel
theorem dL_law_440 : decode cL_law 440 = .ok (.iadd, 1) := by decide +kernel
theorem dL_law_441 : decode cL_law 441 = .ok (.iaload, 1) := by decide +kernel
theorem dL_law_442 : decode cL_law 442 = .ok (.invokevirtual 72, 3) := by decide +kernel
theorem dL_law_445 : decode cL_law 445 = .ok (.aload_n 2, 1) := by decide +kernel
theorem dL_law_446 : decode cL_law 446 = .ok (.aload_n 0, 1) := by decide +kernel
theorem dL_law_447 : decode cL_law 447 = .ok (.iload_n 3, 1) := by decide +kernel
theorem dL_law_448 : decode cL_law 448 = .ok (.iconst 1, 1) := by decide +kernel
theorem dL_law_449 : decode cL_law 449 = .ok (.iadd, 1) := by decide +kernel
theorem dL_law_450 : decode cL_law 450 = .ok (.iaload, 1) := by decide +kernel
theorem dL_law_451 : decode cL_law 451 = .ok (.invokevirtual 75, 3) := by decide +kernel
theorem dL_law_454 : decode cL_law 454 = .ok (.if_icmp .eq 387, 3) := by decide +kernel
theorem dL_law_457 : decode cL_law 457 = .ok (.iconst 0, 1) := by decide +kernel
theorem dL_law_458 : decode cL_law 458 = .ok (.ireturn, 1) := by decide +kernel
theorem dL_law_459 : decode cL_law 459 = .ok (.aload_n 1, 1) := by decide +kernel
theorem dL_law_460 : decode cL_law 460 = .ok (.aload_n 0, 1) := by decide +kernel
theorem dL_law_461 : decode cL_law 461 = .ok (.iload_n 3, 1) := by decide +kernel
theorem dL_law_462 : decode cL_law 462 = .ok (.iconst 1, 1) := by decide +kernel
theorem dL_law_463 : decode cL_law 463 = .ok (.iadd, 1) := by decide +kernel
theorem dL_law_464 : decode cL_law 464 = .ok (.iaload, 1) := by decide +kernel
theorem dL_law_465 : decode cL_law 465 = .ok (.aload_n 0, 1) := by decide +kernel
theorem dL_law_466 : decode cL_law 466 = .ok (.iload_n 3, 1) := by decide +kernel
theorem dL_law_467 : decode cL_law 467 = .ok (.iconst 2, 1) := by decide +kernel
theorem dL_law_468 : decode cL_law 468 = .ok (.iadd, 1) := by decide +kernel
theorem dL_law_469 : decode cL_law 469 = .ok (.iaload, 1) := by decide +kernel
theorem dL_law_470 : decode cL_law 470 = .ok (.aload_n 0, 1) := by decide +kernel
theorem dL_law_471 : decode cL_law 471 = .ok (.iload_n 3, 1) := by decide +kernel
theorem dL_law_472 : decode cL_law 472 = .ok (.iconst 3, 1) := by decide +kernel
theorem dL_law_473 : decode cL_law 473 = .ok (.iadd, 1) := by decide +kernel
theorem dL_law_474 : decode cL_law 474 = .ok (.iaload, 1) := by decide +kernel
theorem dL_law_475 : decode cL_law 475 = .ok (.invokevirtual 76, 3) := by decide +kernel
theorem dL_law_478 : decode cL_law 478 = .ok (.aload_n 2, 1) := by decide +kernel
theorem dL_law_479 : decode cL_law 479 = .ok (.aload_n 0, 1) := by decide +kernel
theorem dL_law_480 : decode cL_law 480 = .ok (.iload_n 3, 1) := by decide +kernel
theorem dL_law_481 : decode cL_law 481 = .ok (.iconst 1, 1) := by decide +kernel
theorem dL_law_482 : decode cL_law 482 = .ok (.iadd, 1) := by decide +kernel
theorem dL_law_483 : decode cL_law 483 = .ok (.iaload, 1) := by decide +kernel
theorem dL_law_484 : decode cL_law 484 = .ok (.aload_n 0, 1) := by decide +kernel
theorem dL_law_485 : decode cL_law 485 = .ok (.iload_n 3, 1) := by decide +kernel
theorem dL_law_486 : decode cL_law 486 = .ok (.iconst 2, 1) := by decide +kernel
theorem dL_law_487 : decode cL_law 487 = .ok (.iadd, 1) := by decide +kernel
theorem dL_law_488 : decode cL_law 488 = .ok (.iaload, 1) := by decide +kernel
theorem dL_law_489 : decode cL_law 489 = .ok (.aload_n 0, 1) := by decide +kernel
theorem dL_law_490 : decode cL_law 490 = .ok (.iload_n 3, 1) := by decide +kernel
theorem dL_law_491 : decode cL_law 491 = .ok (.iconst 3, 1) := by decide +kernel
theorem dL_law_492 : decode cL_law 492 = .ok (.iadd, 1) := by decide +kernel
theorem dL_law_493 : decode cL_law 493 = .ok (.iaload, 1) := by decide +kernel
theorem dL_law_494 : decode cL_law 494 = .ok (.invokevirtual 80, 3) := by decide +kernel
theorem dL_law_497 : decode cL_law 497 = .ok (.if_icmp .eq 344, 3) := by decide +kernel
theorem dL_law_500 : decode cL_law 500 = .ok (.iconst 0, 1) := by decide +kernel
theorem dL_law_501 : decode cL_law 501 = .ok (.ireturn, 1) := by decide +kernel
theorem dL_law_502 : decode cL_law 502 = .ok (.aload_n 1, 1) := by decide +kernel
theorem dL_law_503 : decode cL_law 503 = .ok (.aload_n 0, 1) := by decide +kernel
theorem dL_law_504 : decode cL_law 504 = .ok (.iload_n 3, 1) := by decide +kernel
theorem dL_law_505 : decode cL_law 505 = .ok (.iconst 1, 1) := by decide +kernel
theorem dL_law_506 : decode cL_law 506 = .ok (.iadd, 1) := by decide +kernel
theorem dL_law_507 : decode cL_law 507 = .ok (.iaload, 1) := by decide +kernel
theorem dL_law_508 : decode cL_law 508 = .ok (.aload_n 0, 1) := by decide +kernel
theorem dL_law_509 : decode cL_law 509 = .ok (.iload_n 3, 1) := by decide +kernel
theorem dL_law_510 : decode cL_law 510 = .ok (.iconst 2, 1) := by decide +kernel
theorem dL_law_511 : decode cL_law 511 = .ok (.iadd, 1) := by decide +kernel
theorem dL_law_512 : decode cL_law 512 = .ok (.iaload, 1) := by decide +kernel
theorem dL_law_513 : decode cL_law 513 = .ok (.invokevirtual 81, 3) := by decide +kernel
theorem dL_law_516 : decode cL_law 516 = .ok (.aload_n 2, 1) := by decide +kernel
theorem dL_law_517 : decode cL_law 517 = .ok (.aload_n 0, 1) := by decide +kernel
theorem dL_law_518 : decode cL_law 518 = .ok (.iload_n 3, 1) := by decide +kernel
theorem dL_law_519 : decode cL_law 519 = .ok (.iconst 1, 1) := by decide +kernel
theorem dL_law_520 : decode cL_law 520 = .ok (.iadd, 1) := by decide +kernel
theorem dL_law_521 : decode cL_law 521 = .ok (.iaload, 1) := by decide +kernel
theorem dL_law_522 : decode cL_law 522 = .ok (.aload_n 0, 1) := by decide +kernel
theorem dL_law_523 : decode cL_law 523 = .ok (.iload_n 3, 1) := by decide +kernel
theorem dL_law_524 : decode cL_law 524 = .ok (.iconst 2, 1) := by decide +kernel
theorem dL_law_525 : decode cL_law 525 = .ok (.iadd, 1) := by decide +kernel
theorem dL_law_526 : decode cL_law 526 = .ok (.iaload, 1) := by decide +kernel
theorem dL_law_527 : decode cL_law 527 = .ok (.invokevirtual 84, 3) := by decide +kernel
theorem dL_law_530 : decode cL_law 530 = .ok (.if_icmp .eq 311, 3) := by decide +kernel
theorem dL_law_533 : decode cL_law 533 = .ok (.iconst 0, 1) := by decide +kernel
theorem dL_law_534 : decode cL_law 534 = .ok (.ireturn, 1) := by decide +kernel
theorem dL_law_535 : decode cL_law 535 = .ok (.aload_n 1, 1) := by decide +kernel
theorem dL_law_536 : decode cL_law 536 = .ok (.aload_n 0, 1) := by decide +kernel
theorem dL_law_537 : decode cL_law 537 = .ok (.iload_n 3, 1) := by decide +kernel
theorem dL_law_538 : decode cL_law 538 = .ok (.iconst 1, 1) := by decide +kernel
theorem dL_law_539 : decode cL_law 539 = .ok (.iadd, 1) := by decide +kernel
theorem dL_law_540 : decode cL_law 540 = .ok (.iaload, 1) := by decide +kernel
theorem dL_law_541 : decode cL_law 541 = .ok (.invokevirtual 85, 3) := by decide +kernel
theorem dL_law_544 : decode cL_law 544 = .ok (.aload_n 2, 1) := by decide +kernel
theorem dL_law_545 : decode cL_law 545 = .ok (.aload_n 0, 1) := by decide +kernel
theorem dL_law_546 : decode cL_law 546 = .ok (.iload_n 3, 1) := by decide +kernel
theorem dL_law_547 : decode cL_law 547 = .ok (.iconst 1, 1) := by decide +kernel
theorem dL_law_548 : decode cL_law 548 = .ok (.iadd, 1) := by decide +kernel
theorem dL_law_549 : decode cL_law 549 = .ok (.iaload, 1) := by decide +kernel
theorem dL_law_550 : decode cL_law 550 = .ok (.invokevirtual 88, 3) := by decide +kernel
theorem dL_law_553 : decode cL_law 553 = .ok (.if_icmp .eq 288, 3) := by decide +kernel
theorem dL_law_556 : decode cL_law 556 = .ok (.iconst 0, 1) := by decide +kernel
theorem dL_law_557 : decode cL_law 557 = .ok (.ireturn, 1) := by decide +kernel
theorem dL_law_558 : decode cL_law 558 = .ok (.aload_n 1, 1) := by decide +kernel
theorem dL_law_559 : decode cL_law 559 = .ok (.invokevirtual 89, 3) := by decide +kernel
theorem dL_law_562 : decode cL_law 562 = .ok (.aload_n 2, 1) := by decide +kernel
theorem dL_law_563 : decode cL_law 563 = .ok (.invokevirtual 92, 3) := by decide +kernel
theorem dL_law_566 : decode cL_law 566 = .ok (.if_icmp .eq 275, 3) := by decide +kernel
theorem dL_law_569 : decode cL_law 569 = .ok (.iconst 0, 1) := by decide +kernel
theorem dL_law_570 : decode cL_law 570 = .ok (.ireturn, 1) := by decide +kernel
theorem dL_law_571 : decode cL_law 571 = .ok (.aload_n 1, 1) := by decide +kernel
theorem dL_law_572 : decode cL_law 572 = .ok (.invokevirtual 93, 3) := by decide +kernel
theorem dL_law_575 : decode cL_law 575 = .ok (.aload_n 2, 1) := by decide +kernel
theorem dL_law_576 : decode cL_law 576 = .ok (.invokevirtual 96, 3) := by decide +kernel
theorem dL_law_579 : decode cL_law 579 = .ok (.if_icmp .eq 262, 3) := by decide +kernel
theorem dL_law_582 : decode cL_law 582 = .ok (.iconst 0, 1) := by decide +kernel
theorem dL_law_583 : decode cL_law 583 = .ok (.ireturn, 1) := by decide +kernel
theorem dL_law_584 : decode cL_law 584 = .ok (.aload_n 1, 1) := by decide +kernel
theorem dL_law_585 : decode cL_law 585 = .ok (.aload_n 0, 1) := by decide +kernel
theorem dL_law_586 : decode cL_law 586 = .ok (.iload_n 3, 1) := by decide +kernel
theorem dL_law_587 : decode cL_law 587 = .ok (.iconst 1, 1) := by decide +kernel
theorem dL_law_588 : decode cL_law 588 = .ok (.iadd, 1) := by decide +kernel
theorem dL_law_589 : decode cL_law 589 = .ok (.iaload, 1) := by decide +kernel
theorem dL_law_590 : decode cL_law 590 = .ok (.aload_n 0, 1) := by decide +kernel
theorem dL_law_591 : decode cL_law 591 = .ok (.iload_n 3, 1) := by decide +kernel
theorem dL_law_592 : decode cL_law 592 = .ok (.iconst 2, 1) := by decide +kernel
theorem dL_law_593 : decode cL_law 593 = .ok (.iadd, 1) := by decide +kernel
theorem dL_law_594 : decode cL_law 594 = .ok (.iaload, 1) := by decide +kernel
theorem dL_law_595 : decode cL_law 595 = .ok (.invokevirtual 97, 3) := by decide +kernel
theorem dL_law_598 : decode cL_law 598 = .ok (.aload_n 2, 1) := by decide +kernel
theorem dL_law_599 : decode cL_law 599 = .ok (.aload_n 0, 1) := by decide +kernel
theorem dL_law_600 : decode cL_law 600 = .ok (.iload_n 3, 1) := by decide +kernel
theorem dL_law_601 : decode cL_law 601 = .ok (.iconst 1, 1) := by decide +kernel
theorem dL_law_602 : decode cL_law 602 = .ok (.iadd, 1) := by decide +kernel
theorem dL_law_603 : decode cL_law 603 = .ok (.iaload, 1) := by decide +kernel
theorem dL_law_604 : decode cL_law 604 = .ok (.aload_n 0, 1) := by decide +kernel
theorem dL_law_605 : decode cL_law 605 = .ok (.iload_n 3, 1) := by decide +kernel
theorem dL_law_606 : decode cL_law 606 = .ok (.iconst 2, 1) := by decide +kernel
theorem dL_law_607 : decode cL_law 607 = .ok (.iadd, 1) := by decide +kernel
theorem dL_law_608 : decode cL_law 608 = .ok (.iaload, 1) := by decide +kernel
theorem dL_law_609 : decode cL_law 609 = .ok (.invokevirtual 100, 3) := by decide +kernel
theorem dL_law_612 : decode cL_law 612 = .ok (.if_icmp .eq 229, 3) := by decide +kernel
theorem dL_law_615 : decode cL_law 615 = .ok (.iconst 0, 1) := by decide +kernel
theorem dL_law_616 : decode cL_law 616 = .ok (.ireturn, 1) := by decide +kernel
theorem dL_law_617 : decode cL_law 617 = .ok (.aload_n 1, 1) := by decide +kernel
theorem dL_law_618 : decode cL_law 618 = .ok (.aload_n 0, 1) := by decide +kernel
theorem dL_law_619 : decode cL_law 619 = .ok (.iload_n 3, 1) := by decide +kernel
theorem dL_law_620 : decode cL_law 620 = .ok (.iconst 1, 1) := by decide +kernel
theorem dL_law_621 : decode cL_law 621 = .ok (.iadd, 1) := by decide +kernel
theorem dL_law_622 : decode cL_law 622 = .ok (.iaload, 1) := by decide +kernel
theorem dL_law_623 : decode cL_law 623 = .ok (.aload_n 0, 1) := by decide +kernel
theorem dL_law_624 : decode cL_law 624 = .ok (.iload_n 3, 1) := by decide +kernel
theorem dL_law_625 : decode cL_law 625 = .ok (.iconst 2, 1) := by decide +kernel
theorem dL_law_626 : decode cL_law 626 = .ok (.iadd, 1) := by decide +kernel
theorem dL_law_627 : decode cL_law 627 = .ok (.iaload, 1) := by decide +kernel
theorem dL_law_628 : decode cL_law 628 = .ok (.invokevirtual 101, 3) := by decide +kernel
theorem dL_law_631 : decode cL_law 631 = .ok (.aload_n 2, 1) := by decide +kernel
theorem dL_law_632 : decode cL_law 632 = .ok (.aload_n 0, 1) := by decide +kernel
theorem dL_law_633 : decode cL_law 633 = .ok (.iload_n 3, 1) := by decide +kernel
theorem dL_law_634 : decode cL_law 634 = .ok (.iconst 1, 1) := by decide +kernel
theorem dL_law_635 : decode cL_law 635 = .ok (.iadd, 1) := by decide +kernel
theorem dL_law_636 : decode cL_law 636 = .ok (.iaload, 1) := by decide +kernel
theorem dL_law_637 : decode cL_law 637 = .ok (.aload_n 0, 1) := by decide +kernel
theorem dL_law_638 : decode cL_law 638 = .ok (.iload_n 3, 1) := by decide +kernel
theorem dL_law_639 : decode cL_law 639 = .ok (.iconst 2, 1) := by decide +kernel
theorem dL_law_640 : decode cL_law 640 = .ok (.iadd, 1) := by decide +kernel
theorem dL_law_641 : decode cL_law 641 = .ok (.iaload, 1) := by decide +kernel
theorem dL_law_642 : decode cL_law 642 = .ok (.invokevirtual 104, 3) := by decide +kernel
theorem dL_law_645 : decode cL_law 645 = .ok (.if_icmp .eq 196, 3) := by decide +kernel
theorem dL_law_648 : decode cL_law 648 = .ok (.iconst 0, 1) := by decide +kernel
theorem dL_law_649 : decode cL_law 649 = .ok (.ireturn, 1) := by decide +kernel
theorem dL_law_650 : decode cL_law 650 = .ok (.aload_n 1, 1) := by decide +kernel
theorem dL_law_651 : decode cL_law 651 = .ok (.invokevirtual 105, 3) := by decide +kernel
theorem dL_law_654 : decode cL_law 654 = .ok (.aload_n 2, 1) := by decide +kernel
theorem dL_law_655 : decode cL_law 655 = .ok (.invokevirtual 108, 3) := by decide +kernel
theorem dL_law_658 : decode cL_law 658 = .ok (.if_icmp .eq 183, 3) := by decide +kernel
theorem dL_law_661 : decode cL_law 661 = .ok (.iconst 0, 1) := by decide +kernel
theorem dL_law_662 : decode cL_law 662 = .ok (.ireturn, 1) := by decide +kernel
theorem dL_law_663 : decode cL_law 663 = .ok (.aload_n 1, 1) := by decide +kernel
theorem dL_law_664 : decode cL_law 664 = .ok (.aload_n 0, 1) := by decide +kernel
theorem dL_law_665 : decode cL_law 665 = .ok (.iload_n 3, 1) := by decide +kernel
theorem dL_law_666 : decode cL_law 666 = .ok (.iconst 1, 1) := by decide +kernel
theorem dL_law_667 : decode cL_law 667 = .ok (.iadd, 1) := by decide +kernel
theorem dL_law_668 : decode cL_law 668 = .ok (.iaload, 1) := by decide +kernel
theorem dL_law_669 : decode cL_law 669 = .ok (.invokevirtual 109, 3) := by decide +kernel
theorem dL_law_672 : decode cL_law 672 = .ok (.aload_n 2, 1) := by decide +kernel
theorem dL_law_673 : decode cL_law 673 = .ok (.aload_n 0, 1) := by decide +kernel
theorem dL_law_674 : decode cL_law 674 = .ok (.iload_n 3, 1) := by decide +kernel
theorem dL_law_675 : decode cL_law 675 = .ok (.iconst 1, 1) := by decide +kernel
theorem dL_law_676 : decode cL_law 676 = .ok (.iadd, 1) := by decide +kernel
theorem dL_law_677 : decode cL_law 677 = .ok (.iaload, 1) := by decide +kernel
theorem dL_law_678 : decode cL_law 678 = .ok (.invokevirtual 112, 3) := by decide +kernel
theorem dL_law_681 : decode cL_law 681 = .ok (.if_icmp .eq 160, 3) := by decide +kernel
theorem dL_law_684 : decode cL_law 684 = .ok (.iconst 0, 1) := by decide +kernel
theorem dL_law_685 : decode cL_law 685 = .ok (.ireturn, 1) := by decide +kernel
theorem dL_law_686 : decode cL_law 686 = .ok (.aload_n 1, 1) := by decide +kernel
theorem dL_law_687 : decode cL_law 687 = .ok (.aload_n 0, 1) := by decide +kernel
theorem dL_law_688 : decode cL_law 688 = .ok (.iload_n 3, 1) := by decide +kernel
theorem dL_law_689 : decode cL_law 689 = .ok (.iconst 1, 1) := by decide +kernel
theorem dL_law_690 : decode cL_law 690 = .ok (.iadd, 1) := by decide +kernel
theorem dL_law_691 : decode cL_law 691 = .ok (.iaload, 1) := by decide +kernel
theorem dL_law_692 : decode cL_law 692 = .ok (.aload_n 0, 1) := by decide +kernel
theorem dL_law_693 : decode cL_law 693 = .ok (.iload_n 3, 1) := by decide +kernel
theorem dL_law_694 : decode cL_law 694 = .ok (.iconst 2, 1) := by decide +kernel
theorem dL_law_695 : decode cL_law 695 = .ok (.iadd, 1) := by decide +kernel
theorem dL_law_696 : decode cL_law 696 = .ok (.iaload, 1) := by decide +kernel
theorem dL_law_697 : decode cL_law 697 = .ok (.aload_n 0, 1) := by decide +kernel
theorem dL_law_698 : decode cL_law 698 = .ok (.iload_n 3, 1) := by decide +kernel
theorem dL_law_699 : decode cL_law 699 = .ok (.iconst 3, 1) := by decide +kernel
theorem dL_law_700 : decode cL_law 700 = .ok (.iadd, 1) := by decide +kernel
theorem dL_law_701 : decode cL_law 701 = .ok (.iaload, 1) := by decide +kernel
theorem dL_law_702 : decode cL_law 702 = .ok (.aload_n 0, 1) := by decide +kernel
theorem dL_law_703 : decode cL_law 703 = .ok (.iload_n 3, 1) := by decide +kernel
theorem dL_law_704 : decode cL_law 704 = .ok (.iconst 4, 1) := by decide +kernel
theorem dL_law_705 : decode cL_law 705 = .ok (.iadd, 1) := by decide +kernel
theorem dL_law_706 : decode cL_law 706 = .ok (.iaload, 1) := by decide +kernel
theorem dL_law_707 : decode cL_law 707 = .ok (.aload_n 0, 1) := by decide +kernel
theorem dL_law_708 : decode cL_law 708 = .ok (.iload_n 3, 1) := by decide +kernel
theorem dL_law_709 : decode cL_law 709 = .ok (.iconst 5, 1) := by decide +kernel
theorem dL_law_710 : decode cL_law 710 = .ok (.iadd, 1) := by decide +kernel
theorem dL_law_711 : decode cL_law 711 = .ok (.iaload, 1) := by decide +kernel
theorem dL_law_712 : decode cL_law 712 = .ok (.invokevirtual 113, 3) := by decide +kernel
theorem dL_law_715 : decode cL_law 715 = .ok (.aload_n 2, 1) := by decide +kernel
theorem dL_law_716 : decode cL_law 716 = .ok (.aload_n 0, 1) := by decide +kernel
theorem dL_law_717 : decode cL_law 717 = .ok (.iload_n 3, 1) := by decide +kernel
theorem dL_law_718 : decode cL_law 718 = .ok (.iconst 1, 1) := by decide +kernel
theorem dL_law_719 : decode cL_law 719 = .ok (.iadd, 1) := by decide +kernel
theorem dL_law_720 : decode cL_law 720 = .ok (.iaload, 1) := by decide +kernel
theorem dL_law_721 : decode cL_law 721 = .ok (.aload_n 0, 1) := by decide +kernel
theorem dL_law_722 : decode cL_law 722 = .ok (.iload_n 3, 1) := by decide +kernel
theorem dL_law_723 : decode cL_law 723 = .ok (.iconst 2, 1) := by decide +kernel
theorem dL_law_724 : decode cL_law 724 = .ok (.iadd, 1) := by decide +kernel
theorem dL_law_725 : decode cL_law 725 = .ok (.iaload, 1) := by decide +kernel
theorem dL_law_726 : decode cL_law 726 = .ok (.aload_n 0, 1) := by decide +kernel
theorem dL_law_727 : decode cL_law 727 = .ok (.iload_n 3, 1) := by decide +kernel
theorem dL_law_728 : decode cL_law 728 = .ok (.iconst 3, 1) := by decide +kernel
theorem dL_law_729 : decode cL_law 729 = .ok (.iadd, 1) := by decide +kernel
theorem dL_law_730 : decode cL_law 730 = .ok (.iaload, 1) := by decide +kernel
theorem dL_law_731 : decode cL_law 731 = .ok (.aload_n 0, 1) := by decide +kernel
theorem dL_law_732 : decode cL_law 732 = .ok (.iload_n 3, 1) := by decide +kernel
theorem dL_law_733 : decode cL_law 733 = .ok (.iconst 4, 1) := by decide +kernel
theorem dL_law_734 : decode cL_law 734 = .ok (.iadd, 1) := by decide +kernel
theorem dL_law_735 : decode cL_law 735 = .ok (.iaload, 1) := by decide +kernel
theorem dL_law_736 : decode cL_law 736 = .ok (.aload_n 0, 1) := by decide +kernel
theorem dL_law_737 : decode cL_law 737 = .ok (.iload_n 3, 1) := by decide +kernel
theorem dL_law_738 : decode cL_law 738 = .ok (.iconst 5, 1) := by decide +kernel
theorem dL_law_739 : decode cL_law 739 = .ok (.iadd, 1) := by decide +kernel
theorem dL_law_740 : decode cL_law 740 = .ok (.iaload, 1) := by decide +kernel
theorem dL_law_741 : decode cL_law 741 = .ok (.invokevirtual 117, 3) := by decide +kernel
theorem dL_law_744 : decode cL_law 744 = .ok (.if_icmp .eq 97, 3) := by decide +kernel
theorem dL_law_747 : decode cL_law 747 = .ok (.iconst 0, 1) := by decide +kernel
theorem dL_law_748 : decode cL_law 748 = .ok (.ireturn, 1) := by decide +kernel
theorem dL_law_749 : decode cL_law 749 = .ok (.aload_n 1, 1) := by decide +kernel
theorem dL_law_750 : decode cL_law 750 = .ok (.aload_n 0, 1) := by decide +kernel
theorem dL_law_751 : decode cL_law 751 = .ok (.iload_n 3, 1) := by decide +kernel
theorem dL_law_752 : decode cL_law 752 = .ok (.iconst 1, 1) := by decide +kernel
theorem dL_law_753 : decode cL_law 753 = .ok (.iadd, 1) := by decide +kernel
theorem dL_law_754 : decode cL_law 754 = .ok (.iaload, 1) := by decide +kernel
theorem dL_law_755 : decode cL_law 755 = .ok (.aload_n 0, 1) := by decide +kernel
theorem dL_law_756 : decode cL_law 756 = .ok (.iload_n 3, 1) := by decide +kernel
theorem dL_law_757 : decode cL_law 757 = .ok (.iconst 2, 1) := by decide +kernel
theorem dL_law_758 : decode cL_law 758 = .ok (.iadd, 1) := by decide +kernel
theorem dL_law_759 : decode cL_law 759 = .ok (.iaload, 1) := by decide +kernel
theorem dL_law_760 : decode cL_law 760 = .ok (.aload_n 0, 1) := by decide +kernel
theorem dL_law_761 : decode cL_law 761 = .ok (.iload_n 3, 1) := by decide +kernel
theorem dL_law_762 : decode cL_law 762 = .ok (.iconst 3, 1) := by decide +kernel
theorem dL_law_763 : decode cL_law 763 = .ok (.iadd, 1) := by decide +kernel
theorem dL_law_764 : decode cL_law 764 = .ok (.iaload, 1) := by decide +kernel
theorem dL_law_765 : decode cL_law 765 = .ok (.invokevirtual 118, 3) := by decide +kernel
theorem dL_law_768 : decode cL_law 768 = .ok (.aload_n 2, 1) := by decide +kernel
theorem dL_law_769 : decode cL_law 769 = .ok (.aload_n 0, 1) := by decide +kernel
theorem dL_law_770 : decode cL_law 770 = .ok (.iload_n 3, 1) := by decide +kernel
theorem dL_law_771 : decode cL_law 771 = .ok (.iconst 1, 1) := by decide +kernel
theorem dL_law_772 : decode cL_law 772 = .ok (.iadd, 1) := by decide +kernel
theorem dL_law_773 : decode cL_law 773 = .ok (.iaload, 1) := by decide +kernel
theorem dL_law_774 : decode cL_law 774 = .ok (.aload_n 0, 1) := by decide +kernel
theorem dL_law_775 : decode cL_law 775 = .ok (.iload_n 3, 1) := by decide +kernel
theorem dL_law_776 : decode cL_law 776 = .ok (.iconst 2, 1) := by decide +kernel
theorem dL_law_777 : decode cL_law 777 = .ok (.iadd, 1) := by decide +kernel
theorem dL_law_778 : decode cL_law 778 = .ok (.iaload, 1) := by decide +kernel
theorem dL_law_779 : decode cL_law 779 = .ok (.aload_n 0, 1) := by decide +kernel
theorem dL_law_780 : decode cL_law 780 = .ok (.iload_n 3, 1) := by decide +kernel
theorem dL_law_781 : decode cL_law 781 = .ok (.iconst 3, 1) := by decide +kernel
theorem dL_law_782 : decode cL_law 782 = .ok (.iadd, 1) := by decide +kernel
theorem dL_law_783 : decode cL_law 783 = .ok (.iaload, 1) := by decide +kernel
theorem dL_law_784 : decode cL_law 784 = .ok (.invokevirtual 121, 3) := by decide +kernel
theorem dL_law_787 : decode cL_law 787 = .ok (.if_icmp .eq 54, 3) := by decide +kernel
theorem dL_law_790 : decode cL_law 790 = .ok (.iconst 0, 1) := by decide +kernel
theorem dL_law_791 : decode cL_law 791 = .ok (.ireturn, 1) := by decide +kernel
theorem dL_law_792 : decode cL_law 792 = .ok (.aload_n 1, 1) := by decide +kernel
theorem dL_law_793 : decode cL_law 793 = .ok (.invokevirtual 122, 3) := by decide +kernel
theorem dL_law_796 : decode cL_law 796 = .ok (.aload_n 2, 1) := by decide +kernel
theorem dL_law_797 : decode cL_law 797 = .ok (.invokevirtual 125, 3) := by decide +kernel
theorem dL_law_800 : decode cL_law 800 = .ok (.if_icmp .eq 41, 3) := by decide +kernel
theorem dL_law_803 : decode cL_law 803 = .ok (.iconst 0, 1) := by decide +kernel
theorem dL_law_804 : decode cL_law 804 = .ok (.ireturn, 1) := by decide +kernel
theorem dL_law_805 : decode cL_law 805 = .ok (.aload_n 1, 1) := by decide +kernel
theorem dL_law_806 : decode cL_law 806 = .ok (.invokevirtual 126, 3) := by decide +kernel
theorem dL_law_809 : decode cL_law 809 = .ok (.aload_n 2, 1) := by decide +kernel
theorem dL_law_810 : decode cL_law 810 = .ok (.invokevirtual 129, 3) := by decide +kernel
theorem dL_law_813 : decode cL_law 813 = .ok (.if_icmp .eq 28, 3) := by decide +kernel
theorem dL_law_816 : decode cL_law 816 = .ok (.iconst 0, 1) := by decide +kernel
theorem dL_law_817 : decode cL_law 817 = .ok (.ireturn, 1) := by decide +kernel
theorem dL_law_818 : decode cL_law 818 = .ok (.aload_n 1, 1) := by decide +kernel
theorem dL_law_819 : decode cL_law 819 = .ok (.aload_n 0, 1) := by decide +kernel
theorem dL_law_820 : decode cL_law 820 = .ok (.iload_n 3, 1) := by decide +kernel
theorem dL_law_821 : decode cL_law 821 = .ok (.iconst 1, 1) := by decide +kernel
theorem dL_law_822 : decode cL_law 822 = .ok (.iadd, 1) := by decide +kernel
theorem dL_law_823 : decode cL_law 823 = .ok (.iaload, 1) := by decide +kernel
theorem dL_law_824 : decode cL_law 824 = .ok (.invokevirtual 130, 3) := by decide +kernel
theorem dL_law_827 : decode cL_law 827 = .ok (.aload_n 2, 1) := by decide +kernel
theorem dL_law_828 : decode cL_law 828 = .ok (.aload_n 0, 1) := by decide +kernel
theorem dL_law_829 : decode cL_law 829 = .ok (.iload_n 3, 1) := by decide +kernel
theorem dL_law_830 : decode cL_law 830 = .ok (.iconst 1, 1) := by decide +kernel
theorem dL_law_831 : decode cL_law 831 = .ok (.iadd, 1) := by decide +kernel
theorem dL_law_832 : decode cL_law 832 = .ok (.iaload, 1) := by decide +kernel
theorem dL_law_833 : decode cL_law 833 = .ok (.invokevirtual 133, 3) := by decide +kernel
theorem dL_law_836 : decode cL_law 836 = .ok (.if_icmp .eq 5, 3) := by decide +kernel
theorem dL_law_839 : decode cL_law 839 = .ok (.iconst 0, 1) := by decide +kernel
theorem dL_law_840 : decode cL_law 840 = .ok (.ireturn, 1) := by decide +kernel
theorem dL_law_841 : decode cL_law 841 = .ok (.iinc 3 6, 3) := by decide +kernel
theorem dL_law_844 : decode cL_law 844 = .ok (.goto (-826), 3) := by decide +kernel
theorem dL_law_847 : decode cL_law 847 = .ok (.iconst 1, 1) := by decide +kernel
theorem dL_law_848 : decode cL_law 848 = .ok (.ireturn, 1) := by decide +kernel
end
section
/-! the tables' words that may be handed on, one list for all methods -/
def jB : List Cond := lw_tbl.filter goodWord
theorem jB_good {w : Cond} (h : w ∈ jB) : (w.onTables && w.keeps) = true ∨ ∃ ty, w = .arrayClass ty := good_of_word (List.mem_filter.mp h).2
theorem jB_hts {args : Array Value} {s : State} (h : ∀ w ∈ lw_tbl, w.before args s = true) : ∀ w ∈ jB, w.before args s = true := fun w hw => h w (List.mem_filter.mp hw).1
theorem jB_0 {w : Cond} (i : Nat) (h : (k2_sels lw_privs)[i]? = some w) (g : goodWord w = true) : w ∈ jB := List.mem_filter.mpr ⟨List.mem_append_left _ (List.mem_of_getElem? h), g⟩
theorem jB_1 {w : Cond} (i : Nat) (h : tables_1_1[i]? = some w) (g : goodWord w = true) : w ∈ jB := List.mem_filter.mpr ⟨List.mem_append_right _ (List.mem_append_left _ (List.mem_of_getElem? h)), g⟩
theorem jB_2 {w : Cond} (i : Nat) (h : tables_1_2[i]? = some w) (g : goodWord w = true) : w ∈ jB := List.mem_filter.mpr ⟨List.mem_append_right _ (List.mem_append_right _ (List.mem_append_left _ (List.mem_of_getElem? h))), g⟩
theorem jB_3 {w : Cond} (i : Nat) (h : tables_1_3[i]? = some w) (g : goodWord w = true) : w ∈ jB := List.mem_filter.mpr ⟨List.mem_append_right _ (List.mem_append_right _ (List.mem_append_right _ (List.mem_append_left _ (List.mem_of_getElem? h)))), g⟩
theorem jB_4 {w : Cond} (i : Nat) (h : tables_1_4[i]? = some w) (g : goodWord w = true) : w ∈ jB := List.mem_filter.mpr ⟨List.mem_append_right _ (List.mem_append_right _ (List.mem_append_right _ (List.mem_append_right _ (List.mem_of_getElem? h)))), g⟩
/-! arithmetic of the pure texts -/
def jrem (x y : Int32) : Int32 := x - x / y * y
def jreml (x y : Int64) : Int64 := x - x / y * y
def jshl (x y : Int32) : Int32 := x <<< (y &&& 31)
def jshr (x y : Int32) : Int32 := x >>> (y &&& 31)
def jushr (x y : Int32) : Int32 := (x.toUInt32 >>> (y.toUInt32 &&& Int32.toUInt32 31)).toInt32
def jlushr (x : Int64) (y : Int32) : Int64 := (x.toUInt64 >>> (y.toInt64.toUInt64 &&& Int64.toUInt64 63)).toInt64
def jlshl (x : Int64) (y : Int32) : Int64 := x <<< (y.toInt64 &&& 63)
def jabs (x : Int32) : Int32 := if 0 ≤ x then x else 0 - x
def jmax (x y : Int32) : Int32 := if x < y then y else x
def jchar (x : Int32) : Int32 := (x.toUInt32 % 65536).toInt32
/-! The walking judgement jT: from a place in a method's frame, with listed locals, stack and world, the frame ends by a return of which Po speaks. jM: a method's contract in these words. -/
abbrev jE : Type := va_G × ClassId × ClassId × ClassId
abbrev jK : Type := ByteArray × Nat × Option FieldType × MethodName × Room
abbrev jt (E : jE) : List (ClassId × FieldType) := [(E.2.1, .int), (E.2.2.1, .long), (E.2.2.2, .char)]
abbrev jI (E : jE) (a n : Nat) (f : Nat → Int32) : Nat × va_E := (a, .inl (E.2.1, n, .inl f))
abbrev jJ (E : jE) (a n : Nat) (f : Nat → Int64) : Nat × va_E := (a, .inl (E.2.2.1, n, .inr (.inl f)))
abbrev jH (E : jE) (a n : Nat) (f : Nat → Int32) : Nat × va_E := (a, .inl (E.2.2.2, n, .inl f))
abbrev jO (a ci : Nat) (fs : List Value) : Nat × va_E := (a, .inr (ci, fs))
def jNl : List Cond := [.fieldLinkNest RX9 62 RX5 "cards" "I" RX9, .fieldLinkNest RX9 84 RX8 "length" "I" RX9, .fieldLinkNest RX9 95 RX7 "held" "I" RX9, .fieldLinkNest RX9 98 RX6 "held" "I" RX9, .fieldLinkNest RX9 136 RX5 "deal" "J" RX9, .fieldLinkNest RX9 230 RX5 "acts" "I" RX9, .fieldLinkNest RX2 15 RX5 "cards" "I" RX9, .methodLinkNest RX9 9 yX8_init RX9, .methodLinkNest RX9 18 yX5_init RX9, .methodLinkNest RX9 40 yX7_init RX9, .methodLinkNest RX9 47 yX0_init RX9, .methodLinkNest RX9 54 yX2_init RX9, .methodLinkNest RX5 46 yX9_within RX9, .methodLinkNest RX5 52 yX9_isKind RX9, .methodLinkNest RX2 52 yX9_within RX9]
def jN (s : State) : Prop := ∀ w ∈ jNl, va_Nw w s
theorem jN_warm {s U : State} (hW : s.WarmedH U.vm) (h : jN s) : jN U := by
  intro w hw
  have h1 := h w hw
  simp only [jNl, List.mem_cons, List.not_mem_nil, or_false] at hw
  rcases hw with rfl | rfl | rfl | rfl | rfl | rfl | rfl | rfl | rfl | rfl | rfl | rfl | rfl | rfl | rfl <;> first | exact va_Nw.warmF hW h1 | exact va_Nw.warmM hW h1
theorem jN_same {u U : State} (e : u.vm = U.vm) (h : jN u) : jN U := by
  intro w hw
  have h1 := h w hw
  simp only [jNl, List.mem_cons, List.not_mem_nil, or_false] at hw
  rcases hw with rfl | rfl | rfl | rfl | rfl | rfl | rfl | rfl | rfl | rfl | rfl | rfl | rfl | rfl | rfl <;> exact va_Nw.same rfl e h1
/-- a method's start and end -/
def jP (E : jE) (av : List Value) (w0 : va_W) (sz : Nat) : Array Value → State → Prop := va_Pc av (fun U => U.heap.size = sz ∧ va_P E.1 vwCl w0 U.heap ∧ va_K E.1 vwCl (jt E) U ∧ jN U ∧ va_D (fun _ => True) w0)
def jQ (E : jE) (Po : Option Value → va_W → Prop) (A : Nat → Prop) : Array Value → State → Outcome → State → Prop := fun _ st oc t => (∃ (r : Option Value) (w1 : va_W), oc = .returned r ∧ Po r w1 ∧ va_P E.1 vwCl w1 t.heap ∧ va_D A w1) ∧ va_F A st t
/-- a settled end: this answer, this world -/
def jd (r : Option Value) (w : va_W) : Option Value → va_W → Prop := fun r' w' => r' = r ∧ w' = w
def jM (l : Launch) (E : jE) (K : jK) (av : List Value) (w0 : va_W) (Po : Option Value → va_W → Prop) : Prop :=
  ∀ sz : Nat, Met l K.2.2.2.1 (Cond.code K.2.2.2.1 K.1 K.2.1 K.2.2.1 :: jB) K.2.2.2.2 (jP E av w0 sz) (jQ E Po (va_A w0 sz)) K.2.2.2.2.cells K.2.2.2.2.slots (va_A w0 sz)
def jX (E : jE) (K : jK) (p : Program) (s : State) (m : MethodId) (args : Array Value) (meth : Method) (c : Code) (A : Nat → Prop) : Prop :=
  p.tables.exec = Jvm.exec ∧ c.code = K.1 ∧ c.maxLocals = K.2.1 ∧ s.vm.findClass K.2.2.2.1.cls = some m.cls ∧ (∀ w ∈ jB, w.before args s = true) ∧ meth.sig.returnType = K.2.2.1 ∧ meth.locks = false ∧ meth.name = K.2.2.2.1.name ∧ va_K E.1 vwCl (jt E) s ∧ jN s ∧ (∀ q : Nat, s.heap.size ≤ q → A q)
def jT (l : Launch) (E : jE) (K : jK) (k n : Nat) (pc : Nat) (lv : List (Nat × Value)) (st : List Value) (w : va_W) (Po : Option Value → va_W → Prop) : Prop :=
  ∀ (p : Program) (e : Env) (s : State) (m : MethodId) (args : Array Value) (below : List Frame) (meth : Method) (c : Code) (A : Nat → Prop), jX E K p s m args meth c A →
    ∀ (H : Heap) (locs : List Loc) (ls : Array Slot), va_P E.1 vwCl w H → va_D A w → va_S A s.heap H locs → lv_has ls K.2.1 lv →
      W p l e K.2.2.2.2 s m args below meth c H locs k n (MQ below (jQ E Po A) args s K.2.2.2.2.cells K.2.2.2.2.slots A) (F0 m pc ls st)
theorem jP_blind {E : jE} {av : List Value} {w0 : va_W} {sz : Nat} : FrameBlind (jP E av w0 sz) := by
  intro a U g mk q
  obtain ⟨q0, q1, q2, q3, q4, q5⟩ := q
  exact ⟨q0, q1, q2, va_K.moved (u := U) (U := U.calling g mk a) (Vm.Alike.refl U.vm) q3, jN_same (u := U) (U := U.calling g mk a) rfl q4, q5⟩
section JT
variable {l : Launch} {E : jE} {K : jK} {k n pc : Nat} {lv : List (Nat × Value)} {st : List Value} {w : va_W} {Po : Option Value → va_W → Prop}
/-- a contract out of a walk from the entry -/
theorem j_met {av : List Value} {w0 : va_W} (lv : List (Nat × Value)) (hy : plainName K.2.2.2.1.cls = true) (hlen : (lg_sl av).length ≤ K.2.1) (hlv : lv_args 0 av = lv) (kk : jT l E K 0 0 0 lv [] w0 Po) : jM l E K av w0 Po := by
  intro sz
  refine Met.ofW (cc := K.1) (maxL := K.2.1) (ret := K.2.2.1) hy rfl ?_
  intro p e s m args below meth c s₁ B hml hv
  obtain ⟨rfl, hsz, hP, hK, hN, hD0⟩ := hv
  subst hsz
  have hts := atoms_spec (ws := Cond.code K.2.2.2.1 K.1 K.2.1 K.2.2.1 :: jB) B.pre
  have hl := lv_entry av (n := K.2.1) hlen
  rw [lg_entry_eq]
  rw [hlv] at hl
  exact kk p e s m av.toArray below meth c (va_A w0 s.heap.size) ⟨B.exec, B.bytes, hml, findClass_of_methodNamed B.named, fun w h => hts w (List.mem_cons_of_mem _ h), B.returns, B.notSynchronized, (name_of_methodNamed B.named B.method).1, hK, hN, fun q h => Or.inr h⟩ s.heap [] _ hP hD0.self va_S.rf hl
theorem j_sub {lv' : List (Nat × Value)} (ks : List Nat) (h : lv_pick lv ks = lv') (kk : jT l E K k n pc lv' st w Po) : jT l E K k n pc lv st w Po := by
  intro p e s m args below meth c A X H locs ls hP hD hS hl
  exact kk p e s m args below meth c A X H locs ls hP hD hS (lv_sub hl ks h)
theorem j_iconst {i : Int} {v : Int32} (d : decode K.1 pc = .ok (.iconst i, 1)) (hv : Int32.ofInt i = v) (kk : jT l E K k n (pc + 1) lv (.int v :: st) w Po) : jT l E K k n pc lv st w Po := by
  intro p e s m args below meth c A X H locs ls hP hD hS hl
  exact lv_iconst X.1 X.2.1 d hv (kk p e s m args below meth c A X H locs ls hP hD hS hl)
theorem j_bipush {i : Int} {v : Int32} (d : decode K.1 pc = .ok (.bipush i, 2)) (hv : (Int8.ofInt i).toInt32 = v) (kk : jT l E K k n (pc + 2) lv (.int v :: st) w Po) : jT l E K k n pc lv st w Po := by
  intro p e s m args below meth c A X H locs ls hP hD hS hl
  exact lv_bipush X.1 X.2.1 d hv (kk p e s m args below meth c A X H locs ls hP hD hS hl)
theorem j_sipush {i : Int} {v : Int32} (d : decode K.1 pc = .ok (.sipush i, 3)) (hv : (Int16.ofInt i).toInt32 = v) (kk : jT l E K k n (pc + 3) lv (.int v :: st) w Po) : jT l E K k n pc lv st w Po := by
  intro p e s m args below meth c A X H locs ls hP hD hS hl
  exact lv_sipush X.1 X.2.1 d hv (kk p e s m args below meth c A X H locs ls hP hD hS hl)
theorem j_lconst {i : Fin 2} {v : Int64} (d : decode K.1 pc = .ok (.lconst i, 1)) (hv : Int64.ofNat (i : Nat) = v) (kk : jT l E K k n (pc + 1) lv (.long v :: st) w Po) : jT l E K k n pc lv st w Po := by
  intro p e s m args below meth c A X H locs ls hP hD hS hl
  exact lv_lconst X.1 X.2.1 d hv (kk p e s m args below meth c A X H locs ls hP hD hS hl)
theorem j_ldc {i : Nat} {v : Int32} (hc : Cond.constant K.2.2.2.1.cls i v ∈ jB) (d : decode K.1 pc = .ok (.ldc i, 2)) (kk : jT l E K k n (pc + 2) lv (.int v :: st) w Po) : jT l E K k n pc lv st w Po := by
  intro p e s m args below meth c A X H locs ls hP hD hS hl
  exact lv_ldc X.1 X.2.1 X.2.2.2.1 (X.2.2.2.2.1 _ hc) d (kk p e s m args below meth c A X H locs ls hP hD hS hl)
theorem j_ldc2 {i : Nat} {v : Int64} (hc : Cond.constantLong K.2.2.2.1.cls i v ∈ jB) (d : decode K.1 pc = .ok (.ldc2_w i, 3)) (kk : jT l E K k n (pc + 3) lv (.long v :: st) w Po) : jT l E K k n pc lv st w Po := by
  intro p e s m args below meth c A X H locs ls hP hD hS hl
  exact lv_ldc2 X.1 X.2.1 X.2.2.2.1 (X.2.2.2.2.1 _ hc) d (kk p e s m args below meth c A X H locs ls hP hD hS hl)
theorem j_iload_n {q : Fin 4} {i : Nat} {x : Int32} (j : Nat) (d : decode K.1 pc = .ok (.iload_n q, 1)) (hi : (q : Nat) = i) (hj : lv[j]? = some (i, .int x)) (kk : jT l E K k n (pc + 1) lv (.int x :: st) w Po) : jT l E K k n pc lv st w Po := by
  intro p e s m args below meth c A X H locs ls hP hD hS hl
  exact lv_iload_n X.1 X.2.1 d hi (lv_at hl j hj) (kk p e s m args below meth c A X H locs ls hP hD hS hl)
theorem j_iload {i : Nat} {x : Int32} (j : Nat) (d : decode K.1 pc = .ok (.iload i, 2)) (hj : lv[j]? = some (i, .int x)) (kk : jT l E K k n (pc + 2) lv (.int x :: st) w Po) : jT l E K k n pc lv st w Po := by
  intro p e s m args below meth c A X H locs ls hP hD hS hl
  exact lv_iload X.1 X.2.1 d (lv_at hl j hj) (kk p e s m args below meth c A X H locs ls hP hD hS hl)
theorem j_lload_n {q : Fin 4} {i : Nat} {x : Int64} (j : Nat) (d : decode K.1 pc = .ok (.lload_n q, 1)) (hi : (q : Nat) = i) (hj : lv[j]? = some (i, .long x)) (kk : jT l E K k n (pc + 1) lv (.long x :: st) w Po) : jT l E K k n pc lv st w Po := by
  intro p e s m args below meth c A X H locs ls hP hD hS hl
  exact lv_lload_n X.1 X.2.1 d hi (lv_at hl j hj) (kk p e s m args below meth c A X H locs ls hP hD hS hl)
theorem j_lload {i : Nat} {x : Int64} (j : Nat) (d : decode K.1 pc = .ok (.lload i, 2)) (hj : lv[j]? = some (i, .long x)) (kk : jT l E K k n (pc + 2) lv (.long x :: st) w Po) : jT l E K k n pc lv st w Po := by
  intro p e s m args below meth c A X H locs ls hP hD hS hl
  exact lv_lload X.1 X.2.1 d (lv_at hl j hj) (kk p e s m args below meth c A X H locs ls hP hD hS hl)
theorem j_aload_n {q : Fin 4} {i x : Nat} (j : Nat) (d : decode K.1 pc = .ok (.aload_n q, 1)) (hi : (q : Nat) = i) (hj : lv[j]? = some (i, .ref x)) (kk : jT l E K k n (pc + 1) lv (.ref x :: st) w Po) : jT l E K k n pc lv st w Po := by
  intro p e s m args below meth c A X H locs ls hP hD hS hl
  exact lv_aload_n X.1 X.2.1 d hi (lv_at hl j hj) (kk p e s m args below meth c A X H locs ls hP hD hS hl)
theorem j_aload {i x : Nat} (j : Nat) (d : decode K.1 pc = .ok (.aload i, 2)) (hj : lv[j]? = some (i, .ref x)) (kk : jT l E K k n (pc + 2) lv (.ref x :: st) w Po) : jT l E K k n pc lv st w Po := by
  intro p e s m args below meth c A X H locs ls hP hD hS hl
  exact lv_aload X.1 X.2.1 d (lv_at hl j hj) (kk p e s m args below meth c A X H locs ls hP hD hS hl)
theorem j_istore_n {q : Fin 4} {i : Nat} {x : Int32} {lv' : List (Nat × Value)} (d : decode K.1 pc = .ok (.istore_n q, 1)) (hi : (q : Nat) = i) (hn : i < K.2.1) (hl' : (i, Value.int x) :: lv.filter (fun q => !(q.1 == i) && !(q.1 + 1 == i && q.2.category == 2)) = lv') (kk : jT l E K k n (pc + 1) lv' st w Po) : jT l E K k n pc lv (.int x :: st) w Po := by
  intro p e s m args below meth c A X H locs ls hP hD hS hl
  exact lv_istore_n X.1 X.2.1 d hi hl hn hl' (fun ls' h' => kk p e s m args below meth c A X H locs ls' hP hD hS h')
theorem j_istore {i : Nat} {x : Int32} {lv' : List (Nat × Value)} (d : decode K.1 pc = .ok (.istore i, 2)) (hn : i < K.2.1) (hl' : (i, Value.int x) :: lv.filter (fun q => !(q.1 == i) && !(q.1 + 1 == i && q.2.category == 2)) = lv') (kk : jT l E K k n (pc + 2) lv' st w Po) : jT l E K k n pc lv (.int x :: st) w Po := by
  intro p e s m args below meth c A X H locs ls hP hD hS hl
  exact lv_istore X.1 X.2.1 d hl hn hl' (fun ls' h' => kk p e s m args below meth c A X H locs ls' hP hD hS h')
theorem j_lstore_n {q : Fin 4} {i : Nat} {x : Int64} {lv' : List (Nat × Value)} (d : decode K.1 pc = .ok (.lstore_n q, 1)) (hi : (q : Nat) = i) (hn : i + 1 < K.2.1) (hl' : (i, Value.long x) :: lv.filter (fun q => !(q.1 == i) && (!(q.1 == i + 1) && !(q.1 + 1 == i && q.2.category == 2))) = lv') (kk : jT l E K k n (pc + 1) lv' st w Po) : jT l E K k n pc lv (.long x :: st) w Po := by
  intro p e s m args below meth c A X H locs ls hP hD hS hl
  exact lv_lstore_n X.1 X.2.1 d hi hl hn hl' (fun ls' h' => kk p e s m args below meth c A X H locs ls' hP hD hS h')
theorem j_lstore {i : Nat} {x : Int64} {lv' : List (Nat × Value)} (d : decode K.1 pc = .ok (.lstore i, 2)) (hn : i + 1 < K.2.1) (hl' : (i, Value.long x) :: lv.filter (fun q => !(q.1 == i) && (!(q.1 == i + 1) && !(q.1 + 1 == i && q.2.category == 2))) = lv') (kk : jT l E K k n (pc + 2) lv' st w Po) : jT l E K k n pc lv (.long x :: st) w Po := by
  intro p e s m args below meth c A X H locs ls hP hD hS hl
  exact lv_lstore X.1 X.2.1 d hl hn hl' (fun ls' h' => kk p e s m args below meth c A X H locs ls' hP hD hS h')
theorem j_iinc {i j : Nat} {z : Int} {x v : Int32} {lv' : List (Nat × Value)} (d : decode K.1 pc = .ok (.iinc i z, 3)) (hj : lv[j]? = some (i, .int x)) (hv : x + Int32.ofInt z = v) (hn : i < K.2.1) (hl' : (i, Value.int v) :: lv.filter (fun q => !(q.1 == i) && !(q.1 + 1 == i && q.2.category == 2)) = lv') (kk : jT l E K k n (pc + 3) lv' st w Po) : jT l E K k n pc lv st w Po := by
  intro p e s m args below meth c A X H locs ls hP hD hS hl
  exact lv_iinc X.1 X.2.1 d hl hj hv hn hl' (fun ls' h' => kk p e s m args below meth c A X H locs ls' hP hD hS h')
theorem j_iadd {x y : Int32} (d : decode K.1 pc = .ok (.iadd, 1)) (kk : jT l E K k n (pc + 1) lv (.int (x + y) :: st) w Po) : jT l E K k n pc lv (.int y :: .int x :: st) w Po := by
  intro p e s m args below meth c A X H locs ls hP hD hS hl
  exact lv_iadd X.1 X.2.1 d (kk p e s m args below meth c A X H locs ls hP hD hS hl)
theorem j_isub {x y : Int32} (d : decode K.1 pc = .ok (.isub, 1)) (kk : jT l E K k n (pc + 1) lv (.int (x - y) :: st) w Po) : jT l E K k n pc lv (.int y :: .int x :: st) w Po := by
  intro p e s m args below meth c A X H locs ls hP hD hS hl
  exact lv_isub X.1 X.2.1 d (kk p e s m args below meth c A X H locs ls hP hD hS hl)
theorem j_imul {x y : Int32} (d : decode K.1 pc = .ok (.imul, 1)) (kk : jT l E K k n (pc + 1) lv (.int (x * y) :: st) w Po) : jT l E K k n pc lv (.int y :: .int x :: st) w Po := by
  intro p e s m args below meth c A X H locs ls hP hD hS hl
  exact lv_imul X.1 X.2.1 d (kk p e s m args below meth c A X H locs ls hP hD hS hl)
theorem j_iand {x y : Int32} (d : decode K.1 pc = .ok (.iand, 1)) (kk : jT l E K k n (pc + 1) lv (.int (x &&& y) :: st) w Po) : jT l E K k n pc lv (.int y :: .int x :: st) w Po := by
  intro p e s m args below meth c A X H locs ls hP hD hS hl
  exact lv_iand X.1 X.2.1 d (kk p e s m args below meth c A X H locs ls hP hD hS hl)
theorem j_ior {x y : Int32} (d : decode K.1 pc = .ok (.ior, 1)) (kk : jT l E K k n (pc + 1) lv (.int (x ||| y) :: st) w Po) : jT l E K k n pc lv (.int y :: .int x :: st) w Po := by
  intro p e s m args below meth c A X H locs ls hP hD hS hl
  exact lv_ior X.1 X.2.1 d (kk p e s m args below meth c A X H locs ls hP hD hS hl)
theorem j_ixor {x y : Int32} (d : decode K.1 pc = .ok (.ixor, 1)) (kk : jT l E K k n (pc + 1) lv (.int (x ^^^ y) :: st) w Po) : jT l E K k n pc lv (.int y :: .int x :: st) w Po := by
  intro p e s m args below meth c A X H locs ls hP hD hS hl
  exact lv_ixor X.1 X.2.1 d (kk p e s m args below meth c A X H locs ls hP hD hS hl)
theorem j_ishl {x y : Int32} (d : decode K.1 pc = .ok (.ishl, 1)) (kk : jT l E K k n (pc + 1) lv (.int (jshl x y) :: st) w Po) : jT l E K k n pc lv (.int y :: .int x :: st) w Po := by
  intro p e s m args below meth c A X H locs ls hP hD hS hl
  exact lv_ishl X.1 X.2.1 d (kk p e s m args below meth c A X H locs ls hP hD hS hl)
theorem j_ishr {x y : Int32} (d : decode K.1 pc = .ok (.ishr, 1)) (kk : jT l E K k n (pc + 1) lv (.int (jshr x y) :: st) w Po) : jT l E K k n pc lv (.int y :: .int x :: st) w Po := by
  intro p e s m args below meth c A X H locs ls hP hD hS hl
  exact lv_ishr X.1 X.2.1 d (kk p e s m args below meth c A X H locs ls hP hD hS hl)
theorem j_iushr {x : Int32} {y : Int32} (d : decode K.1 pc = .ok (.iushr, 1)) (kk : jT l E K k n (pc + 1) lv (.int (jushr x y) :: st) w Po) : jT l E K k n pc lv (.int y :: .int x :: st) w Po := by
  intro p e s m args below meth c A X H locs ls hP hD hS hl
  exact lv_iushr X.1 X.2.1 d rfl (kk p e s m args below meth c A X H locs ls hP hD hS hl)
theorem j_ladd {x y : Int64} (d : decode K.1 pc = .ok (.ladd, 1)) (kk : jT l E K k n (pc + 1) lv (.long (x + y) :: st) w Po) : jT l E K k n pc lv (.long y :: .long x :: st) w Po := by
  intro p e s m args below meth c A X H locs ls hP hD hS hl
  exact lv_ladd X.1 X.2.1 d (kk p e s m args below meth c A X H locs ls hP hD hS hl)
theorem j_lmul {x y : Int64} (d : decode K.1 pc = .ok (.lmul, 1)) (kk : jT l E K k n (pc + 1) lv (.long (x * y) :: st) w Po) : jT l E K k n pc lv (.long y :: .long x :: st) w Po := by
  intro p e s m args below meth c A X H locs ls hP hD hS hl
  exact lv_lmul X.1 X.2.1 d (kk p e s m args below meth c A X H locs ls hP hD hS hl)
theorem j_lor {x y : Int64} (d : decode K.1 pc = .ok (.lor, 1)) (kk : jT l E K k n (pc + 1) lv (.long (x ||| y) :: st) w Po) : jT l E K k n pc lv (.long y :: .long x :: st) w Po := by
  intro p e s m args below meth c A X H locs ls hP hD hS hl
  exact lv_lor X.1 X.2.1 d (kk p e s m args below meth c A X H locs ls hP hD hS hl)
theorem j_lushr {x : Int64} {y : Int32} (d : decode K.1 pc = .ok (.lushr, 1)) (kk : jT l E K k n (pc + 1) lv (.long (jlushr x y) :: st) w Po) : jT l E K k n pc lv (.int y :: .long x :: st) w Po := by
  intro p e s m args below meth c A X H locs ls hP hD hS hl
  exact lv_lushr X.1 X.2.1 d rfl (kk p e s m args below meth c A X H locs ls hP hD hS hl)
theorem j_lshl {x : Int64} {y : Int32} (d : decode K.1 pc = .ok (.lshl, 1)) (kk : jT l E K k n (pc + 1) lv (.long (jlshl x y) :: st) w Po) : jT l E K k n pc lv (.int y :: .long x :: st) w Po := by
  intro p e s m args below meth c A X H locs ls hP hD hS hl
  exact lv_lshl X.1 X.2.1 d rfl (kk p e s m args below meth c A X H locs ls hP hD hS hl)
theorem j_i2l {x : Int32} (d : decode K.1 pc = .ok (.i2l, 1)) (kk : jT l E K k n (pc + 1) lv (.long x.toInt64 :: st) w Po) : jT l E K k n pc lv (.int x :: st) w Po := by
  intro p e s m args below meth c A X H locs ls hP hD hS hl
  exact lv_i2l X.1 X.2.1 d rfl (kk p e s m args below meth c A X H locs ls hP hD hS hl)
theorem j_l2i {x : Int64} (d : decode K.1 pc = .ok (.l2i, 1)) (kk : jT l E K k n (pc + 1) lv (.int x.toInt32 :: st) w Po) : jT l E K k n pc lv (.long x :: st) w Po := by
  intro p e s m args below meth c A X H locs ls hP hD hS hl
  exact lv_l2i X.1 X.2.1 d rfl (kk p e s m args below meth c A X H locs ls hP hD hS hl)
theorem j_i2c {x : Int32} (d : decode K.1 pc = .ok (.i2c, 1)) (kk : jT l E K k n (pc + 1) lv (.int (jchar x) :: st) w Po) : jT l E K k n pc lv (.int x :: st) w Po := by
  intro p e s m args below meth c A X H locs ls hP hD hS hl
  exact lv_i2c X.1 X.2.1 d rfl (kk p e s m args below meth c A X H locs ls hP hD hS hl)
theorem j_lcmp {x y : Int64} (d : decode K.1 pc = .ok (.lcmp, 1)) (kk : jT l E K k n (pc + 1) lv (.int (lg_cmp x y) :: st) w Po) : jT l E K k n pc lv (.long y :: .long x :: st) w Po := by
  intro p e s m args below meth c A X H locs ls hP hD hS hl
  exact W.lcmp X.1 X.2.1 d (kk p e s m args below meth c A X H locs ls hP hD hS hl)
theorem j_dup {v : Value} (d : decode K.1 pc = .ok (.dup, 1)) (hv : v.category = 1) (kk : jT l E K k n (pc + 1) lv (v :: v :: st) w Po) : jT l E K k n pc lv (v :: st) w Po := by
  intro p e s m args below meth c A X H locs ls hP hD hS hl
  exact lv_dup X.1 X.2.1 d hv (kk p e s m args below meth c A X H locs ls hP hD hS hl)
theorem j_pop {v : Value} (d : decode K.1 pc = .ok (.pop, 1)) (hv : v.category = 1) (kk : jT l E K k n (pc + 1) lv st w Po) : jT l E K k n pc lv (v :: st) w Po := by
  intro p e s m args below meth c A X H locs ls hP hD hS hl
  exact lv_pop X.1 X.2.1 d hv (kk p e s m args below meth c A X H locs ls hP hD hS hl)
theorem j_goto {off : Int} {tgt : Nat} (d : decode K.1 pc = .ok (.goto off, 3)) (ht : (pc : Int) + off = (tgt : Int)) (kk : jT l E K k n tgt lv st w Po) : jT l E K k n pc lv st w Po := by
  intro p e s m args below meth c A X H locs ls hP hD hS hl
  exact lv_goto X.1 X.2.1 d ht (kk p e s m args below meth c A X H locs ls hP hD hS hl)
end JT
/-! guards of the pure texts: an index in its row, a divisor that isn't 0, a boolean that is 0 or 1 -/
def jgi {α : Type} (i : Int32) (N : Nat) (a : Option α) : Option α := if i < 0 ∨ N ≤ i.toNatClampNeg then none else a
def jgd {α : Type} (y : Int32) (a : Option α) : Option α := if y = 0 then none else a
def jge {α : Type} (y : Int64) (a : Option α) : Option α := if y = 0 then none else a
def jgz {α : Type} (x : Int32) (a : Option α) : Option α := if x = 0 ∨ x = 1 then a else none
theorem jgi_s {α : Type} {i : Int32} {N : Nat} {a : Option α} {u : α} (h : jgi i N a = some u) : vp_in i N ∧ a = some u := by
  unfold jgi at h
  by_cases q : i < 0 ∨ N ≤ i.toNatClampNeg
  · rw [if_pos q] at h; cases h
  · rw [if_neg q] at h; exact ⟨q, h⟩
theorem jgd_s {α : Type} {y : Int32} {a : Option α} {u : α} (h : jgd y a = some u) : ¬ y = 0 ∧ a = some u := by
  unfold jgd at h
  by_cases q : y = 0
  · rw [if_pos q] at h; cases h
  · rw [if_neg q] at h; exact ⟨q, h⟩
theorem jge_s {α : Type} {y : Int64} {a : Option α} {u : α} (h : jge y a = some u) : ¬ y = 0 ∧ a = some u := by
  unfold jge at h
  by_cases q : y = 0
  · rw [if_pos q] at h; cases h
  · rw [if_neg q] at h; exact ⟨q, h⟩
theorem jgz_s {α : Type} {x : Int32} {a : Option α} {u : α} (h : jgz x a = some u) : (x = 0 ∨ x = 1) ∧ a = some u := by
  unfold jgz at h
  by_cases q : x = 0 ∨ x = 1
  · rw [if_pos q] at h; exact ⟨q, h⟩
  · rw [if_neg q] at h; cases h
theorem jbind_s {α β : Type} {o : Option α} {g : α → Option β} {u : β} (h : o.bind g = some u) : ∃ b, o = some b ∧ g b = some u := by
  cases o with
  | none => cases h
  | some b => exact ⟨b, rfl, h⟩
section JB
variable {l : Launch} {E : jE} {K : jK} {k n pc : Nat} {lv : List (Nat × Value)} {st : List Value} {w : va_W} {Po : Option Value → va_W → Prop} {α : Type} {a b o : Option α} {off : Int} {tgt : Nat}
theorem j_if_eq {x : Int32} {i : Decidable (x = 0)} (d : decode K.1 pc = .ok (.ifCond .eq off, 3)) (ht : (pc : Int) + off = (tgt : Int)) (h : @ite _ (x = 0) i a b = o) (kt : a = o → jT l E K k n tgt lv st w Po) (kf : b = o → jT l E K k n (pc + 3) lv st w Po) : jT l E K k n pc lv (.int x :: st) w Po := by
  intro p e s m args below meth c A X H locs ls hP hD hS hl
  exact lv_if_eq X.1 X.2.1 d ht (fun q => kt ((if_pos q).symm.trans h) p e s m args below meth c A X H locs ls hP hD hS hl) (fun q => kf ((if_neg q).symm.trans h) p e s m args below meth c A X H locs ls hP hD hS hl)
theorem j_if_ne {x : Int32} {i : Decidable (x = 0)} (d : decode K.1 pc = .ok (.ifCond .ne off, 3)) (ht : (pc : Int) + off = (tgt : Int)) (h : @ite _ (x = 0) i a b = o) (kt : b = o → jT l E K k n tgt lv st w Po) (kf : a = o → jT l E K k n (pc + 3) lv st w Po) : jT l E K k n pc lv (.int x :: st) w Po := by
  intro p e s m args below meth c A X H locs ls hP hD hS hl
  exact lv_if_ne X.1 X.2.1 d ht (fun q => kt ((if_neg q).symm.trans h) p e s m args below meth c A X H locs ls hP hD hS hl) (fun q => kf ((if_pos q).symm.trans h) p e s m args below meth c A X H locs ls hP hD hS hl)
theorem j_if_lt {x : Int32} {i : Decidable (x < 0)} (d : decode K.1 pc = .ok (.ifCond .lt off, 3)) (ht : (pc : Int) + off = (tgt : Int)) (h : @ite _ (x < 0) i a b = o) (kt : a = o → jT l E K k n tgt lv st w Po) (kf : b = o → jT l E K k n (pc + 3) lv st w Po) : jT l E K k n pc lv (.int x :: st) w Po := by
  intro p e s m args below meth c A X H locs ls hP hD hS hl
  exact lv_if_lt X.1 X.2.1 d ht (fun q => kt ((if_pos q).symm.trans h) p e s m args below meth c A X H locs ls hP hD hS hl) (fun q => kf ((if_neg q).symm.trans h) p e s m args below meth c A X H locs ls hP hD hS hl)
theorem j_if_ge {x : Int32} {i : Decidable (0 ≤ x)} (d : decode K.1 pc = .ok (.ifCond .ge off, 3)) (ht : (pc : Int) + off = (tgt : Int)) (h : @ite _ (0 ≤ x) i a b = o) (kt : a = o → jT l E K k n tgt lv st w Po) (kf : b = o → jT l E K k n (pc + 3) lv st w Po) : jT l E K k n pc lv (.int x :: st) w Po := by
  intro p e s m args below meth c A X H locs ls hP hD hS hl
  exact lv_if_ge X.1 X.2.1 d ht (fun q => kt ((if_pos q).symm.trans h) p e s m args below meth c A X H locs ls hP hD hS hl) (fun q => kf ((if_neg q).symm.trans h) p e s m args below meth c A X H locs ls hP hD hS hl)
theorem j_if_gt {x : Int32} {i : Decidable (0 < x)} (d : decode K.1 pc = .ok (.ifCond .gt off, 3)) (ht : (pc : Int) + off = (tgt : Int)) (h : @ite _ (0 < x) i a b = o) (kt : a = o → jT l E K k n tgt lv st w Po) (kf : b = o → jT l E K k n (pc + 3) lv st w Po) : jT l E K k n pc lv (.int x :: st) w Po := by
  intro p e s m args below meth c A X H locs ls hP hD hS hl
  exact lv_if_gt X.1 X.2.1 d ht (fun q => kt ((if_pos q).symm.trans h) p e s m args below meth c A X H locs ls hP hD hS hl) (fun q => kf ((if_neg q).symm.trans h) p e s m args below meth c A X H locs ls hP hD hS hl)
theorem j_if_le {x : Int32} {i : Decidable (x ≤ 0)} (d : decode K.1 pc = .ok (.ifCond .le off, 3)) (ht : (pc : Int) + off = (tgt : Int)) (h : @ite _ (x ≤ 0) i a b = o) (kt : a = o → jT l E K k n tgt lv st w Po) (kf : b = o → jT l E K k n (pc + 3) lv st w Po) : jT l E K k n pc lv (.int x :: st) w Po := by
  intro p e s m args below meth c A X H locs ls hP hD hS hl
  exact lv_if_le X.1 X.2.1 d ht (fun q => kt ((if_pos q).symm.trans h) p e s m args below meth c A X H locs ls hP hD hS hl) (fun q => kf ((if_neg q).symm.trans h) p e s m args below meth c A X H locs ls hP hD hS hl)
theorem j_icmp_eq {x y : Int32} {i : Decidable (x = y)} (d : decode K.1 pc = .ok (.if_icmp .eq off, 3)) (ht : (pc : Int) + off = (tgt : Int)) (h : @ite _ (x = y) i a b = o) (kt : a = o → jT l E K k n tgt lv st w Po) (kf : b = o → jT l E K k n (pc + 3) lv st w Po) : jT l E K k n pc lv (.int y :: .int x :: st) w Po := by
  intro p e s m args below meth c A X H locs ls hP hD hS hl
  exact lv_icmp_eq X.1 X.2.1 d ht (fun q => kt ((if_pos q).symm.trans h) p e s m args below meth c A X H locs ls hP hD hS hl) (fun q => kf ((if_neg q).symm.trans h) p e s m args below meth c A X H locs ls hP hD hS hl)
theorem j_icmp_ne {x y : Int32} {i : Decidable (x = y)} (d : decode K.1 pc = .ok (.if_icmp .ne off, 3)) (ht : (pc : Int) + off = (tgt : Int)) (h : @ite _ (x = y) i a b = o) (kt : b = o → jT l E K k n tgt lv st w Po) (kf : a = o → jT l E K k n (pc + 3) lv st w Po) : jT l E K k n pc lv (.int y :: .int x :: st) w Po := by
  intro p e s m args below meth c A X H locs ls hP hD hS hl
  exact lv_icmp_ne X.1 X.2.1 d ht (fun q => kt ((if_neg q).symm.trans h) p e s m args below meth c A X H locs ls hP hD hS hl) (fun q => kf ((if_pos q).symm.trans h) p e s m args below meth c A X H locs ls hP hD hS hl)
theorem j_icmp_lt {x y : Int32} {i : Decidable (x < y)} (d : decode K.1 pc = .ok (.if_icmp .lt off, 3)) (ht : (pc : Int) + off = (tgt : Int)) (h : @ite _ (x < y) i a b = o) (kt : a = o → jT l E K k n tgt lv st w Po) (kf : b = o → jT l E K k n (pc + 3) lv st w Po) : jT l E K k n pc lv (.int y :: .int x :: st) w Po := by
  intro p e s m args below meth c A X H locs ls hP hD hS hl
  exact lv_icmp_lt X.1 X.2.1 d ht (fun q => kt ((if_pos q).symm.trans h) p e s m args below meth c A X H locs ls hP hD hS hl) (fun q => kf ((if_neg q).symm.trans h) p e s m args below meth c A X H locs ls hP hD hS hl)
theorem j_icmp_ge {x y : Int32} {i : Decidable (y ≤ x)} (d : decode K.1 pc = .ok (.if_icmp .ge off, 3)) (ht : (pc : Int) + off = (tgt : Int)) (h : @ite _ (y ≤ x) i a b = o) (kt : a = o → jT l E K k n tgt lv st w Po) (kf : b = o → jT l E K k n (pc + 3) lv st w Po) : jT l E K k n pc lv (.int y :: .int x :: st) w Po := by
  intro p e s m args below meth c A X H locs ls hP hD hS hl
  exact lv_icmp_ge X.1 X.2.1 d ht (fun q => kt ((if_pos q).symm.trans h) p e s m args below meth c A X H locs ls hP hD hS hl) (fun q => kf ((if_neg q).symm.trans h) p e s m args below meth c A X H locs ls hP hD hS hl)
theorem j_icmp_gt {x y : Int32} {i : Decidable (y < x)} (d : decode K.1 pc = .ok (.if_icmp .gt off, 3)) (ht : (pc : Int) + off = (tgt : Int)) (h : @ite _ (y < x) i a b = o) (kt : a = o → jT l E K k n tgt lv st w Po) (kf : b = o → jT l E K k n (pc + 3) lv st w Po) : jT l E K k n pc lv (.int y :: .int x :: st) w Po := by
  intro p e s m args below meth c A X H locs ls hP hD hS hl
  exact lv_icmp_gt X.1 X.2.1 d ht (fun q => kt ((if_pos q).symm.trans h) p e s m args below meth c A X H locs ls hP hD hS hl) (fun q => kf ((if_neg q).symm.trans h) p e s m args below meth c A X H locs ls hP hD hS hl)
theorem j_icmp_le {x y : Int32} {i : Decidable (x ≤ y)} (d : decode K.1 pc = .ok (.if_icmp .le off, 3)) (ht : (pc : Int) + off = (tgt : Int)) (h : @ite _ (x ≤ y) i a b = o) (kt : a = o → jT l E K k n tgt lv st w Po) (kf : b = o → jT l E K k n (pc + 3) lv st w Po) : jT l E K k n pc lv (.int y :: .int x :: st) w Po := by
  intro p e s m args below meth c A X H locs ls hP hD hS hl
  exact lv_icmp_le X.1 X.2.1 d ht (fun q => kt ((if_pos q).symm.trans h) p e s m args below meth c A X H locs ls hP hD hS hl) (fun q => kf ((if_neg q).symm.trans h) p e s m args below meth c A X H locs ls hP hD hS hl)
theorem j_tableOut {dflt lo hi : Int} {offs : Array Int} {len : Nat} {x : Int32} (d : decode K.1 pc = .ok (.tableswitch dflt lo hi offs, len)) (h : x.toInt < lo ∨ hi < x.toInt) (ht : (pc : Int) + dflt = (tgt : Int)) (kk : jT l E K k n tgt lv st w Po) : jT l E K k n pc lv (.int x :: st) w Po := by
  intro p e s m args below meth c A X H locs ls hP hD hS hl
  exact lv_tableOut X.1 X.2.1 d h ht (kk p e s m args below meth c A X H locs ls hP hD hS hl)
theorem j_tableIn {dflt lo hi : Int} {offs : Array Int} {len : Nat} {x : Int32} (v : Int32) (e : x = v) (d : decode K.1 pc = .ok (.tableswitch dflt lo hi offs, len)) (h1 : ¬ v.toInt < lo) (h2 : ¬ hi < v.toInt) (ho : offs[(v.toInt - lo).toNat]? = some off) (ht : (pc : Int) + off = (tgt : Int)) (kk : jT l E K k n tgt lv st w Po) : jT l E K k n pc lv (.int x :: st) w Po := by
  subst e
  intro p e s m args below meth c A X H locs ls hP hD hS hl
  exact lv_tableIn X.1 X.2.1 d h1 h2 ho ht (kk p e s m args below meth c A X H locs ls hP hD hS hl)
theorem j_lookup {dflt : Int} {ps : Array (Int × Int)} {len : Nat} {x : Int32} (d : decode K.1 pc = .ok (.lookupswitch dflt ps, len)) (hp : (ps.toList.zip (ps.toList.drop 1)).all (fun (a, next) => a.1 < next.1) = true) (ho : Op.lookupswitch.offset ps.toList dflt x.toInt = off) (ht : (pc : Int) + off = (tgt : Int)) (kk : jT l E K k n tgt lv st w Po) : jT l E K k n pc lv (.int x :: st) w Po := by
  intro p e s m args below meth c A X H locs ls hP hD hS hl
  exact lv_lookup X.1 X.2.1 d hp ho ht (kk p e s m args below meth c A X H locs ls hP hD hS hl)
theorem j_idiv {x y : Int32} {u : α} (d : decode K.1 pc = .ok (.idiv, 1)) (h : jgd y a = some u) (kk : a = some u → jT l E K k n (pc + 1) lv (.int (x / y) :: st) w Po) : jT l E K k n pc lv (.int y :: .int x :: st) w Po := by
  obtain ⟨h0, h⟩ := jgd_s h
  intro p e s m args below meth c A X H locs ls hP hD hS hl
  exact lv_idiv X.1 X.2.1 d h0 (kk h p e s m args below meth c A X H locs ls hP hD hS hl)
theorem j_irem {x y : Int32} {u : α} (d : decode K.1 pc = .ok (.irem, 1)) (h : jgd y a = some u) (kk : a = some u → jT l E K k n (pc + 1) lv (.int (jrem x y) :: st) w Po) : jT l E K k n pc lv (.int y :: .int x :: st) w Po := by
  obtain ⟨h0, h⟩ := jgd_s h
  intro p e s m args below meth c A X H locs ls hP hD hS hl
  exact lv_irem X.1 X.2.1 d h0 (kk h p e s m args below meth c A X H locs ls hP hD hS hl)
theorem j_ldiv {x y : Int64} {u : α} (d : decode K.1 pc = .ok (.ldiv, 1)) (h : jge y a = some u) (kk : a = some u → jT l E K k n (pc + 1) lv (.long (x / y) :: st) w Po) : jT l E K k n pc lv (.long y :: .long x :: st) w Po := by
  obtain ⟨h0, h⟩ := jge_s h
  intro p e s m args below meth c A X H locs ls hP hD hS hl
  exact lv_ldiv X.1 X.2.1 d h0 (kk h p e s m args below meth c A X H locs ls hP hD hS hl)
theorem j_lrem {x y : Int64} {u : α} (d : decode K.1 pc = .ok (.lrem, 1)) (h : jge y a = some u) (kk : a = some u → jT l E K k n (pc + 1) lv (.long (jreml x y) :: st) w Po) : jT l E K k n pc lv (.long y :: .long x :: st) w Po := by
  obtain ⟨h0, h⟩ := jge_s h
  intro p e s m args below meth c A X H locs ls hP hD hS hl
  exact lv_lrem X.1 X.2.1 d h0 (kk h p e s m args below meth c A X H locs ls hP hD hS hl)
/-! arrays -/
theorem j_iald {a0 N : Nat} {f : Nat → Int32} {i : Int32} {u : α} (q0 : Nat) (ha : w[q0]? = some (jI E a0 N f)) (d : decode K.1 pc = .ok (.iaload, 1)) (h : jgi i N a = some u) (kk : a = some u → jT l E K k n (pc + 1) lv (.int (f i.toNatClampNeg) :: st) w Po) : jT l E K k n pc lv (.int i :: .ref a0 :: st) w Po := by
  obtain ⟨h0, h⟩ := jgi_s h
  intro p e s m args below meth c A X H locs ls hP hD hS hl
  exact va_iald X.1 X.2.1 X.2.2.2.2.2.2.2.2.1 hP q0 0 ha rfl h0 d (kk h p e s m args below meth c A X H locs ls hP hD hS hl)
theorem j_lald {a0 N : Nat} {f : Nat → Int64} {i : Int32} {u : α} (q0 : Nat) (ha : w[q0]? = some (jJ E a0 N f)) (d : decode K.1 pc = .ok (.laload, 1)) (h : jgi i N a = some u) (kk : a = some u → jT l E K k n (pc + 1) lv (.long (f i.toNatClampNeg) :: st) w Po) : jT l E K k n pc lv (.int i :: .ref a0 :: st) w Po := by
  obtain ⟨h0, h⟩ := jgi_s h
  intro p e s m args below meth c A X H locs ls hP hD hS hl
  exact va_lald X.1 X.2.1 X.2.2.2.2.2.2.2.2.1 hP q0 1 ha rfl h0 d (kk h p e s m args below meth c A X H locs ls hP hD hS hl)
theorem j_cald {a0 N : Nat} {f : Nat → Int32} {i : Int32} {u : α} (q0 : Nat) (ha : w[q0]? = some (jH E a0 N f)) (d : decode K.1 pc = .ok (.caload, 1)) (h : jgi i N a = some u) (kk : a = some u → jT l E K k n (pc + 1) lv (.int (f i.toNatClampNeg) :: st) w Po) : jT l E K k n pc lv (.int i :: .ref a0 :: st) w Po := by
  obtain ⟨h0, h⟩ := jgi_s h
  intro p e s m args below meth c A X H locs ls hP hD hS hl
  exact va_cald X.1 X.2.1 X.2.2.2.2.2.2.2.2.1 hP q0 2 ha rfl h0 d (kk h p e s m args below meth c A X H locs ls hP hD hS hl)
theorem j_iast {a0 N : Nat} {f : Nat → Int32} {i x : Int32} {u : α} {w' : va_W} (q0 : Nat) (ha : w[q0]? = some (jI E a0 N f)) (d : decode K.1 pc = .ok (.iastore, 1)) (h : jgi i N a = some u) (hw : w.set q0 (jI E a0 N (upd f i.toNatClampNeg x)) = w') (kk : a = some u → jT l E K k n (pc + 1) lv st w' Po) : jT l E K k n pc lv (.int x :: .int i :: .ref a0 :: st) w Po := by
  obtain ⟨h0, h⟩ := jgi_s h
  subst hw
  intro p e s m args below meth c A X H locs ls hP hD hS hl
  exact va_iast X.1 X.2.1 X.2.2.2.2.2.2.2.2.1 hP hD hS q0 0 ha rfl h0 d (fun H1 locs1 hP hD hS => kk h p e s m args below meth c A X H1 locs1 ls hP hD hS hl)
theorem j_last {a0 N : Nat} {f : Nat → Int64} {i : Int32} {x : Int64} {u : α} {w' : va_W} (q0 : Nat) (ha : w[q0]? = some (jJ E a0 N f)) (d : decode K.1 pc = .ok (.lastore, 1)) (h : jgi i N a = some u) (hw : w.set q0 (jJ E a0 N (vp_updL f i.toNatClampNeg x)) = w') (kk : a = some u → jT l E K k n (pc + 1) lv st w' Po) : jT l E K k n pc lv (.long x :: .int i :: .ref a0 :: st) w Po := by
  obtain ⟨h0, h⟩ := jgi_s h
  subst hw
  intro p e s m args below meth c A X H locs ls hP hD hS hl
  exact va_last X.1 X.2.1 X.2.2.2.2.2.2.2.2.1 hP hD hS q0 1 ha rfl h0 d (fun H1 locs1 hP hD hS => kk h p e s m args below meth c A X H1 locs1 ls hP hD hS hl)
theorem j_cast {a0 N : Nat} {f : Nat → Int32} {i x : Int32} {u : α} {w' : va_W} (q0 : Nat) (ha : w[q0]? = some (jH E a0 N f)) (d : decode K.1 pc = .ok (.castore, 1)) (h : jgi i N a = some u) (hw : w.set q0 (jH E a0 N (upd f i.toNatClampNeg (vp_nar .char x))) = w') (kk : a = some u → jT l E K k n (pc + 1) lv st w' Po) : jT l E K k n pc lv (.int x :: .int i :: .ref a0 :: st) w Po := by
  obtain ⟨h0, h⟩ := jgi_s h
  subst hw
  intro p e s m args below meth c A X H locs ls hP hD hS hl
  exact va_cast X.1 X.2.1 X.2.2.2.2.2.2.2.2.1 hP hD hS q0 2 ha rfl h0 d (fun H1 locs1 hP hD hS => kk h p e s m args below meth c A X H1 locs1 ls hP hD hS hl)
theorem j_alenI {a0 N : Nat} {f : Nat → Int32} {v : Int32} (q0 : Nat) (ha : w[q0]? = some (jI E a0 N f)) (d : decode K.1 pc = .ok (.arraylength, 1)) (hv : Int32.ofNat N = v) (kk : jT l E K k n (pc + 1) lv (.int v :: st) w Po) : jT l E K k n pc lv (.ref a0 :: st) w Po := by
  intro p e s m args below meth c A X H locs ls hP hD hS hl
  exact va_alen X.1 X.2.1 X.2.2.2.2.2.2.2.2.1 hP q0 0 ha rfl hv d (kk p e s m args below meth c A X H locs ls hP hD hS hl)
theorem j_alenJ {a0 N : Nat} {f : Nat → Int64} {v : Int32} (q0 : Nat) (ha : w[q0]? = some (jJ E a0 N f)) (d : decode K.1 pc = .ok (.arraylength, 1)) (hv : Int32.ofNat N = v) (kk : jT l E K k n (pc + 1) lv (.int v :: st) w Po) : jT l E K k n pc lv (.ref a0 :: st) w Po := by
  intro p e s m args below meth c A X H locs ls hP hD hS hl
  exact va_alen X.1 X.2.1 X.2.2.2.2.2.2.2.2.1 hP q0 1 ha rfl hv d (kk p e s m args below meth c A X H locs ls hP hD hS hl)
/-! fields -/
theorem j_get {a0 ci N i : Nat} {C : String} {T : u_T} {fs : List Value} {v : Value} (q0 fk : Nat) (he : w[q0]? = some (jO a0 ci fs)) (hc : vwCl[ci]? = some (C, T, N)) (hk : fk < N) (hin : ∀ w ∈ u_ws C T N, w ∈ jB) (hlink : Cond.fieldLink K.2.2.2.1.cls i (T fk).1 (T fk).2.1 (T fk).2.2.1 ∈ jB) (hv : fs[fk]? = some v) (d : decode K.1 pc = .ok (.getfield i, 3)) (kk : jT l E K k n (pc + 3) lv (v :: st) w Po) : jT l E K k n pc lv (.ref a0 :: st) w Po := by
  intro p e s m args below meth c A X H locs ls hP hD hS hl
  exact va_get X.1 X.2.1 X.2.2.2.2.1 hin X.2.2.2.1 X.2.2.2.2.2.2.2.2.1 hP q0 he hc fk hk (X.2.2.2.2.1 _ hlink) (fun _ h => h) hv d (kk p e s m args below meth c A X H locs ls hP hD hS hl)
theorem j_getN {a0 ci N i : Nat} {C host : String} {T : u_T} {fs : List Value} {v : Value} (q0 fk : Nat) (he : w[q0]? = some (jO a0 ci fs)) (hc : vwCl[ci]? = some (C, T, N)) (hk : fk < N) (hin : ∀ w ∈ u_ws C T N, w ∈ jB) (hlink : Cond.fieldLinkNest K.2.2.2.1.cls i (T fk).1 (T fk).2.1 (T fk).2.2.1 host ∈ jNl) (hv : fs[fk]? = some v) (d : decode K.1 pc = .ok (.getfield i, 3)) (kk : jT l E K k n (pc + 3) lv (v :: st) w Po) : jT l E K k n pc lv (.ref a0 :: st) w Po := by
  intro p e s m args below meth c A X H locs ls hP hD hS hl
  exact va_getN X.1 X.2.1 X.2.2.2.2.1 hin X.2.2.2.1 X.2.2.2.2.2.2.2.2.1 hP q0 he hc fk hk (va_Nw.use rfl (X.2.2.2.2.2.2.2.2.2.1 _ hlink)) (fun _ h => h) hv d (kk p e s m args below meth c A X H locs ls hP hD hS hl)
theorem j_put {a0 ci N i : Nat} {C : String} {T : u_T} {fs : List Value} {v : Value} {w' : va_W} {ty : FieldType} (ty0 : Nat → FieldType) (q0 fk : Nat) (hty : ∀ k, k < N → parseFieldDescriptor (T k).2.2.1 = some (ty0 k)) (hnm : ∀ a, a < N → ∀ b, b < N → a ≠ b → (T a).2.1 ≠ (T b).2.1) (he : w[q0]? = some (jO a0 ci fs)) (hc : vwCl[ci]? = some (C, T, N)) (hk : fk < N) (hin : ∀ w ∈ u_ws C T N, w ∈ jB) (hlink : Cond.fieldLink K.2.2.2.1.cls i (T fk).1 (T fk).2.1 (T fk).2.2.1 ∈ jB) (hfin : (T fk).2.2.2 = false) (ht : ty0 fk = ty) (hn : narrow ty v = v) (hfit : fits ty v = true) (hl0 : fk < fs.length) (d : decode K.1 pc = .ok (.putfield i, 3)) (hw : w.set q0 (jO a0 ci (fs.set fk v)) = w') (kk : jT l E K k n (pc + 3) lv st w' Po) : jT l E K k n pc lv (v :: .ref a0 :: st) w Po := by
  subst hw
  intro p e s m args below meth c A X H locs ls hP hD hS hl
  exact va_put X.1 X.2.1 X.2.2.2.2.1 hin ty0 hty hnm X.2.2.2.1 X.2.2.2.2.2.2.2.2.1 hP hD hS q0 he hc fk hk (X.2.2.2.2.1 _ hlink) (fun _ h => h) hfin ((hty fk hk).trans (congrArg some ht)) hn hfit hl0 d (fun H1 locs1 hP hD hS => kk p e s m args below meth c A X H1 locs1 ls hP hD hS hl)
theorem j_putN {a0 ci N i : Nat} {C host : String} {T : u_T} {fs : List Value} {v : Value} {w' : va_W} {ty : FieldType} (ty0 : Nat → FieldType) (q0 fk : Nat) (hty : ∀ k, k < N → parseFieldDescriptor (T k).2.2.1 = some (ty0 k)) (hnm : ∀ a, a < N → ∀ b, b < N → a ≠ b → (T a).2.1 ≠ (T b).2.1) (he : w[q0]? = some (jO a0 ci fs)) (hc : vwCl[ci]? = some (C, T, N)) (hk : fk < N) (hin : ∀ w ∈ u_ws C T N, w ∈ jB) (hlink : Cond.fieldLinkNest K.2.2.2.1.cls i (T fk).1 (T fk).2.1 (T fk).2.2.1 host ∈ jNl) (hfin : (T fk).2.2.2 = false) (ht : ty0 fk = ty) (hn : narrow ty v = v) (hfit : fits ty v = true) (hl0 : fk < fs.length) (d : decode K.1 pc = .ok (.putfield i, 3)) (hw : w.set q0 (jO a0 ci (fs.set fk v)) = w') (kk : jT l E K k n (pc + 3) lv st w' Po) : jT l E K k n pc lv (v :: .ref a0 :: st) w Po := by
  subst hw
  intro p e s m args below meth c A X H locs ls hP hD hS hl
  exact va_putN X.1 X.2.1 X.2.2.2.2.1 hin ty0 hty hnm X.2.2.2.1 X.2.2.2.2.2.2.2.2.1 hP hD hS q0 he hc fk hk (va_Nw.use rfl (X.2.2.2.2.2.2.2.2.2.1 _ hlink)) (fun _ h => h) hfin ((hty fk hk).trans (congrArg some ht)) hn hfit hl0 d (fun H1 locs1 hP hD hS => kk p e s m args below meth c A X H1 locs1 ls hP hD hS hl)
theorem j_bz {x : Int32} (h : x = 0 ∨ x = 1) : narrow .boolean (.int x) = .int x ∧ fits .boolean (.int x) = true := by
  rcases h with rfl | rfl <;> exact ⟨by decide, by decide⟩
/-! ends -/
theorem j_iret {v : Int32} (hr : K.2.2.1 = some .int) (d : decode K.1 pc = .ok (.ireturn, 1)) (hk : k ≤ K.2.2.2.2.cells) (hn : n ≤ K.2.2.2.2.slots) (hpo : Po (some (.int v)) w) : jT l E K k n pc lv [.int v] w Po := by
  intro p e s m args below meth c A X H locs ls hP hD hS hl
  exact W.widen hk hn (W.iret X.1 X.2.1 (X.2.2.2.2.2.1.trans hr) (fun t ht hW => ⟨⟨_, w, rfl, hpo, by rw [ht]; exact hP, hD⟩, hS.F ht⟩) hS.2.2 d X.2.2.2.2.2.2.1)
theorem j_zret {v : Int32} (hr : K.2.2.1 = some .boolean) (hz : v = 0 ∨ v = 1) (d : decode K.1 pc = .ok (.ireturn, 1)) (hk : k ≤ K.2.2.2.2.cells) (hn : n ≤ K.2.2.2.2.slots) (hpo : Po (some (.int v)) w) : jT l E K k n pc lv [.int v] w Po := by
  intro p e s m args below meth c A X H locs ls hP hD hS hl
  exact W.widen hk hn (W.zret X.1 X.2.1 (X.2.2.2.2.2.1.trans hr) (j_bz hz).1 (fun t ht hW => ⟨⟨_, w, rfl, hpo, by rw [ht]; exact hP, hD⟩, hS.F ht⟩) hS.2.2 d X.2.2.2.2.2.2.1)
theorem j_lret {v : Int64} (hr : K.2.2.1 = some .long) (d : decode K.1 pc = .ok (.lreturn, 1)) (hk : k ≤ K.2.2.2.2.cells) (hn : n ≤ K.2.2.2.2.slots) (hpo : Po (some (.long v)) w) : jT l E K k n pc lv [.long v] w Po := by
  intro p e s m args below meth c A X H locs ls hP hD hS hl
  exact W.widen hk hn (W.lret X.1 X.2.1 (X.2.2.2.2.2.1.trans hr) (fun t ht hW => ⟨⟨_, w, rfl, hpo, by rw [ht]; exact hP, hD⟩, hS.F ht⟩) hS.2.2 d X.2.2.2.2.2.2.1)
theorem j_vret (hr : K.2.2.1 = none) (d : decode K.1 pc = .ok (.return_, 1)) (hk : k ≤ K.2.2.2.2.cells) (hn : n ≤ K.2.2.2.2.slots) (hpo : Po none w) : jT l E K k n pc lv [] w Po := by
  intro p e s m args below meth c A X H locs ls hP hD hS hl
  exact W.widen hk hn (W.vret X.1 X.2.1 (X.2.2.2.2.2.1.trans hr) (fun t ht hW => ⟨⟨_, w, rfl, hpo, by rw [ht]; exact hP, hD⟩, hS.F ht⟩) hS.2.2 d X.2.2.2.2.2.2.1)
end JB
end
section
/-! the places of the words -/
set_option maxRecDepth 20000 in
theorem m0_0 : Cond.selects RX5 yX5_begin yX5_begin ∈ jB := jB_0 0 rfl rfl
set_option maxRecDepth 20000 in
theorem m0_1 : Cond.selects RX5 yX5_addAct yX5_addAct ∈ jB := jB_0 1 rfl rfl
set_option maxRecDepth 20000 in
theorem m0_2 : Cond.selects RX8 yX8_readItem yX8_readItem ∈ jB := jB_0 2 rfl rfl
set_option maxRecDepth 20000 in
theorem m0_3 : Cond.selects RX8 yX8_nextLetter yX8_nextLetter ∈ jB := jB_0 3 rfl rfl
set_option maxRecDepth 20000 in
theorem m0_4 : Cond.selects RX8 yX8_readNumber yX8_readNumber ∈ jB := jB_0 4 rfl rfl
set_option maxRecDepth 20000 in
theorem m0_5 : Cond.selects RX9 yX9_isPlace yX9_isPlace ∈ jB := jB_0 5 rfl rfl
set_option maxRecDepth 20000 in
theorem m0_6 : Cond.selects RX9 yX9_isCard yX9_isCard ∈ jB := jB_0 6 rfl rfl
set_option maxRecDepth 20000 in
theorem m0_7 : Cond.selects RX9 yX9_act yX9_act ∈ jB := jB_0 7 rfl rfl
set_option maxRecDepth 20000 in
theorem m0_8 : Cond.selects RX0 yX0_isNextTo yX0_isNextTo ∈ jB := jB_0 8 rfl rfl
set_option maxRecDepth 20000 in
theorem m0_9 : Cond.selects RX0 yX0_firstKind yX0_firstKind ∈ jB := jB_0 9 rfl rfl
set_option maxRecDepth 20000 in
theorem m0_10 : Cond.selects RX0 yX0_heldWith yX0_heldWith ∈ jB := jB_0 10 rfl rfl
set_option maxRecDepth 20000 in
theorem m0_11 : Cond.selects RX2 yX2_waysByLastPair yX2_waysByLastPair ∈ jB := jB_0 11 rfl rfl
set_option maxRecDepth 20000 in
theorem m0_12 : Cond.selects RX2 yX2_waysOf yX2_waysOf ∈ jB := jB_0 12 rfl rfl
set_option maxRecDepth 20000 in
theorem m0_13 : Cond.selects RX2 yX2_setWays yX2_setWays ∈ jB := jB_0 13 rfl rfl
set_option maxRecDepth 20000 in
theorem m0_14 : Cond.selects RX9 yX9_fittingKinds yX9_fittingKinds ∈ jB := jB_0 14 rfl rfl
set_option maxRecDepth 20000 in
theorem m0_15 : Cond.selects RX9 yX9_fittingCuts yX9_fittingCuts ∈ jB := jB_0 15 rfl rfl
set_option maxRecDepth 20000 in
theorem m0_16 : Cond.selects RX9 yX9_endOfWay yX9_endOfWay ∈ jB := jB_0 16 rfl rfl
set_option maxRecDepth 20000 in
theorem m0_17 : Cond.selects RX9 yX9_drawnMove yX9_drawnMove ∈ jB := jB_0 17 rfl rfl
set_option maxRecDepth 20000 in
theorem m0_18 : Cond.selects RX10 yX10_clearTold yX10_clearTold ∈ jB := jB_0 18 rfl rfl
set_option maxRecDepth 20000 in
theorem m0_19 : Cond.selects RX10 yX10_colours yX10_colours ∈ jB := jB_0 19 rfl rfl
set_option maxRecDepth 20000 in
theorem m0_20 : Cond.selects RX10 yX10_settles yX10_settles ∈ jB := jB_0 20 rfl rfl
set_option maxRecDepth 20000 in
theorem m0_21 : Cond.selects RX10 yX10_readItem yX10_readItem ∈ jB := jB_0 21 rfl rfl
set_option maxRecDepth 20000 in
theorem m0_22 : Cond.selects RX10 yX10_letterAt yX10_letterAt ∈ jB := jB_0 22 rfl rfl
set_option maxRecDepth 20000 in
theorem m0_23 : Cond.selects RX10 yX10_readCardsOf yX10_readCardsOf ∈ jB := jB_0 23 rfl rfl
set_option maxRecDepth 20000 in
theorem m0_24 : Cond.selects RX10 yX10_readNumbers yX10_readNumbers ∈ jB := jB_0 24 rfl rfl
set_option maxRecDepth 20000 in
theorem m0_25 : Cond.selects RX10 yX10_isTold yX10_isTold ∈ jB := jB_0 25 rfl rfl
set_option maxRecDepth 20000 in
theorem m0_26 : Cond.selects RX10 yX10_readColourOf yX10_readColourOf ∈ jB := jB_0 26 rfl rfl
set_option maxRecDepth 20000 in
theorem m0_27 : Cond.selects RX10 yX10_readDealOf yX10_readDealOf ∈ jB := jB_0 27 rfl rfl
set_option maxRecDepth 20000 in
theorem m0_28 : Cond.selects RX10 yX10_isCard yX10_isCard ∈ jB := jB_0 28 rfl rfl
set_option maxRecDepth 20000 in
theorem m0_29 : Cond.selects RX10 yX10_asItIs yX10_asItIs ∈ jB := jB_0 29 rfl rfl
set_option maxRecDepth 20000 in
theorem m0_30 : Cond.selects RX10 yX10_placeOf yX10_placeOf ∈ jB := jB_0 30 rfl rfl
set_option maxRecDepth 20000 in
theorem m0_31 : Cond.selects RX10 yX10_does yX10_does ∈ jB := jB_0 31 rfl rfl
set_option maxRecDepth 20000 in
theorem m0_32 : Cond.selects RX10 yX10_remembers yX10_remembers ∈ jB := jB_0 32 rfl rfl
set_option maxRecDepth 20000 in
theorem m0_33 : Cond.selects RX10 yX10_acts yX10_acts ∈ jB := jB_0 33 rfl rfl
set_option maxRecDepth 20000 in
theorem m0_34 : Cond.selects RX10 yX10_falls yX10_falls ∈ jB := jB_0 34 rfl rfl
set_option maxRecDepth 20000 in
theorem m0_35 : Cond.selects RX10 yX10_milks yX10_milks ∈ jB := jB_0 35 rfl rfl
set_option maxRecDepth 20000 in
theorem m0_36 : Cond.selects RX10 yX10_under yX10_under ∈ jB := jB_0 36 rfl rfl
set_option maxRecDepth 20000 in
theorem m0_37 : Cond.selects RX10 yX10_cuts yX10_cuts ∈ jB := jB_0 37 rfl rfl
set_option maxRecDepth 20000 in
theorem m0_38 : Cond.selects RX10 yX10_deals yX10_deals ∈ jB := jB_0 38 rfl rfl
set_option maxRecDepth 20000 in
theorem m0_39 : Cond.selects RX10 yX10_isInOrder yX10_isInOrder ∈ jB := jB_0 39 rfl rfl
set_option maxRecDepth 20000 in
theorem m0_40 : Cond.selects RX10 yX10_findFar yX10_findFar ∈ jB := jB_0 40 rfl rfl
set_option maxRecDepth 20000 in
theorem m0_41 : Cond.selects RX10 yX10_findGoes yX10_findGoes ∈ jB := jB_0 41 rfl rfl
set_option maxRecDepth 20000 in
theorem m0_42 : Cond.selects RX10 yX10_isMet yX10_isMet ∈ jB := jB_0 42 rfl rfl
set_option maxRecDepth 20000 in
theorem m0_43 : Cond.selects RX10 yX10_risingNow yX10_risingNow ∈ jB := jB_0 43 rfl rfl
set_option maxRecDepth 20000 in
theorem m0_44 : Cond.selects RX10 yX10_unlike yX10_unlike ∈ jB := jB_0 44 rfl rfl
set_option maxRecDepth 20000 in
theorem m0_45 : Cond.selects RX10 yX10_isBy yX10_isBy ∈ jB := jB_0 45 rfl rfl
set_option maxRecDepth 20000 in
theorem m1_0 : Cond.initialized RL ∈ jB := jB_1 0 rfl rfl
set_option maxRecDepth 20000 in
theorem m1_1 : Cond.initialized RX9 ∈ jB := jB_1 1 rfl rfl
set_option maxRecDepth 20000 in
theorem m1_2 : Cond.initialized RX8 ∈ jB := jB_1 2 rfl rfl
set_option maxRecDepth 20000 in
theorem m1_3 : Cond.initialized RX5 ∈ jB := jB_1 3 rfl rfl
set_option maxRecDepth 20000 in
theorem m1_4 : Cond.initialized RX6 ∈ jB := jB_1 4 rfl rfl
set_option maxRecDepth 20000 in
theorem m1_5 : Cond.initialized RJ9 ∈ jB := jB_1 5 rfl rfl
set_option maxRecDepth 20000 in
theorem m1_6 : Cond.initialized RX7 ∈ jB := jB_1 6 rfl rfl
set_option maxRecDepth 20000 in
theorem m1_7 : Cond.initialized RX0 ∈ jB := jB_1 7 rfl rfl
set_option maxRecDepth 20000 in
theorem m1_8 : Cond.initialized RX2 ∈ jB := jB_1 8 rfl rfl
set_option maxRecDepth 20000 in
theorem m1_9 : Cond.initialized RX4 ∈ jB := jB_1 9 rfl rfl
set_option maxRecDepth 20000 in
theorem m1_10 : Cond.initialized RX3 ∈ jB := jB_1 10 rfl rfl
set_option maxRecDepth 20000 in
theorem m1_11 : Cond.initialized RX10 ∈ jB := jB_1 11 rfl rfl
set_option maxRecDepth 20000 in
theorem m1_12 : Cond.initialized RJ10 ∈ jB := jB_1 12 rfl rfl
set_option maxRecDepth 20000 in
theorem m1_13 : Cond.initialized RX1 ∈ jB := jB_1 13 rfl rfl
set_option maxRecDepth 20000 in
theorem m1_14 : Cond.classLink RL 7 RX9 ∈ jB := jB_1 14 rfl rfl
set_option maxRecDepth 20000 in
theorem m1_15 : Cond.instantiable RX9 9 ∈ jB := jB_1 15 rfl rfl
set_option maxRecDepth 20000 in
theorem m1_16 : Cond.methodLink RL 9 yX9_init ∈ jB := jB_1 16 rfl rfl
set_option maxRecDepth 20000 in
theorem m1_17 : Cond.instanceMethod yX9_init ∈ jB := jB_1 17 rfl rfl
set_option maxRecDepth 20000 in
theorem m1_18 : Cond.code yX9_init cX9_init 1 none ∈ jB := jB_1 18 rfl rfl
set_option maxRecDepth 20000 in
theorem m1_19 : Cond.methodLink RX9 1 objectInit ∈ jB := jB_1 19 rfl rfl
set_option maxRecDepth 20000 in
theorem m1_20 : Cond.instanceMethod objectInit ∈ jB := jB_1 20 rfl rfl
set_option maxRecDepth 20000 in
theorem m1_21 : Cond.code objectInit object_method_1_code 1 none ∈ jB := jB_1 21 rfl rfl
set_option maxRecDepth 20000 in
theorem m1_22 : Cond.classLink RX9 7 RX8 ∈ jB := jB_1 22 rfl rfl
set_option maxRecDepth 20000 in
theorem m1_23 : Cond.instantiable RX8 3 ∈ jB := jB_1 23 rfl rfl
set_option maxRecDepth 20000 in
theorem m1_25 : Cond.instanceMethod yX8_init ∈ jB := jB_1 25 rfl rfl
set_option maxRecDepth 20000 in
theorem m1_26 : Cond.code yX8_init cX8_init 1 none ∈ jB := jB_1 26 rfl rfl
set_option maxRecDepth 20000 in
theorem m1_27 : Cond.methodLink RX8 3 objectInit ∈ jB := jB_1 27 rfl rfl
set_option maxRecDepth 20000 in
theorem m1_28 : Cond.fieldLink RX8 11 RX8 "letters" "[C" ∈ jB := jB_1 28 rfl rfl
set_option maxRecDepth 20000 in
theorem m1_29 : Cond.fieldLink RX8 15 RX8 "length" "I" ∈ jB := jB_1 29 rfl rfl
set_option maxRecDepth 20000 in
theorem m1_31 : Cond.fieldLink RX8 24 RX8 "next" "I" ∈ jB := jB_1 31 rfl rfl
set_option maxRecDepth 20000 in
theorem m1_32 : Cond.laysFinal RX8 RX8 "letters" "[C" ∈ jB := jB_1 32 rfl rfl
set_option maxRecDepth 20000 in
theorem m1_34 : Cond.lays RX8 RX8 "length" "I" ∈ jB := jB_1 34 rfl rfl
set_option maxRecDepth 20000 in
theorem m1_36 : Cond.lays RX8 RX8 "next" "I" ∈ jB := jB_1 36 rfl rfl
set_option maxRecDepth 20000 in
theorem m1_38 : Cond.superclass RX8 "java/lang/Object" ∈ jB := jB_1 38 rfl rfl
set_option maxRecDepth 20000 in
theorem m1_39 : Cond.arrayClass .char ∈ jB := jB_1 39 rfl rfl
set_option maxRecDepth 20000 in
theorem m1_40 : Cond.classLink RX9 16 RX5 ∈ jB := jB_1 40 rfl rfl
set_option maxRecDepth 20000 in
theorem m1_41 : Cond.instantiable RX5 5 ∈ jB := jB_1 41 rfl rfl
set_option maxRecDepth 20000 in
theorem m1_43 : Cond.instanceMethod yX5_init ∈ jB := jB_1 43 rfl rfl
set_option maxRecDepth 20000 in
theorem m1_44 : Cond.code yX5_init cX5_init 1 none ∈ jB := jB_1 44 rfl rfl
set_option maxRecDepth 20000 in
theorem m1_45 : Cond.methodLink RX5 1 objectInit ∈ jB := jB_1 45 rfl rfl
set_option maxRecDepth 20000 in
theorem m1_48 : Cond.fieldLink RX5 30 RX5 "cards" "I" ∈ jB := jB_1 48 rfl rfl
set_option maxRecDepth 20000 in
theorem m1_49 : Cond.fieldLink RX5 34 RX5 "colours" "I" ∈ jB := jB_1 49 rfl rfl
set_option maxRecDepth 20000 in
theorem m1_50 : Cond.fieldLink RX5 37 RX5 "acts" "I" ∈ jB := jB_1 50 rfl rfl
set_option maxRecDepth 20000 in
theorem m1_52 : Cond.fieldLink RX5 40 RX5 "deal" "J" ∈ jB := jB_1 52 rfl rfl
set_option maxRecDepth 20000 in
theorem m1_54 : Cond.fieldLink RX5 7 RX5 "cardsAreFixed" "Z" ∈ jB := jB_1 54 rfl rfl
set_option maxRecDepth 20000 in
theorem m1_55 : Cond.lays RX5 RX5 "cards" "I" ∈ jB := jB_1 55 rfl rfl
set_option maxRecDepth 20000 in
theorem m1_57 : Cond.lays RX5 RX5 "colours" "I" ∈ jB := jB_1 57 rfl rfl
set_option maxRecDepth 20000 in
theorem m1_59 : Cond.lays RX5 RX5 "acts" "I" ∈ jB := jB_1 59 rfl rfl
set_option maxRecDepth 20000 in
theorem m1_61 : Cond.lays RX5 RX5 "deal" "J" ∈ jB := jB_1 61 rfl rfl
set_option maxRecDepth 20000 in
theorem m1_63 : Cond.lays RX5 RX5 "cardsAreFixed" "Z" ∈ jB := jB_1 63 rfl rfl
set_option maxRecDepth 20000 in
theorem m1_65 : Cond.superclass RX5 "java/lang/Object" ∈ jB := jB_1 65 rfl rfl
set_option maxRecDepth 20000 in
theorem m1_66 : Cond.classLink RX9 26 RX6 ∈ jB := jB_1 66 rfl rfl
set_option maxRecDepth 20000 in
theorem m1_67 : Cond.instantiable RX6 2 ∈ jB := jB_1 67 rfl rfl
set_option maxRecDepth 20000 in
theorem m1_68 : Cond.methodLink RX9 28 yX6_init ∈ jB := jB_1 68 rfl rfl
set_option maxRecDepth 20000 in
theorem m1_69 : Cond.instanceMethod yX6_init ∈ jB := jB_1 69 rfl rfl
set_option maxRecDepth 20000 in
theorem m1_70 : Cond.code yX6_init cX6_init 2 none ∈ jB := jB_1 70 rfl rfl
set_option maxRecDepth 20000 in
theorem m1_71 : Cond.methodLink RX6 1 objectInit ∈ jB := jB_1 71 rfl rfl
set_option maxRecDepth 20000 in
theorem m1_72 : Cond.methodLink RX6 7 Lib.Math.max.name ∈ jB := jB_1 72 rfl rfl
set_option maxRecDepth 20000 in
theorem m1_73 : Cond.static Lib.Math.max.name ∈ jB := jB_1 73 rfl rfl
set_option maxRecDepth 20000 in
theorem m1_74 : Cond.code Lib.Math.max.name cJ9_max_7cf53 2 (some .int) ∈ jB := jB_1 74 rfl rfl
set_option maxRecDepth 20000 in
theorem m1_75 : Cond.fieldLink RX6 13 RX6 "stored" "[J" ∈ jB := jB_1 75 rfl rfl
set_option maxRecDepth 20000 in
theorem m1_76 : Cond.fieldLink RX6 19 RX6 "held" "I" ∈ jB := jB_1 76 rfl rfl
set_option maxRecDepth 20000 in
theorem m1_78 : Cond.laysFinal RX6 RX6 "stored" "[J" ∈ jB := jB_1 78 rfl rfl
set_option maxRecDepth 20000 in
theorem m1_80 : Cond.lays RX6 RX6 "held" "I" ∈ jB := jB_1 80 rfl rfl
set_option maxRecDepth 20000 in
theorem m1_82 : Cond.superclass RX6 "java/lang/Object" ∈ jB := jB_1 82 rfl rfl
set_option maxRecDepth 20000 in
theorem m1_83 : Cond.arrayClass .long ∈ jB := jB_1 83 rfl rfl
set_option maxRecDepth 20000 in
theorem m1_84 : Cond.classLink RX9 38 RX7 ∈ jB := jB_1 84 rfl rfl
set_option maxRecDepth 20000 in
theorem m1_85 : Cond.instantiable RX7 3 ∈ jB := jB_1 85 rfl rfl
set_option maxRecDepth 20000 in
theorem m1_87 : Cond.instanceMethod yX7_init ∈ jB := jB_1 87 rfl rfl
set_option maxRecDepth 20000 in
theorem m1_88 : Cond.code yX7_init cX7_init 1 none ∈ jB := jB_1 88 rfl rfl
set_option maxRecDepth 20000 in
theorem m1_89 : Cond.methodLink RX7 1 objectInit ∈ jB := jB_1 89 rfl rfl
set_option maxRecDepth 20000 in
theorem m1_90 : Cond.fieldLink RX7 9 RX7 "cards" "[I" ∈ jB := jB_1 90 rfl rfl
set_option maxRecDepth 20000 in
theorem m1_91 : Cond.fieldLink RX7 13 RX7 "places" "[I" ∈ jB := jB_1 91 rfl rfl
set_option maxRecDepth 20000 in
theorem m1_92 : Cond.fieldLink RX7 16 RX7 "held" "I" ∈ jB := jB_1 92 rfl rfl
set_option maxRecDepth 20000 in
theorem m1_94 : Cond.laysFinal RX7 RX7 "cards" "[I" ∈ jB := jB_1 94 rfl rfl
set_option maxRecDepth 20000 in
theorem m1_96 : Cond.laysFinal RX7 RX7 "places" "[I" ∈ jB := jB_1 96 rfl rfl
set_option maxRecDepth 20000 in
theorem m1_98 : Cond.lays RX7 RX7 "held" "I" ∈ jB := jB_1 98 rfl rfl
set_option maxRecDepth 20000 in
theorem m1_100 : Cond.superclass RX7 "java/lang/Object" ∈ jB := jB_1 100 rfl rfl
set_option maxRecDepth 20000 in
theorem m1_101 : Cond.arrayClass .int ∈ jB := jB_1 101 rfl rfl
set_option maxRecDepth 20000 in
theorem m1_102 : Cond.classLink RX9 45 RX0 ∈ jB := jB_1 102 rfl rfl
set_option maxRecDepth 20000 in
theorem m1_103 : Cond.instantiable RX0 3 ∈ jB := jB_1 103 rfl rfl
set_option maxRecDepth 20000 in
theorem m1_105 : Cond.instanceMethod yX0_init ∈ jB := jB_1 105 rfl rfl
set_option maxRecDepth 20000 in
theorem m1_106 : Cond.code yX0_init cX0_init 1 none ∈ jB := jB_1 106 rfl rfl
set_option maxRecDepth 20000 in
theorem m1_107 : Cond.methodLink RX0 3 objectInit ∈ jB := jB_1 107 rfl rfl
set_option maxRecDepth 20000 in
theorem m1_108 : Cond.fieldLink RX0 11 RX0 "stepsFrom" "[I" ∈ jB := jB_1 108 rfl rfl
set_option maxRecDepth 20000 in
theorem m1_109 : Cond.fieldLink RX0 17 RX0 "pairTree" "[I" ∈ jB := jB_1 109 rfl rfl
set_option maxRecDepth 20000 in
theorem m1_110 : Cond.fieldLink RX0 20 RX0 "found" "[J" ∈ jB := jB_1 110 rfl rfl
set_option maxRecDepth 20000 in
theorem m1_111 : Cond.laysFinal RX0 RX0 "stepsFrom" "[I" ∈ jB := jB_1 111 rfl rfl
set_option maxRecDepth 20000 in
theorem m1_113 : Cond.laysFinal RX0 RX0 "pairTree" "[I" ∈ jB := jB_1 113 rfl rfl
set_option maxRecDepth 20000 in
theorem m1_115 : Cond.laysFinal RX0 RX0 "found" "[J" ∈ jB := jB_1 115 rfl rfl
set_option maxRecDepth 20000 in
theorem m1_117 : Cond.superclass RX0 "java/lang/Object" ∈ jB := jB_1 117 rfl rfl
set_option maxRecDepth 20000 in
theorem m1_118 : Cond.classLink RX9 52 RX2 ∈ jB := jB_1 118 rfl rfl
set_option maxRecDepth 20000 in
theorem m1_119 : Cond.instantiable RX2 1 ∈ jB := jB_1 119 rfl rfl
set_option maxRecDepth 20000 in
theorem m1_121 : Cond.instanceMethod yX2_init ∈ jB := jB_1 121 rfl rfl
set_option maxRecDepth 20000 in
theorem m1_122 : Cond.code yX2_init cX2_init 1 none ∈ jB := jB_1 122 rfl rfl
set_option maxRecDepth 20000 in
theorem m1_123 : Cond.methodLink RX2 3 objectInit ∈ jB := jB_1 123 rfl rfl
set_option maxRecDepth 20000 in
theorem m1_124 : Cond.fieldLink RX2 11 RX2 "ways" "[I" ∈ jB := jB_1 124 rfl rfl
set_option maxRecDepth 20000 in
theorem m1_125 : Cond.laysFinal RX2 RX2 "ways" "[I" ∈ jB := jB_1 125 rfl rfl
set_option maxRecDepth 20000 in
theorem m1_127 : Cond.superclass RX2 "java/lang/Object" ∈ jB := jB_1 127 rfl rfl
set_option maxRecDepth 20000 in
theorem m1_128 : Cond.methodLink RX9 59 yX5_tellFirst ∈ jB := jB_1 128 rfl rfl
set_option maxRecDepth 20000 in
theorem m1_129 : Cond.instanceMethod yX5_tellFirst ∈ jB := jB_1 129 rfl rfl
set_option maxRecDepth 20000 in
theorem m1_130 : Cond.selects RX5 yX5_tellFirst yX5_tellFirst ∈ jB := jB_1 130 rfl rfl
set_option maxRecDepth 20000 in
theorem m1_131 : Cond.code yX5_tellFirst cX5_tellFirst 1 none ∈ jB := jB_1 131 rfl rfl
set_option maxRecDepth 20000 in
theorem m1_132 : Cond.methodLink RX5 13 yX5_begin ∈ jB := jB_1 132 rfl rfl
set_option maxRecDepth 20000 in
theorem m1_134 : Cond.instanceMethod yX5_begin ∈ jB := jB_1 134 rfl rfl
set_option maxRecDepth 20000 in
theorem m1_135 : Cond.code yX5_begin cX5_begin 2 none ∈ jB := jB_1 135 rfl rfl
set_option maxRecDepth 20000 in
theorem m1_136 : Cond.constant RX5 70 1145324612 ∈ jB := jB_1 136 rfl rfl
set_option maxRecDepth 20000 in
theorem m1_137 : Cond.methodLink RX5 71 yX4_inOrder ∈ jB := jB_1 137 rfl rfl
set_option maxRecDepth 20000 in
theorem m1_138 : Cond.static yX4_inOrder ∈ jB := jB_1 138 rfl rfl
set_option maxRecDepth 20000 in
theorem m1_139 : Cond.code yX4_inOrder cX4_inOrder 4 (some .long) ∈ jB := jB_1 139 rfl rfl
set_option maxRecDepth 20000 in
theorem m1_140 : Cond.methodLink RX4 7 yX4_with ∈ jB := jB_1 140 rfl rfl
set_option maxRecDepth 20000 in
theorem m1_141 : Cond.static yX4_with ∈ jB := jB_1 141 rfl rfl
set_option maxRecDepth 20000 in
theorem m1_142 : Cond.code yX4_with cX4_with 4 (some .long) ∈ jB := jB_1 142 rfl rfl
set_option maxRecDepth 20000 in
theorem m1_143 : Cond.methodLink RX5 17 yX5_tellColour ∈ jB := jB_1 143 rfl rfl
set_option maxRecDepth 20000 in
theorem m1_144 : Cond.instanceMethod yX5_tellColour ∈ jB := jB_1 144 rfl rfl
set_option maxRecDepth 20000 in
theorem m1_145 : Cond.selects RX5 yX5_tellColour yX5_tellColour ∈ jB := jB_1 145 rfl rfl
set_option maxRecDepth 20000 in
theorem m1_146 : Cond.code yX5_tellColour cX5_tellColour 3 (some .boolean) ∈ jB := jB_1 146 rfl rfl
set_option maxRecDepth 20000 in
theorem m1_148 : Cond.static yX9_within ∈ jB := jB_1 148 rfl rfl
set_option maxRecDepth 20000 in
theorem m1_149 : Cond.code yX9_within cX9_within 3 (some .boolean) ∈ jB := jB_1 149 rfl rfl
set_option maxRecDepth 20000 in
theorem m1_150 : Cond.methodLink RX5 23 yX5_tellLacing ∈ jB := jB_1 150 rfl rfl
set_option maxRecDepth 20000 in
theorem m1_151 : Cond.instanceMethod yX5_tellLacing ∈ jB := jB_1 151 rfl rfl
set_option maxRecDepth 20000 in
theorem m1_152 : Cond.selects RX5 yX5_tellLacing yX5_tellLacing ∈ jB := jB_1 152 rfl rfl
set_option maxRecDepth 20000 in
theorem m1_153 : Cond.code yX5_tellLacing cX5_tellLacing 2 (some .boolean) ∈ jB := jB_1 153 rfl rfl
set_option maxRecDepth 20000 in
theorem m1_155 : Cond.static yX9_isKind ∈ jB := jB_1 155 rfl rfl
set_option maxRecDepth 20000 in
theorem m1_156 : Cond.code yX9_isKind cX9_isKind 1 (some .boolean) ∈ jB := jB_1 156 rfl rfl
set_option maxRecDepth 20000 in
theorem m1_157 : Cond.methodLink RX9 76 yX9_within ∈ jB := jB_1 157 rfl rfl
set_option maxRecDepth 20000 in
theorem m1_158 : Cond.methodLink RX5 55 yX3_lacing ∈ jB := jB_1 158 rfl rfl
set_option maxRecDepth 20000 in
theorem m1_159 : Cond.static yX3_lacing ∈ jB := jB_1 159 rfl rfl
set_option maxRecDepth 20000 in
theorem m1_160 : Cond.code yX3_lacing cX3_lacing 5 (some .long) ∈ jB := jB_1 160 rfl rfl
set_option maxRecDepth 20000 in
theorem m1_161 : Cond.methodLink RX3 9 yX3_downAndUnder ∈ jB := jB_1 161 rfl rfl
set_option maxRecDepth 20000 in
theorem m1_162 : Cond.static yX3_downAndUnder ∈ jB := jB_1 162 rfl rfl
set_option maxRecDepth 20000 in
theorem m1_163 : Cond.code yX3_downAndUnder cX3_downAndUnder 7 (some .long) ∈ jB := jB_1 163 rfl rfl
set_option maxRecDepth 20000 in
theorem m1_164 : Cond.methodLink RX3 23 yX4_inOrder ∈ jB := jB_1 164 rfl rfl
set_option maxRecDepth 20000 in
theorem m1_165 : Cond.methodLink RX3 26 yX4_cardAt ∈ jB := jB_1 165 rfl rfl
set_option maxRecDepth 20000 in
theorem m1_166 : Cond.static yX4_cardAt ∈ jB := jB_1 166 rfl rfl
set_option maxRecDepth 20000 in
theorem m1_167 : Cond.code yX4_cardAt cX4_cardAt 3 (some .int) ∈ jB := jB_1 167 rfl rfl
set_option maxRecDepth 20000 in
theorem m1_168 : Cond.methodLink RX3 17 yX4_with ∈ jB := jB_1 168 rfl rfl
set_option maxRecDepth 20000 in
theorem m1_169 : Cond.methodLink RX3 13 yX3_source ∈ jB := jB_1 169 rfl rfl
set_option maxRecDepth 20000 in
theorem m1_170 : Cond.static yX3_source ∈ jB := jB_1 170 rfl rfl
set_option maxRecDepth 20000 in
theorem m1_171 : Cond.code yX3_source cX3_source 5 (some .int) ∈ jB := jB_1 171 rfl rfl
set_option maxRecDepth 20000 in
theorem m1_172 : Cond.methodLink RX5 59 yX5_addAct ∈ jB := jB_1 172 rfl rfl
set_option maxRecDepth 20000 in
theorem m1_174 : Cond.instanceMethod yX5_addAct ∈ jB := jB_1 174 rfl rfl
set_option maxRecDepth 20000 in
theorem m1_175 : Cond.code yX5_addAct cX5_addAct 3 (some .boolean) ∈ jB := jB_1 175 rfl rfl
set_option maxRecDepth 20000 in
theorem m1_176 : Cond.methodLink RX5 75 yX4_moved ∈ jB := jB_1 176 rfl rfl
set_option maxRecDepth 20000 in
theorem m1_177 : Cond.static yX4_moved ∈ jB := jB_1 177 rfl rfl
set_option maxRecDepth 20000 in
theorem m1_178 : Cond.code yX4_moved cX4_moved 8 (some .long) ∈ jB := jB_1 178 rfl rfl
set_option maxRecDepth 20000 in
theorem m1_179 : Cond.methodLink RX4 13 yX4_cardAt ∈ jB := jB_1 179 rfl rfl
set_option maxRecDepth 20000 in
theorem m1_180 : Cond.methodLink RX5 27 yX5_tellCut ∈ jB := jB_1 180 rfl rfl
set_option maxRecDepth 20000 in
theorem m1_181 : Cond.instanceMethod yX5_tellCut ∈ jB := jB_1 181 rfl rfl
set_option maxRecDepth 20000 in
theorem m1_182 : Cond.selects RX5 yX5_tellCut yX5_tellCut ∈ jB := jB_1 182 rfl rfl
set_option maxRecDepth 20000 in
theorem m1_183 : Cond.code yX5_tellCut cX5_tellCut 2 (some .boolean) ∈ jB := jB_1 183 rfl rfl
set_option maxRecDepth 20000 in
theorem m1_184 : Cond.methodLink RX5 63 yX3_cutAt ∈ jB := jB_1 184 rfl rfl
set_option maxRecDepth 20000 in
theorem m1_185 : Cond.static yX3_cutAt ∈ jB := jB_1 185 rfl rfl
set_option maxRecDepth 20000 in
theorem m1_186 : Cond.code yX3_cutAt cX3_cutAt 6 (some .long) ∈ jB := jB_1 186 rfl rfl
set_option maxRecDepth 20000 in
theorem m1_187 : Cond.methodLink RX9 66 yX4_inOrder ∈ jB := jB_1 187 rfl rfl
set_option maxRecDepth 20000 in
theorem m1_188 : Cond.fieldLink RX9 10 RX9 "text" "LLacedPack$Text;" ∈ jB := jB_1 188 rfl rfl
set_option maxRecDepth 20000 in
theorem m1_189 : Cond.fieldLink RX9 19 RX9 "draft" "LLacedPack$Plan;" ∈ jB := jB_1 189 rfl rfl
set_option maxRecDepth 20000 in
theorem m1_190 : Cond.fieldLink RX9 23 RX9 "laid" "LLacedPack$Plan;" ∈ jB := jB_1 190 rfl rfl
set_option maxRecDepth 20000 in
theorem m1_191 : Cond.fieldLink RX9 31 RX9 "past" "LLacedPack$Shelf;" ∈ jB := jB_1 191 rfl rfl
set_option maxRecDepth 20000 in
theorem m1_192 : Cond.fieldLink RX9 35 RX9 "kept" "LLacedPack$Shelf;" ∈ jB := jB_1 192 rfl rfl
set_option maxRecDepth 20000 in
theorem m1_193 : Cond.fieldLink RX9 41 RX9 "sightings" "LLacedPack$Sightings;" ∈ jB := jB_1 193 rfl rfl
set_option maxRecDepth 20000 in
theorem m1_194 : Cond.fieldLink RX9 48 RX9 "finder" "LLacedPack$Finder;" ∈ jB := jB_1 194 rfl rfl
set_option maxRecDepth 20000 in
theorem m1_195 : Cond.fieldLink RX9 55 RX9 "mix" "LLacedPack$Mix;" ∈ jB := jB_1 195 rfl rfl
set_option maxRecDepth 20000 in
theorem m1_196 : Cond.fieldLink RX9 72 RX9 "order" "J" ∈ jB := jB_1 196 rfl rfl
set_option maxRecDepth 20000 in
theorem m1_197 : Cond.laysFinal RX9 RX9 "text" "LLacedPack$Text;" ∈ jB := jB_1 197 rfl rfl
set_option maxRecDepth 20000 in
theorem m1_199 : Cond.laysFinal RX9 RX9 "draft" "LLacedPack$Plan;" ∈ jB := jB_1 199 rfl rfl
set_option maxRecDepth 20000 in
theorem m1_201 : Cond.laysFinal RX9 RX9 "laid" "LLacedPack$Plan;" ∈ jB := jB_1 201 rfl rfl
set_option maxRecDepth 20000 in
theorem m1_203 : Cond.laysFinal RX9 RX9 "past" "LLacedPack$Shelf;" ∈ jB := jB_1 203 rfl rfl
set_option maxRecDepth 20000 in
theorem m1_205 : Cond.laysFinal RX9 RX9 "kept" "LLacedPack$Shelf;" ∈ jB := jB_1 205 rfl rfl
set_option maxRecDepth 20000 in
theorem m1_207 : Cond.laysFinal RX9 RX9 "sightings" "LLacedPack$Sightings;" ∈ jB := jB_1 207 rfl rfl
set_option maxRecDepth 20000 in
theorem m1_209 : Cond.laysFinal RX9 RX9 "finder" "LLacedPack$Finder;" ∈ jB := jB_1 209 rfl rfl
set_option maxRecDepth 20000 in
theorem m1_211 : Cond.laysFinal RX9 RX9 "mix" "LLacedPack$Mix;" ∈ jB := jB_1 211 rfl rfl
set_option maxRecDepth 20000 in
theorem m1_213 : Cond.lays RX9 RX9 "order" "J" ∈ jB := jB_1 213 rfl rfl
set_option maxRecDepth 20000 in
theorem m1_215 : Cond.superclass RX9 "java/lang/Object" ∈ jB := jB_1 215 rfl rfl
set_option maxRecDepth 20000 in
theorem m1_216 : Cond.methodLink RL 13 yX9_write ∈ jB := jB_1 216 rfl rfl
set_option maxRecDepth 20000 in
theorem m1_217 : Cond.instanceMethod yX9_write ∈ jB := jB_1 217 rfl rfl
set_option maxRecDepth 20000 in
theorem m1_218 : Cond.selects RX9 yX9_write yX9_write ∈ jB := jB_1 218 rfl rfl
set_option maxRecDepth 20000 in
theorem m1_219 : Cond.code yX9_write cX9_write 2 (some .int) ∈ jB := jB_1 219 rfl rfl
set_option maxRecDepth 20000 in
theorem m1_220 : Cond.methodLink RX9 80 yX8_append ∈ jB := jB_1 220 rfl rfl
set_option maxRecDepth 20000 in
theorem m1_221 : Cond.instanceMethod yX8_append ∈ jB := jB_1 221 rfl rfl
set_option maxRecDepth 20000 in
theorem m1_222 : Cond.selects RX8 yX8_append yX8_append ∈ jB := jB_1 222 rfl rfl
set_option maxRecDepth 20000 in
theorem m1_223 : Cond.code yX8_append cX8_append 2 (some .boolean) ∈ jB := jB_1 223 rfl rfl
set_option maxRecDepth 20000 in
theorem m1_224 : Cond.methodLink RL 18 yX9_wipe ∈ jB := jB_1 224 rfl rfl
set_option maxRecDepth 20000 in
theorem m1_225 : Cond.instanceMethod yX9_wipe ∈ jB := jB_1 225 rfl rfl
set_option maxRecDepth 20000 in
theorem m1_226 : Cond.selects RX9 yX9_wipe yX9_wipe ∈ jB := jB_1 226 rfl rfl
set_option maxRecDepth 20000 in
theorem m1_227 : Cond.code yX9_wipe cX9_wipe 2 (some .int) ∈ jB := jB_1 227 rfl rfl
set_option maxRecDepth 20000 in
theorem m1_228 : Cond.methodLink RL 23 yX9_fault ∈ jB := jB_1 228 rfl rfl
set_option maxRecDepth 20000 in
theorem m1_229 : Cond.instanceMethod yX9_fault ∈ jB := jB_1 229 rfl rfl
set_option maxRecDepth 20000 in
theorem m1_230 : Cond.selects RX9 yX9_fault yX9_fault ∈ jB := jB_1 230 rfl rfl
set_option maxRecDepth 20000 in
theorem m1_231 : Cond.code yX9_fault cX9_fault 1 (some .int) ∈ jB := jB_1 231 rfl rfl
set_option maxRecDepth 20000 in
theorem m1_232 : Cond.methodLink RX9 87 yX8_firstFault ∈ jB := jB_1 232 rfl rfl
set_option maxRecDepth 20000 in
theorem m1_233 : Cond.instanceMethod yX8_firstFault ∈ jB := jB_1 233 rfl rfl
set_option maxRecDepth 20000 in
theorem m1_234 : Cond.selects RX8 yX8_firstFault yX8_firstFault ∈ jB := jB_1 234 rfl rfl
set_option maxRecDepth 20000 in
theorem m1_235 : Cond.code yX8_firstFault cX8_firstFault 4 (some .int) ∈ jB := jB_1 235 rfl rfl
set_option maxRecDepth 20000 in
theorem m1_236 : Cond.methodLink RX8 19 yX5_tellNothing ∈ jB := jB_1 236 rfl rfl
set_option maxRecDepth 20000 in
theorem m1_237 : Cond.instanceMethod yX5_tellNothing ∈ jB := jB_1 237 rfl rfl
set_option maxRecDepth 20000 in
theorem m1_238 : Cond.selects RX5 yX5_tellNothing yX5_tellNothing ∈ jB := jB_1 238 rfl rfl
set_option maxRecDepth 20000 in
theorem m1_239 : Cond.code yX5_tellNothing cX5_tellNothing 1 none ∈ jB := jB_1 239 rfl rfl
set_option maxRecDepth 20000 in
theorem m2_0 : Cond.methodLink RX8 27 yX8_readItem ∈ jB := jB_2 0 rfl rfl
set_option maxRecDepth 20000 in
theorem m2_2 : Cond.instanceMethod yX8_readItem ∈ jB := jB_2 2 rfl rfl
set_option maxRecDepth 20000 in
theorem m2_3 : Cond.code yX8_readItem cX8_readItem 5 (some .boolean) ∈ jB := jB_2 3 rfl rfl
set_option maxRecDepth 20000 in
theorem m2_4 : Cond.methodLink RX8 31 yX8_nextLetter ∈ jB := jB_2 4 rfl rfl
set_option maxRecDepth 20000 in
theorem m2_6 : Cond.instanceMethod yX8_nextLetter ∈ jB := jB_2 6 rfl rfl
set_option maxRecDepth 20000 in
theorem m2_7 : Cond.code yX8_nextLetter cX8_nextLetter 2 (some .int) ∈ jB := jB_2 7 rfl rfl
set_option maxRecDepth 20000 in
theorem m2_8 : Cond.methodLink RX8 35 yX8_readNumber ∈ jB := jB_2 8 rfl rfl
set_option maxRecDepth 20000 in
theorem m2_10 : Cond.instanceMethod yX8_readNumber ∈ jB := jB_2 10 rfl rfl
set_option maxRecDepth 20000 in
theorem m2_11 : Cond.code yX8_readNumber cX8_readNumber 4 (some .int) ∈ jB := jB_2 11 rfl rfl
set_option maxRecDepth 20000 in
theorem m2_12 : Cond.methodLink RX8 53 yX8_figureOf ∈ jB := jB_2 12 rfl rfl
set_option maxRecDepth 20000 in
theorem m2_13 : Cond.static yX8_figureOf ∈ jB := jB_2 13 rfl rfl
set_option maxRecDepth 20000 in
theorem m2_14 : Cond.code yX8_figureOf cX8_figureOf 1 (some .int) ∈ jB := jB_2 14 rfl rfl
set_option maxRecDepth 20000 in
theorem m2_15 : Cond.methodLink RX8 39 yX5_tellColour ∈ jB := jB_2 15 rfl rfl
set_option maxRecDepth 20000 in
theorem m2_16 : Cond.methodLink RX8 43 yX5_tellCards ∈ jB := jB_2 16 rfl rfl
set_option maxRecDepth 20000 in
theorem m2_17 : Cond.instanceMethod yX5_tellCards ∈ jB := jB_2 17 rfl rfl
set_option maxRecDepth 20000 in
theorem m2_18 : Cond.selects RX5 yX5_tellCards yX5_tellCards ∈ jB := jB_2 18 rfl rfl
set_option maxRecDepth 20000 in
theorem m2_19 : Cond.code yX5_tellCards cX5_tellCards 2 (some .boolean) ∈ jB := jB_2 19 rfl rfl
set_option maxRecDepth 20000 in
theorem m2_20 : Cond.methodLink RX8 47 yX5_tellLacing ∈ jB := jB_2 20 rfl rfl
set_option maxRecDepth 20000 in
theorem m2_21 : Cond.methodLink RX8 50 yX5_tellCut ∈ jB := jB_2 21 rfl rfl
set_option maxRecDepth 20000 in
theorem m2_22 : Cond.methodLink RL 27 yX9_lay ∈ jB := jB_2 22 rfl rfl
set_option maxRecDepth 20000 in
theorem m2_23 : Cond.instanceMethod yX9_lay ∈ jB := jB_2 23 rfl rfl
set_option maxRecDepth 20000 in
theorem m2_24 : Cond.selects RX9 yX9_lay yX9_lay ∈ jB := jB_2 24 rfl rfl
set_option maxRecDepth 20000 in
theorem m2_25 : Cond.code yX9_lay cX9_lay 1 (some .int) ∈ jB := jB_2 25 rfl rfl
set_option maxRecDepth 20000 in
theorem m2_26 : Cond.methodLink RX9 91 yX5_become ∈ jB := jB_2 26 rfl rfl
set_option maxRecDepth 20000 in
theorem m2_27 : Cond.instanceMethod yX5_become ∈ jB := jB_2 27 rfl rfl
set_option maxRecDepth 20000 in
theorem m2_28 : Cond.selects RX5 yX5_become yX5_become ∈ jB := jB_2 28 rfl rfl
set_option maxRecDepth 20000 in
theorem m2_29 : Cond.code yX5_become cX5_become 2 none ∈ jB := jB_2 29 rfl rfl
set_option maxRecDepth 20000 in
theorem m2_30 : Cond.methodLink RL 31 yX9_at ∈ jB := jB_2 30 rfl rfl
set_option maxRecDepth 20000 in
theorem m2_31 : Cond.instanceMethod yX9_at ∈ jB := jB_2 31 rfl rfl
set_option maxRecDepth 20000 in
theorem m2_32 : Cond.selects RX9 yX9_at yX9_at ∈ jB := jB_2 32 rfl rfl
set_option maxRecDepth 20000 in
theorem m2_33 : Cond.code yX9_at cX9_at 2 (some .int) ∈ jB := jB_2 33 rfl rfl
set_option maxRecDepth 20000 in
theorem m2_34 : Cond.methodLink RX9 99 yX9_isPlace ∈ jB := jB_2 34 rfl rfl
set_option maxRecDepth 20000 in
theorem m2_36 : Cond.instanceMethod yX9_isPlace ∈ jB := jB_2 36 rfl rfl
set_option maxRecDepth 20000 in
theorem m2_37 : Cond.code yX9_isPlace cX9_isPlace 2 (some .boolean) ∈ jB := jB_2 37 rfl rfl
set_option maxRecDepth 20000 in
theorem m2_38 : Cond.methodLink RX9 102 yX4_cardAt ∈ jB := jB_2 38 rfl rfl
set_option maxRecDepth 20000 in
theorem m2_39 : Cond.methodLink RL 35 yX9_where ∈ jB := jB_2 39 rfl rfl
set_option maxRecDepth 20000 in
theorem m2_40 : Cond.instanceMethod yX9_where ∈ jB := jB_2 40 rfl rfl
set_option maxRecDepth 20000 in
theorem m2_41 : Cond.selects RX9 yX9_where yX9_where ∈ jB := jB_2 41 rfl rfl
set_option maxRecDepth 20000 in
theorem m2_42 : Cond.code yX9_where cX9_where 2 (some .int) ∈ jB := jB_2 42 rfl rfl
set_option maxRecDepth 20000 in
theorem m2_43 : Cond.methodLink RX9 106 yX9_isCard ∈ jB := jB_2 43 rfl rfl
set_option maxRecDepth 20000 in
theorem m2_45 : Cond.instanceMethod yX9_isCard ∈ jB := jB_2 45 rfl rfl
set_option maxRecDepth 20000 in
theorem m2_46 : Cond.code yX9_isCard cX9_isCard 2 (some .boolean) ∈ jB := jB_2 46 rfl rfl
set_option maxRecDepth 20000 in
theorem m2_47 : Cond.methodLink RX9 109 yX4_placeOf ∈ jB := jB_2 47 rfl rfl
set_option maxRecDepth 20000 in
theorem m2_48 : Cond.static yX4_placeOf ∈ jB := jB_2 48 rfl rfl
set_option maxRecDepth 20000 in
theorem m2_49 : Cond.code yX4_placeOf cX4_placeOf 6 (some .int) ∈ jB := jB_2 49 rfl rfl
set_option maxRecDepth 20000 in
theorem m2_50 : Cond.methodLink RL 39 yX9_colour ∈ jB := jB_2 50 rfl rfl
set_option maxRecDepth 20000 in
theorem m2_51 : Cond.instanceMethod yX9_colour ∈ jB := jB_2 51 rfl rfl
set_option maxRecDepth 20000 in
theorem m2_52 : Cond.selects RX9 yX9_colour yX9_colour ∈ jB := jB_2 52 rfl rfl
set_option maxRecDepth 20000 in
theorem m2_53 : Cond.code yX9_colour cX9_colour 2 (some .int) ∈ jB := jB_2 53 rfl rfl
set_option maxRecDepth 20000 in
theorem m2_54 : Cond.methodLink RX9 113 yX5_colourOf ∈ jB := jB_2 54 rfl rfl
set_option maxRecDepth 20000 in
theorem m2_55 : Cond.instanceMethod yX5_colourOf ∈ jB := jB_2 55 rfl rfl
set_option maxRecDepth 20000 in
theorem m2_56 : Cond.selects RX5 yX5_colourOf yX5_colourOf ∈ jB := jB_2 56 rfl rfl
set_option maxRecDepth 20000 in
theorem m2_57 : Cond.code yX5_colourOf cX5_colourOf 2 (some .int) ∈ jB := jB_2 57 rfl rfl
set_option maxRecDepth 20000 in
theorem m2_58 : Cond.methodLink RL 43 yX9_lace ∈ jB := jB_2 58 rfl rfl
set_option maxRecDepth 20000 in
theorem m2_59 : Cond.instanceMethod yX9_lace ∈ jB := jB_2 59 rfl rfl
set_option maxRecDepth 20000 in
theorem m2_60 : Cond.selects RX9 yX9_lace yX9_lace ∈ jB := jB_2 60 rfl rfl
set_option maxRecDepth 20000 in
theorem m2_61 : Cond.code yX9_lace cX9_lace 2 (some .int) ∈ jB := jB_2 61 rfl rfl
set_option maxRecDepth 20000 in
theorem m2_62 : Cond.methodLink RX9 117 yX9_isKind ∈ jB := jB_2 62 rfl rfl
set_option maxRecDepth 20000 in
theorem m2_63 : Cond.methodLink RX9 120 yX3_lacing ∈ jB := jB_2 63 rfl rfl
set_option maxRecDepth 20000 in
theorem m2_64 : Cond.methodLink RX9 126 yX9_act ∈ jB := jB_2 64 rfl rfl
set_option maxRecDepth 20000 in
theorem m2_66 : Cond.instanceMethod yX9_act ∈ jB := jB_2 66 rfl rfl
set_option maxRecDepth 20000 in
theorem m2_67 : Cond.code yX9_act cX9_act 3 (some .int) ∈ jB := jB_2 67 rfl rfl
set_option maxRecDepth 20000 in
theorem m2_68 : Cond.methodLink RX9 226 yX6_put ∈ jB := jB_2 68 rfl rfl
set_option maxRecDepth 20000 in
theorem m2_69 : Cond.instanceMethod yX6_put ∈ jB := jB_2 69 rfl rfl
set_option maxRecDepth 20000 in
theorem m2_70 : Cond.selects RX6 yX6_put yX6_put ∈ jB := jB_2 70 rfl rfl
set_option maxRecDepth 20000 in
theorem m2_71 : Cond.code yX6_put cX6_put 3 none ∈ jB := jB_2 71 rfl rfl
set_option maxRecDepth 20000 in
theorem m2_72 : Cond.methodLink RX6 23 yX6_isFull ∈ jB := jB_2 72 rfl rfl
set_option maxRecDepth 20000 in
theorem m2_73 : Cond.instanceMethod yX6_isFull ∈ jB := jB_2 73 rfl rfl
set_option maxRecDepth 20000 in
theorem m2_74 : Cond.selects RX6 yX6_isFull yX6_isFull ∈ jB := jB_2 74 rfl rfl
set_option maxRecDepth 20000 in
theorem m2_75 : Cond.code yX6_isFull cX6_isFull 1 (some .boolean) ∈ jB := jB_2 75 rfl rfl
set_option maxRecDepth 20000 in
theorem m2_76 : Cond.methodLink RX6 27 arraycopyName ∈ jB := jB_2 76 rfl rfl
set_option maxRecDepth 20000 in
theorem m2_77 : Cond.static arraycopyName ∈ jB := jB_2 77 rfl rfl
set_option maxRecDepth 20000 in
theorem m2_78 : Cond.native arraycopyName ∈ jB := jB_2 78 rfl rfl
set_option maxRecDepth 20000 in
theorem m2_79 : Cond.methodLink RX9 214 yX4_moved ∈ jB := jB_2 79 rfl rfl
set_option maxRecDepth 20000 in
theorem m2_80 : Cond.methodLink RL 47 yX9_cut ∈ jB := jB_2 80 rfl rfl
set_option maxRecDepth 20000 in
theorem m2_81 : Cond.instanceMethod yX9_cut ∈ jB := jB_2 81 rfl rfl
set_option maxRecDepth 20000 in
theorem m2_82 : Cond.selects RX9 yX9_cut yX9_cut ∈ jB := jB_2 82 rfl rfl
set_option maxRecDepth 20000 in
theorem m2_83 : Cond.code yX9_cut cX9_cut 2 (some .int) ∈ jB := jB_2 83 rfl rfl
set_option maxRecDepth 20000 in
theorem m2_84 : Cond.methodLink RX9 130 yX3_cutAt ∈ jB := jB_2 84 rfl rfl
set_option maxRecDepth 20000 in
theorem m2_85 : Cond.methodLink RL 51 yX9_turn ∈ jB := jB_2 85 rfl rfl
set_option maxRecDepth 20000 in
theorem m2_86 : Cond.instanceMethod yX9_turn ∈ jB := jB_2 86 rfl rfl
set_option maxRecDepth 20000 in
theorem m2_87 : Cond.selects RX9 yX9_turn yX9_turn ∈ jB := jB_2 87 rfl rfl
set_option maxRecDepth 20000 in
theorem m2_88 : Cond.code yX9_turn cX9_turn 1 (some .int) ∈ jB := jB_2 88 rfl rfl
set_option maxRecDepth 20000 in
theorem m2_89 : Cond.methodLink RX9 133 yX3_turnedOver ∈ jB := jB_2 89 rfl rfl
set_option maxRecDepth 20000 in
theorem m2_90 : Cond.static yX3_turnedOver ∈ jB := jB_2 90 rfl rfl
set_option maxRecDepth 20000 in
theorem m2_91 : Cond.code yX3_turnedOver cX3_turnedOver 4 (some .long) ∈ jB := jB_2 91 rfl rfl
set_option maxRecDepth 20000 in
theorem m2_92 : Cond.methodLink RL 55 yX9_deal ∈ jB := jB_2 92 rfl rfl
set_option maxRecDepth 20000 in
theorem m2_93 : Cond.instanceMethod yX9_deal ∈ jB := jB_2 93 rfl rfl
set_option maxRecDepth 20000 in
theorem m2_94 : Cond.selects RX9 yX9_deal yX9_deal ∈ jB := jB_2 94 rfl rfl
set_option maxRecDepth 20000 in
theorem m2_95 : Cond.code yX9_deal cX9_deal 1 (some .int) ∈ jB := jB_2 95 rfl rfl
set_option maxRecDepth 20000 in
theorem m2_96 : Cond.methodLink RL 59 yX9_undo ∈ jB := jB_2 96 rfl rfl
set_option maxRecDepth 20000 in
theorem m2_97 : Cond.instanceMethod yX9_undo ∈ jB := jB_2 97 rfl rfl
set_option maxRecDepth 20000 in
theorem m2_98 : Cond.selects RX9 yX9_undo yX9_undo ∈ jB := jB_2 98 rfl rfl
set_option maxRecDepth 20000 in
theorem m2_99 : Cond.code yX9_undo cX9_undo 1 (some .int) ∈ jB := jB_2 99 rfl rfl
set_option maxRecDepth 20000 in
theorem m2_100 : Cond.methodLink RX9 139 yX6_takeLast ∈ jB := jB_2 100 rfl rfl
set_option maxRecDepth 20000 in
theorem m2_101 : Cond.instanceMethod yX6_takeLast ∈ jB := jB_2 101 rfl rfl
set_option maxRecDepth 20000 in
theorem m2_102 : Cond.selects RX6 yX6_takeLast yX6_takeLast ∈ jB := jB_2 102 rfl rfl
set_option maxRecDepth 20000 in
theorem m2_103 : Cond.code yX6_takeLast cX6_takeLast 1 (some .long) ∈ jB := jB_2 103 rfl rfl
set_option maxRecDepth 20000 in
theorem m2_104 : Cond.methodLink RL 63 yX9_again ∈ jB := jB_2 104 rfl rfl
set_option maxRecDepth 20000 in
theorem m2_105 : Cond.instanceMethod yX9_again ∈ jB := jB_2 105 rfl rfl
set_option maxRecDepth 20000 in
theorem m2_106 : Cond.selects RX9 yX9_again yX9_again ∈ jB := jB_2 106 rfl rfl
set_option maxRecDepth 20000 in
theorem m2_107 : Cond.code yX9_again cX9_again 2 (some .int) ∈ jB := jB_2 107 rfl rfl
set_option maxRecDepth 20000 in
theorem m2_108 : Cond.methodLink RX9 143 yX4_timesTillSame ∈ jB := jB_2 108 rfl rfl
set_option maxRecDepth 20000 in
theorem m2_109 : Cond.static yX4_timesTillSame ∈ jB := jB_2 109 rfl rfl
set_option maxRecDepth 20000 in
theorem m2_110 : Cond.code yX4_timesTillSame cX4_timesTillSame 7 (some .int) ∈ jB := jB_2 110 rfl rfl
set_option maxRecDepth 20000 in
theorem m2_111 : Cond.methodLink RX4 21 yX4_roundLength ∈ jB := jB_2 111 rfl rfl
set_option maxRecDepth 20000 in
theorem m2_112 : Cond.static yX4_roundLength ∈ jB := jB_2 112 rfl rfl
set_option maxRecDepth 20000 in
theorem m2_113 : Cond.code yX4_roundLength cX4_roundLength 6 (some .int) ∈ jB := jB_2 113 rfl rfl
set_option maxRecDepth 20000 in
theorem m2_114 : Cond.methodLink RX4 24 yX1_commonDivisor ∈ jB := jB_2 114 rfl rfl
set_option maxRecDepth 20000 in
theorem m2_115 : Cond.static yX1_commonDivisor ∈ jB := jB_2 115 rfl rfl
set_option maxRecDepth 20000 in
theorem m2_116 : Cond.code yX1_commonDivisor cX1_commonDivisor 6 (some .int) ∈ jB := jB_2 116 rfl rfl
set_option maxRecDepth 20000 in
theorem m2_117 : Cond.methodLink RL 67 yX9_round ∈ jB := jB_2 117 rfl rfl
set_option maxRecDepth 20000 in
theorem m2_118 : Cond.instanceMethod yX9_round ∈ jB := jB_2 118 rfl rfl
set_option maxRecDepth 20000 in
theorem m2_119 : Cond.selects RX9 yX9_round yX9_round ∈ jB := jB_2 119 rfl rfl
set_option maxRecDepth 20000 in
theorem m2_120 : Cond.code yX9_round cX9_round 3 (some .int) ∈ jB := jB_2 120 rfl rfl
set_option maxRecDepth 20000 in
theorem m2_121 : Cond.methodLink RX9 146 yX4_roundLength ∈ jB := jB_2 121 rfl rfl
set_option maxRecDepth 20000 in
theorem m2_122 : Cond.methodLink RL 72 yX9_rounds ∈ jB := jB_2 122 rfl rfl
set_option maxRecDepth 20000 in
theorem m2_123 : Cond.instanceMethod yX9_rounds ∈ jB := jB_2 123 rfl rfl
set_option maxRecDepth 20000 in
theorem m2_124 : Cond.selects RX9 yX9_rounds yX9_rounds ∈ jB := jB_2 124 rfl rfl
set_option maxRecDepth 20000 in
theorem m2_125 : Cond.code yX9_rounds cX9_rounds 2 (some .int) ∈ jB := jB_2 125 rfl rfl
set_option maxRecDepth 20000 in
theorem m2_126 : Cond.methodLink RX9 149 yX4_roundCount ∈ jB := jB_2 126 rfl rfl
set_option maxRecDepth 20000 in
theorem m2_127 : Cond.static yX4_roundCount ∈ jB := jB_2 127 rfl rfl
set_option maxRecDepth 20000 in
theorem m2_128 : Cond.code yX4_roundCount cX4_roundCount 6 (some .int) ∈ jB := jB_2 128 rfl rfl
set_option maxRecDepth 20000 in
theorem m2_129 : Cond.methodLink RX4 17 yX4_roundOf ∈ jB := jB_2 129 rfl rfl
set_option maxRecDepth 20000 in
theorem m2_130 : Cond.static yX4_roundOf ∈ jB := jB_2 130 rfl rfl
set_option maxRecDepth 20000 in
theorem m2_131 : Cond.code yX4_roundOf cX4_roundOf 7 (some .int) ∈ jB := jB_2 131 rfl rfl
set_option maxRecDepth 20000 in
theorem m2_132 : Cond.methodLink RL 76 yX9_bring ∈ jB := jB_2 132 rfl rfl
set_option maxRecDepth 20000 in
theorem m2_133 : Cond.instanceMethod yX9_bring ∈ jB := jB_2 133 rfl rfl
set_option maxRecDepth 20000 in
theorem m2_134 : Cond.selects RX9 yX9_bring yX9_bring ∈ jB := jB_2 134 rfl rfl
set_option maxRecDepth 20000 in
theorem m2_135 : Cond.code yX9_bring cX9_bring 5 (some .int) ∈ jB := jB_2 135 rfl rfl
set_option maxRecDepth 20000 in
theorem m2_136 : Cond.methodLink RX9 152 yX0_findWaysTo ∈ jB := jB_2 136 rfl rfl
set_option maxRecDepth 20000 in
theorem m2_137 : Cond.instanceMethod yX0_findWaysTo ∈ jB := jB_2 137 rfl rfl
set_option maxRecDepth 20000 in
theorem m2_138 : Cond.selects RX0 yX0_findWaysTo yX0_findWaysTo ∈ jB := jB_2 138 rfl rfl
set_option maxRecDepth 20000 in
theorem m2_139 : Cond.code yX0_findWaysTo cX0_findWaysTo 5 none ∈ jB := jB_2 139 rfl rfl
set_option maxRecDepth 20000 in
theorem m2_140 : Cond.methodLink RX0 24 yX0_isNextTo ∈ jB := jB_2 140 rfl rfl
set_option maxRecDepth 20000 in
theorem m2_142 : Cond.instanceMethod yX0_isNextTo ∈ jB := jB_2 142 rfl rfl
set_option maxRecDepth 20000 in
theorem m2_143 : Cond.code yX0_isNextTo cX0_isNextTo 4 (some .boolean) ∈ jB := jB_2 143 rfl rfl
set_option maxRecDepth 20000 in
theorem m2_144 : Cond.methodLink RX0 36 yX3_goal ∈ jB := jB_2 144 rfl rfl
set_option maxRecDepth 20000 in
theorem m2_145 : Cond.static yX3_goal ∈ jB := jB_2 145 rfl rfl
set_option maxRecDepth 20000 in
theorem m2_146 : Cond.code yX3_goal cX3_goal 5 (some .int) ∈ jB := jB_2 146 rfl rfl
set_option maxRecDepth 20000 in
theorem m2_147 : Cond.methodLink RX0 28 yX0_fewestFrom ∈ jB := jB_2 147 rfl rfl
set_option maxRecDepth 20000 in
theorem m2_148 : Cond.instanceMethod yX0_fewestFrom ∈ jB := jB_2 148 rfl rfl
set_option maxRecDepth 20000 in
theorem m2_149 : Cond.selects RX0 yX0_fewestFrom yX0_fewestFrom ∈ jB := jB_2 149 rfl rfl
set_option maxRecDepth 20000 in
theorem m2_150 : Cond.code yX0_fewestFrom cX0_fewestFrom 2 (some .int) ∈ jB := jB_2 150 rfl rfl
set_option maxRecDepth 20000 in
theorem m2_151 : Cond.methodLink RX9 156 yX0_fewestFrom ∈ jB := jB_2 151 rfl rfl
set_option maxRecDepth 20000 in
theorem m2_152 : Cond.methodLink RX9 159 yX0_kindOnWay ∈ jB := jB_2 152 rfl rfl
set_option maxRecDepth 20000 in
theorem m2_153 : Cond.instanceMethod yX0_kindOnWay ∈ jB := jB_2 153 rfl rfl
set_option maxRecDepth 20000 in
theorem m2_154 : Cond.selects RX0 yX0_kindOnWay yX0_kindOnWay ∈ jB := jB_2 154 rfl rfl
set_option maxRecDepth 20000 in
theorem m2_155 : Cond.code yX0_kindOnWay cX0_kindOnWay 7 (some .int) ∈ jB := jB_2 155 rfl rfl
set_option maxRecDepth 20000 in
theorem m2_156 : Cond.methodLink RX0 32 yX0_firstKind ∈ jB := jB_2 156 rfl rfl
set_option maxRecDepth 20000 in
theorem m2_158 : Cond.instanceMethod yX0_firstKind ∈ jB := jB_2 158 rfl rfl
set_option maxRecDepth 20000 in
theorem m2_159 : Cond.code yX0_firstKind cX0_firstKind 4 (some .int) ∈ jB := jB_2 159 rfl rfl
set_option maxRecDepth 20000 in
theorem m2_160 : Cond.methodLink RL 81 yX9_beside ∈ jB := jB_2 160 rfl rfl
set_option maxRecDepth 20000 in
theorem m2_161 : Cond.instanceMethod yX9_beside ∈ jB := jB_2 161 rfl rfl
set_option maxRecDepth 20000 in
theorem m2_162 : Cond.selects RX9 yX9_beside yX9_beside ∈ jB := jB_2 162 rfl rfl
set_option maxRecDepth 20000 in
theorem m2_163 : Cond.code yX9_beside cX9_beside 5 (some .int) ∈ jB := jB_2 163 rfl rfl
set_option maxRecDepth 20000 in
theorem m2_164 : Cond.methodLink RX9 163 yX0_fewestTillNeighbours ∈ jB := jB_2 164 rfl rfl
set_option maxRecDepth 20000 in
theorem m2_165 : Cond.instanceMethod yX0_fewestTillNeighbours ∈ jB := jB_2 165 rfl rfl
set_option maxRecDepth 20000 in
theorem m2_166 : Cond.selects RX0 yX0_fewestTillNeighbours yX0_fewestTillNeighbours ∈ jB := jB_2 166 rfl rfl
set_option maxRecDepth 20000 in
theorem m2_167 : Cond.code yX0_fewestTillNeighbours cX0_fewestTillNeighbours 6 (some .int) ∈ jB := jB_2 167 rfl rfl
set_option maxRecDepth 20000 in
theorem m2_168 : Cond.methodLink RX0 42 yX0_pairBehind ∈ jB := jB_2 168 rfl rfl
set_option maxRecDepth 20000 in
theorem m2_169 : Cond.static yX0_pairBehind ∈ jB := jB_2 169 rfl rfl
set_option maxRecDepth 20000 in
theorem m2_170 : Cond.code yX0_pairBehind cX0_pairBehind 3 (some .int) ∈ jB := jB_2 170 rfl rfl
set_option maxRecDepth 20000 in
theorem m2_171 : Cond.methodLink RX0 45 Lib.Math.abs.name ∈ jB := jB_2 171 rfl rfl
set_option maxRecDepth 20000 in
theorem m2_172 : Cond.static Lib.Math.abs.name ∈ jB := jB_2 172 rfl rfl
set_option maxRecDepth 20000 in
theorem m2_173 : Cond.code Lib.Math.abs.name cJ9_abs_0f7a4 1 (some .int) ∈ jB := jB_2 173 rfl rfl
set_option maxRecDepth 20000 in
theorem m2_174 : Cond.methodLink RX0 50 yX0_depthOf ∈ jB := jB_2 174 rfl rfl
set_option maxRecDepth 20000 in
theorem m2_175 : Cond.static yX0_depthOf ∈ jB := jB_2 175 rfl rfl
set_option maxRecDepth 20000 in
theorem m2_176 : Cond.code yX0_depthOf cX0_depthOf 3 (some .int) ∈ jB := jB_2 176 rfl rfl
set_option maxRecDepth 20000 in
theorem m2_177 : Cond.methodLink RL 85 yX9_orders ∈ jB := jB_2 177 rfl rfl
set_option maxRecDepth 20000 in
theorem m2_178 : Cond.instanceMethod yX9_orders ∈ jB := jB_2 178 rfl rfl
set_option maxRecDepth 20000 in
theorem m2_179 : Cond.selects RX9 yX9_orders yX9_orders ∈ jB := jB_2 179 rfl rfl
set_option maxRecDepth 20000 in
theorem m2_180 : Cond.code yX9_orders cX9_orders 2 (some .int) ∈ jB := jB_2 180 rfl rfl
set_option maxRecDepth 20000 in
theorem m2_181 : Cond.methodLink RX9 166 yX0_countOrders ∈ jB := jB_2 181 rfl rfl
set_option maxRecDepth 20000 in
theorem m2_182 : Cond.instanceMethod yX0_countOrders ∈ jB := jB_2 182 rfl rfl
set_option maxRecDepth 20000 in
theorem m2_183 : Cond.selects RX0 yX0_countOrders yX0_countOrders ∈ jB := jB_2 183 rfl rfl
set_option maxRecDepth 20000 in
theorem m2_184 : Cond.code yX0_countOrders cX0_countOrders 12 (some .int) ∈ jB := jB_2 184 rfl rfl
set_option maxRecDepth 20000 in
theorem m2_185 : Cond.methodLink RX0 53 yX3_lacing ∈ jB := jB_2 185 rfl rfl
set_option maxRecDepth 20000 in
theorem m2_186 : Cond.methodLink RX0 57 yX4_inOrder ∈ jB := jB_2 186 rfl rfl
set_option maxRecDepth 20000 in
theorem m2_187 : Cond.methodLink RX0 61 yX4_moved ∈ jB := jB_2 187 rfl rfl
set_option maxRecDepth 20000 in
theorem m2_188 : Cond.methodLink RX0 65 yX0_heldWith ∈ jB := jB_2 188 rfl rfl
set_option maxRecDepth 20000 in
theorem m2_190 : Cond.instanceMethod yX0_heldWith ∈ jB := jB_2 190 rfl rfl
set_option maxRecDepth 20000 in
theorem m2_191 : Cond.code yX0_heldWith cX0_heldWith 5 (some .int) ∈ jB := jB_2 191 rfl rfl
set_option maxRecDepth 20000 in
theorem m2_192 : Cond.methodLink RL 89 yX9_rising ∈ jB := jB_2 192 rfl rfl
set_option maxRecDepth 20000 in
theorem m2_193 : Cond.instanceMethod yX9_rising ∈ jB := jB_2 193 rfl rfl
set_option maxRecDepth 20000 in
theorem m2_194 : Cond.selects RX9 yX9_rising yX9_rising ∈ jB := jB_2 194 rfl rfl
set_option maxRecDepth 20000 in
theorem m2_195 : Cond.code yX9_rising cX9_rising 1 (some .int) ∈ jB := jB_2 195 rfl rfl
set_option maxRecDepth 20000 in
theorem m2_196 : Cond.methodLink RX9 170 yX4_risingRows ∈ jB := jB_2 196 rfl rfl
set_option maxRecDepth 20000 in
theorem m2_197 : Cond.static yX4_risingRows ∈ jB := jB_2 197 rfl rfl
set_option maxRecDepth 20000 in
theorem m2_198 : Cond.code yX4_risingRows cX4_risingRows 7 (some .int) ∈ jB := jB_2 198 rfl rfl
set_option maxRecDepth 20000 in
theorem m2_199 : Cond.methodLink RL 93 yX9_pairs ∈ jB := jB_2 199 rfl rfl
set_option maxRecDepth 20000 in
theorem m2_200 : Cond.instanceMethod yX9_pairs ∈ jB := jB_2 200 rfl rfl
set_option maxRecDepth 20000 in
theorem m2_201 : Cond.selects RX9 yX9_pairs yX9_pairs ∈ jB := jB_2 201 rfl rfl
set_option maxRecDepth 20000 in
theorem m2_202 : Cond.code yX9_pairs cX9_pairs 3 (some .int) ∈ jB := jB_2 202 rfl rfl
set_option maxRecDepth 20000 in
theorem m2_203 : Cond.methodLink RX9 173 yX5_areUnlike ∈ jB := jB_2 203 rfl rfl
set_option maxRecDepth 20000 in
theorem m2_204 : Cond.instanceMethod yX5_areUnlike ∈ jB := jB_2 204 rfl rfl
set_option maxRecDepth 20000 in
theorem m2_205 : Cond.selects RX5 yX5_areUnlike yX5_areUnlike ∈ jB := jB_2 205 rfl rfl
set_option maxRecDepth 20000 in
theorem m2_206 : Cond.code yX5_areUnlike cX5_areUnlike 3 (some .boolean) ∈ jB := jB_2 206 rfl rfl
set_option maxRecDepth 20000 in
theorem m2_207 : Cond.methodLink RX5 66 yX5_colourOf ∈ jB := jB_2 207 rfl rfl
set_option maxRecDepth 20000 in
theorem m2_208 : Cond.methodLink RL 97 yX9_sure ∈ jB := jB_2 208 rfl rfl
set_option maxRecDepth 20000 in
theorem m2_209 : Cond.instanceMethod yX9_sure ∈ jB := jB_2 209 rfl rfl
set_option maxRecDepth 20000 in
theorem m2_210 : Cond.selects RX9 yX9_sure yX9_sure ∈ jB := jB_2 210 rfl rfl
set_option maxRecDepth 20000 in
theorem m2_211 : Cond.code yX9_sure cX9_sure 4 (some .int) ∈ jB := jB_2 211 rfl rfl
set_option maxRecDepth 20000 in
theorem m2_212 : Cond.methodLink RX9 177 yX2_goodWays ∈ jB := jB_2 212 rfl rfl
set_option maxRecDepth 20000 in
theorem m2_213 : Cond.instanceMethod yX2_goodWays ∈ jB := jB_2 213 rfl rfl
set_option maxRecDepth 20000 in
theorem m2_214 : Cond.selects RX2 yX2_goodWays yX2_goodWays ∈ jB := jB_2 214 rfl rfl
set_option maxRecDepth 20000 in
theorem m2_215 : Cond.code yX2_goodWays cX2_goodWays 10 (some .int) ∈ jB := jB_2 215 rfl rfl
set_option maxRecDepth 20000 in
theorem m2_216 : Cond.methodLink RX2 21 yX2_dealtOff ∈ jB := jB_2 216 rfl rfl
set_option maxRecDepth 20000 in
theorem m2_217 : Cond.static yX2_dealtOff ∈ jB := jB_2 217 rfl rfl
set_option maxRecDepth 20000 in
theorem m2_218 : Cond.code yX2_dealtOff cX2_dealtOff 8 (some .long) ∈ jB := jB_2 218 rfl rfl
set_option maxRecDepth 20000 in
theorem m2_219 : Cond.methodLink RX2 37 yX4_cardAt ∈ jB := jB_2 219 rfl rfl
set_option maxRecDepth 20000 in
theorem m2_220 : Cond.methodLink RX2 41 yX4_with ∈ jB := jB_2 220 rfl rfl
set_option maxRecDepth 20000 in
theorem m2_221 : Cond.methodLink RX2 25 yX2_waysByLastPair ∈ jB := jB_2 221 rfl rfl
set_option maxRecDepth 20000 in
theorem m2_223 : Cond.instanceMethod yX2_waysByLastPair ∈ jB := jB_2 223 rfl rfl
set_option maxRecDepth 20000 in
theorem m2_224 : Cond.code yX2_waysByLastPair cX2_waysByLastPair 8 (some .int) ∈ jB := jB_2 224 rfl rfl
set_option maxRecDepth 20000 in
theorem m2_225 : Cond.methodLink RX2 44 yX2_areUnlikeAt ∈ jB := jB_2 225 rfl rfl
set_option maxRecDepth 20000 in
theorem m2_226 : Cond.static yX2_areUnlikeAt ∈ jB := jB_2 226 rfl rfl
set_option maxRecDepth 20000 in
theorem m2_227 : Cond.code yX2_areUnlikeAt cX2_areUnlikeAt 5 (some .boolean) ∈ jB := jB_2 227 rfl rfl
set_option maxRecDepth 20000 in
theorem m2_228 : Cond.methodLink RX2 48 yX5_areUnlike ∈ jB := jB_2 228 rfl rfl
set_option maxRecDepth 20000 in
theorem m2_229 : Cond.methodLink RX2 33 yX2_waysOf ∈ jB := jB_2 229 rfl rfl
set_option maxRecDepth 20000 in
theorem m2_231 : Cond.instanceMethod yX2_waysOf ∈ jB := jB_2 231 rfl rfl
set_option maxRecDepth 20000 in
theorem m2_232 : Cond.code yX2_waysOf cX2_waysOf 3 (some .int) ∈ jB := jB_2 232 rfl rfl
set_option maxRecDepth 20000 in
theorem m2_234 : Cond.methodLink RX2 29 yX2_setWays ∈ jB := jB_2 234 rfl rfl
set_option maxRecDepth 20000 in
theorem m2_236 : Cond.instanceMethod yX2_setWays ∈ jB := jB_2 236 rfl rfl
set_option maxRecDepth 20000 in
theorem m2_237 : Cond.code yX2_setWays cX2_setWays 4 none ∈ jB := jB_2 237 rfl rfl
set_option maxRecDepth 20000 in
theorem m2_238 : Cond.methodLink RX9 181 yX1_choices ∈ jB := jB_2 238 rfl rfl
set_option maxRecDepth 20000 in
theorem m2_239 : Cond.static yX1_choices ∈ jB := jB_2 239 rfl rfl
set_option maxRecDepth 20000 in
theorem m3_0 : Cond.code yX1_choices cX1_choices 4 (some .int) ∈ jB := jB_3 0 rfl rfl
set_option maxRecDepth 20000 in
theorem m3_1 : Cond.methodLink RX9 186 yX1_partOf ∈ jB := jB_3 1 rfl rfl
set_option maxRecDepth 20000 in
theorem m3_2 : Cond.static yX1_partOf ∈ jB := jB_3 2 rfl rfl
set_option maxRecDepth 20000 in
theorem m3_3 : Cond.code yX1_partOf cX1_partOf 4 (some .int) ∈ jB := jB_3 3 rfl rfl
set_option maxRecDepth 20000 in
theorem m3_4 : Cond.methodLink RX1 7 yX1_commonDivisor ∈ jB := jB_3 4 rfl rfl
set_option maxRecDepth 20000 in
theorem m3_5 : Cond.methodLink RL 101 yX9_seen ∈ jB := jB_3 5 rfl rfl
set_option maxRecDepth 20000 in
theorem m3_6 : Cond.instanceMethod yX9_seen ∈ jB := jB_3 6 rfl rfl
set_option maxRecDepth 20000 in
theorem m3_7 : Cond.selects RX9 yX9_seen yX9_seen ∈ jB := jB_3 7 rfl rfl
set_option maxRecDepth 20000 in
theorem m3_8 : Cond.code yX9_seen cX9_seen 3 (some .int) ∈ jB := jB_3 8 rfl rfl
set_option maxRecDepth 20000 in
theorem m3_9 : Cond.methodLink RX9 189 yX7_add ∈ jB := jB_3 9 rfl rfl
set_option maxRecDepth 20000 in
theorem m3_10 : Cond.instanceMethod yX7_add ∈ jB := jB_3 10 rfl rfl
set_option maxRecDepth 20000 in
theorem m3_11 : Cond.selects RX7 yX7_add yX7_add ∈ jB := jB_3 11 rfl rfl
set_option maxRecDepth 20000 in
theorem m3_12 : Cond.code yX7_add cX7_add 3 (some .boolean) ∈ jB := jB_3 12 rfl rfl
set_option maxRecDepth 20000 in
theorem m3_13 : Cond.methodLink RL 105 yX9_forget ∈ jB := jB_3 13 rfl rfl
set_option maxRecDepth 20000 in
theorem m3_14 : Cond.instanceMethod yX9_forget ∈ jB := jB_3 14 rfl rfl
set_option maxRecDepth 20000 in
theorem m3_15 : Cond.selects RX9 yX9_forget yX9_forget ∈ jB := jB_3 15 rfl rfl
set_option maxRecDepth 20000 in
theorem m3_16 : Cond.code yX9_forget cX9_forget 2 (some .int) ∈ jB := jB_3 16 rfl rfl
set_option maxRecDepth 20000 in
theorem m3_17 : Cond.methodLink RL 109 yX9_done ∈ jB := jB_3 17 rfl rfl
set_option maxRecDepth 20000 in
theorem m3_18 : Cond.instanceMethod yX9_done ∈ jB := jB_3 18 rfl rfl
set_option maxRecDepth 20000 in
theorem m3_19 : Cond.selects RX9 yX9_done yX9_done ∈ jB := jB_3 19 rfl rfl
set_option maxRecDepth 20000 in
theorem m3_20 : Cond.code yX9_done cX9_done 2 (some .int) ∈ jB := jB_3 20 rfl rfl
set_option maxRecDepth 20000 in
theorem m3_21 : Cond.methodLink RX9 192 yX9_fittingKinds ∈ jB := jB_3 21 rfl rfl
set_option maxRecDepth 20000 in
theorem m3_23 : Cond.instanceMethod yX9_fittingKinds ∈ jB := jB_3 23 rfl rfl
set_option maxRecDepth 20000 in
theorem m3_24 : Cond.code yX9_fittingKinds cX9_fittingKinds 3 (some .int) ∈ jB := jB_3 24 rfl rfl
set_option maxRecDepth 20000 in
theorem m3_25 : Cond.methodLink RX9 233 yX7_fit ∈ jB := jB_3 25 rfl rfl
set_option maxRecDepth 20000 in
theorem m3_26 : Cond.instanceMethod yX7_fit ∈ jB := jB_3 26 rfl rfl
set_option maxRecDepth 20000 in
theorem m3_27 : Cond.selects RX7 yX7_fit yX7_fit ∈ jB := jB_3 27 rfl rfl
set_option maxRecDepth 20000 in
theorem m3_28 : Cond.code yX7_fit cX7_fit 4 (some .boolean) ∈ jB := jB_3 28 rfl rfl
set_option maxRecDepth 20000 in
theorem m3_29 : Cond.methodLink RX7 20 yX4_cardAt ∈ jB := jB_3 29 rfl rfl
set_option maxRecDepth 20000 in
theorem m3_30 : Cond.methodLink RX9 196 yX9_fittingCuts ∈ jB := jB_3 30 rfl rfl
set_option maxRecDepth 20000 in
theorem m3_32 : Cond.instanceMethod yX9_fittingCuts ∈ jB := jB_3 32 rfl rfl
set_option maxRecDepth 20000 in
theorem m3_33 : Cond.code yX9_fittingCuts cX9_fittingCuts 3 (some .int) ∈ jB := jB_3 33 rfl rfl
set_option maxRecDepth 20000 in
theorem m3_34 : Cond.methodLink RL 113 yX9_likely ∈ jB := jB_3 34 rfl rfl
set_option maxRecDepth 20000 in
theorem m3_35 : Cond.instanceMethod yX9_likely ∈ jB := jB_3 35 rfl rfl
set_option maxRecDepth 20000 in
theorem m3_36 : Cond.selects RX9 yX9_likely yX9_likely ∈ jB := jB_3 36 rfl rfl
set_option maxRecDepth 20000 in
theorem m3_37 : Cond.code yX9_likely cX9_likely 10 (some .int) ∈ jB := jB_3 37 rfl rfl
set_option maxRecDepth 20000 in
theorem m3_38 : Cond.methodLink RX9 199 yX9_endOfWay ∈ jB := jB_3 38 rfl rfl
set_option maxRecDepth 20000 in
theorem m3_40 : Cond.instanceMethod yX9_endOfWay ∈ jB := jB_3 40 rfl rfl
set_option maxRecDepth 20000 in
theorem m3_41 : Cond.code yX9_endOfWay cX9_endOfWay 6 (some .int) ∈ jB := jB_3 41 rfl rfl
set_option maxRecDepth 20000 in
theorem m3_42 : Cond.methodLink RX9 237 yX3_goal ∈ jB := jB_3 42 rfl rfl
set_option maxRecDepth 20000 in
theorem m3_43 : Cond.methodLink RX9 202 yX9_weightOfWay ∈ jB := jB_3 43 rfl rfl
set_option maxRecDepth 20000 in
theorem m3_44 : Cond.static yX9_weightOfWay ∈ jB := jB_3 44 rfl rfl
set_option maxRecDepth 20000 in
theorem m3_45 : Cond.code yX9_weightOfWay cX9_weightOfWay 5 (some .int) ∈ jB := jB_3 45 rfl rfl
set_option maxRecDepth 20000 in
theorem m3_46 : Cond.methodLink RX9 205 yX9_powerOfTen ∈ jB := jB_3 46 rfl rfl
set_option maxRecDepth 20000 in
theorem m3_47 : Cond.static yX9_powerOfTen ∈ jB := jB_3 47 rfl rfl
set_option maxRecDepth 20000 in
theorem m3_48 : Cond.code yX9_powerOfTen cX9_powerOfTen 3 (some .int) ∈ jB := jB_3 48 rfl rfl
set_option maxRecDepth 20000 in
theorem m3_49 : Cond.methodLink RL 118 yX9_dealing ∈ jB := jB_3 49 rfl rfl
set_option maxRecDepth 20000 in
theorem m3_50 : Cond.instanceMethod yX9_dealing ∈ jB := jB_3 50 rfl rfl
set_option maxRecDepth 20000 in
theorem m3_51 : Cond.selects RX9 yX9_dealing yX9_dealing ∈ jB := jB_3 51 rfl rfl
set_option maxRecDepth 20000 in
theorem m3_52 : Cond.code yX9_dealing cX9_dealing 7 (some .int) ∈ jB := jB_3 52 rfl rfl
set_option maxRecDepth 20000 in
theorem m3_53 : Cond.methodLink RX9 208 yX9_drawOf ∈ jB := jB_3 53 rfl rfl
set_option maxRecDepth 20000 in
theorem m3_54 : Cond.static yX9_drawOf ∈ jB := jB_3 54 rfl rfl
set_option maxRecDepth 20000 in
theorem m3_55 : Cond.code yX9_drawOf cX9_drawOf 4 (some .int) ∈ jB := jB_3 55 rfl rfl
set_option maxRecDepth 20000 in
theorem m3_56 : Cond.constantLong RX9 240 7919 ∈ jB := jB_3 56 rfl rfl
set_option maxRecDepth 20000 in
theorem m3_57 : Cond.constantLong RX9 242 6151 ∈ jB := jB_3 57 rfl rfl
set_option maxRecDepth 20000 in
theorem m3_58 : Cond.constantLong RX9 244 65521 ∈ jB := jB_3 58 rfl rfl
set_option maxRecDepth 20000 in
theorem m3_59 : Cond.constantLong RX9 246 2 ∈ jB := jB_3 59 rfl rfl
set_option maxRecDepth 20000 in
theorem m3_60 : Cond.methodLink RX9 211 yX9_drawnMove ∈ jB := jB_3 60 rfl rfl
set_option maxRecDepth 20000 in
theorem m3_62 : Cond.instanceMethod yX9_drawnMove ∈ jB := jB_3 62 rfl rfl
set_option maxRecDepth 20000 in
theorem m3_63 : Cond.code yX9_drawnMove cX9_drawnMove 3 (some .long) ∈ jB := jB_3 63 rfl rfl
set_option maxRecDepth 20000 in
theorem m3_64 : Cond.methodLink RX9 218 yX4_sameCards ∈ jB := jB_3 64 rfl rfl
set_option maxRecDepth 20000 in
theorem m3_65 : Cond.static yX4_sameCards ∈ jB := jB_3 65 rfl rfl
set_option maxRecDepth 20000 in
theorem m3_66 : Cond.code yX4_sameCards cX4_sameCards 7 (some .int) ∈ jB := jB_3 66 rfl rfl
set_option maxRecDepth 20000 in
theorem m3_67 : Cond.methodLink RL 122 yX9_keep ∈ jB := jB_3 67 rfl rfl
set_option maxRecDepth 20000 in
theorem m3_68 : Cond.instanceMethod yX9_keep ∈ jB := jB_3 68 rfl rfl
set_option maxRecDepth 20000 in
theorem m3_69 : Cond.selects RX9 yX9_keep yX9_keep ∈ jB := jB_3 69 rfl rfl
set_option maxRecDepth 20000 in
theorem m3_70 : Cond.code yX9_keep cX9_keep 1 (some .int) ∈ jB := jB_3 70 rfl rfl
set_option maxRecDepth 20000 in
theorem m3_71 : Cond.methodLink RX9 222 yX6_isFull ∈ jB := jB_3 71 rfl rfl
set_option maxRecDepth 20000 in
theorem m3_72 : Cond.methodLink RL 126 yX9_back ∈ jB := jB_3 72 rfl rfl
set_option maxRecDepth 20000 in
theorem m3_73 : Cond.instanceMethod yX9_back ∈ jB := jB_3 73 rfl rfl
set_option maxRecDepth 20000 in
theorem m3_74 : Cond.selects RX9 yX9_back yX9_back ∈ jB := jB_3 74 rfl rfl
set_option maxRecDepth 20000 in
theorem m3_75 : Cond.code yX9_back cX9_back 1 (some .int) ∈ jB := jB_3 75 rfl rfl
set_option maxRecDepth 20000 in
theorem m3_76 : Cond.methodLink RL 130 yX9_count ∈ jB := jB_3 76 rfl rfl
set_option maxRecDepth 20000 in
theorem m3_77 : Cond.instanceMethod yX9_count ∈ jB := jB_3 77 rfl rfl
set_option maxRecDepth 20000 in
theorem m3_78 : Cond.selects RX9 yX9_count yX9_count ∈ jB := jB_3 78 rfl rfl
set_option maxRecDepth 20000 in
theorem m3_79 : Cond.code yX9_count cX9_count 2 (some .int) ∈ jB := jB_3 79 rfl rfl
set_option maxRecDepth 20000 in
theorem m3_80 : Cond.classLink RL 10 RX10 ∈ jB := jB_3 80 rfl rfl
set_option maxRecDepth 20000 in
theorem m3_81 : Cond.instantiable RX10 27 ∈ jB := jB_3 81 rfl rfl
set_option maxRecDepth 20000 in
theorem m3_82 : Cond.methodLink RL 12 yX10_init ∈ jB := jB_3 82 rfl rfl
set_option maxRecDepth 20000 in
theorem m3_83 : Cond.instanceMethod yX10_init ∈ jB := jB_3 83 rfl rfl
set_option maxRecDepth 20000 in
theorem m3_84 : Cond.code yX10_init cX10_init 1 none ∈ jB := jB_3 84 rfl rfl
set_option maxRecDepth 20000 in
theorem m3_85 : Cond.methodLink RX10 1 objectInit ∈ jB := jB_3 85 rfl rfl
set_option maxRecDepth 20000 in
theorem m3_86 : Cond.methodLink RX10 58 yX10_clearTold ∈ jB := jB_3 86 rfl rfl
set_option maxRecDepth 20000 in
theorem m3_88 : Cond.instanceMethod yX10_clearTold ∈ jB := jB_3 88 rfl rfl
set_option maxRecDepth 20000 in
theorem m3_89 : Cond.code yX10_clearTold cX10_clearTold 1 none ∈ jB := jB_3 89 rfl rfl
set_option maxRecDepth 20000 in
theorem m3_90 : Cond.methodLink RX10 65 yX10_colours ∈ jB := jB_3 90 rfl rfl
set_option maxRecDepth 20000 in
theorem m3_92 : Cond.instanceMethod yX10_colours ∈ jB := jB_3 92 rfl rfl
set_option maxRecDepth 20000 in
theorem m3_93 : Cond.code yX10_colours cX10_colours 2 none ∈ jB := jB_3 93 rfl rfl
set_option maxRecDepth 20000 in
theorem m3_94 : Cond.methodLink RX10 71 yX10_settles ∈ jB := jB_3 94 rfl rfl
set_option maxRecDepth 20000 in
theorem m3_96 : Cond.instanceMethod yX10_settles ∈ jB := jB_3 96 rfl rfl
set_option maxRecDepth 20000 in
theorem m3_97 : Cond.code yX10_settles cX10_settles 1 none ∈ jB := jB_3 97 rfl rfl
set_option maxRecDepth 20000 in
theorem m3_98 : Cond.methodLink RX10 123 yX10_copies ∈ jB := jB_3 98 rfl rfl
set_option maxRecDepth 20000 in
theorem m3_99 : Cond.static yX10_copies ∈ jB := jB_3 99 rfl rfl
set_option maxRecDepth 20000 in
theorem m3_100 : Cond.code yX10_copies cX10_copies 6 none ∈ jB := jB_3 100 rfl rfl
set_option maxRecDepth 20000 in
theorem m3_101 : Cond.methodLink RX10 130 yX10_lies ∈ jB := jB_3 101 rfl rfl
set_option maxRecDepth 20000 in
theorem m3_102 : Cond.static yX10_lies ∈ jB := jB_3 102 rfl rfl
set_option maxRecDepth 20000 in
theorem m3_103 : Cond.code yX10_lies cX10_lies 2 none ∈ jB := jB_3 103 rfl rfl
set_option maxRecDepth 20000 in
theorem m3_104 : Cond.fieldLink RX10 74 RX10 "cards" "I" ∈ jB := jB_3 104 rfl rfl
set_option maxRecDepth 20000 in
theorem m3_105 : Cond.fieldLink RX10 7 RX10 "colour" "[I" ∈ jB := jB_3 105 rfl rfl
set_option maxRecDepth 20000 in
theorem m3_106 : Cond.fieldLink RX10 127 RX10 "dealMany" "I" ∈ jB := jB_3 106 rfl rfl
set_option maxRecDepth 20000 in
theorem m3_107 : Cond.fieldLink RX10 13 RX10 "deal" "[I" ∈ jB := jB_3 107 rfl rfl
set_option maxRecDepth 20000 in
theorem m3_108 : Cond.fieldLink RX10 16 RX10 "st" "[I" ∈ jB := jB_3 108 rfl rfl
set_option maxRecDepth 20000 in
theorem m3_109 : Cond.fieldLink RX10 134 RX10 "acts" "I" ∈ jB := jB_3 109 rfl rfl
set_option maxRecDepth 20000 in
theorem m3_110 : Cond.fieldLink RX10 19 RX10 "was" "[I" ∈ jB := jB_3 110 rfl rfl
set_option maxRecDepth 20000 in
theorem m3_111 : Cond.fieldLink RX10 137 RX10 "keeps" "I" ∈ jB := jB_3 111 rfl rfl
set_option maxRecDepth 20000 in
theorem m3_112 : Cond.fieldLink RX10 22 RX10 "kept" "[I" ∈ jB := jB_3 112 rfl rfl
set_option maxRecDepth 20000 in
theorem m3_113 : Cond.fieldLink RX10 140 RX10 "seens" "I" ∈ jB := jB_3 113 rfl rfl
set_option maxRecDepth 20000 in
theorem m3_114 : Cond.fieldLink RX10 25 RX10 "seen" "[I" ∈ jB := jB_3 114 rfl rfl
set_option maxRecDepth 20000 in
theorem m3_115 : Cond.fieldLink RX10 28 RX10 "text" "[I" ∈ jB := jB_3 115 rfl rfl
set_option maxRecDepth 20000 in
theorem m3_116 : Cond.fieldLink RX10 81 RX10 "texted" "I" ∈ jB := jB_3 116 rfl rfl
set_option maxRecDepth 20000 in
theorem m3_117 : Cond.fieldLink RX10 84 RX10 "at" "I" ∈ jB := jB_3 117 rfl rfl
set_option maxRecDepth 20000 in
theorem m3_118 : Cond.fieldLink RX10 31 RX10 "told" "[I" ∈ jB := jB_3 118 rfl rfl
set_option maxRecDepth 20000 in
theorem m3_119 : Cond.fieldLink RX10 95 RX10 "isBegun" "Z" ∈ jB := jB_3 119 rfl rfl
set_option maxRecDepth 20000 in
theorem m3_120 : Cond.fieldLink RX10 61 RX10 "readCards" "I" ∈ jB := jB_3 120 rfl rfl
set_option maxRecDepth 20000 in
theorem m3_121 : Cond.fieldLink RX10 34 RX10 "readColour" "[I" ∈ jB := jB_3 121 rfl rfl
set_option maxRecDepth 20000 in
theorem m3_122 : Cond.fieldLink RX10 68 RX10 "readDeals" "I" ∈ jB := jB_3 122 rfl rfl
set_option maxRecDepth 20000 in
theorem m3_123 : Cond.fieldLink RX10 37 RX10 "readDeal" "[I" ∈ jB := jB_3 123 rfl rfl
set_option maxRecDepth 20000 in
theorem m3_124 : Cond.fieldLink RX10 40 RX10 "now" "[I" ∈ jB := jB_3 124 rfl rfl
set_option maxRecDepth 20000 in
theorem m3_125 : Cond.fieldLink RX10 43 RX10 "then" "[I" ∈ jB := jB_3 125 rfl rfl
set_option maxRecDepth 20000 in
theorem m3_126 : Cond.fieldLink RX10 46 RX10 "ring" "[I" ∈ jB := jB_3 126 rfl rfl
set_option maxRecDepth 20000 in
theorem m3_127 : Cond.fieldLink RX10 49 RX10 "goes" "[I" ∈ jB := jB_3 127 rfl rfl
set_option maxRecDepth 20000 in
theorem m3_128 : Cond.fieldLink RX10 52 RX10 "far" "[I" ∈ jB := jB_3 128 rfl rfl
set_option maxRecDepth 20000 in
theorem m3_129 : Cond.fieldLink RX10 55 RX10 "met" "[I" ∈ jB := jB_3 129 rfl rfl
set_option maxRecDepth 20000 in
theorem m3_130 : Cond.fieldLink RX10 189 RX10 "metMany" "I" ∈ jB := jB_3 130 rfl rfl
set_option maxRecDepth 20000 in
theorem m3_131 : Cond.lays RX10 RX10 "cards" "I" ∈ jB := jB_3 131 rfl rfl
set_option maxRecDepth 20000 in
theorem m3_133 : Cond.laysFinal RX10 RX10 "colour" "[I" ∈ jB := jB_3 133 rfl rfl
set_option maxRecDepth 20000 in
theorem m3_135 : Cond.lays RX10 RX10 "dealMany" "I" ∈ jB := jB_3 135 rfl rfl
set_option maxRecDepth 20000 in
theorem m3_137 : Cond.laysFinal RX10 RX10 "deal" "[I" ∈ jB := jB_3 137 rfl rfl
set_option maxRecDepth 20000 in
theorem m3_139 : Cond.laysFinal RX10 RX10 "st" "[I" ∈ jB := jB_3 139 rfl rfl
set_option maxRecDepth 20000 in
theorem m3_141 : Cond.lays RX10 RX10 "acts" "I" ∈ jB := jB_3 141 rfl rfl
set_option maxRecDepth 20000 in
theorem m3_143 : Cond.laysFinal RX10 RX10 "was" "[I" ∈ jB := jB_3 143 rfl rfl
set_option maxRecDepth 20000 in
theorem m3_145 : Cond.lays RX10 RX10 "keeps" "I" ∈ jB := jB_3 145 rfl rfl
set_option maxRecDepth 20000 in
theorem m3_147 : Cond.laysFinal RX10 RX10 "kept" "[I" ∈ jB := jB_3 147 rfl rfl
set_option maxRecDepth 20000 in
theorem m3_149 : Cond.lays RX10 RX10 "seens" "I" ∈ jB := jB_3 149 rfl rfl
set_option maxRecDepth 20000 in
theorem m3_151 : Cond.laysFinal RX10 RX10 "seen" "[I" ∈ jB := jB_3 151 rfl rfl
set_option maxRecDepth 20000 in
theorem m3_153 : Cond.laysFinal RX10 RX10 "text" "[I" ∈ jB := jB_3 153 rfl rfl
set_option maxRecDepth 20000 in
theorem m3_155 : Cond.lays RX10 RX10 "texted" "I" ∈ jB := jB_3 155 rfl rfl
set_option maxRecDepth 20000 in
theorem m3_157 : Cond.lays RX10 RX10 "at" "I" ∈ jB := jB_3 157 rfl rfl
set_option maxRecDepth 20000 in
theorem m3_159 : Cond.laysFinal RX10 RX10 "told" "[I" ∈ jB := jB_3 159 rfl rfl
set_option maxRecDepth 20000 in
theorem m3_161 : Cond.lays RX10 RX10 "isBegun" "Z" ∈ jB := jB_3 161 rfl rfl
set_option maxRecDepth 20000 in
theorem m3_163 : Cond.lays RX10 RX10 "readCards" "I" ∈ jB := jB_3 163 rfl rfl
set_option maxRecDepth 20000 in
theorem m3_165 : Cond.laysFinal RX10 RX10 "readColour" "[I" ∈ jB := jB_3 165 rfl rfl
set_option maxRecDepth 20000 in
theorem m3_167 : Cond.lays RX10 RX10 "readDeals" "I" ∈ jB := jB_3 167 rfl rfl
set_option maxRecDepth 20000 in
theorem m3_169 : Cond.laysFinal RX10 RX10 "readDeal" "[I" ∈ jB := jB_3 169 rfl rfl
set_option maxRecDepth 20000 in
theorem m3_171 : Cond.laysFinal RX10 RX10 "now" "[I" ∈ jB := jB_3 171 rfl rfl
set_option maxRecDepth 20000 in
theorem m3_173 : Cond.laysFinal RX10 RX10 "then" "[I" ∈ jB := jB_3 173 rfl rfl
set_option maxRecDepth 20000 in
theorem m3_175 : Cond.laysFinal RX10 RX10 "ring" "[I" ∈ jB := jB_3 175 rfl rfl
set_option maxRecDepth 20000 in
theorem m3_177 : Cond.laysFinal RX10 RX10 "goes" "[I" ∈ jB := jB_3 177 rfl rfl
set_option maxRecDepth 20000 in
theorem m3_179 : Cond.laysFinal RX10 RX10 "far" "[I" ∈ jB := jB_3 179 rfl rfl
set_option maxRecDepth 20000 in
theorem m3_181 : Cond.laysFinal RX10 RX10 "met" "[I" ∈ jB := jB_3 181 rfl rfl
set_option maxRecDepth 20000 in
theorem m3_183 : Cond.lays RX10 RX10 "metMany" "I" ∈ jB := jB_3 183 rfl rfl
set_option maxRecDepth 20000 in
theorem m3_185 : Cond.superclass RX10 "java/lang/Object" ∈ jB := jB_3 185 rfl rfl
set_option maxRecDepth 20000 in
theorem m3_186 : Cond.methodLink RL 17 yX10_write ∈ jB := jB_3 186 rfl rfl
set_option maxRecDepth 20000 in
theorem m3_187 : Cond.instanceMethod yX10_write ∈ jB := jB_3 187 rfl rfl
set_option maxRecDepth 20000 in
theorem m3_188 : Cond.selects RX10 yX10_write yX10_write ∈ jB := jB_3 188 rfl rfl
set_option maxRecDepth 20000 in
theorem m3_189 : Cond.code yX10_write cX10_write 2 (some .int) ∈ jB := jB_3 189 rfl rfl
set_option maxRecDepth 20000 in
theorem m3_190 : Cond.methodLink RX10 77 yX10_in ∈ jB := jB_3 190 rfl rfl
set_option maxRecDepth 20000 in
theorem m3_191 : Cond.static yX10_in ∈ jB := jB_3 191 rfl rfl
set_option maxRecDepth 20000 in
theorem m3_192 : Cond.code yX10_in cX10_in 3 (some .boolean) ∈ jB := jB_3 192 rfl rfl
set_option maxRecDepth 20000 in
theorem m3_193 : Cond.methodLink RL 22 yX10_wipe ∈ jB := jB_3 193 rfl rfl
set_option maxRecDepth 20000 in
theorem m3_194 : Cond.instanceMethod yX10_wipe ∈ jB := jB_3 194 rfl rfl
set_option maxRecDepth 20000 in
theorem m3_195 : Cond.selects RX10 yX10_wipe yX10_wipe ∈ jB := jB_3 195 rfl rfl
set_option maxRecDepth 20000 in
theorem m3_196 : Cond.code yX10_wipe cX10_wipe 2 (some .int) ∈ jB := jB_3 196 rfl rfl
set_option maxRecDepth 20000 in
theorem m3_197 : Cond.methodLink RL 26 yX10_fault ∈ jB := jB_3 197 rfl rfl
set_option maxRecDepth 20000 in
theorem m3_198 : Cond.instanceMethod yX10_fault ∈ jB := jB_3 198 rfl rfl
set_option maxRecDepth 20000 in
theorem m3_199 : Cond.selects RX10 yX10_fault yX10_fault ∈ jB := jB_3 199 rfl rfl
set_option maxRecDepth 20000 in
theorem m3_200 : Cond.code yX10_fault cX10_fault 2 (some .int) ∈ jB := jB_3 200 rfl rfl
set_option maxRecDepth 20000 in
theorem m3_201 : Cond.methodLink RX10 116 yX10_readItem ∈ jB := jB_3 201 rfl rfl
set_option maxRecDepth 20000 in
theorem m3_203 : Cond.instanceMethod yX10_readItem ∈ jB := jB_3 203 rfl rfl
set_option maxRecDepth 20000 in
theorem m3_204 : Cond.code yX10_readItem cX10_readItem 2 (some .boolean) ∈ jB := jB_3 204 rfl rfl
set_option maxRecDepth 20000 in
theorem m3_205 : Cond.methodLink RX10 87 yX10_letterAt ∈ jB := jB_3 205 rfl rfl
set_option maxRecDepth 20000 in
theorem m3_207 : Cond.instanceMethod yX10_letterAt ∈ jB := jB_3 207 rfl rfl
set_option maxRecDepth 20000 in
theorem m3_208 : Cond.code yX10_letterAt cX10_letterAt 2 (some .int) ∈ jB := jB_3 208 rfl rfl
set_option maxRecDepth 20000 in
theorem m3_209 : Cond.methodLink RX10 105 yX10_readCardsOf ∈ jB := jB_3 209 rfl rfl
set_option maxRecDepth 20000 in
theorem m3_211 : Cond.instanceMethod yX10_readCardsOf ∈ jB := jB_3 211 rfl rfl
set_option maxRecDepth 20000 in
theorem m3_212 : Cond.code yX10_readCardsOf cX10_readCardsOf 2 (some .boolean) ∈ jB := jB_3 212 rfl rfl
set_option maxRecDepth 20000 in
theorem m3_213 : Cond.methodLink RX10 99 yX10_readNumbers ∈ jB := jB_3 213 rfl rfl
set_option maxRecDepth 20000 in
theorem m3_215 : Cond.instanceMethod yX10_readNumbers ∈ jB := jB_3 215 rfl rfl
set_option maxRecDepth 20000 in
theorem m3_216 : Cond.code yX10_readNumbers cX10_readNumbers 3 (some .boolean) ∈ jB := jB_3 216 rfl rfl
set_option maxRecDepth 20000 in
theorem m3_217 : Cond.methodLink RX10 91 yX10_isFigure ∈ jB := jB_3 217 rfl rfl
set_option maxRecDepth 20000 in
theorem m3_218 : Cond.static yX10_isFigure ∈ jB := jB_3 218 rfl rfl
set_option maxRecDepth 20000 in
theorem m3_219 : Cond.code yX10_isFigure cX10_isFigure 1 (some .boolean) ∈ jB := jB_3 219 rfl rfl
set_option maxRecDepth 20000 in
theorem m3_220 : Cond.methodLink RX10 102 yX10_isTold ∈ jB := jB_3 220 rfl rfl
set_option maxRecDepth 20000 in
theorem m3_222 : Cond.instanceMethod yX10_isTold ∈ jB := jB_3 222 rfl rfl
set_option maxRecDepth 20000 in
theorem m3_223 : Cond.code yX10_isTold cX10_isTold 4 (some .boolean) ∈ jB := jB_3 223 rfl rfl
set_option maxRecDepth 20000 in
theorem m3_224 : Cond.methodLink RX10 109 yX10_readColourOf ∈ jB := jB_3 224 rfl rfl
set_option maxRecDepth 20000 in
theorem m3_226 : Cond.instanceMethod yX10_readColourOf ∈ jB := jB_3 226 rfl rfl
set_option maxRecDepth 20000 in
theorem m3_227 : Cond.code yX10_readColourOf cX10_readColourOf 1 (some .boolean) ∈ jB := jB_3 227 rfl rfl
set_option maxRecDepth 20000 in
theorem m3_228 : Cond.methodLink RX10 112 yX10_readDealOf ∈ jB := jB_3 228 rfl rfl
set_option maxRecDepth 20000 in
theorem m3_230 : Cond.instanceMethod yX10_readDealOf ∈ jB := jB_3 230 rfl rfl
set_option maxRecDepth 20000 in
theorem m3_231 : Cond.code yX10_readDealOf cX10_readDealOf 3 (some .boolean) ∈ jB := jB_3 231 rfl rfl
set_option maxRecDepth 20000 in
theorem m3_232 : Cond.methodLink RL 30 yX10_lay ∈ jB := jB_3 232 rfl rfl
set_option maxRecDepth 20000 in
theorem m3_233 : Cond.instanceMethod yX10_lay ∈ jB := jB_3 233 rfl rfl
set_option maxRecDepth 20000 in
theorem m3_234 : Cond.selects RX10 yX10_lay yX10_lay ∈ jB := jB_3 234 rfl rfl
set_option maxRecDepth 20000 in
theorem m3_235 : Cond.code yX10_lay cX10_lay 1 (some .int) ∈ jB := jB_3 235 rfl rfl
set_option maxRecDepth 20000 in
theorem m3_236 : Cond.methodLink RX10 119 yX10_fault ∈ jB := jB_3 236 rfl rfl
set_option maxRecDepth 20000 in
theorem m3_237 : Cond.methodLink RL 34 yX10_at ∈ jB := jB_3 237 rfl rfl
set_option maxRecDepth 20000 in
theorem m3_238 : Cond.instanceMethod yX10_at ∈ jB := jB_3 238 rfl rfl
set_option maxRecDepth 20000 in
theorem m3_239 : Cond.selects RX10 yX10_at yX10_at ∈ jB := jB_3 239 rfl rfl
set_option maxRecDepth 20000 in
theorem m4_0 : Cond.code yX10_at cX10_at 2 (some .int) ∈ jB := jB_4 0 rfl rfl
set_option maxRecDepth 20000 in
theorem m4_1 : Cond.methodLink RX10 159 yX10_isCard ∈ jB := jB_4 1 rfl rfl
set_option maxRecDepth 20000 in
theorem m4_3 : Cond.instanceMethod yX10_isCard ∈ jB := jB_4 3 rfl rfl
set_option maxRecDepth 20000 in
theorem m4_4 : Cond.code yX10_isCard cX10_isCard 2 (some .boolean) ∈ jB := jB_4 4 rfl rfl
set_option maxRecDepth 20000 in
theorem m4_5 : Cond.methodLink RL 38 yX10_where ∈ jB := jB_4 5 rfl rfl
set_option maxRecDepth 20000 in
theorem m4_6 : Cond.instanceMethod yX10_where ∈ jB := jB_4 6 rfl rfl
set_option maxRecDepth 20000 in
theorem m4_7 : Cond.selects RX10 yX10_where yX10_where ∈ jB := jB_4 7 rfl rfl
set_option maxRecDepth 20000 in
theorem m4_8 : Cond.code yX10_where cX10_where 2 (some .int) ∈ jB := jB_4 8 rfl rfl
set_option maxRecDepth 20000 in
theorem m4_9 : Cond.methodLink RX10 162 yX10_asItIs ∈ jB := jB_4 9 rfl rfl
set_option maxRecDepth 20000 in
theorem m4_11 : Cond.instanceMethod yX10_asItIs ∈ jB := jB_4 11 rfl rfl
set_option maxRecDepth 20000 in
theorem m4_12 : Cond.code yX10_asItIs cX10_asItIs 1 none ∈ jB := jB_4 12 rfl rfl
set_option maxRecDepth 20000 in
theorem m4_13 : Cond.methodLink RX10 165 yX10_placeOf ∈ jB := jB_4 13 rfl rfl
set_option maxRecDepth 20000 in
theorem m4_15 : Cond.instanceMethod yX10_placeOf ∈ jB := jB_4 15 rfl rfl
set_option maxRecDepth 20000 in
theorem m4_16 : Cond.code yX10_placeOf cX10_placeOf 3 (some .int) ∈ jB := jB_4 16 rfl rfl
set_option maxRecDepth 20000 in
theorem m4_17 : Cond.methodLink RL 42 yX10_colour ∈ jB := jB_4 17 rfl rfl
set_option maxRecDepth 20000 in
theorem m4_18 : Cond.instanceMethod yX10_colour ∈ jB := jB_4 18 rfl rfl
set_option maxRecDepth 20000 in
theorem m4_19 : Cond.selects RX10 yX10_colour yX10_colour ∈ jB := jB_4 19 rfl rfl
set_option maxRecDepth 20000 in
theorem m4_20 : Cond.code yX10_colour cX10_colour 2 (some .int) ∈ jB := jB_4 20 rfl rfl
set_option maxRecDepth 20000 in
theorem m4_21 : Cond.methodLink RL 46 yX10_lace ∈ jB := jB_4 21 rfl rfl
set_option maxRecDepth 20000 in
theorem m4_22 : Cond.instanceMethod yX10_lace ∈ jB := jB_4 22 rfl rfl
set_option maxRecDepth 20000 in
theorem m4_23 : Cond.selects RX10 yX10_lace yX10_lace ∈ jB := jB_4 23 rfl rfl
set_option maxRecDepth 20000 in
theorem m4_24 : Cond.code yX10_lace cX10_lace 2 (some .int) ∈ jB := jB_4 24 rfl rfl
set_option maxRecDepth 20000 in
theorem m4_25 : Cond.methodLink RX10 171 yX10_isKind ∈ jB := jB_4 25 rfl rfl
set_option maxRecDepth 20000 in
theorem m4_26 : Cond.static yX10_isKind ∈ jB := jB_4 26 rfl rfl
set_option maxRecDepth 20000 in
theorem m4_27 : Cond.code yX10_isKind cX10_isKind 1 (some .boolean) ∈ jB := jB_4 27 rfl rfl
set_option maxRecDepth 20000 in
theorem m4_28 : Cond.methodLink RX10 174 yX10_does ∈ jB := jB_4 28 rfl rfl
set_option maxRecDepth 20000 in
theorem m4_30 : Cond.instanceMethod yX10_does ∈ jB := jB_4 30 rfl rfl
set_option maxRecDepth 20000 in
theorem m4_31 : Cond.code yX10_does cX10_does 2 (some .int) ∈ jB := jB_4 31 rfl rfl
set_option maxRecDepth 20000 in
theorem m4_32 : Cond.methodLink RX10 168 yX10_remembers ∈ jB := jB_4 32 rfl rfl
set_option maxRecDepth 20000 in
theorem m4_34 : Cond.instanceMethod yX10_remembers ∈ jB := jB_4 34 rfl rfl
set_option maxRecDepth 20000 in
theorem m4_35 : Cond.code yX10_remembers cX10_remembers 2 none ∈ jB := jB_4 35 rfl rfl
set_option maxRecDepth 20000 in
theorem m4_36 : Cond.methodLink RX10 157 yX10_acts ∈ jB := jB_4 36 rfl rfl
set_option maxRecDepth 20000 in
theorem m4_38 : Cond.instanceMethod yX10_acts ∈ jB := jB_4 38 rfl rfl
set_option maxRecDepth 20000 in
theorem m4_39 : Cond.code yX10_acts cX10_acts 5 none ∈ jB := jB_4 39 rfl rfl
set_option maxRecDepth 20000 in
theorem m4_40 : Cond.methodLink RX10 143 yX10_falls ∈ jB := jB_4 40 rfl rfl
set_option maxRecDepth 20000 in
theorem m4_42 : Cond.instanceMethod yX10_falls ∈ jB := jB_4 42 rfl rfl
set_option maxRecDepth 20000 in
theorem m4_43 : Cond.code yX10_falls cX10_falls 6 none ∈ jB := jB_4 43 rfl rfl
set_option maxRecDepth 20000 in
theorem m4_44 : Cond.methodLink RX10 147 yX10_milks ∈ jB := jB_4 44 rfl rfl
set_option maxRecDepth 20000 in
theorem m4_46 : Cond.instanceMethod yX10_milks ∈ jB := jB_4 46 rfl rfl
set_option maxRecDepth 20000 in
theorem m4_47 : Cond.code yX10_milks cX10_milks 2 none ∈ jB := jB_4 47 rfl rfl
set_option maxRecDepth 20000 in
theorem m4_48 : Cond.methodLink RX10 150 yX10_under ∈ jB := jB_4 48 rfl rfl
set_option maxRecDepth 20000 in
theorem m4_50 : Cond.instanceMethod yX10_under ∈ jB := jB_4 50 rfl rfl
set_option maxRecDepth 20000 in
theorem m4_51 : Cond.code yX10_under cX10_under 4 none ∈ jB := jB_4 51 rfl rfl
set_option maxRecDepth 20000 in
theorem m4_52 : Cond.methodLink RX10 153 yX10_cuts ∈ jB := jB_4 52 rfl rfl
set_option maxRecDepth 20000 in
theorem m4_54 : Cond.instanceMethod yX10_cuts ∈ jB := jB_4 54 rfl rfl
set_option maxRecDepth 20000 in
theorem m4_55 : Cond.code yX10_cuts cX10_cuts 3 none ∈ jB := jB_4 55 rfl rfl
set_option maxRecDepth 20000 in
theorem m4_56 : Cond.methodLink RL 50 yX10_cut ∈ jB := jB_4 56 rfl rfl
set_option maxRecDepth 20000 in
theorem m4_57 : Cond.instanceMethod yX10_cut ∈ jB := jB_4 57 rfl rfl
set_option maxRecDepth 20000 in
theorem m4_58 : Cond.selects RX10 yX10_cut yX10_cut ∈ jB := jB_4 58 rfl rfl
set_option maxRecDepth 20000 in
theorem m4_59 : Cond.code yX10_cut cX10_cut 2 (some .int) ∈ jB := jB_4 59 rfl rfl
set_option maxRecDepth 20000 in
theorem m4_60 : Cond.methodLink RL 54 yX10_turn ∈ jB := jB_4 60 rfl rfl
set_option maxRecDepth 20000 in
theorem m4_61 : Cond.instanceMethod yX10_turn ∈ jB := jB_4 61 rfl rfl
set_option maxRecDepth 20000 in
theorem m4_62 : Cond.selects RX10 yX10_turn yX10_turn ∈ jB := jB_4 62 rfl rfl
set_option maxRecDepth 20000 in
theorem m4_63 : Cond.code yX10_turn cX10_turn 1 (some .int) ∈ jB := jB_4 63 rfl rfl
set_option maxRecDepth 20000 in
theorem m4_64 : Cond.methodLink RL 58 yX10_deal ∈ jB := jB_4 64 rfl rfl
set_option maxRecDepth 20000 in
theorem m4_65 : Cond.instanceMethod yX10_deal ∈ jB := jB_4 65 rfl rfl
set_option maxRecDepth 20000 in
theorem m4_66 : Cond.selects RX10 yX10_deal yX10_deal ∈ jB := jB_4 66 rfl rfl
set_option maxRecDepth 20000 in
theorem m4_67 : Cond.code yX10_deal cX10_deal 1 (some .int) ∈ jB := jB_4 67 rfl rfl
set_option maxRecDepth 20000 in
theorem m4_68 : Cond.methodLink RX10 177 yX10_deals ∈ jB := jB_4 68 rfl rfl
set_option maxRecDepth 20000 in
theorem m4_70 : Cond.instanceMethod yX10_deals ∈ jB := jB_4 70 rfl rfl
set_option maxRecDepth 20000 in
theorem m4_71 : Cond.code yX10_deals cX10_deals 2 none ∈ jB := jB_4 71 rfl rfl
set_option maxRecDepth 20000 in
theorem m4_72 : Cond.methodLink RL 62 yX10_undo ∈ jB := jB_4 72 rfl rfl
set_option maxRecDepth 20000 in
theorem m4_73 : Cond.instanceMethod yX10_undo ∈ jB := jB_4 73 rfl rfl
set_option maxRecDepth 20000 in
theorem m4_74 : Cond.selects RX10 yX10_undo yX10_undo ∈ jB := jB_4 74 rfl rfl
set_option maxRecDepth 20000 in
theorem m4_75 : Cond.code yX10_undo cX10_undo 1 (some .int) ∈ jB := jB_4 75 rfl rfl
set_option maxRecDepth 20000 in
theorem m4_76 : Cond.methodLink RL 66 yX10_again ∈ jB := jB_4 76 rfl rfl
set_option maxRecDepth 20000 in
theorem m4_77 : Cond.instanceMethod yX10_again ∈ jB := jB_4 77 rfl rfl
set_option maxRecDepth 20000 in
theorem m4_78 : Cond.selects RX10 yX10_again yX10_again ∈ jB := jB_4 78 rfl rfl
set_option maxRecDepth 20000 in
theorem m4_79 : Cond.code yX10_again cX10_again 4 (some .int) ∈ jB := jB_4 79 rfl rfl
set_option maxRecDepth 20000 in
theorem m4_80 : Cond.methodLink RX10 180 yX10_isInOrder ∈ jB := jB_4 80 rfl rfl
set_option maxRecDepth 20000 in
theorem m4_82 : Cond.instanceMethod yX10_isInOrder ∈ jB := jB_4 82 rfl rfl
set_option maxRecDepth 20000 in
theorem m4_83 : Cond.code yX10_isInOrder cX10_isInOrder 3 (some .boolean) ∈ jB := jB_4 83 rfl rfl
set_option maxRecDepth 20000 in
theorem m4_84 : Cond.methodLink RL 71 yX10_round ∈ jB := jB_4 84 rfl rfl
set_option maxRecDepth 20000 in
theorem m4_85 : Cond.instanceMethod yX10_round ∈ jB := jB_4 85 rfl rfl
set_option maxRecDepth 20000 in
theorem m4_86 : Cond.selects RX10 yX10_round yX10_round ∈ jB := jB_4 86 rfl rfl
set_option maxRecDepth 20000 in
theorem m4_87 : Cond.code yX10_round cX10_round 5 (some .int) ∈ jB := jB_4 87 rfl rfl
set_option maxRecDepth 20000 in
theorem m4_88 : Cond.methodLink RL 75 yX10_rounds ∈ jB := jB_4 88 rfl rfl
set_option maxRecDepth 20000 in
theorem m4_89 : Cond.instanceMethod yX10_rounds ∈ jB := jB_4 89 rfl rfl
set_option maxRecDepth 20000 in
theorem m4_90 : Cond.selects RX10 yX10_rounds yX10_rounds ∈ jB := jB_4 90 rfl rfl
set_option maxRecDepth 20000 in
theorem m4_91 : Cond.code yX10_rounds cX10_rounds 6 (some .int) ∈ jB := jB_4 91 rfl rfl
set_option maxRecDepth 20000 in
theorem m4_92 : Cond.methodLink RL 80 yX10_bring ∈ jB := jB_4 92 rfl rfl
set_option maxRecDepth 20000 in
theorem m4_93 : Cond.instanceMethod yX10_bring ∈ jB := jB_4 93 rfl rfl
set_option maxRecDepth 20000 in
theorem m4_94 : Cond.selects RX10 yX10_bring yX10_bring ∈ jB := jB_4 94 rfl rfl
set_option maxRecDepth 20000 in
theorem m4_95 : Cond.code yX10_bring cX10_bring 8 (some .int) ∈ jB := jB_4 95 rfl rfl
set_option maxRecDepth 20000 in
theorem m4_96 : Cond.methodLink RX10 186 yX10_findFar ∈ jB := jB_4 96 rfl rfl
set_option maxRecDepth 20000 in
theorem m4_98 : Cond.instanceMethod yX10_findFar ∈ jB := jB_4 98 rfl rfl
set_option maxRecDepth 20000 in
theorem m4_99 : Cond.code yX10_findFar cX10_findFar 5 none ∈ jB := jB_4 99 rfl rfl
set_option maxRecDepth 20000 in
theorem m4_100 : Cond.methodLink RX10 183 yX10_findGoes ∈ jB := jB_4 100 rfl rfl
set_option maxRecDepth 20000 in
theorem m4_102 : Cond.instanceMethod yX10_findGoes ∈ jB := jB_4 102 rfl rfl
set_option maxRecDepth 20000 in
theorem m4_103 : Cond.code yX10_findGoes cX10_findGoes 3 none ∈ jB := jB_4 103 rfl rfl
set_option maxRecDepth 20000 in
theorem m4_104 : Cond.methodLink RL 84 yX10_beside ∈ jB := jB_4 104 rfl rfl
set_option maxRecDepth 20000 in
theorem m4_105 : Cond.instanceMethod yX10_beside ∈ jB := jB_4 105 rfl rfl
set_option maxRecDepth 20000 in
theorem m4_106 : Cond.selects RX10 yX10_beside yX10_beside ∈ jB := jB_4 106 rfl rfl
set_option maxRecDepth 20000 in
theorem m4_107 : Cond.code yX10_beside cX10_beside 11 (some .int) ∈ jB := jB_4 107 rfl rfl
set_option maxRecDepth 20000 in
theorem m4_108 : Cond.methodLink RL 88 yX10_orders ∈ jB := jB_4 108 rfl rfl
set_option maxRecDepth 20000 in
theorem m4_109 : Cond.instanceMethod yX10_orders ∈ jB := jB_4 109 rfl rfl
set_option maxRecDepth 20000 in
theorem m4_110 : Cond.selects RX10 yX10_orders yX10_orders ∈ jB := jB_4 110 rfl rfl
set_option maxRecDepth 20000 in
theorem m4_111 : Cond.code yX10_orders cX10_orders 5 (some .int) ∈ jB := jB_4 111 rfl rfl
set_option maxRecDepth 20000 in
theorem m4_112 : Cond.methodLink RX10 192 yX10_isMet ∈ jB := jB_4 112 rfl rfl
set_option maxRecDepth 20000 in
theorem m4_114 : Cond.instanceMethod yX10_isMet ∈ jB := jB_4 114 rfl rfl
set_option maxRecDepth 20000 in
theorem m4_115 : Cond.code yX10_isMet cX10_isMet 5 (some .boolean) ∈ jB := jB_4 115 rfl rfl
set_option maxRecDepth 20000 in
theorem m4_116 : Cond.methodLink RL 92 yX10_rising ∈ jB := jB_4 116 rfl rfl
set_option maxRecDepth 20000 in
theorem m4_117 : Cond.instanceMethod yX10_rising ∈ jB := jB_4 117 rfl rfl
set_option maxRecDepth 20000 in
theorem m4_118 : Cond.selects RX10 yX10_rising yX10_rising ∈ jB := jB_4 118 rfl rfl
set_option maxRecDepth 20000 in
theorem m4_119 : Cond.code yX10_rising cX10_rising 1 (some .int) ∈ jB := jB_4 119 rfl rfl
set_option maxRecDepth 20000 in
theorem m4_120 : Cond.methodLink RX10 195 yX10_risingNow ∈ jB := jB_4 120 rfl rfl
set_option maxRecDepth 20000 in
theorem m4_122 : Cond.instanceMethod yX10_risingNow ∈ jB := jB_4 122 rfl rfl
set_option maxRecDepth 20000 in
theorem m4_123 : Cond.code yX10_risingNow cX10_risingNow 3 (some .int) ∈ jB := jB_4 123 rfl rfl
set_option maxRecDepth 20000 in
theorem m4_124 : Cond.methodLink RL 96 yX10_pairs ∈ jB := jB_4 124 rfl rfl
set_option maxRecDepth 20000 in
theorem m4_125 : Cond.instanceMethod yX10_pairs ∈ jB := jB_4 125 rfl rfl
set_option maxRecDepth 20000 in
theorem m4_126 : Cond.selects RX10 yX10_pairs yX10_pairs ∈ jB := jB_4 126 rfl rfl
set_option maxRecDepth 20000 in
theorem m4_127 : Cond.code yX10_pairs cX10_pairs 1 (some .int) ∈ jB := jB_4 127 rfl rfl
set_option maxRecDepth 20000 in
theorem m4_128 : Cond.methodLink RX10 198 yX10_unlike ∈ jB := jB_4 128 rfl rfl
set_option maxRecDepth 20000 in
theorem m4_130 : Cond.instanceMethod yX10_unlike ∈ jB := jB_4 130 rfl rfl
set_option maxRecDepth 20000 in
theorem m4_131 : Cond.code yX10_unlike cX10_unlike 4 (some .int) ∈ jB := jB_4 131 rfl rfl
set_option maxRecDepth 20000 in
theorem m4_132 : Cond.methodLink RL 100 yX10_sure ∈ jB := jB_4 132 rfl rfl
set_option maxRecDepth 20000 in
theorem m4_133 : Cond.instanceMethod yX10_sure ∈ jB := jB_4 133 rfl rfl
set_option maxRecDepth 20000 in
theorem m4_134 : Cond.selects RX10 yX10_sure yX10_sure ∈ jB := jB_4 134 rfl rfl
set_option maxRecDepth 20000 in
theorem m4_135 : Cond.code yX10_sure cX10_sure 10 (some .int) ∈ jB := jB_4 135 rfl rfl
set_option maxRecDepth 20000 in
theorem m4_136 : Cond.methodLink RX10 202 yX10_bits ∈ jB := jB_4 136 rfl rfl
set_option maxRecDepth 20000 in
theorem m4_137 : Cond.static yX10_bits ∈ jB := jB_4 137 rfl rfl
set_option maxRecDepth 20000 in
theorem m4_138 : Cond.code yX10_bits cX10_bits 3 (some .int) ∈ jB := jB_4 138 rfl rfl
set_option maxRecDepth 20000 in
theorem m4_139 : Cond.methodLink RX10 205 yX10_lowest ∈ jB := jB_4 139 rfl rfl
set_option maxRecDepth 20000 in
theorem m4_140 : Cond.static yX10_lowest ∈ jB := jB_4 140 rfl rfl
set_option maxRecDepth 20000 in
theorem m4_141 : Cond.code yX10_lowest cX10_lowest 6 (some .int) ∈ jB := jB_4 141 rfl rfl
set_option maxRecDepth 20000 in
theorem m4_142 : Cond.methodLink RL 104 yX10_seen ∈ jB := jB_4 142 rfl rfl
set_option maxRecDepth 20000 in
theorem m4_143 : Cond.instanceMethod yX10_seen ∈ jB := jB_4 143 rfl rfl
set_option maxRecDepth 20000 in
theorem m4_144 : Cond.selects RX10 yX10_seen yX10_seen ∈ jB := jB_4 144 rfl rfl
set_option maxRecDepth 20000 in
theorem m4_145 : Cond.code yX10_seen cX10_seen 3 (some .int) ∈ jB := jB_4 145 rfl rfl
set_option maxRecDepth 20000 in
theorem m4_146 : Cond.methodLink RL 108 yX10_forget ∈ jB := jB_4 146 rfl rfl
set_option maxRecDepth 20000 in
theorem m4_147 : Cond.instanceMethod yX10_forget ∈ jB := jB_4 147 rfl rfl
set_option maxRecDepth 20000 in
theorem m4_148 : Cond.selects RX10 yX10_forget yX10_forget ∈ jB := jB_4 148 rfl rfl
set_option maxRecDepth 20000 in
theorem m4_149 : Cond.code yX10_forget cX10_forget 2 (some .int) ∈ jB := jB_4 149 rfl rfl
set_option maxRecDepth 20000 in
theorem m4_150 : Cond.methodLink RL 112 yX10_done ∈ jB := jB_4 150 rfl rfl
set_option maxRecDepth 20000 in
theorem m4_151 : Cond.instanceMethod yX10_done ∈ jB := jB_4 151 rfl rfl
set_option maxRecDepth 20000 in
theorem m4_152 : Cond.selects RX10 yX10_done yX10_done ∈ jB := jB_4 152 rfl rfl
set_option maxRecDepth 20000 in
theorem m4_153 : Cond.code yX10_done cX10_done 4 (some .int) ∈ jB := jB_4 153 rfl rfl
set_option maxRecDepth 20000 in
theorem m4_154 : Cond.methodLink RX10 209 yX10_isBy ∈ jB := jB_4 154 rfl rfl
set_option maxRecDepth 20000 in
theorem m4_156 : Cond.instanceMethod yX10_isBy ∈ jB := jB_4 156 rfl rfl
set_option maxRecDepth 20000 in
theorem m4_157 : Cond.code yX10_isBy cX10_isBy 4 (some .boolean) ∈ jB := jB_4 157 rfl rfl
set_option maxRecDepth 20000 in
theorem m4_158 : Cond.methodLink RL 117 yX10_likely ∈ jB := jB_4 158 rfl rfl
set_option maxRecDepth 20000 in
theorem m4_159 : Cond.instanceMethod yX10_likely ∈ jB := jB_4 159 rfl rfl
set_option maxRecDepth 20000 in
theorem m4_160 : Cond.selects RX10 yX10_likely yX10_likely ∈ jB := jB_4 160 rfl rfl
set_option maxRecDepth 20000 in
theorem m4_161 : Cond.code yX10_likely cX10_likely 14 (some .int) ∈ jB := jB_4 161 rfl rfl
set_option maxRecDepth 20000 in
theorem m4_162 : Cond.methodLink RL 121 yX10_dealing ∈ jB := jB_4 162 rfl rfl
set_option maxRecDepth 20000 in
theorem m4_163 : Cond.instanceMethod yX10_dealing ∈ jB := jB_4 163 rfl rfl
set_option maxRecDepth 20000 in
theorem m4_164 : Cond.selects RX10 yX10_dealing yX10_dealing ∈ jB := jB_4 164 rfl rfl
set_option maxRecDepth 20000 in
theorem m4_165 : Cond.code yX10_dealing cX10_dealing 9 (some .int) ∈ jB := jB_4 165 rfl rfl
set_option maxRecDepth 20000 in
theorem m4_166 : Cond.constantLong RX10 212 7919 ∈ jB := jB_4 166 rfl rfl
set_option maxRecDepth 20000 in
theorem m4_167 : Cond.constantLong RX10 214 6151 ∈ jB := jB_4 167 rfl rfl
set_option maxRecDepth 20000 in
theorem m4_168 : Cond.constantLong RX10 216 65521 ∈ jB := jB_4 168 rfl rfl
set_option maxRecDepth 20000 in
theorem m4_169 : Cond.constantLong RX10 218 2 ∈ jB := jB_4 169 rfl rfl
set_option maxRecDepth 20000 in
theorem m4_170 : Cond.methodLink RL 125 yX10_keep ∈ jB := jB_4 170 rfl rfl
set_option maxRecDepth 20000 in
theorem m4_171 : Cond.instanceMethod yX10_keep ∈ jB := jB_4 171 rfl rfl
set_option maxRecDepth 20000 in
theorem m4_172 : Cond.selects RX10 yX10_keep yX10_keep ∈ jB := jB_4 172 rfl rfl
set_option maxRecDepth 20000 in
theorem m4_173 : Cond.code yX10_keep cX10_keep 1 (some .int) ∈ jB := jB_4 173 rfl rfl
set_option maxRecDepth 20000 in
theorem m4_174 : Cond.methodLink RL 129 yX10_back ∈ jB := jB_4 174 rfl rfl
set_option maxRecDepth 20000 in
theorem m4_175 : Cond.instanceMethod yX10_back ∈ jB := jB_4 175 rfl rfl
set_option maxRecDepth 20000 in
theorem m4_176 : Cond.selects RX10 yX10_back yX10_back ∈ jB := jB_4 176 rfl rfl
set_option maxRecDepth 20000 in
theorem m4_177 : Cond.code yX10_back cX10_back 1 (some .int) ∈ jB := jB_4 177 rfl rfl
set_option maxRecDepth 20000 in
theorem m4_178 : Cond.methodLink RL 133 yX10_count ∈ jB := jB_4 178 rfl rfl
set_option maxRecDepth 20000 in
theorem m4_179 : Cond.instanceMethod yX10_count ∈ jB := jB_4 179 rfl rfl
set_option maxRecDepth 20000 in
theorem m4_180 : Cond.selects RX10 yX10_count yX10_count ∈ jB := jB_4 180 rfl rfl
set_option maxRecDepth 20000 in
theorem m4_181 : Cond.code yX10_count cX10_count 2 (some .int) ∈ jB := jB_4 181 rfl rfl
end
section
/-! calls: a callee's contract used in a walk -/
/-- cells put into their places of a world -/
def jput (w : va_W) (is : List Nat) (w1 : va_W) : va_W := (is.zip w1).foldl (fun a q => a.set q.1 q.2) w
theorem jput_nil (w w1 : va_W) : jput w [] w1 = w := rfl
theorem jput_cons (w : va_W) (i : Nat) (is : List Nat) (q : Nat × va_E) (w1 : va_W) : jput w (i :: is) (q :: w1) = jput (w.set i q) is w1 := rfl
theorem jput_P {D : va_G} {cl : List vw_C} {H : Heap} : ∀ (is : List Nat) (w w1 : va_W), is.length = w1.length → (∀ (k : Nat) (q : Nat × va_E), w[k]? = some q → k ∉ is → va_at D cl q H) → (∀ q ∈ w1, va_at D cl q H) → va_P D cl (jput w is w1) H
  | [], w, w1, _, h, _ => fun k q hk => h k q hk List.not_mem_nil
  | i :: is, w, [], hl, _, _ => by cases hl
  | i :: is, w, q :: w1, hl, h, h1 => by
    refine jput_P is (w.set i q) w1 (Nat.succ.inj hl) (fun k x hk hn => ?_) (fun x hx => h1 x (List.mem_cons_of_mem _ hx))
    by_cases e : k = i
    · subst e
      rw [List.getElem?_set] at hk
      simp only [if_true] at hk
      by_cases e2 : k < w.length
      · rw [if_pos e2] at hk
        cases hk
        exact h1 _ List.mem_cons_self
      · rw [if_neg e2] at hk
        cases hk
    · rw [List.getElem?_set_ne (Ne.symm e)] at hk
      exact h k x hk (fun z => (List.mem_cons.mp z).elim e hn)
theorem jput_fst : ∀ (is : List Nat) (w w1 : va_W), is.map (fun i => (w.map Prod.fst)[i]?) = w1.map (fun q => some q.1) → (jput w is w1).map Prod.fst = w.map Prod.fst
  | [], w, w1, _ => rfl
  | i :: is, w, [], h => by cases h
  | i :: is, w, q :: w1, h => by
    have h1 : (w.map Prod.fst)[i]? = some q.1 := (List.cons.inj h).1
    have e : (w.set i q).map Prod.fst = w.map Prod.fst := by
      rw [List.map_set]
      obtain ⟨hi, he⟩ := List.getElem?_eq_some_iff.mp h1
      rw [← he, List.set_getElem_self]
    rw [jput_cons, jput_fst is (w.set i q) w1 (by rw [e]; exact (List.cons.inj h).2), e]
theorem va_D_fst {A : Nat → Prop} {w w' : va_W} (h : va_D A w) (e : w'.map Prod.fst = w.map Prod.fst) : va_D A w' := by
  have at' : ∀ (k : Nat) (q : Nat × va_E), w'[k]? = some q → ∃ q', w[k]? = some q' ∧ q'.1 = q.1 := by
    intro k q hk
    have h1 : (w'.map Prod.fst)[k]? = some q.1 := by rw [List.getElem?_map, hk]; rfl
    rw [e, List.getElem?_map] at h1
    cases h2 : w[k]? with
    | none => rw [h2] at h1; cases h1
    | some z => rw [h2] at h1; exact ⟨z, rfl, Option.some.inj h1⟩
  refine ⟨fun i j p q hi hj hpq => ?_, fun k q hk => ?_⟩
  · obtain ⟨p', h1, h2⟩ := at' i p hi
    obtain ⟨q', h3, h4⟩ := at' j q hj
    exact h.1 i j p' q' h1 h3 (h2.trans (hpq.trans h4.symm))
  · obtain ⟨q', h1, h2⟩ := at' k q hk
    rw [← h2]
    exact h.2 k q' h1
/-- what a callee is, by the tables -/
def jCS (Kc : jK) (nA : Nat) : Prop := Cond.code Kc.2.2.2.1 Kc.1 Kc.2.1 Kc.2.2.1 ∈ jB ∧ Cond.static Kc.2.2.2.1 ∈ jB ∧ Cond.initialized Kc.2.2.2.1.cls ∈ jB ∧ Kc.2.2.2.1.cls ≠ "java/lang/invoke/MethodHandle" ∧ Kc.2.2.2.1.cls ≠ "java/lang/invoke/VarHandle" ∧ (parseMethodDescriptor Kc.2.2.2.1.desc).map (fun d => d.parameters.length) = some nA
def jCV (Kc : jK) (nA : Nat) : Prop := Cond.code Kc.2.2.2.1 Kc.1 Kc.2.1 Kc.2.2.1 ∈ jB ∧ Cond.instanceMethod Kc.2.2.2.1 ∈ jB ∧ Cond.selects Kc.2.2.2.1.cls Kc.2.2.2.1 Kc.2.2.2.1 ∈ jB ∧ Cond.initialized Kc.2.2.2.1.cls ∈ jB ∧ Kc.2.2.2.1.cls ≠ "java/lang/invoke/MethodHandle" ∧ Kc.2.2.2.1.cls ≠ "java/lang/invoke/VarHandle" ∧ (parseMethodDescriptor Kc.2.2.2.1.desc).map (fun d => d.parameters.length) = some nA
def jCI (Kc : jK) (nA : Nat) : Prop := Cond.code Kc.2.2.2.1 Kc.1 Kc.2.1 none ∈ jB ∧ Kc.2.2.1 = none ∧ Cond.instanceMethod Kc.2.2.2.1 ∈ jB ∧ Cond.initialized Kc.2.2.2.1.cls ∈ jB ∧ Kc.2.2.2.1.name = "<init>" ∧ Kc.2.2.2.1.cls ≠ "java/lang/invoke/MethodHandle" ∧ Kc.2.2.2.1.cls ≠ "java/lang/invoke/VarHandle" ∧ (parseMethodDescriptor Kc.2.2.2.1.desc).map (fun d => d.parameters.length) = some nA
theorem j_goodL : ∀ {hd : List Cond} {w : Cond}, (∀ x ∈ hd, x ∈ jB) → w ∈ jB → GoodIn jB (hd ++ w :: jB) := by
  intro hd w h hc x hx
  have hm : x ∈ jB := by
    rcases List.mem_append.mp hx with q | q
    · exact h x q
    · rcases List.mem_cons.mp q with q | q
      · rw [q]; exact hc
      · exact q
  exact ⟨hm, jB_good hm⟩
theorem j_good0 {w : Cond} (hc : w ∈ jB) : GoodIn jB (w :: jB) := j_goodL (hd := []) (fun _ h => absurd h List.not_mem_nil) hc
theorem j_goodS {own : String} {idx : Nat} {y : MethodName} {w : Cond} (h1 : Cond.methodLink own idx y ∈ jB) (h2 : Cond.static y ∈ jB) (h3 : Cond.initialized y.cls ∈ jB) (hc : w ∈ jB) : GoodIn jB (va_wsS own idx y (w :: jB)) :=
  j_goodL (hd := [.methodLink own idx y, .static y, .initialized y.cls]) (List.forall_mem_cons.mpr ⟨h1, List.forall_mem_cons.mpr ⟨h2, List.forall_mem_cons.mpr ⟨h3, fun _ h => absurd h List.not_mem_nil⟩⟩⟩) hc
theorem j_goodV {own C : String} {idx : Nat} {y : MethodName} {w : Cond} (h1 : Cond.methodLink own idx y ∈ jB) (h2 : Cond.instanceMethod y ∈ jB) (h3 : Cond.selects C y y ∈ jB) (h4 : Cond.initialized C ∈ jB) (hc : w ∈ jB) : GoodIn jB (wsV own idx C y (w :: jB)) :=
  j_goodL (hd := [.methodLink own idx y, .instanceMethod y, .selects C y y, .initialized C]) (List.forall_mem_cons.mpr ⟨h1, List.forall_mem_cons.mpr ⟨h2, List.forall_mem_cons.mpr ⟨h3, List.forall_mem_cons.mpr ⟨h4, fun _ h => absurd h List.not_mem_nil⟩⟩⟩⟩) hc
section JCALL
variable {p : Program} {l : Launch} {e : Env} {R : Room} {s : State} {m : MethodId} {args : Array Value} {below : List Frame} {meth : Method} {c : Code} {H : Heap} {locs : List Loc} {cells slots : Nat} {Q : State → Prop} {ls : Array Slot}
/-- behind a call -/
theorem j_back {E : jE} {mc ms pc : Nat} {rest st0 : List Value} {Po : Option Value → va_W → Prop} {A A1 : Nat → Prop} {H0 : Heap} {a : Array Value} (hr : va_Run p l e R s m args below meth c H locs cells slots mc ms (F0 m pc ls st0) rest (jQ E Po A1 a) A1) (hS : va_S A H0 H locs) (hf : ∀ q, A1 q → A q)
    (kk : ∀ (r : Option Value) (w1 : va_W) (H1 : Heap) (locs1 : List Loc), Po r w1 → va_P E.1 vwCl w1 H1 → va_D A1 w1 → H.size ≤ H1.size → (∀ q : Nat, q < H.size → ¬ A1 q → H1[q]? = H[q]?) → va_S A H0 H1 locs1 → W p l e R s m args below meth c H1 locs1 (cells + mc) (slots + ms) Q (F0 m (pc + 3) ls (r.toList ++ rest))) : W p l e R s m args below meth c H locs cells slots Q (F0 m pc ls st0) := by
  intro T hT X
  obtain ⟨v, st₀, t, T', L, h0, X', hL, e1, e2, ⟨⟨r, w1, hv, hpo, hP1, hD1⟩, hz, hk⟩, st⟩ := hr T hT X
  cases hv
  rw [h0] at hz hk
  obtain ⟨t2, a1, b1⟩ := kk v w1 T'.heap (locs ++ L) hpo (by rw [e1]; exact hP1) hD1 (by rw [e1]; exact hz) (fun q h1 h2 => by rw [e1]; exact hk q h1 h2)
    ⟨Nat.le_trans hS.1 (by rw [e1]; exact hz), fun q h1 h2 => by rw [e1, hk q (Nat.lt_of_lt_of_le h1 hS.1) (fun z => h2 (hf q z))]; exact hS.2.1 q h1 h2, fun q hq => by
      rcases List.mem_append.mp hq with h | h
      · exact hS.2.2 q h
      · exact hf _ (hL q h)⟩ T' rfl X'
  exact ⟨t2, st t2 a1, b1⟩
theorem j_isC {w wc : va_W} {isC : List Nat} (hC : isC.map (fun i => w[i]?) = wc.map some) {k : Nat} {q : Nat × va_E} (hk : wc[k]? = some q) : ∃ i, isC[k]? = some i ∧ w[i]? = some q := by
  have h1 : (isC.map (fun i => w[i]?))[k]? = some (some q) := by rw [hC, List.getElem?_map, hk]; rfl
  rw [List.getElem?_map] at h1
  cases hi : isC[k]? with
  | none => rw [hi] at h1; cases h1
  | some i => rw [hi] at h1; exact ⟨i, rfl, Option.some.inj h1⟩
theorem j_Pc {D : va_G} {w wc : va_W} {isC : List Nat} {H : Heap} (hP : va_P D vwCl w H) (hC : isC.map (fun i => w[i]?) = wc.map some) : va_P D vwCl wc H := by
  intro k q hk
  obtain ⟨i, -, h⟩ := j_isC hC hk
  exact hP i q h
theorem j_free {A : Nat → Prop} {w wc : va_W} {isC : List Nat} {H0 H : Heap} {locs : List Loc} (hD : va_D A w) (hS : va_S A H0 H locs) (hA : ∀ q, H0.size ≤ q → A q) (hC : isC.map (fun i => w[i]?) = wc.map some) : ∀ q, va_A wc H.size q → A q := va_free hD hS hA isC hC
/-- the world behind a call that leaves its cells at their addresses -/
theorem j_put1 {D : va_G} {A : Nat → Prop} {w wc w1 w' : va_W} {isC : List Nat} {H H1 : Heap} (hP : va_P D vwCl w H) (hD : va_D A w) (hC : isC.map (fun i => w[i]?) = wc.map some) (hf : w1.map Prod.fst = wc.map Prod.fst) (hw : jput w isC w1 = w')
    (hk : ∀ q : Nat, q < H.size → ¬ va_A wc H.size q → H1[q]? = H[q]?) (hP1 : va_P D vwCl w1 H1) : va_P D vwCl w' H1 ∧ va_D A w' := by
  subst hw
  have hlen : isC.length = w1.length := by
    have h1 := congrArg List.length hC
    have h2 := congrArg List.length hf
    simp only [List.length_map] at h1 h2
    rw [h1, h2]
  refine ⟨jput_P isC w w1 hlen (fun k q hq hn => (hP k q hq).kept (hk q.1 (hP k q hq).lt (fun z => ?_))) (fun q hq => ?_), va_D_fst hD (jput_fst isC w w1 ?_)⟩
  · rcases z with ⟨j, x, hj⟩ | z
    · obtain ⟨i, h1, h2⟩ := j_isC hC hj
      have := hD.1 k i q (q.1, x) hq h2 rfl
      subst this
      exact hn (List.mem_of_getElem? h1)
    · exact absurd (hP k q hq).lt (Nat.not_lt.mpr z)
  · obtain ⟨j, hj⟩ := List.getElem?_of_mem hq
    exact hP1 j q hj
  · have e1 : isC.map (fun i => (w.map Prod.fst)[i]?) = (isC.map (fun i => w[i]?)).map (fun o => o.map Prod.fst) := by simp [List.map_map, Function.comp_def]
    have e2 : w1.map (fun q => some q.1) = (w1.map Prod.fst).map some := by simp [List.map_map, Function.comp_def]
    rw [e1, hC, e2, hf]
    simp [List.map_map, Function.comp_def]
variable {E : jE} {K Kc : jK} {A : Nat → Prop} {w wc : va_W} {isC : List Nat} {Po : Option Value → va_W → Prop} {As rest st0 : List Value} {idx nA pc : Nat}
theorem j_runS (X : jX E K p s m args meth c A) (hP : va_P E.1 vwCl w H) (hD : va_D A w) (hl : ls.size = K.2.1) (hM : jM l E Kc As wc Po) (hc : jCS Kc nA) (hlk : Cond.methodLink K.2.2.2.1.cls idx Kc.2.2.2.1 ∈ jB) (hn : As.length = nA) (hst : st0 = As.reverse ++ rest) (hrm : (rest.map fun v => v.category).sum ≤ 8) (hR : Kc.2.2.2.2.frames + 1 ≤ R.frames ∧ 8 + (Kc.2.1 + 11) + Kc.2.2.2.2.locals ≤ R.locals) (hcs : cells + Kc.2.2.2.2.cells ≤ R.cells ∧ slots + Kc.2.2.2.2.slots ≤ R.slots) (d : decode K.1 pc = .ok (.invokestatic idx, 3)) (hC : isC.map (fun i => w[i]?) = wc.map some) (hnd : va_nd isC = true) :
    va_Run p l e R s m args below meth c H locs cells slots Kc.2.2.2.2.cells Kc.2.2.2.2.slots (F0 m pc ls st0) rest (jQ E Po (va_A wc H.size) As.toArray) (va_A wc H.size) := by
  have hDc : va_D A wc := hD.sub isC hnd hC
  exact va_runS (nL := K.2.1) ⟨X.1, X.2.1, X.2.2.1, X.2.2.2.1, X.2.2.2.2.1⟩ (hM H.size) (va_cwS (ws := Cond.code Kc.2.2.2.1 Kc.1 Kc.2.1 Kc.2.2.1 :: jB) nA X.2.2.2.2.1 (j_goodS hlk hc.2.1 hc.2.2.1 hc.1) rfl rfl rfl ⟨hc.2.2.2.1, hc.2.2.2.2.1, hc.2.2.2.2.2⟩ hR) ⟨jP_blind, fun U hU hW => ⟨rfl, by rw [hU], by rw [hU]; exact j_Pc hP hC, va_K.moved hW.alike X.2.2.2.2.2.2.2.2.1, jN_warm hW X.2.2.2.2.2.2.2.2.2.1, hDc.weaken (fun _ _ _ _ => trivial)⟩⟩ rfl hn hl hst (lv_room hrm) d hcs
theorem j_runSN (host : String) (X : jX E K p s m args meth c A) (hP : va_P E.1 vwCl w H) (hD : va_D A w) (hl : ls.size = K.2.1) (hM : jM l E Kc As wc Po) (hc : jCS Kc nA) (hlk : Cond.methodLinkNest K.2.2.2.1.cls idx Kc.2.2.2.1 host ∈ jNl) (hn : As.length = nA) (hst : st0 = As.reverse ++ rest) (hrm : (rest.map fun v => v.category).sum ≤ 8) (hR : Kc.2.2.2.2.frames + 1 ≤ R.frames ∧ 8 + (Kc.2.1 + 11) + Kc.2.2.2.2.locals ≤ R.locals) (hcs : cells + Kc.2.2.2.2.cells ≤ R.cells ∧ slots + Kc.2.2.2.2.slots ≤ R.slots) (d : decode K.1 pc = .ok (.invokestatic idx, 3)) (hC : isC.map (fun i => w[i]?) = wc.map some) (hnd : va_nd isC = true) :
    va_Run p l e R s m args below meth c H locs cells slots Kc.2.2.2.2.cells Kc.2.2.2.2.slots (F0 m pc ls st0) rest (jQ E Po (va_A wc H.size) As.toArray) (va_A wc H.size) := by
  have hDc : va_D A wc := hD.sub isC hnd hC
  exact va_runSN (nL := K.2.1) ⟨X.1, X.2.1, X.2.2.1, X.2.2.2.1, X.2.2.2.2.1⟩ (hM H.size) ⟨va_cnB (ws := Cond.code Kc.2.2.2.1 Kc.1 Kc.2.1 Kc.2.2.1 :: jB) nA X.2.2.2.2.1 (j_good0 hc.1) rfl rfl rfl (X.2.2.2.2.2.2.2.2.2.1 _ hlk) (X.2.2.2.2.1 _ hc.2.2.1) ⟨hc.2.2.2.1, hc.2.2.2.2.1, hc.2.2.2.2.2⟩ hR, X.2.2.2.2.1 _ hc.2.1, trivial⟩ ⟨jP_blind, fun U hU hW => ⟨rfl, by rw [hU], by rw [hU]; exact j_Pc hP hC, va_K.moved hW.alike X.2.2.2.2.2.2.2.2.1, jN_warm hW X.2.2.2.2.2.2.2.2.2.1, hDc.weaken (fun _ _ _ _ => trivial)⟩⟩ rfl hn hl hst (lv_room hrm) d hcs
theorem j_runV {b q0 ci N : Nat} {C : String} {T : u_T} {fs : List Value} (X : jX E K p s m args meth c A) (hP : va_P E.1 vwCl w H) (hD : va_D A w) (hl : ls.size = K.2.1) (hb : w[q0]? = some (jO b ci fs)) (hcl : vwCl[ci]? = some (C, T, N)) (hCc : Kc.2.2.2.1.cls = C) (hM : jM l E Kc (.ref b :: As) wc Po) (hc : jCV Kc nA) (hlk : Cond.methodLink K.2.2.2.1.cls idx Kc.2.2.2.1 ∈ jB) (hn : As.length = nA) (hst : st0 = As.reverse ++ .ref b :: rest) (hrm : (rest.map fun v => v.category).sum ≤ 8) (hR : Kc.2.2.2.2.frames + 1 ≤ R.frames ∧ 8 + (Kc.2.1 + 11) + Kc.2.2.2.2.locals ≤ R.locals) (hcs : cells + Kc.2.2.2.2.cells ≤ R.cells ∧ slots + Kc.2.2.2.2.slots ≤ R.slots) (d : decode K.1 pc = .ok (.invokevirtual idx, 3)) (hC : isC.map (fun i => w[i]?) = wc.map some) (hnd : va_nd isC = true) :
    va_Run p l e R s m args below meth c H locs cells slots Kc.2.2.2.2.cells Kc.2.2.2.2.slots (F0 m pc ls st0) rest (jQ E Po (va_A wc H.size) (.ref b :: As).toArray) (va_A wc H.size) := by
  have hDc : va_D A wc := hD.sub isC hnd hC
  exact va_runV (nL := K.2.1) (C := Kc.2.2.2.1.cls) ⟨X.1, X.2.1, X.2.2.1, X.2.2.2.1, X.2.2.2.2.1⟩ (hM H.size) (cwV (ws := Cond.code Kc.2.2.2.1 Kc.1 Kc.2.1 Kc.2.2.1 :: jB) nA X.2.2.2.2.1 (j_goodV hlk hc.2.1 hc.2.2.1 hc.2.2.2.1 hc.1) rfl rfl rfl ⟨rfl, hc.2.2.2.2.1, hc.2.2.2.2.2.1, hc.2.2.2.2.2.2⟩ hR) ⟨jP_blind, hCc ▸ va_recv X.2.2.2.2.2.2.2.2.1 hP hcl hb, fun U hU hW => ⟨rfl, by rw [hU], by rw [hU]; exact j_Pc hP hC, va_K.moved hW.alike X.2.2.2.2.2.2.2.2.1, jN_warm hW X.2.2.2.2.2.2.2.2.2.1, hDc.weaken (fun _ _ _ _ => trivial)⟩⟩ rfl hn hl hst (lv_room hrm) d hcs
end JCALL
section JC2
variable {l : Launch} {E : jE} {K Kc : jK} {k n pc idx nA : Nat} {lv : List (Nat × Value)} {w wc : va_W} {Po : Option Value → va_W → Prop} {α β : Type} {As rest st0 : List Value} {fc : Option β} {g : β → Option α} {u : α}
/-- a static call without a world -/
theorem j_S0 {rv : β → Value} (h : fc.bind g = some u) (hM : ∀ b, fc = some b → jM l E Kc As [] (jd (some (rv b)) [])) (hc : jCS Kc nA) (hlk : Cond.methodLink K.2.2.2.1.cls idx Kc.2.2.2.1 ∈ jB) (hn : As.length = nA) (hst : st0 = As.reverse ++ rest) (hrm : (rest.map fun v => v.category).sum ≤ 8) (hR : Kc.2.2.2.2.frames + 1 ≤ K.2.2.2.2.frames ∧ 8 + (Kc.2.1 + 11) + Kc.2.2.2.2.locals ≤ K.2.2.2.2.locals) (hz : Kc.2.2.2.2.cells = 0 ∧ Kc.2.2.2.2.slots = 0) (hkn : k ≤ K.2.2.2.2.cells ∧ n ≤ K.2.2.2.2.slots) (d : decode K.1 pc = .ok (.invokestatic idx, 3))
    (kk : ∀ b, g b = some u → jT l E K k n (pc + 3) lv (rv b :: rest) w Po) : jT l E K k n pc lv st0 w Po := by
  obtain ⟨b, hb, hg⟩ := jbind_s h
  intro p e s m args below meth c A X H locs ls hP hD hS hl
  have hr := j_runS (e := e) (below := below) (locs := locs) (cells := k) (slots := n) (w := w) (isC := []) X hP hD hl.1 (hM b hb) hc hlk hn hst hrm hR (by rw [hz.1, hz.2]; exact hkn) d rfl rfl
  refine j_back hr hS (j_free hD hS X.2.2.2.2.2.2.2.2.2.2 (isC := []) rfl) (fun r w1 H1 locs1 hpo hP1 hD1 hsz hk hS1 => ?_)
  obtain ⟨rfl, rfl⟩ := hpo
  obtain ⟨hP2, hD2⟩ := j_put1 (isC := []) (w' := w) hP hD rfl rfl rfl hk hP1
  have := kk b hg p e s m args below meth c A X H1 locs1 ls hP2 hD2 hS1 hl
  rw [hz.1, hz.2]
  exact this
/-- a static call of a nest mate, without a world -/
theorem j_SN {rv : β → Value} (host : String) (h : fc.bind g = some u) (hM : ∀ b, fc = some b → jM l E Kc As [] (jd (some (rv b)) [])) (hc : jCS Kc nA) (hlk : Cond.methodLinkNest K.2.2.2.1.cls idx Kc.2.2.2.1 host ∈ jNl) (hn : As.length = nA) (hst : st0 = As.reverse ++ rest) (hrm : (rest.map fun v => v.category).sum ≤ 8) (hR : Kc.2.2.2.2.frames + 1 ≤ K.2.2.2.2.frames ∧ 8 + (Kc.2.1 + 11) + Kc.2.2.2.2.locals ≤ K.2.2.2.2.locals) (hz : Kc.2.2.2.2.cells = 0 ∧ Kc.2.2.2.2.slots = 0) (hkn : k ≤ K.2.2.2.2.cells ∧ n ≤ K.2.2.2.2.slots) (d : decode K.1 pc = .ok (.invokestatic idx, 3))
    (kk : ∀ b, g b = some u → jT l E K k n (pc + 3) lv (rv b :: rest) w Po) : jT l E K k n pc lv st0 w Po := by
  obtain ⟨b, hb, hg⟩ := jbind_s h
  intro p e s m args below meth c A X H locs ls hP hD hS hl
  have hr := j_runSN (e := e) (below := below) (locs := locs) (cells := k) (slots := n) (w := w) (isC := []) host X hP hD hl.1 (hM b hb) hc hlk hn hst hrm hR (by rw [hz.1, hz.2]; exact hkn) d rfl rfl
  refine j_back hr hS (j_free hD hS X.2.2.2.2.2.2.2.2.2.2 (isC := []) rfl) (fun r w1 H1 locs1 hpo hP1 hD1 hsz hk hS1 => ?_)
  obtain ⟨rfl, rfl⟩ := hpo
  obtain ⟨hP2, hD2⟩ := j_put1 (isC := []) (w' := w) hP hD rfl rfl rfl hk hP1
  have := kk b hg p e s m args below meth c A X H1 locs1 ls hP2 hD2 hS1 hl
  rw [hz.1, hz.2]
  exact this
/-- a static call with a world: 'rv' is none for a void method -/
theorem j_S {rv : β → Option Value} {w1 w' : β → va_W} (isC : List Nat) (h : fc.bind g = some u) (hM : ∀ b, fc = some b → jM l E Kc As wc (jd (rv b) (w1 b))) (hc : jCS Kc nA) (hlk : Cond.methodLink K.2.2.2.1.cls idx Kc.2.2.2.1 ∈ jB) (hn : As.length = nA) (hst : st0 = As.reverse ++ rest) (hrm : (rest.map fun v => v.category).sum ≤ 8) (hR : Kc.2.2.2.2.frames + 1 ≤ K.2.2.2.2.frames ∧ 8 + (Kc.2.1 + 11) + Kc.2.2.2.2.locals ≤ K.2.2.2.2.locals) (hz : Kc.2.2.2.2.cells = 0 ∧ Kc.2.2.2.2.slots = 0) (hkn : k ≤ K.2.2.2.2.cells ∧ n ≤ K.2.2.2.2.slots) (d : decode K.1 pc = .ok (.invokestatic idx, 3)) (hC : isC.map (fun i => w[i]?) = wc.map some) (hnd : va_nd isC = true) (hf : ∀ b, (w1 b).map Prod.fst = wc.map Prod.fst) (hw : ∀ b, jput w isC (w1 b) = w' b) {st1 : β → List Value} (hs1 : ∀ b, (rv b).toList ++ rest = st1 b)
    (kk : ∀ b, g b = some u → jT l E K k n (pc + 3) lv (st1 b) (w' b) Po) : jT l E K k n pc lv st0 w Po := by
  obtain ⟨b, hb, hg⟩ := jbind_s h
  intro p e s m args below meth c A X H locs ls hP hD hS hl
  have hr := j_runS (e := e) (below := below) (locs := locs) (cells := k) (slots := n) X hP hD hl.1 (hM b hb) hc hlk hn hst hrm hR (by rw [hz.1, hz.2]; exact hkn) d hC hnd
  refine j_back hr hS (j_free hD hS X.2.2.2.2.2.2.2.2.2.2 hC) (fun r w2 H1 locs1 hpo hP1 hD1 hsz hk hS1 => ?_)
  obtain ⟨rfl, rfl⟩ := hpo
  obtain ⟨hP2, hD2⟩ := j_put1 hP hD hC (hf b) (hw b) hk hP1
  have := kk b hg p e s m args below meth c A X H1 locs1 ls hP2 hD2 hS1 hl
  rw [hz.1, hz.2, hs1]
  exact this
/-- a call of an object's method -/
theorem j_V {b0 q0 ci N : Nat} {C : String} {T : u_T} {fs : List Value} {rv : β → Option Value} {w1 w' : β → va_W} (isC : List Nat) (hb0 : w[q0]? = some (jO b0 ci fs)) (hcl : vwCl[ci]? = some (C, T, N)) (hCc : Kc.2.2.2.1.cls = C) (h : fc.bind g = some u) (hM : ∀ b, fc = some b → jM l E Kc (.ref b0 :: As) wc (jd (rv b) (w1 b))) (hc : jCV Kc nA) (hlk : Cond.methodLink K.2.2.2.1.cls idx Kc.2.2.2.1 ∈ jB) (hn : As.length = nA) (hst : st0 = As.reverse ++ .ref b0 :: rest) (hrm : (rest.map fun v => v.category).sum ≤ 8) (hR : Kc.2.2.2.2.frames + 1 ≤ K.2.2.2.2.frames ∧ 8 + (Kc.2.1 + 11) + Kc.2.2.2.2.locals ≤ K.2.2.2.2.locals) (hz : Kc.2.2.2.2.cells = 0 ∧ Kc.2.2.2.2.slots = 0) (hkn : k ≤ K.2.2.2.2.cells ∧ n ≤ K.2.2.2.2.slots) (d : decode K.1 pc = .ok (.invokevirtual idx, 3)) (hC : isC.map (fun i => w[i]?) = wc.map some) (hnd : va_nd isC = true) (hf : ∀ b, (w1 b).map Prod.fst = wc.map Prod.fst) (hw : ∀ b, jput w isC (w1 b) = w' b) {st1 : β → List Value} (hs1 : ∀ b, (rv b).toList ++ rest = st1 b)
    (kk : ∀ b, g b = some u → jT l E K k n (pc + 3) lv (st1 b) (w' b) Po) : jT l E K k n pc lv st0 w Po := by
  obtain ⟨b, hb, hg⟩ := jbind_s h
  intro p e s m args below meth c A X H locs ls hP hD hS hl
  have hr := j_runV (e := e) (below := below) (locs := locs) (cells := k) (slots := n) X hP hD hl.1 hb0 hcl hCc (hM b hb) hc hlk hn hst hrm hR (by rw [hz.1, hz.2]; exact hkn) d hC hnd
  refine j_back hr hS (j_free hD hS X.2.2.2.2.2.2.2.2.2.2 hC) (fun r w2 H1 locs1 hpo hP1 hD1 hsz hk hS1 => ?_)
  obtain ⟨rfl, rfl⟩ := hpo
  obtain ⟨hP2, hD2⟩ := j_put1 hP hD hC (hf b) (hw b) hk hP1
  have := kk b hg p e s m args below meth c A X H1 locs1 ls hP2 hD2 hS1 hl
  rw [hz.1, hz.2, hs1]
  exact this
/-- Math.abs -/
theorem j_abs {st : List Value} {x : Int32} (hlk : Cond.methodLink K.2.2.2.1.cls idx Lib.Math.abs.name ∈ jB) (hst : Cond.static Lib.Math.abs.name ∈ jB) (hin : Cond.initialized "java/lang/Math" ∈ jB) (hco : Cond.code Lib.Math.abs.name Lib.Math.abs.code 1 (some .int) ∈ jB) (hfr : 1 ≤ K.2.2.2.2.frames) (hlo : (st.map fun v => v.category).sum + 13 ≤ K.2.2.2.2.locals) (hkn : k ≤ K.2.2.2.2.cells ∧ n ≤ K.2.2.2.2.slots) (d : decode K.1 pc = .ok (.invokestatic idx, 3)) (kk : jT l E K k n (pc + 3) lv (.int (jabs x) :: st) w Po) : jT l E K k n pc lv (.int x :: st) w Po := by
  intro p e s m args below meth c A X H locs ls hP hD hS hl
  exact va_mabs X.1 X.2.1 (X.2.2.1.trans hl.1.symm) X.2.2.2.1 (X.2.2.2.2.1 _ hlk) (X.2.2.2.2.1 _ hst) (X.2.2.2.2.1 _ hin) (X.2.2.2.2.1 _ hco) hfr hlo hkn.1 hkn.2 d (kk p e s m args below meth c A X H locs ls hP hD hS hl)
/-- Math.max -/
theorem j_max {st : List Value} {x y : Int32} (hlk : Cond.methodLink K.2.2.2.1.cls idx Lib.Math.max.name ∈ jB) (hst : Cond.static Lib.Math.max.name ∈ jB) (hin : Cond.initialized "java/lang/Math" ∈ jB) (hco : Cond.code Lib.Math.max.name Lib.Math.max.code 2 (some .int) ∈ jB) (hfr : 1 ≤ K.2.2.2.2.frames) (hlo : (st.map fun v => v.category).sum + 13 ≤ K.2.2.2.2.locals) (hkn : k ≤ K.2.2.2.2.cells ∧ n ≤ K.2.2.2.2.slots) (d : decode K.1 pc = .ok (.invokestatic idx, 3)) (kk : jT l E K k n (pc + 3) lv (.int (jmax x y) :: st) w Po) : jT l E K k n pc lv (.int y :: .int x :: st) w Po := by
  intro p e s m args below meth c A X H locs ls hP hD hS hl
  exact va_mmax X.1 X.2.1 (X.2.2.1.trans hl.1.symm) X.2.2.2.1 (X.2.2.2.2.1 _ hlk) (X.2.2.2.2.1 _ hst) (X.2.2.2.2.1 _ hin) (X.2.2.2.2.1 _ hco) hfr hlo hkn.1 hkn.2 d (kk p e s m args below meth c A X H locs ls hP hD hS hl)
/-- guard of System.arraycopy -/
def jgc {α : Type} (sp dp m : Int32) (n0 n1 : Nat) (a : Option α) : Option α := if sp < 0 ∨ dp < 0 ∨ m < 0 ∨ n0 < sp.toNatClampNeg + m.toNatClampNeg ∨ n1 < dp.toNatClampNeg + m.toNatClampNeg then none else a
theorem jgc_s {α : Type} {sp dp m : Int32} {n0 n1 : Nat} {a : Option α} {u : α} (h : jgc sp dp m n0 n1 a = some u) : (¬ sp < 0 ∧ ¬ dp < 0 ∧ ¬ m < 0 ∧ sp.toNatClampNeg + m.toNatClampNeg ≤ n0 ∧ dp.toNatClampNeg + m.toNatClampNeg ≤ n1) ∧ a = some u := by
  unfold jgc at h
  by_cases q : sp < 0 ∨ dp < 0 ∨ m < 0 ∨ n0 < sp.toNatClampNeg + m.toNatClampNeg ∨ n1 < dp.toNatClampNeg + m.toNatClampNeg
  · rw [if_pos q] at h; cases h
  · rw [if_neg q] at h
    simp only [not_or, Nat.not_lt] at q
    exact ⟨q, h⟩
/-- System.arraycopy within one row of longs -/
theorem j_copyl {st : List Value} {a0 N : Nat} {f : Nat → Int64} {sp dp mm : Int32} {a : Option α} {w' : va_W} (q0 : Nat) (hlk : Cond.methodLink K.2.2.2.1.cls idx arraycopyName ∈ jB) (hna : Cond.native arraycopyName ∈ jB) (hst : Cond.static arraycopyName ∈ jB) (hin : Cond.initialized "java/lang/System" ∈ jB) (hfr : 1 ≤ K.2.2.2.2.frames) (hlo : (st.map fun v => v.category).sum + (nativeFrameWords "java/lang/System" "arraycopy" 5 + 11) ≤ K.2.2.2.2.locals) (d : decode K.1 pc = .ok (.invokestatic idx, 3)) (ha : w[q0]? = some (jJ E a0 N f)) (h : jgc sp dp mm N N a = some u) (hw : w.set q0 (jJ E a0 N (va_cpy f f sp.toNatClampNeg dp.toNatClampNeg mm.toNatClampNeg)) = w') (kk : a = some u → jT l E K k n (pc + 3) lv st w' Po) : jT l E K k n pc lv (.int mm :: .int dp :: .ref a0 :: .int sp :: .ref a0 :: st) w Po := by
  obtain ⟨⟨h1, h2, h3, h4, h5⟩, h⟩ := jgc_s h
  subst hw
  intro p e s m args below meth c A X H locs ls hP hD hS hl
  exact va_copyl X.1 X.2.1 (X.2.2.1.trans hl.1.symm) X.2.2.2.1 (X.2.2.2.2.1 _ hlk) (X.2.2.2.2.1 _ hna) (X.2.2.2.2.1 _ hst) (X.2.2.2.2.1 _ hin) X.2.2.2.2.2.2.2.2.1 hP hD hS q0 q0 1 1 ha ha rfl rfl rfl h1 h2 h3 h4 h5 (fun _ _ => rfl) hfr hlo d (fun H1 locs1 hP hD hS => kk h p e s m args below meth c A X H1 locs1 ls hP hD hS hl)
end JC2
end
section
/-! constants, callees, small rows of the walks -/
theorem jd_i {r r2 : Option Value} {w w2 : va_W} (h1 : r2 = r) (h2 : w2 = w) : jd r w r2 w2 := ⟨h1, h2⟩
theorem jbr {α : Type} {P : Prop} {c : Prop} {i : Decidable c} {a b o : Option α} (h : @ite _ c i a b = o) (kt : c → a = o → P) (kf : ¬ c → b = o → P) : P := if q : c then kt q ((if_pos q).symm.trans h) else kf q ((if_neg q).symm.trans h)
theorem j_ne {x v : Int32} {z : Int} (h : ¬ x = v) (hv : v.toInt = z) : x.toInt ≠ z := fun e => h (Int32.toInt_inj.mp (e.trans hv.symm))
theorem ic_m1 : Int32.ofInt (-1) = (-1 : Int32) := by decide
theorem ic_0 : Int32.ofInt 0 = (0 : Int32) := by decide
theorem ic_1 : Int32.ofInt 1 = (1 : Int32) := by decide
theorem ic_2 : Int32.ofInt 2 = (2 : Int32) := by decide
theorem ic_3 : Int32.ofInt 3 = (3 : Int32) := by decide
theorem ic_4 : Int32.ofInt 4 = (4 : Int32) := by decide
theorem ic_5 : Int32.ofInt 5 = (5 : Int32) := by decide
theorem bc_m4 : (Int8.ofInt (-4)).toInt32 = (-4 : Int32) := by decide
theorem bc_m3 : (Int8.ofInt (-3)).toInt32 = (-3 : Int32) := by decide
theorem bc_m2 : (Int8.ofInt (-2)).toInt32 = (-2 : Int32) := by decide
theorem bc_6 : (Int8.ofInt 6).toInt32 = (6 : Int32) := by decide
theorem bc_7 : (Int8.ofInt 7).toInt32 = (7 : Int32) := by decide
theorem bc_8 : (Int8.ofInt 8).toInt32 = (8 : Int32) := by decide
theorem bc_10 : (Int8.ofInt 10).toInt32 = (10 : Int32) := by decide
theorem bc_15 : (Int8.ofInt 15).toInt32 = (15 : Int32) := by decide
theorem bc_16 : (Int8.ofInt 16).toInt32 = (16 : Int32) := by decide
theorem bc_17 : (Int8.ofInt 17).toInt32 = (17 : Int32) := by decide
theorem bc_32 : (Int8.ofInt 32).toInt32 = (32 : Int32) := by decide
theorem bc_44 : (Int8.ofInt 44).toInt32 = (44 : Int32) := by decide
theorem bc_48 : (Int8.ofInt 48).toInt32 = (48 : Int32) := by decide
theorem bc_57 : (Int8.ofInt 57).toInt32 = (57 : Int32) := by decide
theorem bc_59 : (Int8.ofInt 59).toInt32 = (59 : Int32) := by decide
theorem bc_60 : (Int8.ofInt 60).toInt32 = (60 : Int32) := by decide
theorem bc_64 : (Int8.ofInt 64).toInt32 = (64 : Int32) := by decide
theorem bc_99 : (Int8.ofInt 99).toInt32 = (99 : Int32) := by decide
theorem bc_110 : (Int8.ofInt 110).toInt32 = (110 : Int32) := by decide
theorem bc_112 : (Int8.ofInt 112).toInt32 = (112 : Int32) := by decide
theorem bc_126 : (Int8.ofInt 126).toInt32 = (126 : Int32) := by decide
theorem sc_200 : (Int16.ofInt 200).toInt32 = (200 : Int32) := by decide
theorem sc_9999 : (Int16.ofInt 9999).toInt32 = (9999 : Int32) := by decide
theorem lc_0 : Int64.ofNat ((0 : Fin 2) : Nat) = (0 : Int64) := by decide
theorem lc_1 : Int64.ofNat ((1 : Fin 2) : Nat) = (1 : Int64) := by decide
set_option maxRecDepth 20000 in
theorem hw_abs_s : Cond.static Lib.Math.abs.name ∈ jB := jB_2 172 rfl rfl
set_option maxRecDepth 20000 in
theorem hw_max_s : Cond.static Lib.Math.max.name ∈ jB := jB_1 73 rfl rfl
set_option maxRecDepth 20000 in
theorem hw_math : Cond.initialized "java/lang/Math" ∈ jB := jB_1 5 rfl rfl
set_option maxRecDepth 20000 in
theorem hw_sys : Cond.initialized "java/lang/System" ∈ jB := jB_1 12 rfl rfl
set_option maxRecDepth 20000 in
theorem hw_abs_c : Cond.code Lib.Math.abs.name Lib.Math.abs.code 1 (some .int) ∈ jB := jB_2 173 rfl rfl
set_option maxRecDepth 20000 in
theorem hw_max_c : Cond.code Lib.Math.max.name Lib.Math.max.code 2 (some .int) ∈ jB := jB_1 74 rfl rfl
set_option maxRecDepth 20000 in
theorem hw_copy_s : Cond.static arraycopyName ∈ jB := jB_2 77 rfl rfl
set_option maxRecDepth 20000 in
theorem hw_copy_n : Cond.native arraycopyName ∈ jB := jB_2 78 rfl rfl
set_option maxRecDepth 20000 in
theorem iwX0 : ∀ w ∈ u_ws RX0 TX0 3, w ∈ jB := fun w h => (List.forall_mem_cons.mpr ⟨m1_111, List.forall_mem_cons.mpr ⟨m1_113, List.forall_mem_cons.mpr ⟨m1_115, fun _ h => absurd h List.not_mem_nil⟩⟩⟩ : ∀ w ∈ [Cond.laysFinal RX0 RX0 "stepsFrom" "[I", Cond.laysFinal RX0 RX0 "pairTree" "[I", Cond.laysFinal RX0 RX0 "found" "[J"], w ∈ jB) w h
set_option maxRecDepth 20000 in
theorem iwX2 : ∀ w ∈ u_ws RX2 TX2 1, w ∈ jB := fun w h => (List.forall_mem_cons.mpr ⟨m1_125, fun _ h => absurd h List.not_mem_nil⟩ : ∀ w ∈ [Cond.laysFinal RX2 RX2 "ways" "[I"], w ∈ jB) w h
set_option maxRecDepth 20000 in
theorem iwX5 : ∀ w ∈ u_ws RX5 TX5 5, w ∈ jB := fun w h => (List.forall_mem_cons.mpr ⟨m1_55, List.forall_mem_cons.mpr ⟨m1_57, List.forall_mem_cons.mpr ⟨m1_59, List.forall_mem_cons.mpr ⟨m1_61, List.forall_mem_cons.mpr ⟨m1_63, fun _ h => absurd h List.not_mem_nil⟩⟩⟩⟩⟩ : ∀ w ∈ [Cond.lays RX5 RX5 "cards" "I", Cond.lays RX5 RX5 "colours" "I", Cond.lays RX5 RX5 "acts" "I", Cond.lays RX5 RX5 "deal" "J", Cond.lays RX5 RX5 "cardsAreFixed" "Z"], w ∈ jB) w h
set_option maxRecDepth 20000 in
theorem iwX6 : ∀ w ∈ u_ws RX6 TX6 2, w ∈ jB := fun w h => (List.forall_mem_cons.mpr ⟨m1_78, List.forall_mem_cons.mpr ⟨m1_80, fun _ h => absurd h List.not_mem_nil⟩⟩ : ∀ w ∈ [Cond.laysFinal RX6 RX6 "stored" "[J", Cond.lays RX6 RX6 "held" "I"], w ∈ jB) w h
set_option maxRecDepth 20000 in
theorem iwX7 : ∀ w ∈ u_ws RX7 TX7 3, w ∈ jB := fun w h => (List.forall_mem_cons.mpr ⟨m1_94, List.forall_mem_cons.mpr ⟨m1_96, List.forall_mem_cons.mpr ⟨m1_98, fun _ h => absurd h List.not_mem_nil⟩⟩⟩ : ∀ w ∈ [Cond.laysFinal RX7 RX7 "cards" "[I", Cond.laysFinal RX7 RX7 "places" "[I", Cond.lays RX7 RX7 "held" "I"], w ∈ jB) w h
set_option maxRecDepth 20000 in
theorem iwX8 : ∀ w ∈ u_ws RX8 TX8 3, w ∈ jB := fun w h => (List.forall_mem_cons.mpr ⟨m1_32, List.forall_mem_cons.mpr ⟨m1_34, List.forall_mem_cons.mpr ⟨m1_36, fun _ h => absurd h List.not_mem_nil⟩⟩⟩ : ∀ w ∈ [Cond.laysFinal RX8 RX8 "letters" "[C", Cond.lays RX8 RX8 "length" "I", Cond.lays RX8 RX8 "next" "I"], w ∈ jB) w h
set_option maxRecDepth 20000 in
theorem iwX9 : ∀ w ∈ u_ws RX9 TX9 9, w ∈ jB := fun w h => (List.forall_mem_cons.mpr ⟨m1_197, List.forall_mem_cons.mpr ⟨m1_199, List.forall_mem_cons.mpr ⟨m1_201, List.forall_mem_cons.mpr ⟨m1_203, List.forall_mem_cons.mpr ⟨m1_205, List.forall_mem_cons.mpr ⟨m1_207, List.forall_mem_cons.mpr ⟨m1_209, List.forall_mem_cons.mpr ⟨m1_211, List.forall_mem_cons.mpr ⟨m1_213, fun _ h => absurd h List.not_mem_nil⟩⟩⟩⟩⟩⟩⟩⟩⟩ : ∀ w ∈ [Cond.laysFinal RX9 RX9 "text" "LLacedPack$Text;", Cond.laysFinal RX9 RX9 "draft" "LLacedPack$Plan;", Cond.laysFinal RX9 RX9 "laid" "LLacedPack$Plan;", Cond.laysFinal RX9 RX9 "past" "LLacedPack$Shelf;", Cond.laysFinal RX9 RX9 "kept" "LLacedPack$Shelf;", Cond.laysFinal RX9 RX9 "sightings" "LLacedPack$Sightings;", Cond.laysFinal RX9 RX9 "finder" "LLacedPack$Finder;", Cond.laysFinal RX9 RX9 "mix" "LLacedPack$Mix;", Cond.lays RX9 RX9 "order" "J"], w ∈ jB) w h
set_option maxRecDepth 20000 in
theorem iwX10 : ∀ w ∈ u_ws RX10 TX10 27, w ∈ jB := fun w h => (List.forall_mem_cons.mpr ⟨m3_131, List.forall_mem_cons.mpr ⟨m3_133, List.forall_mem_cons.mpr ⟨m3_135, List.forall_mem_cons.mpr ⟨m3_137, List.forall_mem_cons.mpr ⟨m3_139, List.forall_mem_cons.mpr ⟨m3_141, List.forall_mem_cons.mpr ⟨m3_143, List.forall_mem_cons.mpr ⟨m3_145, List.forall_mem_cons.mpr ⟨m3_147, List.forall_mem_cons.mpr ⟨m3_149, List.forall_mem_cons.mpr ⟨m3_151, List.forall_mem_cons.mpr ⟨m3_153, List.forall_mem_cons.mpr ⟨m3_155, List.forall_mem_cons.mpr ⟨m3_157, List.forall_mem_cons.mpr ⟨m3_159, List.forall_mem_cons.mpr ⟨m3_161, List.forall_mem_cons.mpr ⟨m3_163, List.forall_mem_cons.mpr ⟨m3_165, List.forall_mem_cons.mpr ⟨m3_167, List.forall_mem_cons.mpr ⟨m3_169, List.forall_mem_cons.mpr ⟨m3_171, List.forall_mem_cons.mpr ⟨m3_173, List.forall_mem_cons.mpr ⟨m3_175, List.forall_mem_cons.mpr ⟨m3_177, List.forall_mem_cons.mpr ⟨m3_179, List.forall_mem_cons.mpr ⟨m3_181, List.forall_mem_cons.mpr ⟨m3_183, fun _ h => absurd h List.not_mem_nil⟩⟩⟩⟩⟩⟩⟩⟩⟩⟩⟩⟩⟩⟩⟩⟩⟩⟩⟩⟩⟩⟩⟩⟩⟩⟩⟩ : ∀ w ∈ [Cond.lays RX10 RX10 "cards" "I", Cond.laysFinal RX10 RX10 "colour" "[I", Cond.lays RX10 RX10 "dealMany" "I", Cond.laysFinal RX10 RX10 "deal" "[I", Cond.laysFinal RX10 RX10 "st" "[I", Cond.lays RX10 RX10 "acts" "I", Cond.laysFinal RX10 RX10 "was" "[I", Cond.lays RX10 RX10 "keeps" "I", Cond.laysFinal RX10 RX10 "kept" "[I", Cond.lays RX10 RX10 "seens" "I", Cond.laysFinal RX10 RX10 "seen" "[I", Cond.laysFinal RX10 RX10 "text" "[I", Cond.lays RX10 RX10 "texted" "I", Cond.lays RX10 RX10 "at" "I", Cond.laysFinal RX10 RX10 "told" "[I", Cond.lays RX10 RX10 "isBegun" "Z", Cond.lays RX10 RX10 "readCards" "I", Cond.laysFinal RX10 RX10 "readColour" "[I", Cond.lays RX10 RX10 "readDeals" "I", Cond.laysFinal RX10 RX10 "readDeal" "[I", Cond.laysFinal RX10 RX10 "now" "[I", Cond.laysFinal RX10 RX10 "then" "[I", Cond.laysFinal RX10 RX10 "ring" "[I", Cond.laysFinal RX10 RX10 "goes" "[I", Cond.laysFinal RX10 RX10 "far" "[I", Cond.laysFinal RX10 RX10 "met" "[I", Cond.lays RX10 RX10 "metMany" "I"], w ∈ jB) w h
abbrev K_X4_with : jK := (cX4_with, 4, some .long, yX4_with, { frames := 0, cells := 0, slots := 0, locals := 0 })
abbrev K_X4_inOrder : jK := (cX4_inOrder, 4, some .long, yX4_inOrder, { frames := 1, cells := 0, slots := 0, locals := 23 })
abbrev K_X5_begin : jK := (cX5_begin, 2, none, yX5_begin, { frames := 2, cells := 0, slots := 0, locals := 46 })
abbrev K_X9_within : jK := (cX9_within, 3, some .boolean, yX9_within, { frames := 0, cells := 0, slots := 0, locals := 0 })
abbrev K_X5_tellColour : jK := (cX5_tellColour, 3, some .boolean, yX5_tellColour, { frames := 1, cells := 0, slots := 0, locals := 22 })
abbrev K_X9_isKind : jK := (cX9_isKind, 1, some .boolean, yX9_isKind, { frames := 1, cells := 0, slots := 0, locals := 22 })
abbrev K_X4_cardAt : jK := (cX4_cardAt, 3, some .int, yX4_cardAt, { frames := 0, cells := 0, slots := 0, locals := 0 })
abbrev K_X3_downAndUnder : jK := (cX3_downAndUnder, 7, some .long, yX3_downAndUnder, { frames := 2, cells := 0, slots := 0, locals := 46 })
abbrev K_X3_source : jK := (cX3_source, 5, some .int, yX3_source, { frames := 0, cells := 0, slots := 0, locals := 0 })
abbrev K_X3_lacing : jK := (cX3_lacing, 5, some .long, yX3_lacing, { frames := 3, cells := 0, slots := 0, locals := 72 })
abbrev K_X4_moved : jK := (cX4_moved, 8, some .long, yX4_moved, { frames := 1, cells := 0, slots := 0, locals := 23 })
abbrev K_X5_addAct : jK := (cX5_addAct, 3, some .boolean, yX5_addAct, { frames := 2, cells := 0, slots := 0, locals := 50 })
abbrev K_X5_tellLacing : jK := (cX5_tellLacing, 2, some .boolean, yX5_tellLacing, { frames := 4, cells := 0, slots := 0, locals := 96 })
abbrev K_X3_cutAt : jK := (cX3_cutAt, 6, some .long, yX3_cutAt, { frames := 1, cells := 0, slots := 0, locals := 23 })
abbrev K_X5_tellCut : jK := (cX5_tellCut, 2, some .boolean, yX5_tellCut, { frames := 3, cells := 0, slots := 0, locals := 72 })
abbrev K_X5_tellFirst : jK := (cX5_tellFirst, 1, none, yX5_tellFirst, { frames := 5, cells := 0, slots := 0, locals := 117 })
abbrev K_X8_append : jK := (cX8_append, 2, some .boolean, yX8_append, { frames := 0, cells := 0, slots := 0, locals := 0 })
abbrev K_X9_write : jK := (cX9_write, 2, some .int, yX9_write, { frames := 1, cells := 0, slots := 0, locals := 22 })
abbrev K_X9_wipe : jK := (cX9_wipe, 2, some .int, yX9_wipe, { frames := 0, cells := 0, slots := 0, locals := 0 })
abbrev K_X5_tellNothing : jK := (cX5_tellNothing, 1, none, yX5_tellNothing, { frames := 3, cells := 0, slots := 0, locals := 67 })
abbrev K_X8_nextLetter : jK := (cX8_nextLetter, 2, some .int, yX8_nextLetter, { frames := 0, cells := 0, slots := 0, locals := 0 })
abbrev K_X8_figureOf : jK := (cX8_figureOf, 1, some .int, yX8_figureOf, { frames := 0, cells := 0, slots := 0, locals := 0 })
abbrev K_X8_readNumber : jK := (cX8_readNumber, 4, some .int, yX8_readNumber, { frames := 1, cells := 0, slots := 0, locals := 21 })
abbrev K_X5_tellCards : jK := (cX5_tellCards, 2, some .boolean, yX5_tellCards, { frames := 3, cells := 0, slots := 0, locals := 67 })
abbrev K_X8_readItem : jK := (cX8_readItem, 5, some .boolean, yX8_readItem, { frames := 5, cells := 0, slots := 0, locals := 117 })
abbrev K_X8_firstFault : jK := (cX8_firstFault, 4, some .int, yX8_firstFault, { frames := 6, cells := 0, slots := 0, locals := 141 })
abbrev K_X9_fault : jK := (cX9_fault, 1, some .int, yX9_fault, { frames := 7, cells := 0, slots := 0, locals := 164 })
abbrev K_X5_become : jK := (cX5_become, 2, none, yX5_become, { frames := 0, cells := 0, slots := 0, locals := 0 })
abbrev K_X9_lay : jK := (cX9_lay, 1, some .int, yX9_lay, { frames := 7, cells := 0, slots := 0, locals := 164 })
abbrev K_X9_isPlace : jK := (cX9_isPlace, 2, some .boolean, yX9_isPlace, { frames := 1, cells := 0, slots := 0, locals := 22 })
abbrev K_X9_at : jK := (cX9_at, 2, some .int, yX9_at, { frames := 2, cells := 0, slots := 0, locals := 43 })
abbrev K_X9_isCard : jK := (cX9_isCard, 2, some .boolean, yX9_isCard, { frames := 1, cells := 0, slots := 0, locals := 22 })
abbrev K_X4_placeOf : jK := (cX4_placeOf, 6, some .int, yX4_placeOf, { frames := 1, cells := 0, slots := 0, locals := 22 })
abbrev K_X9_where : jK := (cX9_where, 2, some .int, yX9_where, { frames := 2, cells := 0, slots := 0, locals := 47 })
abbrev K_X5_colourOf : jK := (cX5_colourOf, 2, some .int, yX5_colourOf, { frames := 0, cells := 0, slots := 0, locals := 0 })
abbrev K_X9_colour : jK := (cX9_colour, 2, some .int, yX9_colour, { frames := 2, cells := 0, slots := 0, locals := 43 })
abbrev K_X6_isFull : jK := (cX6_isFull, 1, some .boolean, yX6_isFull, { frames := 0, cells := 0, slots := 0, locals := 0 })
abbrev K_X6_put : jK := (cX6_put, 3, none, yX6_put, { frames := 1, cells := 0, slots := 0, locals := 40 })
abbrev K_X9_act : jK := (cX9_act, 3, some .int, yX9_act, { frames := 2, cells := 0, slots := 0, locals := 62 })
abbrev K_X9_lace : jK := (cX9_lace, 2, some .int, yX9_lace, { frames := 4, cells := 0, slots := 0, locals := 96 })
abbrev K_X9_cut : jK := (cX9_cut, 2, some .int, yX9_cut, { frames := 3, cells := 0, slots := 0, locals := 84 })
abbrev K_X3_turnedOver : jK := (cX3_turnedOver, 4, some .long, yX3_turnedOver, { frames := 1, cells := 0, slots := 0, locals := 23 })
abbrev K_X9_turn : jK := (cX9_turn, 1, some .int, yX9_turn, { frames := 3, cells := 0, slots := 0, locals := 84 })
abbrev K_X9_deal : jK := (cX9_deal, 1, some .int, yX9_deal, { frames := 3, cells := 0, slots := 0, locals := 84 })
abbrev K_X6_takeLast : jK := (cX6_takeLast, 1, some .long, yX6_takeLast, { frames := 0, cells := 0, slots := 0, locals := 0 })
abbrev K_X9_undo : jK := (cX9_undo, 1, some .int, yX9_undo, { frames := 1, cells := 0, slots := 0, locals := 20 })
abbrev K_X4_roundLength : jK := (cX4_roundLength, 6, some .int, yX4_roundLength, { frames := 1, cells := 0, slots := 0, locals := 22 })
abbrev K_X1_commonDivisor : jK := (cX1_commonDivisor, 6, some .int, yX1_commonDivisor, { frames := 0, cells := 0, slots := 0, locals := 0 })
abbrev K_X4_timesTillSame : jK := (cX4_timesTillSame, 7, some .int, yX4_timesTillSame, { frames := 2, cells := 0, slots := 0, locals := 47 })
abbrev K_X9_again : jK := (cX9_again, 2, some .int, yX9_again, { frames := 4, cells := 0, slots := 0, locals := 96 })
abbrev K_X9_round : jK := (cX9_round, 3, some .int, yX9_round, { frames := 4, cells := 0, slots := 0, locals := 96 })
abbrev K_X4_roundOf : jK := (cX4_roundOf, 7, some .int, yX4_roundOf, { frames := 1, cells := 0, slots := 0, locals := 22 })
abbrev K_X4_roundCount : jK := (cX4_roundCount, 6, some .int, yX4_roundCount, { frames := 2, cells := 0, slots := 0, locals := 48 })
abbrev K_X9_rounds : jK := (cX9_rounds, 2, some .int, yX9_rounds, { frames := 4, cells := 0, slots := 0, locals := 96 })
abbrev K_X3_goal : jK := (cX3_goal, 5, some .int, yX3_goal, { frames := 0, cells := 0, slots := 0, locals := 0 })
abbrev K_X0_fewestFrom : jK := (cX0_fewestFrom, 2, some .int, yX0_fewestFrom, { frames := 0, cells := 0, slots := 0, locals := 0 })
abbrev K_X0_isNextTo : jK := (cX0_isNextTo, 4, some .boolean, yX0_isNextTo, { frames := 1, cells := 0, slots := 0, locals := 24 })
abbrev K_X0_findWaysTo : jK := (cX0_findWaysTo, 5, none, yX0_findWaysTo, { frames := 2, cells := 0, slots := 0, locals := 47 })
abbrev K_X0_firstKind : jK := (cX0_firstKind, 4, some .int, yX0_firstKind, { frames := 1, cells := 0, slots := 0, locals := 24 })
abbrev K_X0_kindOnWay : jK := (cX0_kindOnWay, 7, some .int, yX0_kindOnWay, { frames := 2, cells := 0, slots := 0, locals := 47 })
abbrev K_X9_bring : jK := (cX9_bring, 5, some .int, yX9_bring, { frames := 3, cells := 0, slots := 0, locals := 73 })
abbrev K_X0_pairBehind : jK := (cX0_pairBehind, 3, some .int, yX0_pairBehind, { frames := 1, cells := 0, slots := 0, locals := 24 })
abbrev K_X0_depthOf : jK := (cX0_depthOf, 3, some .int, yX0_depthOf, { frames := 0, cells := 0, slots := 0, locals := 0 })
abbrev K_X0_fewestTillNeighbours : jK := (cX0_fewestTillNeighbours, 6, some .int, yX0_fewestTillNeighbours, { frames := 2, cells := 0, slots := 0, locals := 46 })
abbrev K_X9_beside : jK := (cX9_beside, 5, some .int, yX9_beside, { frames := 3, cells := 0, slots := 0, locals := 71 })
abbrev K_X0_heldWith : jK := (cX0_heldWith, 5, some .int, yX0_heldWith, { frames := 0, cells := 0, slots := 0, locals := 0 })
abbrev K_X0_countOrders : jK := (cX0_countOrders, 12, some .int, yX0_countOrders, { frames := 4, cells := 0, slots := 0, locals := 96 })
abbrev K_X9_orders : jK := (cX9_orders, 2, some .int, yX9_orders, { frames := 5, cells := 0, slots := 0, locals := 127 })
abbrev K_X4_risingRows : jK := (cX4_risingRows, 7, some .int, yX4_risingRows, { frames := 1, cells := 0, slots := 0, locals := 23 })
abbrev K_X9_rising : jK := (cX9_rising, 1, some .int, yX9_rising, { frames := 2, cells := 0, slots := 0, locals := 49 })
abbrev K_X5_areUnlike : jK := (cX5_areUnlike, 3, some .boolean, yX5_areUnlike, { frames := 1, cells := 0, slots := 0, locals := 21 })
abbrev K_X9_pairs : jK := (cX9_pairs, 3, some .int, yX9_pairs, { frames := 2, cells := 0, slots := 0, locals := 43 })
abbrev K_X2_dealtOff : jK := (cX2_dealtOff, 8, some .long, yX2_dealtOff, { frames := 1, cells := 0, slots := 0, locals := 23 })
abbrev K_X2_areUnlikeAt : jK := (cX2_areUnlikeAt, 5, some .boolean, yX2_areUnlikeAt, { frames := 2, cells := 0, slots := 0, locals := 43 })
abbrev K_X2_waysOf : jK := (cX2_waysOf, 3, some .int, yX2_waysOf, { frames := 1, cells := 0, slots := 0, locals := 22 })
abbrev K_X2_waysByLastPair : jK := (cX2_waysByLastPair, 8, some .int, yX2_waysByLastPair, { frames := 3, cells := 0, slots := 0, locals := 67 })
abbrev K_X2_setWays : jK := (cX2_setWays, 4, none, yX2_setWays, { frames := 1, cells := 0, slots := 0, locals := 22 })
abbrev K_X2_goodWays : jK := (cX2_goodWays, 10, some .int, yX2_goodWays, { frames := 4, cells := 0, slots := 0, locals := 94 })
abbrev K_X1_choices : jK := (cX1_choices, 4, some .int, yX1_choices, { frames := 0, cells := 0, slots := 0, locals := 0 })
abbrev K_X1_partOf : jK := (cX1_partOf, 4, some .int, yX1_partOf, { frames := 1, cells := 0, slots := 0, locals := 25 })
abbrev K_X9_sure : jK := (cX9_sure, 4, some .int, yX9_sure, { frames := 5, cells := 0, slots := 0, locals := 123 })
abbrev K_X7_add : jK := (cX7_add, 3, some .boolean, yX7_add, { frames := 0, cells := 0, slots := 0, locals := 0 })
abbrev K_X9_seen : jK := (cX9_seen, 3, some .int, yX9_seen, { frames := 2, cells := 0, slots := 0, locals := 43 })
abbrev K_X9_forget : jK := (cX9_forget, 2, some .int, yX9_forget, { frames := 0, cells := 0, slots := 0, locals := 0 })
abbrev K_X7_fit : jK := (cX7_fit, 4, some .boolean, yX7_fit, { frames := 1, cells := 0, slots := 0, locals := 22 })
abbrev K_X9_fittingKinds : jK := (cX9_fittingKinds, 3, some .int, yX9_fittingKinds, { frames := 4, cells := 0, slots := 0, locals := 96 })
abbrev K_X9_fittingCuts : jK := (cX9_fittingCuts, 3, some .int, yX9_fittingCuts, { frames := 2, cells := 0, slots := 0, locals := 48 })
abbrev K_X9_done : jK := (cX9_done, 2, some .int, yX9_done, { frames := 5, cells := 0, slots := 0, locals := 118 })
abbrev K_X9_endOfWay : jK := (cX9_endOfWay, 6, some .int, yX9_endOfWay, { frames := 1, cells := 0, slots := 0, locals := 24 })
abbrev K_X9_weightOfWay : jK := (cX9_weightOfWay, 5, some .int, yX9_weightOfWay, { frames := 0, cells := 0, slots := 0, locals := 0 })
abbrev K_X9_powerOfTen : jK := (cX9_powerOfTen, 3, some .int, yX9_powerOfTen, { frames := 0, cells := 0, slots := 0, locals := 0 })
abbrev K_X9_likely : jK := (cX9_likely, 10, some .int, yX9_likely, { frames := 2, cells := 0, slots := 0, locals := 49 })
abbrev K_X9_drawOf : jK := (cX9_drawOf, 4, some .int, yX9_drawOf, { frames := 0, cells := 0, slots := 0, locals := 0 })
abbrev K_X9_drawnMove : jK := (cX9_drawnMove, 3, some .long, yX9_drawnMove, { frames := 4, cells := 0, slots := 0, locals := 96 })
abbrev K_X4_sameCards : jK := (cX4_sameCards, 7, some .int, yX4_sameCards, { frames := 1, cells := 0, slots := 0, locals := 22 })
abbrev K_X9_dealing : jK := (cX9_dealing, 7, some .int, yX9_dealing, { frames := 5, cells := 0, slots := 0, locals := 118 })
abbrev K_X9_keep : jK := (cX9_keep, 1, some .int, yX9_keep, { frames := 2, cells := 0, slots := 0, locals := 62 })
abbrev K_X9_back : jK := (cX9_back, 1, some .int, yX9_back, { frames := 1, cells := 0, slots := 0, locals := 20 })
abbrev K_X9_count : jK := (cX9_count, 2, some .int, yX9_count, { frames := 0, cells := 0, slots := 0, locals := 0 })
abbrev K_X10_colours : jK := (cX10_colours, 2, none, yX10_colours, { frames := 0, cells := 0, slots := 0, locals := 0 })
abbrev K_X10_clearTold : jK := (cX10_clearTold, 1, none, yX10_clearTold, { frames := 1, cells := 0, slots := 0, locals := 21 })
abbrev K_X10_copies : jK := (cX10_copies, 6, none, yX10_copies, { frames := 0, cells := 0, slots := 0, locals := 0 })
abbrev K_X10_lies : jK := (cX10_lies, 2, none, yX10_lies, { frames := 0, cells := 0, slots := 0, locals := 0 })
abbrev K_X10_settles : jK := (cX10_settles, 1, none, yX10_settles, { frames := 1, cells := 0, slots := 0, locals := 25 })
abbrev K_X10_in : jK := (cX10_in, 3, some .boolean, yX10_in, { frames := 0, cells := 0, slots := 0, locals := 0 })
abbrev K_X10_isCard : jK := (cX10_isCard, 2, some .boolean, yX10_isCard, { frames := 1, cells := 0, slots := 0, locals := 22 })
abbrev K_X10_isKind : jK := (cX10_isKind, 1, some .boolean, yX10_isKind, { frames := 1, cells := 0, slots := 0, locals := 22 })
abbrev K_X10_write : jK := (cX10_write, 2, some .int, yX10_write, { frames := 1, cells := 0, slots := 0, locals := 22 })
abbrev K_X10_wipe : jK := (cX10_wipe, 2, some .int, yX10_wipe, { frames := 0, cells := 0, slots := 0, locals := 0 })
abbrev K_X10_letterAt : jK := (cX10_letterAt, 2, some .int, yX10_letterAt, { frames := 0, cells := 0, slots := 0, locals := 0 })
abbrev K_X10_isFigure : jK := (cX10_isFigure, 1, some .boolean, yX10_isFigure, { frames := 1, cells := 0, slots := 0, locals := 22 })
abbrev K_X10_readNumbers : jK := (cX10_readNumbers, 3, some .boolean, yX10_readNumbers, { frames := 2, cells := 0, slots := 0, locals := 42 })
abbrev K_X10_isTold : jK := (cX10_isTold, 4, some .boolean, yX10_isTold, { frames := 1, cells := 0, slots := 0, locals := 22 })
abbrev K_X10_readCardsOf : jK := (cX10_readCardsOf, 2, some .boolean, yX10_readCardsOf, { frames := 3, cells := 0, slots := 0, locals := 64 })
abbrev K_X10_readColourOf : jK := (cX10_readColourOf, 1, some .boolean, yX10_readColourOf, { frames := 3, cells := 0, slots := 0, locals := 64 })
abbrev K_X10_readDealOf : jK := (cX10_readDealOf, 3, some .boolean, yX10_readDealOf, { frames := 3, cells := 0, slots := 0, locals := 64 })
abbrev K_X10_readItem : jK := (cX10_readItem, 2, some .boolean, yX10_readItem, { frames := 4, cells := 0, slots := 0, locals := 86 })
abbrev K_X10_fault : jK := (cX10_fault, 2, some .int, yX10_fault, { frames := 5, cells := 0, slots := 0, locals := 107 })
abbrev K_X10_lay : jK := (cX10_lay, 1, some .int, yX10_lay, { frames := 6, cells := 0, slots := 0, locals := 128 })
abbrev K_X10_asItIs : jK := (cX10_asItIs, 1, none, yX10_asItIs, { frames := 1, cells := 0, slots := 0, locals := 25 })
abbrev K_X10_falls : jK := (cX10_falls, 6, none, yX10_falls, { frames := 0, cells := 0, slots := 0, locals := 0 })
abbrev K_X10_milks : jK := (cX10_milks, 2, none, yX10_milks, { frames := 0, cells := 0, slots := 0, locals := 0 })
abbrev K_X10_under : jK := (cX10_under, 4, none, yX10_under, { frames := 1, cells := 0, slots := 0, locals := 25 })
abbrev K_X10_cuts : jK := (cX10_cuts, 3, none, yX10_cuts, { frames := 0, cells := 0, slots := 0, locals := 0 })
abbrev K_X10_acts : jK := (cX10_acts, 5, none, yX10_acts, { frames := 2, cells := 0, slots := 0, locals := 48 })
abbrev K_X10_deals : jK := (cX10_deals, 2, none, yX10_deals, { frames := 3, cells := 0, slots := 0, locals := 72 })
abbrev K_X10_placeOf : jK := (cX10_placeOf, 3, some .int, yX10_placeOf, { frames := 0, cells := 0, slots := 0, locals := 0 })
abbrev K_X10_at : jK := (cX10_at, 2, some .int, yX10_at, { frames := 2, cells := 0, slots := 0, locals := 43 })
abbrev K_X10_where : jK := (cX10_where, 2, some .int, yX10_where, { frames := 2, cells := 0, slots := 0, locals := 45 })
abbrev K_X10_colour : jK := (cX10_colour, 2, some .int, yX10_colour, { frames := 2, cells := 0, slots := 0, locals := 43 })
abbrev K_X10_remembers : jK := (cX10_remembers, 2, none, yX10_remembers, { frames := 1, cells := 0, slots := 0, locals := 25 })
abbrev K_X10_does : jK := (cX10_does, 2, some .int, yX10_does, { frames := 3, cells := 0, slots := 0, locals := 72 })
abbrev K_X10_lace : jK := (cX10_lace, 2, some .int, yX10_lace, { frames := 4, cells := 0, slots := 0, locals := 93 })
abbrev K_X10_cut : jK := (cX10_cut, 2, some .int, yX10_cut, { frames := 4, cells := 0, slots := 0, locals := 93 })
abbrev K_X10_turn : jK := (cX10_turn, 1, some .int, yX10_turn, { frames := 4, cells := 0, slots := 0, locals := 93 })
abbrev K_X10_deal : jK := (cX10_deal, 1, some .int, yX10_deal, { frames := 4, cells := 0, slots := 0, locals := 93 })
abbrev K_X10_undo : jK := (cX10_undo, 1, some .int, yX10_undo, { frames := 1, cells := 0, slots := 0, locals := 25 })
abbrev K_X10_isInOrder : jK := (cX10_isInOrder, 3, some .boolean, yX10_isInOrder, { frames := 0, cells := 0, slots := 0, locals := 0 })
abbrev K_X10_again : jK := (cX10_again, 4, some .int, yX10_again, { frames := 4, cells := 0, slots := 0, locals := 93 })
abbrev K_X10_round : jK := (cX10_round, 5, some .int, yX10_round, { frames := 3, cells := 0, slots := 0, locals := 72 })
abbrev K_X10_rounds : jK := (cX10_rounds, 6, some .int, yX10_rounds, { frames := 3, cells := 0, slots := 0, locals := 72 })
abbrev K_X10_findGoes : jK := (cX10_findGoes, 3, none, yX10_findGoes, { frames := 3, cells := 0, slots := 0, locals := 72 })
abbrev K_X10_findFar : jK := (cX10_findFar, 5, none, yX10_findFar, { frames := 4, cells := 0, slots := 0, locals := 94 })
abbrev K_X10_bring : jK := (cX10_bring, 8, some .int, yX10_bring, { frames := 5, cells := 0, slots := 0, locals := 118 })
abbrev K_X10_beside : jK := (cX10_beside, 11, some .int, yX10_beside, { frames := 4, cells := 0, slots := 0, locals := 94 })
abbrev K_X10_isMet : jK := (cX10_isMet, 5, some .boolean, yX10_isMet, { frames := 0, cells := 0, slots := 0, locals := 0 })
abbrev K_X10_orders : jK := (cX10_orders, 5, some .int, yX10_orders, { frames := 3, cells := 0, slots := 0, locals := 72 })
abbrev K_X10_risingNow : jK := (cX10_risingNow, 3, some .int, yX10_risingNow, { frames := 1, cells := 0, slots := 0, locals := 22 })
abbrev K_X10_rising : jK := (cX10_rising, 1, some .int, yX10_rising, { frames := 2, cells := 0, slots := 0, locals := 45 })
abbrev K_X10_unlike : jK := (cX10_unlike, 4, some .int, yX10_unlike, { frames := 0, cells := 0, slots := 0, locals := 0 })
abbrev K_X10_pairs : jK := (cX10_pairs, 1, some .int, yX10_pairs, { frames := 1, cells := 0, slots := 0, locals := 23 })
abbrev K_X10_lowest : jK := (cX10_lowest, 6, some .int, yX10_lowest, { frames := 0, cells := 0, slots := 0, locals := 0 })
abbrev K_X10_bits : jK := (cX10_bits, 3, some .int, yX10_bits, { frames := 0, cells := 0, slots := 0, locals := 0 })
abbrev K_X10_sure : jK := (cX10_sure, 10, some .int, yX10_sure, { frames := 1, cells := 0, slots := 0, locals := 25 })
abbrev K_X10_seen : jK := (cX10_seen, 3, some .int, yX10_seen, { frames := 2, cells := 0, slots := 0, locals := 43 })
abbrev K_X10_forget : jK := (cX10_forget, 2, some .int, yX10_forget, { frames := 0, cells := 0, slots := 0, locals := 0 })
abbrev K_X10_isBy : jK := (cX10_isBy, 4, some .boolean, yX10_isBy, { frames := 3, cells := 0, slots := 0, locals := 72 })
abbrev K_X10_done : jK := (cX10_done, 4, some .int, yX10_done, { frames := 4, cells := 0, slots := 0, locals := 95 })
abbrev K_X10_likely : jK := (cX10_likely, 14, some .int, yX10_likely, { frames := 4, cells := 0, slots := 0, locals := 94 })
abbrev K_X10_dealing : jK := (cX10_dealing, 9, some .int, yX10_dealing, { frames := 3, cells := 0, slots := 0, locals := 72 })
abbrev K_X10_keep : jK := (cX10_keep, 1, some .int, yX10_keep, { frames := 1, cells := 0, slots := 0, locals := 25 })
abbrev K_X10_back : jK := (cX10_back, 1, some .int, yX10_back, { frames := 1, cells := 0, slots := 0, locals := 25 })
abbrev K_X10_count : jK := (cX10_count, 2, some .int, yX10_count, { frames := 0, cells := 0, slots := 0, locals := 0 })
set_option maxRecDepth 20000 in
theorem q_X4_with : jCS K_X4_with 3 := ⟨m1_142, m1_141, m1_9, by decide, by decide, by decide +kernel⟩
set_option maxRecDepth 20000 in
theorem q_X4_inOrder : jCS K_X4_inOrder 1 := ⟨m1_139, m1_138, m1_9, by decide, by decide, by decide +kernel⟩
set_option maxRecDepth 20000 in
theorem q_X5_begin : jCV K_X5_begin 1 := ⟨m1_135, m1_134, m0_0, m1_3, by decide, by decide, by decide +kernel⟩
set_option maxRecDepth 20000 in
theorem q_X9_within : jCS K_X9_within 3 := ⟨m1_149, m1_148, m1_1, by decide, by decide, by decide +kernel⟩
set_option maxRecDepth 20000 in
theorem q_X5_tellColour : jCV K_X5_tellColour 2 := ⟨m1_146, m1_144, m1_145, m1_3, by decide, by decide, by decide +kernel⟩
set_option maxRecDepth 20000 in
theorem q_X9_isKind : jCS K_X9_isKind 1 := ⟨m1_156, m1_155, m1_1, by decide, by decide, by decide +kernel⟩
set_option maxRecDepth 20000 in
theorem q_X4_cardAt : jCS K_X4_cardAt 2 := ⟨m1_167, m1_166, m1_9, by decide, by decide, by decide +kernel⟩
set_option maxRecDepth 20000 in
theorem q_X3_downAndUnder : jCS K_X3_downAndUnder 1 := ⟨m1_163, m1_162, m1_10, by decide, by decide, by decide +kernel⟩
set_option maxRecDepth 20000 in
theorem q_X3_source : jCS K_X3_source 3 := ⟨m1_171, m1_170, m1_10, by decide, by decide, by decide +kernel⟩
set_option maxRecDepth 20000 in
theorem q_X3_lacing : jCS K_X3_lacing 2 := ⟨m1_160, m1_159, m1_10, by decide, by decide, by decide +kernel⟩
set_option maxRecDepth 20000 in
theorem q_X4_moved : jCS K_X4_moved 3 := ⟨m1_178, m1_177, m1_9, by decide, by decide, by decide +kernel⟩
set_option maxRecDepth 20000 in
theorem q_X5_addAct : jCV K_X5_addAct 1 := ⟨m1_175, m1_174, m0_1, m1_3, by decide, by decide, by decide +kernel⟩
set_option maxRecDepth 20000 in
theorem q_X5_tellLacing : jCV K_X5_tellLacing 1 := ⟨m1_153, m1_151, m1_152, m1_3, by decide, by decide, by decide +kernel⟩
set_option maxRecDepth 20000 in
theorem q_X3_cutAt : jCS K_X3_cutAt 2 := ⟨m1_186, m1_185, m1_10, by decide, by decide, by decide +kernel⟩
set_option maxRecDepth 20000 in
theorem q_X5_tellCut : jCV K_X5_tellCut 1 := ⟨m1_183, m1_181, m1_182, m1_3, by decide, by decide, by decide +kernel⟩
set_option maxRecDepth 20000 in
theorem q_X5_tellFirst : jCV K_X5_tellFirst 0 := ⟨m1_131, m1_129, m1_130, m1_3, by decide, by decide, by decide +kernel⟩
set_option maxRecDepth 20000 in
theorem q_X8_append : jCV K_X8_append 1 := ⟨m1_223, m1_221, m1_222, m1_2, by decide, by decide, by decide +kernel⟩
set_option maxRecDepth 20000 in
theorem q_X9_write : jCV K_X9_write 1 := ⟨m1_219, m1_217, m1_218, m1_1, by decide, by decide, by decide +kernel⟩
set_option maxRecDepth 20000 in
theorem q_X9_wipe : jCV K_X9_wipe 0 := ⟨m1_227, m1_225, m1_226, m1_1, by decide, by decide, by decide +kernel⟩
set_option maxRecDepth 20000 in
theorem q_X5_tellNothing : jCV K_X5_tellNothing 0 := ⟨m1_239, m1_237, m1_238, m1_3, by decide, by decide, by decide +kernel⟩
set_option maxRecDepth 20000 in
theorem q_X8_nextLetter : jCV K_X8_nextLetter 0 := ⟨m2_7, m2_6, m0_3, m1_2, by decide, by decide, by decide +kernel⟩
set_option maxRecDepth 20000 in
theorem q_X8_figureOf : jCS K_X8_figureOf 1 := ⟨m2_14, m2_13, m1_2, by decide, by decide, by decide +kernel⟩
set_option maxRecDepth 20000 in
theorem q_X8_readNumber : jCV K_X8_readNumber 1 := ⟨m2_11, m2_10, m0_4, m1_2, by decide, by decide, by decide +kernel⟩
set_option maxRecDepth 20000 in
theorem q_X5_tellCards : jCV K_X5_tellCards 1 := ⟨m2_19, m2_17, m2_18, m1_3, by decide, by decide, by decide +kernel⟩
set_option maxRecDepth 20000 in
theorem q_X8_readItem : jCV K_X8_readItem 1 := ⟨m2_3, m2_2, m0_2, m1_2, by decide, by decide, by decide +kernel⟩
set_option maxRecDepth 20000 in
theorem q_X8_firstFault : jCV K_X8_firstFault 1 := ⟨m1_235, m1_233, m1_234, m1_2, by decide, by decide, by decide +kernel⟩
set_option maxRecDepth 20000 in
theorem q_X9_fault : jCV K_X9_fault 0 := ⟨m1_231, m1_229, m1_230, m1_1, by decide, by decide, by decide +kernel⟩
set_option maxRecDepth 20000 in
theorem q_X5_become : jCV K_X5_become 1 := ⟨m2_29, m2_27, m2_28, m1_3, by decide, by decide, by decide +kernel⟩
set_option maxRecDepth 20000 in
theorem q_X9_lay : jCV K_X9_lay 0 := ⟨m2_25, m2_23, m2_24, m1_1, by decide, by decide, by decide +kernel⟩
set_option maxRecDepth 20000 in
theorem q_X9_isPlace : jCV K_X9_isPlace 1 := ⟨m2_37, m2_36, m0_5, m1_1, by decide, by decide, by decide +kernel⟩
set_option maxRecDepth 20000 in
theorem q_X9_at : jCV K_X9_at 1 := ⟨m2_33, m2_31, m2_32, m1_1, by decide, by decide, by decide +kernel⟩
set_option maxRecDepth 20000 in
theorem q_X9_isCard : jCV K_X9_isCard 1 := ⟨m2_46, m2_45, m0_6, m1_1, by decide, by decide, by decide +kernel⟩
set_option maxRecDepth 20000 in
theorem q_X4_placeOf : jCS K_X4_placeOf 3 := ⟨m2_49, m2_48, m1_9, by decide, by decide, by decide +kernel⟩
set_option maxRecDepth 20000 in
theorem q_X9_where : jCV K_X9_where 1 := ⟨m2_42, m2_40, m2_41, m1_1, by decide, by decide, by decide +kernel⟩
set_option maxRecDepth 20000 in
theorem q_X5_colourOf : jCV K_X5_colourOf 1 := ⟨m2_57, m2_55, m2_56, m1_3, by decide, by decide, by decide +kernel⟩
set_option maxRecDepth 20000 in
theorem q_X9_colour : jCV K_X9_colour 1 := ⟨m2_53, m2_51, m2_52, m1_1, by decide, by decide, by decide +kernel⟩
set_option maxRecDepth 20000 in
theorem q_X6_isFull : jCV K_X6_isFull 0 := ⟨m2_75, m2_73, m2_74, m1_4, by decide, by decide, by decide +kernel⟩
set_option maxRecDepth 20000 in
theorem q_X6_put : jCV K_X6_put 1 := ⟨m2_71, m2_69, m2_70, m1_4, by decide, by decide, by decide +kernel⟩
set_option maxRecDepth 20000 in
theorem q_X9_act : jCV K_X9_act 1 := ⟨m2_67, m2_66, m0_7, m1_1, by decide, by decide, by decide +kernel⟩
set_option maxRecDepth 20000 in
theorem q_X9_lace : jCV K_X9_lace 1 := ⟨m2_61, m2_59, m2_60, m1_1, by decide, by decide, by decide +kernel⟩
set_option maxRecDepth 20000 in
theorem q_X9_cut : jCV K_X9_cut 1 := ⟨m2_83, m2_81, m2_82, m1_1, by decide, by decide, by decide +kernel⟩
set_option maxRecDepth 20000 in
theorem q_X3_turnedOver : jCS K_X3_turnedOver 1 := ⟨m2_91, m2_90, m1_10, by decide, by decide, by decide +kernel⟩
set_option maxRecDepth 20000 in
theorem q_X9_turn : jCV K_X9_turn 0 := ⟨m2_88, m2_86, m2_87, m1_1, by decide, by decide, by decide +kernel⟩
set_option maxRecDepth 20000 in
theorem q_X9_deal : jCV K_X9_deal 0 := ⟨m2_95, m2_93, m2_94, m1_1, by decide, by decide, by decide +kernel⟩
set_option maxRecDepth 20000 in
theorem q_X6_takeLast : jCV K_X6_takeLast 0 := ⟨m2_103, m2_101, m2_102, m1_4, by decide, by decide, by decide +kernel⟩
set_option maxRecDepth 20000 in
theorem q_X9_undo : jCV K_X9_undo 0 := ⟨m2_99, m2_97, m2_98, m1_1, by decide, by decide, by decide +kernel⟩
set_option maxRecDepth 20000 in
theorem q_X4_roundLength : jCS K_X4_roundLength 3 := ⟨m2_113, m2_112, m1_9, by decide, by decide, by decide +kernel⟩
set_option maxRecDepth 20000 in
theorem q_X1_commonDivisor : jCS K_X1_commonDivisor 2 := ⟨m2_116, m2_115, m1_13, by decide, by decide, by decide +kernel⟩
set_option maxRecDepth 20000 in
theorem q_X4_timesTillSame : jCS K_X4_timesTillSame 2 := ⟨m2_110, m2_109, m1_9, by decide, by decide, by decide +kernel⟩
set_option maxRecDepth 20000 in
theorem q_X9_again : jCV K_X9_again 1 := ⟨m2_107, m2_105, m2_106, m1_1, by decide, by decide, by decide +kernel⟩
set_option maxRecDepth 20000 in
theorem q_X9_round : jCV K_X9_round 2 := ⟨m2_120, m2_118, m2_119, m1_1, by decide, by decide, by decide +kernel⟩
set_option maxRecDepth 20000 in
theorem q_X4_roundOf : jCS K_X4_roundOf 3 := ⟨m2_131, m2_130, m1_9, by decide, by decide, by decide +kernel⟩
set_option maxRecDepth 20000 in
theorem q_X4_roundCount : jCS K_X4_roundCount 2 := ⟨m2_128, m2_127, m1_9, by decide, by decide, by decide +kernel⟩
set_option maxRecDepth 20000 in
theorem q_X9_rounds : jCV K_X9_rounds 1 := ⟨m2_125, m2_123, m2_124, m1_1, by decide, by decide, by decide +kernel⟩
set_option maxRecDepth 20000 in
theorem q_X3_goal : jCS K_X3_goal 3 := ⟨m2_146, m2_145, m1_10, by decide, by decide, by decide +kernel⟩
set_option maxRecDepth 20000 in
theorem q_X0_fewestFrom : jCV K_X0_fewestFrom 1 := ⟨m2_150, m2_148, m2_149, m1_7, by decide, by decide, by decide +kernel⟩
set_option maxRecDepth 20000 in
theorem q_X0_isNextTo : jCV K_X0_isNextTo 3 := ⟨m2_143, m2_142, m0_8, m1_7, by decide, by decide, by decide +kernel⟩
set_option maxRecDepth 20000 in
theorem q_X0_findWaysTo : jCV K_X0_findWaysTo 2 := ⟨m2_139, m2_137, m2_138, m1_7, by decide, by decide, by decide +kernel⟩
set_option maxRecDepth 20000 in
theorem q_X0_firstKind : jCV K_X0_firstKind 2 := ⟨m2_159, m2_158, m0_9, m1_7, by decide, by decide, by decide +kernel⟩
set_option maxRecDepth 20000 in
theorem q_X0_kindOnWay : jCV K_X0_kindOnWay 3 := ⟨m2_155, m2_153, m2_154, m1_7, by decide, by decide, by decide +kernel⟩
set_option maxRecDepth 20000 in
theorem q_X9_bring : jCV K_X9_bring 3 := ⟨m2_135, m2_133, m2_134, m1_1, by decide, by decide, by decide +kernel⟩
set_option maxRecDepth 20000 in
theorem q_X0_pairBehind : jCS K_X0_pairBehind 3 := ⟨m2_170, m2_169, m1_7, by decide, by decide, by decide +kernel⟩
set_option maxRecDepth 20000 in
theorem q_X0_depthOf : jCS K_X0_depthOf 1 := ⟨m2_176, m2_175, m1_7, by decide, by decide, by decide +kernel⟩
set_option maxRecDepth 20000 in
theorem q_X0_fewestTillNeighbours : jCV K_X0_fewestTillNeighbours 3 := ⟨m2_167, m2_165, m2_166, m1_7, by decide, by decide, by decide +kernel⟩
set_option maxRecDepth 20000 in
theorem q_X9_beside : jCV K_X9_beside 2 := ⟨m2_163, m2_161, m2_162, m1_1, by decide, by decide, by decide +kernel⟩
set_option maxRecDepth 20000 in
theorem q_X0_heldWith : jCV K_X0_heldWith 2 := ⟨m2_191, m2_190, m0_10, m1_7, by decide, by decide, by decide +kernel⟩
set_option maxRecDepth 20000 in
theorem q_X0_countOrders : jCV K_X0_countOrders 2 := ⟨m2_184, m2_182, m2_183, m1_7, by decide, by decide, by decide +kernel⟩
set_option maxRecDepth 20000 in
theorem q_X9_orders : jCV K_X9_orders 1 := ⟨m2_180, m2_178, m2_179, m1_1, by decide, by decide, by decide +kernel⟩
set_option maxRecDepth 20000 in
theorem q_X4_risingRows : jCS K_X4_risingRows 2 := ⟨m2_198, m2_197, m1_9, by decide, by decide, by decide +kernel⟩
set_option maxRecDepth 20000 in
theorem q_X9_rising : jCV K_X9_rising 0 := ⟨m2_195, m2_193, m2_194, m1_1, by decide, by decide, by decide +kernel⟩
set_option maxRecDepth 20000 in
theorem q_X5_areUnlike : jCV K_X5_areUnlike 2 := ⟨m2_206, m2_204, m2_205, m1_3, by decide, by decide, by decide +kernel⟩
set_option maxRecDepth 20000 in
theorem q_X9_pairs : jCV K_X9_pairs 0 := ⟨m2_202, m2_200, m2_201, m1_1, by decide, by decide, by decide +kernel⟩
set_option maxRecDepth 20000 in
theorem q_X2_dealtOff : jCS K_X2_dealtOff 3 := ⟨m2_218, m2_217, m1_8, by decide, by decide, by decide +kernel⟩
set_option maxRecDepth 20000 in
theorem q_X2_areUnlikeAt : jCS K_X2_areUnlikeAt 4 := ⟨m2_227, m2_226, m1_8, by decide, by decide, by decide +kernel⟩
set_option maxRecDepth 20000 in
theorem q_X2_waysOf : jCV K_X2_waysOf 2 := ⟨m2_232, m2_231, m0_12, m1_8, by decide, by decide, by decide +kernel⟩
set_option maxRecDepth 20000 in
theorem q_X2_waysByLastPair : jCV K_X2_waysByLastPair 5 := ⟨m2_224, m2_223, m0_11, m1_8, by decide, by decide, by decide +kernel⟩
set_option maxRecDepth 20000 in
theorem q_X2_setWays : jCV K_X2_setWays 3 := ⟨m2_237, m2_236, m0_13, m1_8, by decide, by decide, by decide +kernel⟩
set_option maxRecDepth 20000 in
theorem q_X2_goodWays : jCV K_X2_goodWays 3 := ⟨m2_215, m2_213, m2_214, m1_8, by decide, by decide, by decide +kernel⟩
set_option maxRecDepth 20000 in
theorem q_X1_choices : jCS K_X1_choices 2 := ⟨m3_0, m2_239, m1_13, by decide, by decide, by decide +kernel⟩
set_option maxRecDepth 20000 in
theorem q_X1_partOf : jCS K_X1_partOf 3 := ⟨m3_3, m3_2, m1_13, by decide, by decide, by decide +kernel⟩
set_option maxRecDepth 20000 in
theorem q_X9_sure : jCV K_X9_sure 2 := ⟨m2_211, m2_209, m2_210, m1_1, by decide, by decide, by decide +kernel⟩
set_option maxRecDepth 20000 in
theorem q_X7_add : jCV K_X7_add 2 := ⟨m3_12, m3_10, m3_11, m1_6, by decide, by decide, by decide +kernel⟩
set_option maxRecDepth 20000 in
theorem q_X9_seen : jCV K_X9_seen 2 := ⟨m3_8, m3_6, m3_7, m1_1, by decide, by decide, by decide +kernel⟩
set_option maxRecDepth 20000 in
theorem q_X9_forget : jCV K_X9_forget 0 := ⟨m3_16, m3_14, m3_15, m1_1, by decide, by decide, by decide +kernel⟩
set_option maxRecDepth 20000 in
theorem q_X7_fit : jCV K_X7_fit 1 := ⟨m3_28, m3_26, m3_27, m1_6, by decide, by decide, by decide +kernel⟩
set_option maxRecDepth 20000 in
theorem q_X9_fittingKinds : jCV K_X9_fittingKinds 0 := ⟨m3_24, m3_23, m0_14, m1_1, by decide, by decide, by decide +kernel⟩
set_option maxRecDepth 20000 in
theorem q_X9_fittingCuts : jCV K_X9_fittingCuts 0 := ⟨m3_33, m3_32, m0_15, m1_1, by decide, by decide, by decide +kernel⟩
set_option maxRecDepth 20000 in
theorem q_X9_done : jCV K_X9_done 1 := ⟨m3_20, m3_18, m3_19, m1_1, by decide, by decide, by decide +kernel⟩
set_option maxRecDepth 20000 in
theorem q_X9_endOfWay : jCV K_X9_endOfWay 3 := ⟨m3_41, m3_40, m0_16, m1_1, by decide, by decide, by decide +kernel⟩
set_option maxRecDepth 20000 in
theorem q_X9_weightOfWay : jCS K_X9_weightOfWay 3 := ⟨m3_45, m3_44, m1_1, by decide, by decide, by decide +kernel⟩
set_option maxRecDepth 20000 in
theorem q_X9_powerOfTen : jCS K_X9_powerOfTen 1 := ⟨m3_48, m3_47, m1_1, by decide, by decide, by decide +kernel⟩
set_option maxRecDepth 20000 in
theorem q_X9_likely : jCV K_X9_likely 5 := ⟨m3_37, m3_35, m3_36, m1_1, by decide, by decide, by decide +kernel⟩
set_option maxRecDepth 20000 in
theorem q_X9_drawOf : jCS K_X9_drawOf 2 := ⟨m3_55, m3_54, m1_1, by decide, by decide, by decide +kernel⟩
set_option maxRecDepth 20000 in
theorem q_X9_drawnMove : jCV K_X9_drawnMove 1 := ⟨m3_63, m3_62, m0_17, m1_1, by decide, by decide, by decide +kernel⟩
set_option maxRecDepth 20000 in
theorem q_X4_sameCards : jCS K_X4_sameCards 3 := ⟨m3_66, m3_65, m1_9, by decide, by decide, by decide +kernel⟩
set_option maxRecDepth 20000 in
theorem q_X9_dealing : jCV K_X9_dealing 3 := ⟨m3_52, m3_50, m3_51, m1_1, by decide, by decide, by decide +kernel⟩
set_option maxRecDepth 20000 in
theorem q_X9_keep : jCV K_X9_keep 0 := ⟨m3_70, m3_68, m3_69, m1_1, by decide, by decide, by decide +kernel⟩
set_option maxRecDepth 20000 in
theorem q_X9_back : jCV K_X9_back 0 := ⟨m3_75, m3_73, m3_74, m1_1, by decide, by decide, by decide +kernel⟩
set_option maxRecDepth 20000 in
theorem q_X9_count : jCV K_X9_count 1 := ⟨m3_79, m3_77, m3_78, m1_1, by decide, by decide, by decide +kernel⟩
set_option maxRecDepth 20000 in
theorem q_X10_colours : jCV K_X10_colours 0 := ⟨m3_93, m3_92, m0_19, m1_11, by decide, by decide, by decide +kernel⟩
set_option maxRecDepth 20000 in
theorem q_X10_clearTold : jCV K_X10_clearTold 0 := ⟨m3_89, m3_88, m0_18, m1_11, by decide, by decide, by decide +kernel⟩
set_option maxRecDepth 20000 in
theorem q_X10_copies : jCS K_X10_copies 5 := ⟨m3_100, m3_99, m1_11, by decide, by decide, by decide +kernel⟩
set_option maxRecDepth 20000 in
theorem q_X10_lies : jCS K_X10_lies 1 := ⟨m3_103, m3_102, m1_11, by decide, by decide, by decide +kernel⟩
set_option maxRecDepth 20000 in
theorem q_X10_settles : jCV K_X10_settles 0 := ⟨m3_97, m3_96, m0_20, m1_11, by decide, by decide, by decide +kernel⟩
set_option maxRecDepth 20000 in
theorem q_X10_in : jCS K_X10_in 3 := ⟨m3_192, m3_191, m1_11, by decide, by decide, by decide +kernel⟩
set_option maxRecDepth 20000 in
theorem q_X10_isCard : jCV K_X10_isCard 1 := ⟨m4_4, m4_3, m0_28, m1_11, by decide, by decide, by decide +kernel⟩
set_option maxRecDepth 20000 in
theorem q_X10_isKind : jCS K_X10_isKind 1 := ⟨m4_27, m4_26, m1_11, by decide, by decide, by decide +kernel⟩
set_option maxRecDepth 20000 in
theorem q_X10_write : jCV K_X10_write 1 := ⟨m3_189, m3_187, m3_188, m1_11, by decide, by decide, by decide +kernel⟩
set_option maxRecDepth 20000 in
theorem q_X10_wipe : jCV K_X10_wipe 0 := ⟨m3_196, m3_194, m3_195, m1_11, by decide, by decide, by decide +kernel⟩
set_option maxRecDepth 20000 in
theorem q_X10_letterAt : jCV K_X10_letterAt 1 := ⟨m3_208, m3_207, m0_22, m1_11, by decide, by decide, by decide +kernel⟩
set_option maxRecDepth 20000 in
theorem q_X10_isFigure : jCS K_X10_isFigure 1 := ⟨m3_219, m3_218, m1_11, by decide, by decide, by decide +kernel⟩
set_option maxRecDepth 20000 in
theorem q_X10_readNumbers : jCV K_X10_readNumbers 1 := ⟨m3_216, m3_215, m0_24, m1_11, by decide, by decide, by decide +kernel⟩
set_option maxRecDepth 20000 in
theorem q_X10_isTold : jCV K_X10_isTold 3 := ⟨m3_223, m3_222, m0_25, m1_11, by decide, by decide, by decide +kernel⟩
set_option maxRecDepth 20000 in
theorem q_X10_readCardsOf : jCV K_X10_readCardsOf 0 := ⟨m3_212, m3_211, m0_23, m1_11, by decide, by decide, by decide +kernel⟩
set_option maxRecDepth 20000 in
theorem q_X10_readColourOf : jCV K_X10_readColourOf 0 := ⟨m3_227, m3_226, m0_26, m1_11, by decide, by decide, by decide +kernel⟩
set_option maxRecDepth 20000 in
theorem q_X10_readDealOf : jCV K_X10_readDealOf 2 := ⟨m3_231, m3_230, m0_27, m1_11, by decide, by decide, by decide +kernel⟩
set_option maxRecDepth 20000 in
theorem q_X10_readItem : jCV K_X10_readItem 0 := ⟨m3_204, m3_203, m0_21, m1_11, by decide, by decide, by decide +kernel⟩
set_option maxRecDepth 20000 in
theorem q_X10_fault : jCV K_X10_fault 0 := ⟨m3_200, m3_198, m3_199, m1_11, by decide, by decide, by decide +kernel⟩
set_option maxRecDepth 20000 in
theorem q_X10_lay : jCV K_X10_lay 0 := ⟨m3_235, m3_233, m3_234, m1_11, by decide, by decide, by decide +kernel⟩
set_option maxRecDepth 20000 in
theorem q_X10_asItIs : jCV K_X10_asItIs 0 := ⟨m4_12, m4_11, m0_29, m1_11, by decide, by decide, by decide +kernel⟩
set_option maxRecDepth 20000 in
theorem q_X10_falls : jCV K_X10_falls 3 := ⟨m4_43, m4_42, m0_34, m1_11, by decide, by decide, by decide +kernel⟩
set_option maxRecDepth 20000 in
theorem q_X10_milks : jCV K_X10_milks 0 := ⟨m4_47, m4_46, m0_35, m1_11, by decide, by decide, by decide +kernel⟩
set_option maxRecDepth 20000 in
theorem q_X10_under : jCV K_X10_under 0 := ⟨m4_51, m4_50, m0_36, m1_11, by decide, by decide, by decide +kernel⟩
set_option maxRecDepth 20000 in
theorem q_X10_cuts : jCV K_X10_cuts 1 := ⟨m4_55, m4_54, m0_37, m1_11, by decide, by decide, by decide +kernel⟩
set_option maxRecDepth 20000 in
theorem q_X10_acts : jCV K_X10_acts 1 := ⟨m4_39, m4_38, m0_33, m1_11, by decide, by decide, by decide +kernel⟩
set_option maxRecDepth 20000 in
theorem q_X10_deals : jCV K_X10_deals 0 := ⟨m4_71, m4_70, m0_38, m1_11, by decide, by decide, by decide +kernel⟩
set_option maxRecDepth 20000 in
theorem q_X10_placeOf : jCV K_X10_placeOf 1 := ⟨m4_16, m4_15, m0_30, m1_11, by decide, by decide, by decide +kernel⟩
set_option maxRecDepth 20000 in
theorem q_X10_at : jCV K_X10_at 1 := ⟨m4_0, m3_238, m3_239, m1_11, by decide, by decide, by decide +kernel⟩
set_option maxRecDepth 20000 in
theorem q_X10_where : jCV K_X10_where 1 := ⟨m4_8, m4_6, m4_7, m1_11, by decide, by decide, by decide +kernel⟩
set_option maxRecDepth 20000 in
theorem q_X10_colour : jCV K_X10_colour 1 := ⟨m4_20, m4_18, m4_19, m1_11, by decide, by decide, by decide +kernel⟩
set_option maxRecDepth 20000 in
theorem q_X10_remembers : jCV K_X10_remembers 0 := ⟨m4_35, m4_34, m0_32, m1_11, by decide, by decide, by decide +kernel⟩
set_option maxRecDepth 20000 in
theorem q_X10_does : jCV K_X10_does 1 := ⟨m4_31, m4_30, m0_31, m1_11, by decide, by decide, by decide +kernel⟩
set_option maxRecDepth 20000 in
theorem q_X10_lace : jCV K_X10_lace 1 := ⟨m4_24, m4_22, m4_23, m1_11, by decide, by decide, by decide +kernel⟩
set_option maxRecDepth 20000 in
theorem q_X10_cut : jCV K_X10_cut 1 := ⟨m4_59, m4_57, m4_58, m1_11, by decide, by decide, by decide +kernel⟩
set_option maxRecDepth 20000 in
theorem q_X10_turn : jCV K_X10_turn 0 := ⟨m4_63, m4_61, m4_62, m1_11, by decide, by decide, by decide +kernel⟩
set_option maxRecDepth 20000 in
theorem q_X10_deal : jCV K_X10_deal 0 := ⟨m4_67, m4_65, m4_66, m1_11, by decide, by decide, by decide +kernel⟩
set_option maxRecDepth 20000 in
theorem q_X10_undo : jCV K_X10_undo 0 := ⟨m4_75, m4_73, m4_74, m1_11, by decide, by decide, by decide +kernel⟩
set_option maxRecDepth 20000 in
theorem q_X10_isInOrder : jCV K_X10_isInOrder 0 := ⟨m4_83, m4_82, m0_39, m1_11, by decide, by decide, by decide +kernel⟩
set_option maxRecDepth 20000 in
theorem q_X10_again : jCV K_X10_again 1 := ⟨m4_79, m4_77, m4_78, m1_11, by decide, by decide, by decide +kernel⟩
set_option maxRecDepth 20000 in
theorem q_X10_round : jCV K_X10_round 2 := ⟨m4_87, m4_85, m4_86, m1_11, by decide, by decide, by decide +kernel⟩
set_option maxRecDepth 20000 in
theorem q_X10_rounds : jCV K_X10_rounds 1 := ⟨m4_91, m4_89, m4_90, m1_11, by decide, by decide, by decide +kernel⟩
set_option maxRecDepth 20000 in
theorem q_X10_findGoes : jCV K_X10_findGoes 0 := ⟨m4_103, m4_102, m0_41, m1_11, by decide, by decide, by decide +kernel⟩
set_option maxRecDepth 20000 in
theorem q_X10_findFar : jCV K_X10_findFar 1 := ⟨m4_99, m4_98, m0_40, m1_11, by decide, by decide, by decide +kernel⟩
set_option maxRecDepth 20000 in
theorem q_X10_bring : jCV K_X10_bring 3 := ⟨m4_95, m4_93, m4_94, m1_11, by decide, by decide, by decide +kernel⟩
set_option maxRecDepth 20000 in
theorem q_X10_beside : jCV K_X10_beside 2 := ⟨m4_107, m4_105, m4_106, m1_11, by decide, by decide, by decide +kernel⟩
set_option maxRecDepth 20000 in
theorem q_X10_isMet : jCV K_X10_isMet 0 := ⟨m4_115, m4_114, m0_42, m1_11, by decide, by decide, by decide +kernel⟩
set_option maxRecDepth 20000 in
theorem q_X10_orders : jCV K_X10_orders 1 := ⟨m4_111, m4_109, m4_110, m1_11, by decide, by decide, by decide +kernel⟩
set_option maxRecDepth 20000 in
theorem q_X10_risingNow : jCV K_X10_risingNow 0 := ⟨m4_123, m4_122, m0_43, m1_11, by decide, by decide, by decide +kernel⟩
set_option maxRecDepth 20000 in
theorem q_X10_rising : jCV K_X10_rising 0 := ⟨m4_119, m4_117, m4_118, m1_11, by decide, by decide, by decide +kernel⟩
set_option maxRecDepth 20000 in
theorem q_X10_unlike : jCV K_X10_unlike 1 := ⟨m4_131, m4_130, m0_44, m1_11, by decide, by decide, by decide +kernel⟩
set_option maxRecDepth 20000 in
theorem q_X10_pairs : jCV K_X10_pairs 0 := ⟨m4_127, m4_125, m4_126, m1_11, by decide, by decide, by decide +kernel⟩
set_option maxRecDepth 20000 in
theorem q_X10_lowest : jCS K_X10_lowest 3 := ⟨m4_141, m4_140, m1_11, by decide, by decide, by decide +kernel⟩
set_option maxRecDepth 20000 in
theorem q_X10_bits : jCS K_X10_bits 1 := ⟨m4_138, m4_137, m1_11, by decide, by decide, by decide +kernel⟩
set_option maxRecDepth 20000 in
theorem q_X10_sure : jCV K_X10_sure 2 := ⟨m4_135, m4_133, m4_134, m1_11, by decide, by decide, by decide +kernel⟩
set_option maxRecDepth 20000 in
theorem q_X10_seen : jCV K_X10_seen 2 := ⟨m4_145, m4_143, m4_144, m1_11, by decide, by decide, by decide +kernel⟩
set_option maxRecDepth 20000 in
theorem q_X10_forget : jCV K_X10_forget 0 := ⟨m4_149, m4_147, m4_148, m1_11, by decide, by decide, by decide +kernel⟩
set_option maxRecDepth 20000 in
theorem q_X10_isBy : jCV K_X10_isBy 1 := ⟨m4_157, m4_156, m0_45, m1_11, by decide, by decide, by decide +kernel⟩
set_option maxRecDepth 20000 in
theorem q_X10_done : jCV K_X10_done 1 := ⟨m4_153, m4_151, m4_152, m1_11, by decide, by decide, by decide +kernel⟩
set_option maxRecDepth 20000 in
theorem q_X10_likely : jCV K_X10_likely 5 := ⟨m4_161, m4_159, m4_160, m1_11, by decide, by decide, by decide +kernel⟩
set_option maxRecDepth 20000 in
theorem q_X10_dealing : jCV K_X10_dealing 3 := ⟨m4_165, m4_163, m4_164, m1_11, by decide, by decide, by decide +kernel⟩
set_option maxRecDepth 20000 in
theorem q_X10_keep : jCV K_X10_keep 0 := ⟨m4_173, m4_171, m4_172, m1_11, by decide, by decide, by decide +kernel⟩
set_option maxRecDepth 20000 in
theorem q_X10_back : jCV K_X10_back 0 := ⟨m4_177, m4_175, m4_176, m1_11, by decide, by decide, by decide +kernel⟩
set_option maxRecDepth 20000 in
theorem q_X10_count : jCV K_X10_count 1 := ⟨m4_181, m4_179, m4_180, m1_11, by decide, by decide, by decide +kernel⟩
end
section
/-! the methods as pure functions: none where the machine would throw or the fuel F ends -/
def f_X4_with (F : Nat) (x0 : Int64) (x2 : Int32) (x3 : Int32) : Option (Int64) :=
  some ((x0 ||| (jlshl x3.toInt64 ((4 : Int32) * x2))))
def g_X4_inOrder_4 (F : Nat) (x0 : Int32) : Nat → Int64 → Int32 → Option (Int64)
  | 0, _, _ => none
  | n + 1, x1, x3 =>
    if x0 ≤ x3 then
      some (x1)
    else
      (f_X4_with F x1 x3 x3).bind fun b1 =>
      g_X4_inOrder_4 F x0 n b1 (x3 + (1 : Int32))
def f_X4_inOrder (F : Nat) (x0 : Int32) : Option (Int64) :=
  g_X4_inOrder_4 F x0 F (0 : Int64) (0 : Int32)
def f_X5_begin (F : Nat) (x1 : Int32) (v_o_cards : Int32) (v_o_colours : Int32) (v_o_acts : Int32) (v_o_deal : Int64) : Option (Int32 × Int32 × Int32 × Int64) :=
  (f_X4_inOrder F x1).bind fun b1 =>
  some (x1, (1145324612 : Int32), (0 : Int32), b1)
def f_X9_within (F : Nat) (x0 : Int32) (x1 : Int32) (x2 : Int32) : Option (Int32) :=
  if x0 < x1 then
    some ((0 : Int32))
  else
    if x2 < x0 then
      some ((0 : Int32))
    else
      some ((1 : Int32))
def f_X5_tellColour (F : Nat) (x1 : Int32) (x2 : Int32) (v_o_cards : Int32) (v_o_colours : Int32) (v_o_cardsAreFixed : Int32) : Option (Int32 × Int32 × Int32) :=
  (f_X9_within F x1 (0 : Int32) (v_o_cards - (1 : Int32))).bind fun b1 =>
  if b1 = (0 : Int32) then
    some ((0 : Int32), v_o_colours, v_o_cardsAreFixed)
  else
    (f_X9_within F x2 (0 : Int32) (3 : Int32)).bind fun b2 =>
    if b2 = (0 : Int32) then
      some ((0 : Int32), v_o_colours, v_o_cardsAreFixed)
    else
      some ((1 : Int32), ((v_o_colours &&& ((jshl (3 : Int32) ((2 : Int32) * x1)) ^^^ (-1 : Int32))) ||| (jshl x2 ((2 : Int32) * x1))), (1 : Int32))
def f_X9_isKind (F : Nat) (x0 : Int32) : Option (Int32) :=
  (f_X9_within F x0 (0 : Int32) (4 : Int32)).bind fun b1 =>
  jgz b1 (some (b1))
def f_X4_cardAt (F : Nat) (x0 : Int64) (x2 : Int32) : Option (Int32) :=
  some ((((jlushr x0 ((4 : Int32) * x2))).toInt32 &&& (15 : Int32)))
def g_X3_downAndUnder_10 (F : Nat) (x0 : Int32) : Nat → Int64 → Int64 → Int32 → Option (Int64)
  | 0, _, _, _ => none
  | n + 1, x1, x3, x5 =>
    if x0 ≤ x5 then
      some (x3)
    else
      (f_X4_cardAt F x1 (0 : Int32)).bind fun b1 =>
      (f_X4_with F x3 x5 b1).bind fun b2 =>
      if ((x0 - (1 : Int32)) - x5) ≤ (1 : Int32) then
        g_X3_downAndUnder_10 F x0 n (jlushr x1 (4 : Int32)) b2 (x5 + (1 : Int32))
      else
        (f_X4_cardAt F (jlushr x1 (4 : Int32)) (0 : Int32)).bind fun b3 =>
        (f_X4_with F (jlushr (jlushr x1 (4 : Int32)) (4 : Int32)) (((x0 - (1 : Int32)) - x5) - (1 : Int32)) b3).bind fun b4 =>
        g_X3_downAndUnder_10 F x0 n b4 b2 (x5 + (1 : Int32))
def f_X3_downAndUnder (F : Nat) (x0 : Int32) : Option (Int64) :=
  (f_X4_inOrder F x0).bind fun b1 =>
  g_X3_downAndUnder_10 F x0 F b1 (0 : Int64) (0 : Int32)
def g_X3_source_15 (F : Nat) (x0 : Int32) (x1 : Int32) (x2 : Int32) (x3 : Int32) (s0 : Int32) : Option (Int32) :=
  if x0 = (0 : Int32) then
    if s0 = (0 : Int32) then
      jgd (2 : Int32) (
      some ((((x1 + (1 : Int32)) / (2 : Int32)) + x3)))
    else
      some (x3)
  else if x0 = (1 : Int32) then
    if s0 = (0 : Int32) then
      some (x3)
    else
      jgd (2 : Int32) (
      some (((x1 / (2 : Int32)) + x3)))
  else if x0 = (2 : Int32) then
    if s0 = (0 : Int32) then
      some (((x1 - (1 : Int32)) - x3))
    else
      some (x3)
  else
    if s0 = (0 : Int32) then
      some (x3)
    else
      some (((x1 - (1 : Int32)) - x3))
def f_X3_source (F : Nat) (x0 : Int32) (x1 : Int32) (x2 : Int32) : Option (Int32) :=
  jgd (2 : Int32) (
  jgd (2 : Int32) (
  if (jrem x2 (2 : Int32)) = (0 : Int32) then
    g_X3_source_15 F x0 x1 x2 (x2 / (2 : Int32)) (1 : Int32)
  else
    g_X3_source_15 F x0 x1 x2 (x2 / (2 : Int32)) (0 : Int32)))
def g_X3_lacing_15 (F : Nat) (x0 : Int32) (x1 : Int32) : Nat → Int64 → Int32 → Option (Int64)
  | 0, _, _ => none
  | n + 1, x2, x4 =>
    if x1 ≤ x4 then
      some (x2)
    else
      (f_X3_source F x0 x1 x4).bind fun b1 =>
      (f_X4_with F x2 x4 b1).bind fun b2 =>
      g_X3_lacing_15 F x0 x1 n b2 (x4 + (1 : Int32))
def f_X3_lacing (F : Nat) (x0 : Int32) (x1 : Int32) : Option (Int64) :=
  if x0 = (3 : Int32) then
    (f_X3_downAndUnder F x1).bind fun b1 =>
    some (b1)
  else
    g_X3_lacing_15 F x0 x1 F (0 : Int64) (0 : Int32)
def g_X4_moved_6 (F : Nat) (x0 : Int64) (x2 : Int64) (x4 : Int32) : Nat → Int64 → Int32 → Option (Int64)
  | 0, _, _ => none
  | n + 1, x5, x7 =>
    if x4 ≤ x7 then
      some (x5)
    else
      (f_X4_cardAt F x2 x7).bind fun b1 =>
      (f_X4_cardAt F x0 b1).bind fun b2 =>
      (f_X4_with F x5 x7 b2).bind fun b3 =>
      g_X4_moved_6 F x0 x2 x4 n b3 (x7 + (1 : Int32))
def f_X4_moved (F : Nat) (x0 : Int64) (x2 : Int64) (x4 : Int32) : Option (Int64) :=
  g_X4_moved_6 F x0 x2 x4 F (0 : Int64) (0 : Int32)
def f_X5_addAct (F : Nat) (x1 : Int64) (v_o_cards : Int32) (v_o_acts : Int32) (v_o_deal : Int64) (v_o_cardsAreFixed : Int32) : Option (Int32 × Int32 × Int64 × Int32) :=
  if v_o_acts < (16 : Int32) then
    (f_X4_moved F v_o_deal x1 v_o_cards).bind fun b1 =>
    some ((1 : Int32), (v_o_acts + (1 : Int32)), b1, (1 : Int32))
  else
    some ((0 : Int32), v_o_acts, v_o_deal, v_o_cardsAreFixed)
def f_X5_tellLacing (F : Nat) (x1 : Int32) (v_o_cards : Int32) (v_o_acts : Int32) (v_o_deal : Int64) (v_o_cardsAreFixed : Int32) : Option (Int32 × Int32 × Int64 × Int32) :=
  (f_X9_isKind F x1).bind fun b1 =>
  if b1 = (0 : Int32) then
    some ((0 : Int32), v_o_acts, v_o_deal, v_o_cardsAreFixed)
  else
    (f_X3_lacing F x1 v_o_cards).bind fun b2 =>
    (f_X5_addAct F b2 v_o_cards v_o_acts v_o_deal v_o_cardsAreFixed).bind fun b3 =>
    if b3.1 = (0 : Int32) then
      some ((0 : Int32), b3.2.1, b3.2.2.1, b3.2.2.2)
    else
      some ((1 : Int32), b3.2.1, b3.2.2.1, b3.2.2.2)
def g_X3_cutAt_5 (F : Nat) (x0 : Int32) (x1 : Int32) : Nat → Int64 → Int32 → Option (Int64)
  | 0, _, _ => none
  | n + 1, x2, x4 =>
    if x1 ≤ x4 then
      some (x2)
    else
      if x1 ≤ (x4 + x0) then
        (f_X4_with F x2 x4 ((x4 + x0) - x1)).bind fun b1 =>
        g_X3_cutAt_5 F x0 x1 n b1 (x4 + (1 : Int32))
      else
        (f_X4_with F x2 x4 (x4 + x0)).bind fun b2 =>
        g_X3_cutAt_5 F x0 x1 n b2 (x4 + (1 : Int32))
def f_X3_cutAt (F : Nat) (x0 : Int32) (x1 : Int32) : Option (Int64) :=
  g_X3_cutAt_5 F x0 x1 F (0 : Int64) (0 : Int32)
def f_X5_tellCut (F : Nat) (x1 : Int32) (v_o_cards : Int32) (v_o_acts : Int32) (v_o_deal : Int64) (v_o_cardsAreFixed : Int32) : Option (Int32 × Int32 × Int64 × Int32) :=
  (f_X9_within F x1 (0 : Int32) (v_o_cards - (1 : Int32))).bind fun b1 =>
  if b1 = (0 : Int32) then
    some ((0 : Int32), v_o_acts, v_o_deal, v_o_cardsAreFixed)
  else
    (f_X3_cutAt F x1 v_o_cards).bind fun b2 =>
    (f_X5_addAct F b2 v_o_cards v_o_acts v_o_deal v_o_cardsAreFixed).bind fun b3 =>
    if b3.1 = (0 : Int32) then
      some ((0 : Int32), b3.2.1, b3.2.2.1, b3.2.2.2)
    else
      some ((1 : Int32), b3.2.1, b3.2.2.1, b3.2.2.2)
def f_X5_tellFirst (F : Nat) (v_o_cards : Int32) (v_o_colours : Int32) (v_o_acts : Int32) (v_o_deal : Int64) (v_o_cardsAreFixed : Int32) : Option (Int32 × Int32 × Int32 × Int64 × Int32) :=
  (f_X5_begin F (10 : Int32) v_o_cards v_o_colours v_o_acts v_o_deal).bind fun b1 =>
  (f_X5_tellColour F (3 : Int32) (0 : Int32) b1.1 b1.2.1 v_o_cardsAreFixed).bind fun b2 =>
  (f_X5_tellColour F (4 : Int32) (2 : Int32) b1.1 b2.2.1 b2.2.2).bind fun b3 =>
  (f_X5_tellLacing F (0 : Int32) b1.1 b1.2.2.1 b1.2.2.2 b3.2.2).bind fun b4 =>
  (f_X5_tellCut F (3 : Int32) b1.1 b4.2.1 b4.2.2.1 b4.2.2.2).bind fun b5 =>
  (f_X5_tellLacing F (1 : Int32) b1.1 b5.2.1 b5.2.2.1 b5.2.2.2).bind fun b6 =>
  some (b1.1, b3.2.1, b6.2.1, b6.2.2.1, b6.2.2.2)
def f_X8_append (F : Nat) (x1 : Int32) (v_o_length : Int32) (f_o_letters : Nat → Int32) : Option (Int32 × Int32 × (Nat → Int32)) :=
  if v_o_length < (0 : Int32) then
    some ((0 : Int32), v_o_length, f_o_letters)
  else
    if v_o_length < (200 : Int32) then
      jgi v_o_length 200 (
      some ((1 : Int32), (v_o_length + (1 : Int32)), (upd f_o_letters v_o_length.toNatClampNeg (vp_nar .char (jchar x1)))))
    else
      some ((0 : Int32), v_o_length, f_o_letters)
def f_X9_write (F : Nat) (x1 : Int32) (v_o_text_length : Int32) (f_o_text_letters : Nat → Int32) : Option (Int32 × Int32 × (Nat → Int32)) :=
  (f_X9_within F x1 (32 : Int32) (126 : Int32)).bind fun b1 =>
  if b1 = (0 : Int32) then
    some ((-1 : Int32), v_o_text_length, f_o_text_letters)
  else
    (f_X8_append F x1 v_o_text_length f_o_text_letters).bind fun b2 =>
    if b2.1 = (0 : Int32) then
      some ((-3 : Int32), b2.2.1, b2.2.2)
    else
      some (b2.2.1, b2.2.1, b2.2.2)
def f_X9_wipe (F : Nat) (v_o_text_length : Int32) : Option (Int32 × Int32) :=
  some (v_o_text_length, (0 : Int32))
def f_X5_tellNothing (F : Nat) (v_o_cards : Int32) (v_o_colours : Int32) (v_o_acts : Int32) (v_o_deal : Int64) (v_o_cardsAreFixed : Int32) : Option (Int32 × Int32 × Int32 × Int64 × Int32) :=
  (f_X5_begin F (8 : Int32) v_o_cards v_o_colours v_o_acts v_o_deal).bind fun b1 =>
  some (b1.1, b1.2.1, b1.2.2.1, b1.2.2.2, (0 : Int32))
def f_X8_nextLetter (F : Nat) (v_o_length : Int32) (f_o_letters : Nat → Int32) (v_o_next : Int32) : Option (Int32 × Int32) :=
  if v_o_next < (0 : Int32) then
    some ((0 : Int32), v_o_next)
  else
    if v_o_length ≤ v_o_next then
      some ((0 : Int32), v_o_next)
    else
      if v_o_next < (200 : Int32) then
        jgi v_o_next 200 (
        some ((f_o_letters v_o_next.toNatClampNeg), (v_o_next + (1 : Int32))))
      else
        some ((0 : Int32), v_o_next)
def f_X8_figureOf (F : Nat) (x0 : Int32) : Option (Int32) :=
  if x0 < (48 : Int32) then
    some ((-1 : Int32))
  else
    if (57 : Int32) < x0 then
      some ((-1 : Int32))
    else
      some ((x0 - (48 : Int32)))
def f_X8_readNumber (F : Nat) (x1 : Int32) (v_o_length : Int32) (f_o_letters : Nat → Int32) (v_o_next : Int32) : Option (Int32 × Int32) :=
  (f_X8_nextLetter F v_o_length f_o_letters v_o_next).bind fun b1 =>
  (f_X8_figureOf F b1.1).bind fun b2 =>
  if (0 : Int32) ≤ b2 then
    (f_X8_nextLetter F v_o_length f_o_letters b1.2).bind fun b3 =>
    (f_X8_figureOf F b3.1).bind fun b4 =>
    if b4 < (0 : Int32) then
      if b3.1 = x1 then
        some (b2, b3.2)
      else
        some ((-1 : Int32), b3.2)
    else
      (f_X8_figureOf F b3.1).bind fun b5 =>
      (f_X8_nextLetter F v_o_length f_o_letters b3.2).bind fun b6 =>
      if b6.1 = x1 then
        some ((((10 : Int32) * b2) + b5), b6.2)
      else
        some ((-1 : Int32), b6.2)
  else
    some ((-1 : Int32), b1.2)
def f_X5_tellCards (F : Nat) (x1 : Int32) (v_o_cardsAreFixed : Int32) (v_o_cards : Int32) (v_o_colours : Int32) (v_o_acts : Int32) (v_o_deal : Int64) : Option (Int32 × Int32 × Int32 × Int32 × Int64) :=
  if v_o_cardsAreFixed = (0 : Int32) then
    (f_X9_within F x1 (2 : Int32) (16 : Int32)).bind fun b1 =>
    if b1 = (0 : Int32) then
      some ((0 : Int32), v_o_cards, v_o_colours, v_o_acts, v_o_deal)
    else
      (f_X5_begin F x1 v_o_cards v_o_colours v_o_acts v_o_deal).bind fun b2 =>
      some ((1 : Int32), b2.1, b2.2.1, b2.2.2.1, b2.2.2.2)
  else
    some ((0 : Int32), v_o_cards, v_o_colours, v_o_acts, v_o_deal)
def f_X8_readItem (F : Nat) (v_o_length : Int32) (f_o_letters : Nat → Int32) (v_o_next : Int32) (v_p1_cards : Int32) (v_p1_colours : Int32) (v_p1_acts : Int32) (v_p1_deal : Int64) (v_p1_cardsAreFixed : Int32) : Option (Int32 × Int32 × Int32 × Int32 × Int32 × Int64 × Int32) :=
  (f_X8_nextLetter F v_o_length f_o_letters v_o_next).bind fun b1 =>
  if b1.1 = (99 : Int32) then
    (f_X8_readNumber F (44 : Int32) v_o_length f_o_letters b1.2).bind fun b6 =>
    (f_X8_readNumber F (59 : Int32) v_o_length f_o_letters b6.2).bind fun b7 =>
    (f_X5_tellColour F b6.1 b7.1 v_p1_cards v_p1_colours v_p1_cardsAreFixed).bind fun b8 =>
    jgz b8.1 (some (b8.1, b7.2, v_p1_cards, b8.2.1, v_p1_acts, v_p1_deal, b8.2.2))
  else
    (f_X8_readNumber F (59 : Int32) v_o_length f_o_letters b1.2).bind fun b2 =>
    if b1.1 = (108 : Int32) then
      (f_X5_tellLacing F b2.1 v_p1_cards v_p1_acts v_p1_deal v_p1_cardsAreFixed).bind fun b3 =>
      jgz b3.1 (some (b3.1, b2.2, v_p1_cards, v_p1_colours, b3.2.1, b3.2.2.1, b3.2.2.2))
    else if b1.1 = (110 : Int32) then
      (f_X5_tellCards F b2.1 v_p1_cardsAreFixed v_p1_cards v_p1_colours v_p1_acts v_p1_deal).bind fun b4 =>
      jgz b4.1 (some (b4.1, b2.2, b4.2.1, b4.2.2.1, b4.2.2.2.1, b4.2.2.2.2, v_p1_cardsAreFixed))
    else if b1.1 = (120 : Int32) then
      (f_X5_tellCut F b2.1 v_p1_cards v_p1_acts v_p1_deal v_p1_cardsAreFixed).bind fun b5 =>
      jgz b5.1 (some (b5.1, b2.2, v_p1_cards, v_p1_colours, b5.2.1, b5.2.2.1, b5.2.2.2))
    else
      some ((0 : Int32), b2.2, v_p1_cards, v_p1_colours, v_p1_acts, v_p1_deal, v_p1_cardsAreFixed)
def g_X8_firstFault_11 (F : Nat) (v_o_length : Int32) (f_o_letters : Nat → Int32) : Nat → Int32 → Int32 → Int32 → Int32 → Int32 → Int64 → Int32 → Option (Int32 × Int32 × Int32 × Int32 × Int32 × Int64 × Int32)
  | 0, _, _, _, _, _, _, _ => none
  | n + 1, x2, v_o_next, v_p1_cards, v_p1_colours, v_p1_acts, v_p1_deal, v_p1_cardsAreFixed =>
    if (200 : Int32) ≤ x2 then
      some ((-4 : Int32), v_o_next, v_p1_cards, v_p1_colours, v_p1_acts, v_p1_deal, v_p1_cardsAreFixed)
    else
      if v_o_length ≤ v_o_next then
        some ((-4 : Int32), v_o_next, v_p1_cards, v_p1_colours, v_p1_acts, v_p1_deal, v_p1_cardsAreFixed)
      else
        (f_X8_readItem F v_o_length f_o_letters v_o_next v_p1_cards v_p1_colours v_p1_acts v_p1_deal v_p1_cardsAreFixed).bind fun b1 =>
        if b1.1 = (0 : Int32) then
          some (v_o_next, b1.2.1, b1.2.2.1, b1.2.2.2.1, b1.2.2.2.2.1, b1.2.2.2.2.2.1, b1.2.2.2.2.2.2)
        else
          g_X8_firstFault_11 F v_o_length f_o_letters n (x2 + (1 : Int32)) b1.2.1 b1.2.2.1 b1.2.2.2.1 b1.2.2.2.2.1 b1.2.2.2.2.2.1 b1.2.2.2.2.2.2
def f_X8_firstFault (F : Nat) (v_o_length : Int32) (f_o_letters : Nat → Int32) (v_o_next : Int32) (v_p1_cards : Int32) (v_p1_colours : Int32) (v_p1_acts : Int32) (v_p1_deal : Int64) (v_p1_cardsAreFixed : Int32) : Option (Int32 × Int32 × Int32 × Int32 × Int32 × Int64 × Int32) :=
  (f_X5_tellNothing F v_p1_cards v_p1_colours v_p1_acts v_p1_deal v_p1_cardsAreFixed).bind fun b1 =>
  g_X8_firstFault_11 F v_o_length f_o_letters F (0 : Int32) (0 : Int32) b1.1 b1.2.1 b1.2.2.1 b1.2.2.2.1 b1.2.2.2.2
def f_X9_fault (F : Nat) (v_o_text_length : Int32) (f_o_text_letters : Nat → Int32) (v_o_draft_cards : Int32) (v_o_draft_colours : Int32) (v_o_draft_acts : Int32) (v_o_draft_deal : Int64) (v_o_draft_cardsAreFixed : Int32) (v_o_text_next : Int32) : Option (Int32 × Int32 × Int32 × Int32 × Int64 × Int32 × Int32) :=
  (f_X8_firstFault F v_o_text_length f_o_text_letters v_o_text_next v_o_draft_cards v_o_draft_colours v_o_draft_acts v_o_draft_deal v_o_draft_cardsAreFixed).bind fun b1 =>
  some (b1.1, b1.2.2.1, b1.2.2.2.1, b1.2.2.2.2.1, b1.2.2.2.2.2.1, b1.2.2.2.2.2.2, b1.2.1)
def f_X5_become (F : Nat) (v_p1_cards : Int32) (v_p1_colours : Int32) (v_p1_acts : Int32) (v_p1_deal : Int64) (v_p1_cardsAreFixed : Int32) (v_o_cards : Int32) (v_o_colours : Int32) (v_o_acts : Int32) (v_o_deal : Int64) (v_o_cardsAreFixed : Int32) : Option (Int32 × Int32 × Int32 × Int64 × Int32) :=
  jgz v_p1_cardsAreFixed (
  some (v_p1_cards, v_p1_colours, v_p1_acts, v_p1_deal, v_p1_cardsAreFixed))
def f_X9_lay (F : Nat) (v_o_text_length : Int32) (f_o_text_letters : Nat → Int32) (v_o_order : Int64) (v_o_draft_cards : Int32) (v_o_draft_colours : Int32) (v_o_draft_acts : Int32) (v_o_draft_deal : Int64) (v_o_draft_cardsAreFixed : Int32) (v_o_kept_held : Int32) (v_o_laid_cards : Int32) (v_o_laid_colours : Int32) (v_o_laid_acts : Int32) (v_o_laid_deal : Int64) (v_o_laid_cardsAreFixed : Int32) (v_o_past_held : Int32) (v_o_sightings_held : Int32) (v_o_text_next : Int32) : Option (Int32 × Int64 × Int32 × Int32 × Int32 × Int64 × Int32 × Int32 × Int32 × Int32 × Int32 × Int64 × Int32 × Int32 × Int32 × Int32) :=
  if v_o_text_length = (0 : Int32) then
    some ((-2 : Int32), v_o_order, v_o_draft_cards, v_o_draft_colours, v_o_draft_acts, v_o_draft_deal, v_o_draft_cardsAreFixed, v_o_kept_held, v_o_laid_cards, v_o_laid_colours, v_o_laid_acts, v_o_laid_deal, v_o_laid_cardsAreFixed, v_o_past_held, v_o_sightings_held, v_o_text_next)
  else
    (f_X8_firstFault F v_o_text_length f_o_text_letters v_o_text_next v_o_draft_cards v_o_draft_colours v_o_draft_acts v_o_draft_deal v_o_draft_cardsAreFixed).bind fun b1 =>
    if b1.1 = (-4 : Int32) then
      (f_X5_become F b1.2.2.1 b1.2.2.2.1 b1.2.2.2.2.1 b1.2.2.2.2.2.1 b1.2.2.2.2.2.2 v_o_laid_cards v_o_laid_colours v_o_laid_acts v_o_laid_deal v_o_laid_cardsAreFixed).bind fun b2 =>
      (f_X4_inOrder F b2.1).bind fun b3 =>
      some (b2.1, b3, b1.2.2.1, b1.2.2.2.1, b1.2.2.2.2.1, b1.2.2.2.2.2.1, b1.2.2.2.2.2.2, (0 : Int32), b2.1, b2.2.1, b2.2.2.1, b2.2.2.2.1, b2.2.2.2.2, (0 : Int32), (0 : Int32), b1.2.1)
    else
      some ((-2 : Int32), v_o_order, b1.2.2.1, b1.2.2.2.1, b1.2.2.2.2.1, b1.2.2.2.2.2.1, b1.2.2.2.2.2.2, v_o_kept_held, v_o_laid_cards, v_o_laid_colours, v_o_laid_acts, v_o_laid_deal, v_o_laid_cardsAreFixed, v_o_past_held, v_o_sightings_held, b1.2.1)
def f_X9_isPlace (F : Nat) (x1 : Int32) (v_o_laid_cards : Int32) : Option (Int32) :=
  (f_X9_within F x1 (0 : Int32) (v_o_laid_cards - (1 : Int32))).bind fun b1 =>
  jgz b1 (some (b1))
def f_X9_at (F : Nat) (x1 : Int32) (v_o_order : Int64) (v_o_laid_cards : Int32) : Option (Int32) :=
  (f_X9_isPlace F x1 v_o_laid_cards).bind fun b1 =>
  if b1 = (0 : Int32) then
    some ((-1 : Int32))
  else
    (f_X4_cardAt F v_o_order x1).bind fun b2 =>
    some (b2)
def f_X9_isCard (F : Nat) (x1 : Int32) (v_o_laid_cards : Int32) : Option (Int32) :=
  (f_X9_within F x1 (0 : Int32) (v_o_laid_cards - (1 : Int32))).bind fun b1 =>
  jgz b1 (some (b1))
def g_X4_placeOf_6 (F : Nat) (x0 : Int64) (x2 : Int32) (x3 : Int32) : Nat → Int32 → Int32 → Option (Int32)
  | 0, _, _ => none
  | n + 1, x4, x5 =>
    if x2 ≤ x5 then
      some (x4)
    else
      (f_X4_cardAt F x0 x5).bind fun b1 =>
      if b1 = x3 then
        g_X4_placeOf_6 F x0 x2 x3 n x5 (x5 + (1 : Int32))
      else
        g_X4_placeOf_6 F x0 x2 x3 n x4 (x5 + (1 : Int32))
def f_X4_placeOf (F : Nat) (x0 : Int64) (x2 : Int32) (x3 : Int32) : Option (Int32) :=
  g_X4_placeOf_6 F x0 x2 x3 F (0 : Int32) (0 : Int32)
def f_X9_where (F : Nat) (x1 : Int32) (v_o_order : Int64) (v_o_laid_cards : Int32) : Option (Int32) :=
  (f_X9_isCard F x1 v_o_laid_cards).bind fun b1 =>
  if b1 = (0 : Int32) then
    some ((-1 : Int32))
  else
    (f_X4_placeOf F v_o_order v_o_laid_cards x1).bind fun b2 =>
    some (b2)
def f_X5_colourOf (F : Nat) (x1 : Int32) (v_o_colours : Int32) : Option (Int32) :=
  some (((jushr v_o_colours ((2 : Int32) * x1)) &&& (3 : Int32)))
def f_X9_colour (F : Nat) (x1 : Int32) (v_o_laid_cards : Int32) (v_o_laid_colours : Int32) : Option (Int32) :=
  (f_X9_isCard F x1 v_o_laid_cards).bind fun b1 =>
  if b1 = (0 : Int32) then
    some ((-1 : Int32))
  else
    (f_X5_colourOf F x1 v_o_laid_colours).bind fun b2 =>
    some (b2)
def f_X6_isFull (F : Nat) (n_o_stored : Nat) (v_o_held : Int32) : Option (Int32) :=
  if v_o_held < (Int32.ofNat n_o_stored) then
    some ((0 : Int32))
  else
    some ((1 : Int32))
def g_X6_put_38 (F : Nat) (n_o_stored : Nat) (x1 : Int64) (v_o_held : Int32) (f_o_stored : Nat → Int64) : Option (Int32 × (Nat → Int64)) :=
  if v_o_held < (0 : Int32) then
    some (v_o_held, f_o_stored)
  else
    if (Int32.ofNat n_o_stored) ≤ v_o_held then
      some (v_o_held, f_o_stored)
    else
      jgi v_o_held n_o_stored (
      some ((v_o_held + (1 : Int32)), (vp_updL f_o_stored v_o_held.toNatClampNeg x1)))
def f_X6_put (F : Nat) (n_o_stored : Nat) (x1 : Int64) (v_o_held : Int32) (f_o_stored : Nat → Int64) : Option (Int32 × (Nat → Int64)) :=
  (f_X6_isFull F n_o_stored v_o_held).bind fun b1 =>
  if b1 = (0 : Int32) then
    g_X6_put_38 F n_o_stored x1 v_o_held f_o_stored
  else
    jgc (1 : Int32) (0 : Int32) ((Int32.ofNat n_o_stored) - (1 : Int32)) n_o_stored n_o_stored (
    g_X6_put_38 F n_o_stored x1 ((Int32.ofNat n_o_stored) - (1 : Int32)) (va_cpy f_o_stored f_o_stored (1 : Int32).toNatClampNeg (0 : Int32).toNatClampNeg ((Int32.ofNat n_o_stored) - (1 : Int32)).toNatClampNeg))
def f_X9_act (F : Nat) (x1 : Int64) (v_o_laid_cards : Int32) (v_o_order : Int64) (v_o_past_held : Int32) (f_o_past_stored : Nat → Int64) : Option (Int32 × Int64 × Int32 × (Nat → Int64)) :=
  (f_X6_put F 8 v_o_order v_o_past_held f_o_past_stored).bind fun b1 =>
  (f_X4_moved F v_o_order x1 v_o_laid_cards).bind fun b2 =>
  (f_X4_cardAt F b2 (0 : Int32)).bind fun b3 =>
  some (b3, b2, b1.1, b1.2)
def f_X9_lace (F : Nat) (x1 : Int32) (v_o_laid_cards : Int32) (v_o_order : Int64) (v_o_past_held : Int32) (f_o_past_stored : Nat → Int64) : Option (Int32 × Int64 × Int32 × (Nat → Int64)) :=
  (f_X9_isKind F x1).bind fun b1 =>
  if b1 = (0 : Int32) then
    some ((-1 : Int32), v_o_order, v_o_past_held, f_o_past_stored)
  else
    (f_X3_lacing F x1 v_o_laid_cards).bind fun b2 =>
    (f_X9_act F b2 v_o_laid_cards v_o_order v_o_past_held f_o_past_stored).bind fun b3 =>
    some (b3.1, b3.2.1, b3.2.2.1, b3.2.2.2)
def f_X9_cut (F : Nat) (x1 : Int32) (v_o_laid_cards : Int32) (v_o_order : Int64) (v_o_past_held : Int32) (f_o_past_stored : Nat → Int64) : Option (Int32 × Int64 × Int32 × (Nat → Int64)) :=
  (f_X9_within F x1 (0 : Int32) (v_o_laid_cards - (1 : Int32))).bind fun b1 =>
  if b1 = (0 : Int32) then
    some ((-1 : Int32), v_o_order, v_o_past_held, f_o_past_stored)
  else
    (f_X3_cutAt F x1 v_o_laid_cards).bind fun b2 =>
    (f_X9_act F b2 v_o_laid_cards v_o_order v_o_past_held f_o_past_stored).bind fun b3 =>
    some (b3.1, b3.2.1, b3.2.2.1, b3.2.2.2)
def g_X3_turnedOver_4 (F : Nat) (x0 : Int32) : Nat → Int64 → Int32 → Option (Int64)
  | 0, _, _ => none
  | n + 1, x1, x3 =>
    if x0 ≤ x3 then
      some (x1)
    else
      (f_X4_with F x1 x3 ((x0 - (1 : Int32)) - x3)).bind fun b1 =>
      g_X3_turnedOver_4 F x0 n b1 (x3 + (1 : Int32))
def f_X3_turnedOver (F : Nat) (x0 : Int32) : Option (Int64) :=
  g_X3_turnedOver_4 F x0 F (0 : Int64) (0 : Int32)
def f_X9_turn (F : Nat) (v_o_laid_cards : Int32) (v_o_order : Int64) (v_o_past_held : Int32) (f_o_past_stored : Nat → Int64) : Option (Int32 × Int64 × Int32 × (Nat → Int64)) :=
  (f_X3_turnedOver F v_o_laid_cards).bind fun b1 =>
  (f_X9_act F b1 v_o_laid_cards v_o_order v_o_past_held f_o_past_stored).bind fun b2 =>
  some (b2.1, b2.2.1, b2.2.2.1, b2.2.2.2)
def f_X9_deal (F : Nat) (v_o_laid_cards : Int32) (v_o_laid_deal : Int64) (v_o_order : Int64) (v_o_past_held : Int32) (f_o_past_stored : Nat → Int64) : Option (Int32 × Int64 × Int32 × (Nat → Int64)) :=
  (f_X9_act F v_o_laid_deal v_o_laid_cards v_o_order v_o_past_held f_o_past_stored).bind fun b1 =>
  some (b1.1, b1.2.1, b1.2.2.1, b1.2.2.2)
def f_X6_takeLast (F : Nat) (n_o_stored : Nat) (f_o_stored : Nat → Int64) (v_o_held : Int32) : Option (Int64 × Int32) :=
  if v_o_held ≤ (0 : Int32) then
    some ((0 : Int64), v_o_held)
  else
    if v_o_held ≤ (Int32.ofNat n_o_stored) then
      jgi (v_o_held - (1 : Int32)) n_o_stored (
      some ((f_o_stored (v_o_held - (1 : Int32)).toNatClampNeg), (v_o_held - (1 : Int32))))
    else
      some ((0 : Int64), v_o_held)
def f_X9_undo (F : Nat) (f_o_past_stored : Nat → Int64) (v_o_order : Int64) (v_o_past_held : Int32) : Option (Int32 × Int64 × Int32) :=
  if v_o_past_held = (0 : Int32) then
    some ((-2 : Int32), v_o_order, v_o_past_held)
  else
    (f_X6_takeLast F 8 f_o_past_stored v_o_past_held).bind fun b1 =>
    some (b1.2, b1.1, b1.2)
def g_X4_roundLength_6 (F : Nat) (x0 : Int64) (x2 : Int32) (x3 : Int32) : Nat → Int32 → Int32 → Option (Int32)
  | 0, _, _ => none
  | n + 1, x4, x5 =>
    if x2 ≤ x5 then
      some (x2)
    else
      (f_X4_cardAt F x0 x4).bind fun b1 =>
      if b1 = x3 then
        some (x5)
      else
        g_X4_roundLength_6 F x0 x2 x3 n b1 (x5 + (1 : Int32))
def f_X4_roundLength (F : Nat) (x0 : Int64) (x2 : Int32) (x3 : Int32) : Option (Int32) :=
  g_X4_roundLength_6 F x0 x2 x3 F x3 (1 : Int32)
def g_X1_commonDivisor_7 (F : Nat) (x0 : Int32) (x1 : Int32) : Nat → Int32 → Int32 → Int32 → Option (Int32)
  | 0, _, _, _ => none
  | n + 1, x2, x3, x4 =>
    if (64 : Int32) ≤ x4 then
      some (x2)
    else
      if x3 = (0 : Int32) then
        some (x2)
      else
        jgd x3 (
        g_X1_commonDivisor_7 F x0 x1 n x3 (jrem x2 x3) (x4 + (1 : Int32)))
def f_X1_commonDivisor (F : Nat) (x0 : Int32) (x1 : Int32) : Option (Int32) :=
  g_X1_commonDivisor_7 F x0 x1 F x0 x1 (0 : Int32)
def g_X4_timesTillSame_5 (F : Nat) (x0 : Int64) (x2 : Int32) : Nat → Int32 → Int32 → Option (Int32)
  | 0, _, _ => none
  | n + 1, x3, x4 =>
    if x2 ≤ x4 then
      some (x3)
    else
      (f_X4_roundLength F x0 x2 x4).bind fun b1 =>
      (f_X1_commonDivisor F x3 b1).bind fun b2 =>
      if b2 ≤ (0 : Int32) then
        g_X4_timesTillSame_5 F x0 x2 n x3 (x4 + (1 : Int32))
      else
        jgd b2 (
        g_X4_timesTillSame_5 F x0 x2 n ((x3 / b2) * b1) (x4 + (1 : Int32)))
def f_X4_timesTillSame (F : Nat) (x0 : Int64) (x2 : Int32) : Option (Int32) :=
  g_X4_timesTillSame_5 F x0 x2 F (1 : Int32) (0 : Int32)
def f_X9_again (F : Nat) (x1 : Int32) (v_o_laid_cards : Int32) (v_o_laid_deal : Int64) : Option (Int32) :=
  if x1 = (5 : Int32) then
    (f_X4_timesTillSame F v_o_laid_deal v_o_laid_cards).bind fun b4 =>
    some (b4)
  else
    (f_X9_isKind F x1).bind fun b1 =>
    if b1 = (0 : Int32) then
      some ((-1 : Int32))
    else
      (f_X3_lacing F x1 v_o_laid_cards).bind fun b2 =>
      (f_X4_timesTillSame F b2 v_o_laid_cards).bind fun b3 =>
      some (b3)
def f_X9_round (F : Nat) (x1 : Int32) (x2 : Int32) (v_o_laid_cards : Int32) : Option (Int32) :=
  (f_X9_isPlace F x1 v_o_laid_cards).bind fun b1 =>
  if b1 = (0 : Int32) then
    some ((-1 : Int32))
  else
    (f_X9_isKind F x2).bind fun b2 =>
    if b2 = (0 : Int32) then
      some ((-1 : Int32))
    else
      (f_X3_lacing F x2 v_o_laid_cards).bind fun b3 =>
      (f_X4_roundLength F b3 v_o_laid_cards x1).bind fun b4 =>
      some (b4)
def g_X4_roundOf_9 (F : Nat) (x0 : Int64) (x2 : Int32) (x3 : Int32) : Nat → Int32 → Int32 → Int32 → Option (Int32)
  | 0, _, _, _ => none
  | n + 1, x4, x5, x6 =>
    if x2 ≤ x6 then
      some (x4)
    else
      (f_X4_cardAt F x0 x5).bind fun b1 =>
      g_X4_roundOf_9 F x0 x2 x3 n (x4 ||| (jshl (1 : Int32) x5)) b1 (x6 + (1 : Int32))
def f_X4_roundOf (F : Nat) (x0 : Int64) (x2 : Int32) (x3 : Int32) : Option (Int32) :=
  g_X4_roundOf_9 F x0 x2 x3 F (0 : Int32) x3 (0 : Int32)
def g_X4_roundCount_8 (F : Nat) (x0 : Int64) (x2 : Int32) : Nat → Int32 → Int32 → Int32 → Option (Int32)
  | 0, _, _, _ => none
  | n + 1, x3, x4, x5 =>
    if x2 ≤ x5 then
      some (x4)
    else
      if ((jshr x3 x5) &&& (1 : Int32)) = (0 : Int32) then
        (f_X4_roundOf F x0 x2 x5).bind fun b1 =>
        g_X4_roundCount_8 F x0 x2 n (x3 ||| b1) (x4 + (1 : Int32)) (x5 + (1 : Int32))
      else
        g_X4_roundCount_8 F x0 x2 n x3 x4 (x5 + (1 : Int32))
def f_X4_roundCount (F : Nat) (x0 : Int64) (x2 : Int32) : Option (Int32) :=
  g_X4_roundCount_8 F x0 x2 F (0 : Int32) (0 : Int32) (0 : Int32)
def f_X9_rounds (F : Nat) (x1 : Int32) (v_o_laid_cards : Int32) : Option (Int32) :=
  (f_X9_isKind F x1).bind fun b1 =>
  if b1 = (0 : Int32) then
    some ((-1 : Int32))
  else
    (f_X3_lacing F x1 v_o_laid_cards).bind fun b2 =>
    (f_X4_roundCount F b2 v_o_laid_cards).bind fun b3 =>
    some (b3)
def g_X3_goal_25 (F : Nat) (x0 : Int32) (x1 : Int32) (x2 : Int32) (x3 : Int32) (s0 : Int32) : Option (Int32) :=
  if x3 ≤ x2 then
    some (((((2 : Int32) * (x2 - x3)) + (1 : Int32)) - s0))
  else
    some ((((2 : Int32) * x2) + s0))
def f_X3_goal (F : Nat) (x0 : Int32) (x1 : Int32) (x2 : Int32) : Option (Int32) :=
  if x0 = (0 : Int32) then
    jgd (2 : Int32) (
    if x0 = (0 : Int32) then
      g_X3_goal_25 F x0 x1 x2 ((x1 + (1 : Int32)) / (2 : Int32)) (0 : Int32)
    else
      g_X3_goal_25 F x0 x1 x2 ((x1 + (1 : Int32)) / (2 : Int32)) (1 : Int32))
  else
    jgd (2 : Int32) (
    if x0 = (0 : Int32) then
      g_X3_goal_25 F x0 x1 x2 (x1 / (2 : Int32)) (0 : Int32)
    else
      g_X3_goal_25 F x0 x1 x2 (x1 / (2 : Int32)) (1 : Int32))
def f_X0_fewestFrom (F : Nat) (x1 : Int32) (f_o_stepsFrom : Nat → Int32) : Option (Int32) :=
  if x1 < (0 : Int32) then
    some ((-4 : Int32))
  else
    if (16 : Int32) ≤ x1 then
      some ((-4 : Int32))
    else
      jgi x1 16 (
      some ((f_o_stepsFrom x1.toNatClampNeg)))
def f_X0_isNextTo (F : Nat) (x1 : Int32) (x2 : Int32) (x3 : Int32) (f_o_stepsFrom : Nat → Int32) : Option (Int32) :=
  (f_X3_goal F (0 : Int32) x3 x1).bind fun b1 =>
  (f_X0_fewestFrom F b1 f_o_stepsFrom).bind fun b2 =>
  if b2 = x2 then
    some ((1 : Int32))
  else
    (f_X3_goal F (1 : Int32) x3 x1).bind fun b3 =>
    (f_X0_fewestFrom F b3 f_o_stepsFrom).bind fun b4 =>
    if b4 = x2 then
      some ((1 : Int32))
    else
      some ((0 : Int32))
def g_X0_findWaysTo_44 (F : Nat) (x1 : Int32) (x2 : Int32) (k_36 : Int32 → (Nat → Int32) → Option ((Nat → Int32))) : Nat → Int32 → Int32 → (Nat → Int32) → Option ((Nat → Int32))
  | 0, _, _, _ => none
  | n + 1, x3, x4, f_o_stepsFrom =>
    if x2 ≤ x4 then
      k_36 (x3 + (1 : Int32)) f_o_stepsFrom
    else
      if (16 : Int32) ≤ x4 then
        k_36 (x3 + (1 : Int32)) f_o_stepsFrom
      else
        jgi x4 16 (
        if (f_o_stepsFrom x4.toNatClampNeg) = (-4 : Int32) then
          (f_X0_isNextTo F x4 (x3 - (1 : Int32)) x2 f_o_stepsFrom).bind fun b1 =>
          if b1 = (0 : Int32) then
            g_X0_findWaysTo_44 F x1 x2 k_36 n x3 (x4 + (1 : Int32)) f_o_stepsFrom
          else
            jgi x4 16 (
            g_X0_findWaysTo_44 F x1 x2 k_36 n x3 (x4 + (1 : Int32)) (upd f_o_stepsFrom x4.toNatClampNeg x3))
        else
          g_X0_findWaysTo_44 F x1 x2 k_36 n x3 (x4 + (1 : Int32)) f_o_stepsFrom)
def g_X0_findWaysTo_36 (F : Nat) (x1 : Int32) (x2 : Int32) : Nat → Int32 → (Nat → Int32) → Option ((Nat → Int32))
  | 0, _, _ => none
  | n + 1, x3, f_o_stepsFrom =>
    if x2 ≤ x3 then
      some (f_o_stepsFrom)
    else
      g_X0_findWaysTo_44 F x1 x2 (fun qx3 qf_o_stepsFrom => g_X0_findWaysTo_36 F x1 x2 n qx3 qf_o_stepsFrom) F x3 (0 : Int32) f_o_stepsFrom
def g_X0_findWaysTo_2 (F : Nat) (x1 : Int32) (x2 : Int32) : Nat → Int32 → (Nat → Int32) → Option ((Nat → Int32))
  | 0, _, _ => none
  | n + 1, x3, f_o_stepsFrom =>
    if (16 : Int32) ≤ x3 then
      g_X0_findWaysTo_36 F x1 x2 F (1 : Int32) f_o_stepsFrom
    else
      if x3 = x1 then
        jgi x3 16 (
        g_X0_findWaysTo_2 F x1 x2 n (x3 + (1 : Int32)) (upd f_o_stepsFrom x3.toNatClampNeg (0 : Int32)))
      else
        jgi x3 16 (
        g_X0_findWaysTo_2 F x1 x2 n (x3 + (1 : Int32)) (upd f_o_stepsFrom x3.toNatClampNeg (-4 : Int32)))
def f_X0_findWaysTo (F : Nat) (x1 : Int32) (x2 : Int32) (f_o_stepsFrom : Nat → Int32) : Option ((Nat → Int32)) :=
  g_X0_findWaysTo_2 F x1 x2 F (0 : Int32) f_o_stepsFrom
def f_X0_firstKind (F : Nat) (x1 : Int32) (x2 : Int32) (f_o_stepsFrom : Nat → Int32) : Option (Int32) :=
  (f_X3_goal F (0 : Int32) x2 x1).bind fun b1 =>
  (f_X0_fewestFrom F b1 f_o_stepsFrom).bind fun b2 =>
  (f_X0_fewestFrom F x1 f_o_stepsFrom).bind fun b3 =>
  if b2 = (b3 - (1 : Int32)) then
    some ((0 : Int32))
  else
    some ((1 : Int32))
def g_X0_kindOnWay_22 (F : Nat) (x1 : Int32) (x2 : Int32) (x3 : Int32) (f_o_stepsFrom : Nat → Int32) : Nat → Int32 → Int32 → Int32 → Option (Int32)
  | 0, _, _, _ => none
  | n + 1, x4, x5, x6 =>
    if x2 ≤ x6 then
      (f_X0_firstKind F x4 x3 f_o_stepsFrom).bind fun b1 =>
      some (b1)
    else
      if x5 ≤ x6 then
        (f_X0_firstKind F x4 x3 f_o_stepsFrom).bind fun b2 =>
        some (b2)
      else
        (f_X0_firstKind F x4 x3 f_o_stepsFrom).bind fun b3 =>
        (f_X3_goal F b3 x3 x4).bind fun b4 =>
        g_X0_kindOnWay_22 F x1 x2 x3 f_o_stepsFrom n b4 x5 (x6 + (1 : Int32))
def f_X0_kindOnWay (F : Nat) (x1 : Int32) (x2 : Int32) (x3 : Int32) (f_o_stepsFrom : Nat → Int32) : Option (Int32) :=
  (f_X0_fewestFrom F x1 f_o_stepsFrom).bind fun b1 =>
  if x2 < b1 then
    g_X0_kindOnWay_22 F x1 x2 x3 f_o_stepsFrom F x1 b1 (0 : Int32)
  else
    some ((-4 : Int32))
def f_X9_bring (F : Nat) (x1 : Int32) (x2 : Int32) (x3 : Int32) (v_o_order : Int64) (v_o_laid_cards : Int32) (f_o_finder_stepsFrom : Nat → Int32) : Option (Int32 × (Nat → Int32)) :=
  (f_X9_isCard F x1 v_o_laid_cards).bind fun b1 =>
  if b1 = (0 : Int32) then
    some ((-1 : Int32), f_o_finder_stepsFrom)
  else
    (f_X9_isPlace F x2 v_o_laid_cards).bind fun b2 =>
    if b2 = (0 : Int32) then
      some ((-1 : Int32), f_o_finder_stepsFrom)
    else
      if (-1 : Int32) ≤ x3 then
        (f_X4_placeOf F v_o_order v_o_laid_cards x1).bind fun b3 =>
        (f_X0_findWaysTo F x2 v_o_laid_cards f_o_finder_stepsFrom).bind fun b4 =>
        if x3 = (-1 : Int32) then
          (f_X0_fewestFrom F b3 b4).bind fun b6 =>
          some (b6, b4)
        else
          (f_X0_kindOnWay F b3 x3 v_o_laid_cards b4).bind fun b5 =>
          some (b5, b4)
      else
        some ((-1 : Int32), f_o_finder_stepsFrom)
def f_X0_pairBehind (F : Nat) (x0 : Int32) (x1 : Int32) (x2 : Int32) : Option (Int32) :=
  jgd (16 : Int32) (
  (f_X3_goal F x1 x2 (x0 / (16 : Int32))).bind fun b1 =>
  jgd (16 : Int32) (
  (f_X3_goal F x1 x2 (jrem x0 (16 : Int32))).bind fun b2 =>
  some ((((16 : Int32) * b1) + b2))))
def g_X0_depthOf_4 (F : Nat) (x0 : Int32) : Nat → Int32 → Int32 → Option (Int32)
  | 0, _, _ => none
  | n + 1, x1, x2 =>
    if (8 : Int32) ≤ x2 then
      some (x1)
    else
      if x0 < ((jshl (2 : Int32) x2) - (1 : Int32)) then
        g_X0_depthOf_4 F x0 n x1 (x2 + (1 : Int32))
      else
        g_X0_depthOf_4 F x0 n (x2 + (1 : Int32)) (x2 + (1 : Int32))
def f_X0_depthOf (F : Nat) (x0 : Int32) : Option (Int32) :=
  g_X0_depthOf_4 F x0 F (0 : Int32) (0 : Int32)
def g_X0_fewestTillNeighbours_48 (F : Nat) (x1 : Int32) (x2 : Int32) (x3 : Int32) (k_3 : Int32 → (Nat → Int32) → Option (Int32 × (Nat → Int32))) (x4 : Int32) (s0 : Int32) (f_o_pairTree : Nat → Int32) : Option (Int32 × (Nat → Int32)) :=
  jgi x4 511 (
  jgd (16 : Int32) (
  jgd (16 : Int32) (
  if (jabs ((s0 / (16 : Int32)) - (jrem s0 (16 : Int32)))) = (1 : Int32) then
    (f_X0_depthOf F x4).bind fun b1 =>
    some (b1, (upd f_o_pairTree x4.toNatClampNeg s0))
  else
    k_3 (x4 + (1 : Int32)) (upd f_o_pairTree x4.toNatClampNeg s0))))
def g_X0_fewestTillNeighbours_3 (F : Nat) (x1 : Int32) (x2 : Int32) (x3 : Int32) : Nat → Int32 → (Nat → Int32) → Option (Int32 × (Nat → Int32))
  | 0, _, _ => none
  | n + 1, x4, f_o_pairTree =>
    if (511 : Int32) ≤ x4 then
      some ((-4 : Int32), f_o_pairTree)
    else
      if x4 = (0 : Int32) then
        g_X0_fewestTillNeighbours_48 F x1 x2 x3 (fun qx4 qf_o_pairTree => g_X0_fewestTillNeighbours_3 F x1 x2 x3 n qx4 qf_o_pairTree) x4 (((16 : Int32) * x1) + x2) f_o_pairTree
      else
        jgd (2 : Int32) (
        jgi ((x4 - (1 : Int32)) / (2 : Int32)) 511 (
        jgd (2 : Int32) (
        (f_X0_pairBehind F (f_o_pairTree ((x4 - (1 : Int32)) / (2 : Int32)).toNatClampNeg) (jrem (x4 - (1 : Int32)) (2 : Int32)) x3).bind fun b1 =>
        g_X0_fewestTillNeighbours_48 F x1 x2 x3 (fun qx4 qf_o_pairTree => g_X0_fewestTillNeighbours_3 F x1 x2 x3 n qx4 qf_o_pairTree) x4 b1 f_o_pairTree)))
def f_X0_fewestTillNeighbours (F : Nat) (x1 : Int32) (x2 : Int32) (x3 : Int32) (f_o_pairTree : Nat → Int32) : Option (Int32 × (Nat → Int32)) :=
  g_X0_fewestTillNeighbours_3 F x1 x2 x3 F (0 : Int32) f_o_pairTree
def f_X9_beside (F : Nat) (x1 : Int32) (x2 : Int32) (v_o_order : Int64) (v_o_laid_cards : Int32) (f_o_finder_pairTree : Nat → Int32) : Option (Int32 × (Nat → Int32)) :=
  (f_X9_isCard F x1 v_o_laid_cards).bind fun b1 =>
  if b1 = (0 : Int32) then
    some ((-1 : Int32), f_o_finder_pairTree)
  else
    (f_X9_isCard F x2 v_o_laid_cards).bind fun b2 =>
    if b2 = (0 : Int32) then
      some ((-1 : Int32), f_o_finder_pairTree)
    else
      if x1 = x2 then
        some ((-1 : Int32), f_o_finder_pairTree)
      else
        (f_X4_placeOf F v_o_order v_o_laid_cards x1).bind fun b3 =>
        (f_X4_placeOf F v_o_order v_o_laid_cards x2).bind fun b4 =>
        (f_X0_fewestTillNeighbours F b3 b4 v_o_laid_cards f_o_finder_pairTree).bind fun b5 =>
        some (b5.1, b5.2)
def g_X0_heldWith_39 (F : Nat) (x1 : Int64) (x3 : Int32) (f_o_found : Nat → Int64) : Option (Int32 × (Nat → Int64)) :=
  if x3 < (0 : Int32) then
    some (x3, f_o_found)
  else
    if x3 < (127 : Int32) then
      jgi x3 127 (
      some ((x3 + (1 : Int32)), (vp_updL f_o_found x3.toNatClampNeg x1)))
    else
      some (x3, f_o_found)
def g_X0_heldWith_3 (F : Nat) (x1 : Int64) (x3 : Int32) : Nat → Int32 → (Nat → Int64) → Option (Int32 × (Nat → Int64))
  | 0, _, _ => none
  | n + 1, x4, f_o_found =>
    if x3 ≤ x4 then
      g_X0_heldWith_39 F x1 x3 f_o_found
    else
      if (127 : Int32) ≤ x4 then
        g_X0_heldWith_39 F x1 x3 f_o_found
      else
        jgi x4 127 (
        if (lg_cmp (f_o_found x4.toNatClampNeg) x1) = (0 : Int32) then
          some (x3, f_o_found)
        else
          g_X0_heldWith_3 F x1 x3 n (x4 + (1 : Int32)) f_o_found)
def f_X0_heldWith (F : Nat) (x1 : Int64) (x3 : Int32) (f_o_found : Nat → Int64) : Option (Int32 × (Nat → Int64)) :=
  g_X0_heldWith_3 F x1 x3 F (0 : Int32) f_o_found
def g_X0_countOrders_46 (F : Nat) (x1 : Int32) (x2 : Int32) (k_32 : Int64 → Int64 → Int32 → Int32 → Int32 → (Nat → Int64) → Option (Int32 × (Nat → Int64))) : Nat → Int64 → Int64 → Int32 → Int32 → Int32 → Int32 → (Nat → Int64) → Option (Int32 × (Nat → Int64))
  | 0, _, _, _, _, _, _, _ => none
  | n + 1, x3, x5, x7, x9, x10, x11, f_o_found =>
    if x10 ≤ x11 then
      k_32 x3 x5 x7 x10 (x9 + (1 : Int32)) f_o_found
    else
      if (127 : Int32) ≤ x11 then
        k_32 x3 x5 x7 x10 (x9 + (1 : Int32)) f_o_found
      else
        jgi x11 127 (
        (f_X4_moved F (f_o_found x11.toNatClampNeg) x3 x2).bind fun b1 =>
        (f_X0_heldWith F b1 x7 f_o_found).bind fun b2 =>
        jgi x11 127 (
        (f_X4_moved F (b2.2 x11.toNatClampNeg) x5 x2).bind fun b3 =>
        (f_X0_heldWith F b3 b2.1 b2.2).bind fun b4 =>
        g_X0_countOrders_46 F x1 x2 k_32 n x3 x5 b4.1 x9 x10 (x11 + (1 : Int32)) b4.2))
def g_X0_countOrders_32 (F : Nat) (x1 : Int32) (x2 : Int32) : Nat → Int64 → Int64 → Int32 → Int32 → Int32 → (Nat → Int64) → Option (Int32 × (Nat → Int64))
  | 0, _, _, _, _, _, _ => none
  | n + 1, x3, x5, x7, x8, x9, f_o_found =>
    if x1 ≤ x9 then
      some (x7, f_o_found)
    else
      g_X0_countOrders_46 F x1 x2 (fun qx3 qx5 qx7 qx8 qx9 qf_o_found => g_X0_countOrders_32 F x1 x2 n qx3 qx5 qx7 qx8 qx9 qf_o_found) F x3 x5 x7 x9 x7 x8 f_o_found
def f_X0_countOrders (F : Nat) (x1 : Int32) (x2 : Int32) (f_o_found : Nat → Int64) : Option (Int32 × (Nat → Int64)) :=
  (f_X3_lacing F (0 : Int32) x2).bind fun b1 =>
  (f_X3_lacing F (1 : Int32) x2).bind fun b2 =>
  (f_X4_inOrder F x2).bind fun b3 =>
  jgi (0 : Int32) 127 (
  g_X0_countOrders_32 F x1 x2 F b1 b2 (1 : Int32) (0 : Int32) (0 : Int32) (vp_updL f_o_found (0 : Int32).toNatClampNeg b3))
def f_X9_orders (F : Nat) (x1 : Int32) (v_o_laid_cards : Int32) (f_o_finder_found : Nat → Int64) : Option (Int32 × (Nat → Int64)) :=
  (f_X9_within F x1 (0 : Int32) (6 : Int32)).bind fun b1 =>
  if b1 = (0 : Int32) then
    some ((-1 : Int32), f_o_finder_found)
  else
    (f_X0_countOrders F x1 v_o_laid_cards f_o_finder_found).bind fun b2 =>
    some (b2.1, b2.2)
def g_X4_risingRows_36 (F : Nat) (x0 : Int64) (x2 : Int32) : Nat → Int64 → Int32 → Int32 → Option (Int32)
  | 0, _, _, _ => none
  | n + 1, x3, x5, x6 =>
    if x2 ≤ (x6 + (1 : Int32)) then
      some (x5)
    else
      (f_X4_cardAt F x3 (x6 + (1 : Int32))).bind fun b1 =>
      (f_X4_cardAt F x3 x6).bind fun b2 =>
      if b2 ≤ b1 then
        g_X4_risingRows_36 F x0 x2 n x3 x5 (x6 + (1 : Int32))
      else
        g_X4_risingRows_36 F x0 x2 n x3 (x5 + (1 : Int32)) (x6 + (1 : Int32))
def g_X4_risingRows_5 (F : Nat) (x0 : Int64) (x2 : Int32) : Nat → Int64 → Int32 → Option (Int32)
  | 0, _, _ => none
  | n + 1, x3, x5 =>
    if x2 ≤ x5 then
      g_X4_risingRows_36 F x0 x2 F x3 (1 : Int32) (0 : Int32)
    else
      (f_X4_cardAt F x0 x5).bind fun b1 =>
      (f_X4_with F x3 b1 x5).bind fun b2 =>
      g_X4_risingRows_5 F x0 x2 n b2 (x5 + (1 : Int32))
def f_X4_risingRows (F : Nat) (x0 : Int64) (x2 : Int32) : Option (Int32) :=
  g_X4_risingRows_5 F x0 x2 F (0 : Int64) (0 : Int32)
def f_X9_rising (F : Nat) (v_o_order : Int64) (v_o_laid_cards : Int32) : Option (Int32) :=
  (f_X4_risingRows F v_o_order v_o_laid_cards).bind fun b1 =>
  some (b1)
def f_X5_areUnlike (F : Nat) (x1 : Int32) (x2 : Int32) (v_o_colours : Int32) : Option (Int32) :=
  (f_X5_colourOf F x1 v_o_colours).bind fun b1 =>
  (f_X5_colourOf F x2 v_o_colours).bind fun b2 =>
  if b1 = b2 then
    some ((0 : Int32))
  else
    some ((1 : Int32))
def g_X9_pairs_4 (F : Nat) (v_o_order : Int64) (v_o_laid_cards : Int32) (v_o_laid_colours : Int32) : Nat → Int32 → Int32 → Option (Int32)
  | 0, _, _ => none
  | n + 1, x1, x2 =>
    if v_o_laid_cards ≤ (x2 + (1 : Int32)) then
      some (x1)
    else
      (f_X4_cardAt F v_o_order x2).bind fun b1 =>
      (f_X4_cardAt F v_o_order (x2 + (1 : Int32))).bind fun b2 =>
      (f_X5_areUnlike F b1 b2 v_o_laid_colours).bind fun b3 =>
      if b3 = (0 : Int32) then
        g_X9_pairs_4 F v_o_order v_o_laid_cards v_o_laid_colours n x1 (x2 + (2 : Int32))
      else
        g_X9_pairs_4 F v_o_order v_o_laid_cards v_o_laid_colours n (x1 + (1 : Int32)) (x2 + (2 : Int32))
def f_X9_pairs (F : Nat) (v_o_order : Int64) (v_o_laid_cards : Int32) (v_o_laid_colours : Int32) : Option (Int32) :=
  g_X9_pairs_4 F v_o_order v_o_laid_cards v_o_laid_colours F (0 : Int32) (0 : Int32)
def g_X2_dealtOff_6 (F : Nat) (x0 : Int64) (x2 : Int32) (x3 : Int32) : Nat → Int64 → Int32 → Option (Int64)
  | 0, _, _ => none
  | n + 1, x4, x6 =>
    if x3 ≤ x6 then
      some (x4)
    else
      if x2 ≤ x6 then
        (f_X4_cardAt F x0 x6).bind fun b1 =>
        (f_X4_with F x4 x6 b1).bind fun b2 =>
        g_X2_dealtOff_6 F x0 x2 x3 n b2 (x6 + (1 : Int32))
      else
        (f_X4_cardAt F x0 ((x2 - (1 : Int32)) - x6)).bind fun b3 =>
        (f_X4_with F x4 x6 b3).bind fun b4 =>
        g_X2_dealtOff_6 F x0 x2 x3 n b4 (x6 + (1 : Int32))
def f_X2_dealtOff (F : Nat) (x0 : Int64) (x2 : Int32) (x3 : Int32) : Option (Int64) :=
  g_X2_dealtOff_6 F x0 x2 x3 F (0 : Int64) (0 : Int32)
def f_X2_areUnlikeAt (F : Nat) (x1 : Int64) (x3 : Int32) (x4 : Int32) (v_p0_colours : Int32) : Option (Int32) :=
  (f_X4_cardAt F x1 x3).bind fun b1 =>
  (f_X4_cardAt F x1 x4).bind fun b2 =>
  (f_X5_areUnlike F b1 b2 v_p0_colours).bind fun b3 =>
  jgz b3 (some (b3))
def f_X2_waysOf (F : Nat) (x1 : Int32) (x2 : Int32) (f_o_ways : Nat → Int32) : Option (Int32) :=
  (f_X9_within F x1 (0 : Int32) (16 : Int32)).bind fun b1 =>
  if b1 = (0 : Int32) then
    some ((0 : Int32))
  else
    (f_X9_within F x2 (0 : Int32) (16 : Int32)).bind fun b2 =>
    if b2 = (0 : Int32) then
      some ((0 : Int32))
    else
      jgi (((17 : Int32) * x1) + x2) 289 (
      some ((f_o_ways (((17 : Int32) * x1) + x2).toNatClampNeg)))
def g_X2_waysByLastPair_95 (F : Nat) (x2 : Int64) (x4 : Int32) (x5 : Int32) (x6 : Int32) (v_p1_colours : Int32) (f_o_ways : Nat → Int32) (x7 : Int32) : Option (Int32) :=
  if x5 < (1 : Int32) then
    some (x7)
  else
    if x6 < (1 : Int32) then
      some (x7)
    else
      (f_X2_areUnlikeAt F x2 (x5 - (1 : Int32)) ((x4 + x6) - (1 : Int32)) v_p1_colours).bind fun b1 =>
      if b1 = (0 : Int32) then
        some (x7)
      else
        (f_X2_waysOf F (x5 - (1 : Int32)) (x6 - (1 : Int32)) f_o_ways).bind fun b2 =>
        some ((x7 + ((2 : Int32) * b2)))
def g_X2_waysByLastPair_52 (F : Nat) (x2 : Int64) (x4 : Int32) (x5 : Int32) (x6 : Int32) (v_p1_colours : Int32) (f_o_ways : Nat → Int32) (x7 : Int32) : Option (Int32) :=
  if x6 < (2 : Int32) then
    g_X2_waysByLastPair_95 F x2 x4 x5 x6 v_p1_colours f_o_ways x7
  else
    (f_X2_areUnlikeAt F x2 ((x4 + x6) - (2 : Int32)) ((x4 + x6) - (1 : Int32)) v_p1_colours).bind fun b1 =>
    if b1 = (0 : Int32) then
      g_X2_waysByLastPair_95 F x2 x4 x5 x6 v_p1_colours f_o_ways x7
    else
      (f_X2_waysOf F x5 (x6 - (2 : Int32)) f_o_ways).bind fun b2 =>
      g_X2_waysByLastPair_95 F x2 x4 x5 x6 v_p1_colours f_o_ways (x7 + b2)
def g_X2_waysByLastPair_12 (F : Nat) (x2 : Int64) (x4 : Int32) (x5 : Int32) (x6 : Int32) (v_p1_colours : Int32) (f_o_ways : Nat → Int32) : Option (Int32) :=
  if x5 < (2 : Int32) then
    g_X2_waysByLastPair_52 F x2 x4 x5 x6 v_p1_colours f_o_ways (0 : Int32)
  else
    (f_X2_areUnlikeAt F x2 (x5 - (2 : Int32)) (x5 - (1 : Int32)) v_p1_colours).bind fun b1 =>
    if b1 = (0 : Int32) then
      g_X2_waysByLastPair_52 F x2 x4 x5 x6 v_p1_colours f_o_ways (0 : Int32)
    else
      (f_X2_waysOf F (x5 - (2 : Int32)) x6 f_o_ways).bind fun b2 =>
      g_X2_waysByLastPair_52 F x2 x4 x5 x6 v_p1_colours f_o_ways ((0 : Int32) + b2)
def f_X2_waysByLastPair (F : Nat) (x2 : Int64) (x4 : Int32) (x5 : Int32) (x6 : Int32) (v_p1_colours : Int32) (f_o_ways : Nat → Int32) : Option (Int32) :=
  if x5 = (0 : Int32) then
    if x6 = (0 : Int32) then
      some ((1 : Int32))
    else
      g_X2_waysByLastPair_12 F x2 x4 x5 x6 v_p1_colours f_o_ways
  else
    g_X2_waysByLastPair_12 F x2 x4 x5 x6 v_p1_colours f_o_ways
def f_X2_setWays (F : Nat) (x1 : Int32) (x2 : Int32) (x3 : Int32) (f_o_ways : Nat → Int32) : Option ((Nat → Int32)) :=
  (f_X9_within F x1 (0 : Int32) (16 : Int32)).bind fun b1 =>
  if b1 = (0 : Int32) then
    some (f_o_ways)
  else
    (f_X9_within F x2 (0 : Int32) (16 : Int32)).bind fun b2 =>
    if b2 = (0 : Int32) then
      some (f_o_ways)
    else
      jgi (((17 : Int32) * x1) + x2) 289 (
      some ((upd f_o_ways (((17 : Int32) * x1) + x2).toNatClampNeg x3)))
def g_X2_goodWays_37 (F : Nat) (x2 : Int64) (x4 : Int32) (v_p1_cards : Int32) (v_p1_colours : Int32) (k_24 : Int32 → Int64 → Int32 → (Nat → Int32) → Option (Int32 × (Nat → Int32))) : Nat → Int32 → Int64 → Int32 → Int32 → (Nat → Int32) → Option (Int32 × (Nat → Int32))
  | 0, _, _, _, _, _ => none
  | n + 1, x5, x6, x8, x9, f_o_ways =>
    if x5 < x9 then
      k_24 x5 x6 (x8 + (1 : Int32)) f_o_ways
    else
      (f_X2_waysByLastPair F x6 x4 x8 x9 v_p1_colours f_o_ways).bind fun b1 =>
      (f_X2_setWays F x8 x9 b1 f_o_ways).bind fun b2 =>
      g_X2_goodWays_37 F x2 x4 v_p1_cards v_p1_colours k_24 n x5 x6 x8 (x9 + (2 : Int32)) b2
def g_X2_goodWays_24 (F : Nat) (x2 : Int64) (x4 : Int32) (v_p1_cards : Int32) (v_p1_colours : Int32) : Nat → Int32 → Int64 → Int32 → (Nat → Int32) → Option (Int32 × (Nat → Int32))
  | 0, _, _, _, _ => none
  | n + 1, x5, x6, x8, f_o_ways =>
    if x4 < x8 then
      jgd (2 : Int32) (
      if (jrem v_p1_cards (2 : Int32)) = (0 : Int32) then
        (f_X2_waysOf F x4 x5 f_o_ways).bind fun b3 =>
        some (b3, f_o_ways)
      else
        (f_X2_waysOf F (x4 - (1 : Int32)) x5 f_o_ways).bind fun b1 =>
        (f_X2_waysOf F x4 (x5 - (1 : Int32)) f_o_ways).bind fun b2 =>
        some ((b1 + b2), f_o_ways))
    else
      jgd (2 : Int32) (
      g_X2_goodWays_37 F x2 x4 v_p1_cards v_p1_colours (fun qx5 qx6 qx8 qf_o_ways => g_X2_goodWays_24 F x2 x4 v_p1_cards v_p1_colours n qx5 qx6 qx8 qf_o_ways) F x5 x6 x8 (jrem x8 (2 : Int32)) f_o_ways)
def f_X2_goodWays (F : Nat) (x2 : Int64) (x4 : Int32) (v_p1_cards : Int32) (v_p1_colours : Int32) (f_o_ways : Nat → Int32) : Option (Int32 × (Nat → Int32)) :=
  (f_X2_dealtOff F x2 x4 v_p1_cards).bind fun b1 =>
  g_X2_goodWays_24 F x2 x4 v_p1_cards v_p1_colours F (v_p1_cards - x4) b1 (0 : Int32) f_o_ways
def g_X1_choices_4 (F : Nat) (x0 : Int32) (x1 : Int32) : Nat → Int32 → Int32 → Option (Int32)
  | 0, _, _ => none
  | n + 1, x2, x3 =>
    if x1 < x3 then
      some (x2)
    else
      jgd x3 (
      g_X1_choices_4 F x0 x1 n ((x2 * ((x0 - x1) + x3)) / x3) (x3 + (1 : Int32)))
def f_X1_choices (F : Nat) (x0 : Int32) (x1 : Int32) : Option (Int32) :=
  g_X1_choices_4 F x0 x1 F (1 : Int32) (1 : Int32)
def f_X1_partOf (F : Nat) (x0 : Int32) (x1 : Int32) (x2 : Int32) : Option (Int32) :=
  (f_X1_commonDivisor F x0 x1).bind fun b1 =>
  if (0 : Int32) < b1 then
    if x2 = (0 : Int32) then
      jgd b1 (
      some ((x0 / b1)))
    else
      jgd b1 (
      some ((x1 / b1)))
  else
    some ((0 : Int32))
def f_X9_sure (F : Nat) (x1 : Int32) (x2 : Int32) (v_o_order : Int64) (v_o_laid_cards : Int32) (v_o_laid_colours : Int32) (f_o_mix_ways : Nat → Int32) : Option (Int32 × (Nat → Int32)) :=
  (f_X9_within F x1 (0 : Int32) v_o_laid_cards).bind fun b1 =>
  if b1 = (0 : Int32) then
    some ((-1 : Int32), f_o_mix_ways)
  else
    (f_X9_within F x2 (0 : Int32) (1 : Int32)).bind fun b2 =>
    if b2 = (0 : Int32) then
      some ((-1 : Int32), f_o_mix_ways)
    else
      (f_X2_goodWays F v_o_order x1 v_o_laid_cards v_o_laid_colours f_o_mix_ways).bind fun b3 =>
      (f_X1_choices F v_o_laid_cards x1).bind fun b4 =>
      (f_X1_partOf F b3.1 b4 x2).bind fun b5 =>
      some (b5, b3.2)
def f_X7_add (F : Nat) (x1 : Int32) (x2 : Int32) (v_o_held : Int32) (f_o_cards : Nat → Int32) (f_o_places : Nat → Int32) : Option (Int32 × Int32 × (Nat → Int32) × (Nat → Int32)) :=
  if v_o_held < (0 : Int32) then
    some ((0 : Int32), v_o_held, f_o_cards, f_o_places)
  else
    if v_o_held < (8 : Int32) then
      jgi v_o_held 8 (
      jgi v_o_held 8 (
      some ((1 : Int32), (v_o_held + (1 : Int32)), (upd f_o_cards v_o_held.toNatClampNeg x1), (upd f_o_places v_o_held.toNatClampNeg x2))))
    else
      some ((0 : Int32), v_o_held, f_o_cards, f_o_places)
def f_X9_seen (F : Nat) (x1 : Int32) (x2 : Int32) (v_o_laid_cards : Int32) (v_o_sightings_held : Int32) (f_o_sightings_cards : Nat → Int32) (f_o_sightings_places : Nat → Int32) : Option (Int32 × Int32 × (Nat → Int32) × (Nat → Int32)) :=
  (f_X9_isCard F x1 v_o_laid_cards).bind fun b1 =>
  if b1 = (0 : Int32) then
    some ((-1 : Int32), v_o_sightings_held, f_o_sightings_cards, f_o_sightings_places)
  else
    (f_X9_isPlace F x2 v_o_laid_cards).bind fun b2 =>
    if b2 = (0 : Int32) then
      some ((-1 : Int32), v_o_sightings_held, f_o_sightings_cards, f_o_sightings_places)
    else
      (f_X7_add F x1 x2 v_o_sightings_held f_o_sightings_cards f_o_sightings_places).bind fun b3 =>
      if b3.1 = (0 : Int32) then
        some ((-3 : Int32), b3.2.1, b3.2.2.1, b3.2.2.2)
      else
        some (b3.2.1, b3.2.1, b3.2.2.1, b3.2.2.2)
def f_X9_forget (F : Nat) (v_o_sightings_held : Int32) : Option (Int32 × Int32) :=
  some (v_o_sightings_held, (0 : Int32))
def g_X7_fit_2 (F : Nat) (x1 : Int64) (v_o_held : Int32) (f_o_cards : Nat → Int32) (f_o_places : Nat → Int32) : Nat → Int32 → Option (Int32)
  | 0, _ => none
  | n + 1, x3 =>
    if v_o_held ≤ x3 then
      some ((1 : Int32))
    else
      if (8 : Int32) ≤ x3 then
        some ((1 : Int32))
      else
        jgi x3 8 (
        (f_X4_cardAt F x1 (f_o_places x3.toNatClampNeg)).bind fun b1 =>
        jgi x3 8 (
        if b1 = (f_o_cards x3.toNatClampNeg) then
          g_X7_fit_2 F x1 v_o_held f_o_cards f_o_places n (x3 + (1 : Int32))
        else
          some ((0 : Int32))))
def f_X7_fit (F : Nat) (x1 : Int64) (v_o_held : Int32) (f_o_cards : Nat → Int32) (f_o_places : Nat → Int32) : Option (Int32) :=
  g_X7_fit_2 F x1 v_o_held f_o_cards f_o_places F (0 : Int32)
def g_X9_fittingKinds_4 (F : Nat) (v_o_laid_cards : Int32) (v_o_sightings_held : Int32) (f_o_sightings_cards : Nat → Int32) (f_o_sightings_places : Nat → Int32) : Nat → Int32 → Int32 → Option (Int32)
  | 0, _, _ => none
  | n + 1, x1, x2 =>
    if (5 : Int32) ≤ x2 then
      (f_X3_turnedOver F v_o_laid_cards).bind fun b1 =>
      (f_X7_fit F b1 v_o_sightings_held f_o_sightings_cards f_o_sightings_places).bind fun b2 =>
      if b2 = (0 : Int32) then
        some (x1)
      else
        some ((x1 ||| (32 : Int32)))
    else
      (f_X3_lacing F x2 v_o_laid_cards).bind fun b3 =>
      (f_X7_fit F b3 v_o_sightings_held f_o_sightings_cards f_o_sightings_places).bind fun b4 =>
      if b4 = (0 : Int32) then
        g_X9_fittingKinds_4 F v_o_laid_cards v_o_sightings_held f_o_sightings_cards f_o_sightings_places n x1 (x2 + (1 : Int32))
      else
        g_X9_fittingKinds_4 F v_o_laid_cards v_o_sightings_held f_o_sightings_cards f_o_sightings_places n (x1 ||| (jshl (1 : Int32) x2)) (x2 + (1 : Int32))
def f_X9_fittingKinds (F : Nat) (v_o_laid_cards : Int32) (v_o_sightings_held : Int32) (f_o_sightings_cards : Nat → Int32) (f_o_sightings_places : Nat → Int32) : Option (Int32) :=
  g_X9_fittingKinds_4 F v_o_laid_cards v_o_sightings_held f_o_sightings_cards f_o_sightings_places F (0 : Int32) (0 : Int32)
def g_X9_fittingCuts_4 (F : Nat) (v_o_laid_cards : Int32) (v_o_sightings_held : Int32) (f_o_sightings_cards : Nat → Int32) (f_o_sightings_places : Nat → Int32) : Nat → Int32 → Int32 → Option (Int32)
  | 0, _, _ => none
  | n + 1, x1, x2 =>
    if v_o_laid_cards ≤ x2 then
      some (x1)
    else
      (f_X3_cutAt F x2 v_o_laid_cards).bind fun b1 =>
      (f_X7_fit F b1 v_o_sightings_held f_o_sightings_cards f_o_sightings_places).bind fun b2 =>
      if b2 = (0 : Int32) then
        g_X9_fittingCuts_4 F v_o_laid_cards v_o_sightings_held f_o_sightings_cards f_o_sightings_places n x1 (x2 + (1 : Int32))
      else
        g_X9_fittingCuts_4 F v_o_laid_cards v_o_sightings_held f_o_sightings_cards f_o_sightings_places n (x1 ||| (jshl (1 : Int32) x2)) (x2 + (1 : Int32))
def f_X9_fittingCuts (F : Nat) (v_o_laid_cards : Int32) (v_o_sightings_held : Int32) (f_o_sightings_cards : Nat → Int32) (f_o_sightings_places : Nat → Int32) : Option (Int32) :=
  g_X9_fittingCuts_4 F v_o_laid_cards v_o_sightings_held f_o_sightings_cards f_o_sightings_places F (0 : Int32) (0 : Int32)
def f_X9_done (F : Nat) (x1 : Int32) (v_o_laid_cards : Int32) (v_o_sightings_held : Int32) (f_o_sightings_cards : Nat → Int32) (f_o_sightings_places : Nat → Int32) : Option (Int32) :=
  if x1 = (0 : Int32) then
    (f_X9_fittingKinds F v_o_laid_cards v_o_sightings_held f_o_sightings_cards f_o_sightings_places).bind fun b2 =>
    some (b2)
  else
    if x1 = (1 : Int32) then
      (f_X9_fittingCuts F v_o_laid_cards v_o_sightings_held f_o_sightings_cards f_o_sightings_places).bind fun b1 =>
      some (b1)
    else
      some ((-1 : Int32))
def g_X9_endOfWay_6 (F : Nat) (x1 : Int32) (x2 : Int32) (x3 : Int32) (v_o_laid_cards : Int32) : Nat → Int32 → Int32 → Option (Int32)
  | 0, _, _ => none
  | n + 1, x4, x5 =>
    if x3 ≤ x5 then
      some (x4)
    else
      (f_X3_goal F ((jshr x2 x5) &&& (1 : Int32)) v_o_laid_cards x4).bind fun b1 =>
      g_X9_endOfWay_6 F x1 x2 x3 v_o_laid_cards n b1 (x5 + (1 : Int32))
def f_X9_endOfWay (F : Nat) (x1 : Int32) (x2 : Int32) (x3 : Int32) (v_o_laid_cards : Int32) : Option (Int32) :=
  g_X9_endOfWay_6 F x1 x2 x3 v_o_laid_cards F x1 (0 : Int32)
def g_X9_weightOfWay_5 (F : Nat) (x0 : Int32) (x1 : Int32) (x2 : Int32) : Nat → Int32 → Int32 → Option (Int32)
  | 0, _, _ => none
  | n + 1, x3, x4 =>
    if x1 ≤ x4 then
      some (x3)
    else
      if ((jshr x0 x4) &&& (1 : Int32)) = (0 : Int32) then
        g_X9_weightOfWay_5 F x0 x1 x2 n (x3 * x2) (x4 + (1 : Int32))
      else
        g_X9_weightOfWay_5 F x0 x1 x2 n (x3 * ((10 : Int32) - x2)) (x4 + (1 : Int32))
def f_X9_weightOfWay (F : Nat) (x0 : Int32) (x1 : Int32) (x2 : Int32) : Option (Int32) :=
  g_X9_weightOfWay_5 F x0 x1 x2 F (1 : Int32) (0 : Int32)
def g_X9_powerOfTen_4 (F : Nat) (x0 : Int32) : Nat → Int32 → Int32 → Option (Int32)
  | 0, _, _ => none
  | n + 1, x1, x2 =>
    if x0 ≤ x2 then
      some (x1)
    else
      g_X9_powerOfTen_4 F x0 n (x1 * (10 : Int32)) (x2 + (1 : Int32))
def f_X9_powerOfTen (F : Nat) (x0 : Int32) : Option (Int32) :=
  g_X9_powerOfTen_4 F x0 F (1 : Int32) (0 : Int32)
def g_X9_likely_83 (F : Nat) (x1 : Int32) (x2 : Int32) (x3 : Int32) (x4 : Int32) (x5 : Int32) (v_o_order : Int64) (v_o_laid_cards : Int32) : Nat → Int32 → Int32 → Int32 → Option (Int32)
  | 0, _, _, _ => none
  | n + 1, x7, x8, x9 =>
    if (jshl (1 : Int32) x3) ≤ x9 then
      (f_X9_powerOfTen F x3).bind fun b1 =>
      (f_X1_partOf F x8 b1 x5).bind fun b2 =>
      some (b2)
    else
      (f_X9_endOfWay F x7 x9 x3 v_o_laid_cards).bind fun b3 =>
      if b3 = x2 then
        (f_X9_weightOfWay F x9 x3 x4).bind fun b4 =>
        g_X9_likely_83 F x1 x2 x3 x4 x5 v_o_order v_o_laid_cards n x7 (x8 + b4) (x9 + (1 : Int32))
      else
        g_X9_likely_83 F x1 x2 x3 x4 x5 v_o_order v_o_laid_cards n x7 x8 (x9 + (1 : Int32))
def g_X9_likely_35 (F : Nat) (x1 : Int32) (x2 : Int32) (x3 : Int32) (x4 : Int32) (x5 : Int32) (v_o_order : Int64) (v_o_laid_cards : Int32) (s0 : Int32) : Option (Int32) :=
  (f_X9_isCard F x1 v_o_laid_cards).bind fun b1 =>
  if b1 = (0 : Int32) then
    some ((-1 : Int32))
  else
    (f_X9_isPlace F x2 v_o_laid_cards).bind fun b2 =>
    if b2 = (0 : Int32) then
      some ((-1 : Int32))
    else
      if s0 = (0 : Int32) then
        some ((-1 : Int32))
      else
        (f_X4_placeOf F v_o_order v_o_laid_cards x1).bind fun b3 =>
        g_X9_likely_83 F x1 x2 x3 x4 x5 v_o_order v_o_laid_cards F b3 (0 : Int32) (0 : Int32)
def f_X9_likely (F : Nat) (x1 : Int32) (x2 : Int32) (x3 : Int32) (x4 : Int32) (x5 : Int32) (v_o_order : Int64) (v_o_laid_cards : Int32) : Option (Int32) :=
  (f_X9_within F x3 (0 : Int32) (5 : Int32)).bind fun b1 =>
  if b1 = (0 : Int32) then
    g_X9_likely_35 F x1 x2 x3 x4 x5 v_o_order v_o_laid_cards (0 : Int32)
  else
    (f_X9_within F x4 (0 : Int32) (10 : Int32)).bind fun b2 =>
    if b2 = (0 : Int32) then
      g_X9_likely_35 F x1 x2 x3 x4 x5 v_o_order v_o_laid_cards (0 : Int32)
    else
      (f_X9_within F x5 (0 : Int32) (1 : Int32)).bind fun b3 =>
      if b3 = (0 : Int32) then
        g_X9_likely_35 F x1 x2 x3 x4 x5 v_o_order v_o_laid_cards (0 : Int32)
      else
        g_X9_likely_35 F x1 x2 x3 x4 x5 v_o_order v_o_laid_cards (1 : Int32)
def f_X9_drawOf (F : Nat) (x0 : Int32) (x1 : Int32) : Option (Int32) :=
  jge (65521 : Int64) (
  jge (2 : Int64) (
  some ((((jreml (((((7919 : Int64) * x0.toInt64) + ((6151 : Int64) * x1.toInt64)) + (1 : Int64)) * ((((7919 : Int64) * x0.toInt64) + ((6151 : Int64) * x1.toInt64)) + (1 : Int64))) (65521 : Int64)) / (2 : Int64))).toInt32)))
def f_X9_drawnMove (F : Nat) (x1 : Int32) (v_o_laid_cards : Int32) : Option (Int64) :=
  jgd (7 : Int32) (
  if (5 : Int32) ≤ (jrem x1 (7 : Int32)) then
    if (jrem x1 (7 : Int32)) = (5 : Int32) then
      if v_o_laid_cards ≤ (0 : Int32) then
        (f_X3_turnedOver F v_o_laid_cards).bind fun b2 =>
        some (b2)
      else
        jgd (8 : Int32) (
        jgd v_o_laid_cards (
        (f_X3_cutAt F (jrem (x1 / (8 : Int32)) v_o_laid_cards) v_o_laid_cards).bind fun b3 =>
        some (b3)))
    else
      (f_X3_turnedOver F v_o_laid_cards).bind fun b1 =>
      some (b1)
  else
    (f_X3_lacing F (jrem x1 (7 : Int32)) v_o_laid_cards).bind fun b4 =>
    some (b4))
def g_X4_sameCards_6 (F : Nat) (x0 : Int64) (x2 : Int64) (x4 : Int32) : Nat → Int32 → Int32 → Option (Int32)
  | 0, _, _ => none
  | n + 1, x5, x6 =>
    if x4 ≤ x6 then
      some (x5)
    else
      (f_X4_cardAt F x0 x6).bind fun b1 =>
      (f_X4_cardAt F x2 x6).bind fun b2 =>
      if b1 = b2 then
        g_X4_sameCards_6 F x0 x2 x4 n (x5 + (1 : Int32)) (x6 + (1 : Int32))
      else
        g_X4_sameCards_6 F x0 x2 x4 n x5 (x6 + (1 : Int32))
def f_X4_sameCards (F : Nat) (x0 : Int64) (x2 : Int64) (x4 : Int32) : Option (Int32) :=
  g_X4_sameCards_6 F x0 x2 x4 F (0 : Int32) (0 : Int32)
def g_X9_dealing_41 (F : Nat) (x1 : Int32) (x2 : Int32) (x3 : Int32) (v_o_order : Int64) (v_o_laid_cards : Int32) : Nat → Int64 → Int32 → Option (Int32)
  | 0, _, _ => none
  | n + 1, x4, x6 =>
    if x2 ≤ x6 then
      if x3 = (0 : Int32) then
        (f_X4_cardAt F x4 (0 : Int32)).bind fun b3 =>
        some (b3)
      else
        if x3 = (1 : Int32) then
          (f_X4_sameCards F v_o_order x4 v_o_laid_cards).bind fun b2 =>
          some (b2)
        else
          (f_X4_risingRows F x4 v_o_laid_cards).bind fun b1 =>
          some (b1)
    else
      (f_X9_drawOf F x1 x6).bind fun b4 =>
      (f_X9_drawnMove F b4 v_o_laid_cards).bind fun b5 =>
      (f_X4_moved F x4 b5 v_o_laid_cards).bind fun b6 =>
      g_X9_dealing_41 F x1 x2 x3 v_o_order v_o_laid_cards n b6 (x6 + (1 : Int32))
def f_X9_dealing (F : Nat) (x1 : Int32) (x2 : Int32) (x3 : Int32) (v_o_order : Int64) (v_o_laid_cards : Int32) : Option (Int32) :=
  (f_X9_within F x1 (0 : Int32) (9999 : Int32)).bind fun b1 =>
  if b1 = (0 : Int32) then
    some ((-1 : Int32))
  else
    (f_X9_within F x2 (1 : Int32) (60 : Int32)).bind fun b2 =>
    if b2 = (0 : Int32) then
      some ((-1 : Int32))
    else
      (f_X9_within F x3 (0 : Int32) (2 : Int32)).bind fun b3 =>
      if b3 = (0 : Int32) then
        some ((-1 : Int32))
      else
        g_X9_dealing_41 F x1 x2 x3 v_o_order v_o_laid_cards F v_o_order (0 : Int32)
def f_X9_keep (F : Nat) (v_o_order : Int64) (v_o_kept_held : Int32) (f_o_kept_stored : Nat → Int64) : Option (Int32 × Int32 × (Nat → Int64)) :=
  (f_X6_isFull F 2 v_o_kept_held).bind fun b1 =>
  if b1 = (0 : Int32) then
    (f_X6_put F 2 v_o_order v_o_kept_held f_o_kept_stored).bind fun b2 =>
    some (b2.1, b2.1, b2.2)
  else
    some ((-3 : Int32), v_o_kept_held, f_o_kept_stored)
def f_X9_back (F : Nat) (f_o_kept_stored : Nat → Int64) (v_o_order : Int64) (v_o_kept_held : Int32) (v_o_past_held : Int32) : Option (Int32 × Int64 × Int32 × Int32) :=
  if v_o_kept_held = (0 : Int32) then
    some ((-2 : Int32), v_o_order, v_o_kept_held, v_o_past_held)
  else
    (f_X6_takeLast F 2 f_o_kept_stored v_o_kept_held).bind fun b1 =>
    some (b1.2, b1.1, b1.2, (0 : Int32))
def f_X9_count (F : Nat) (x1 : Int32) (v_o_kept_held : Int32) (v_o_laid_cards : Int32) (v_o_laid_acts : Int32) (v_o_past_held : Int32) (v_o_sightings_held : Int32) (v_o_text_length : Int32) : Option (Int32) :=
  if x1 = (0 : Int32) then
    some (v_o_laid_cards)
  else if x1 = (1 : Int32) then
    some (v_o_laid_acts)
  else if x1 = (2 : Int32) then
    some (v_o_sightings_held)
  else if x1 = (3 : Int32) then
    some (v_o_past_held)
  else if x1 = (4 : Int32) then
    some (v_o_kept_held)
  else if x1 = (5 : Int32) then
    some (v_o_text_length)
  else
    some ((-1 : Int32))
def g_X10_colours_2 (F : Nat) : Nat → Int32 → (Nat → Int32) → Option ((Nat → Int32))
  | 0, _, _ => none
  | n + 1, x1, f_o_readColour =>
    if (16 : Int32) ≤ x1 then
      some (f_o_readColour)
    else
      jgd (2 : Int32) (
      jgi x1 16 (
      g_X10_colours_2 F n (x1 + (1 : Int32)) (upd f_o_readColour x1.toNatClampNeg (jrem x1 (2 : Int32)))))
def f_X10_colours (F : Nat) (f_o_readColour : Nat → Int32) : Option ((Nat → Int32)) :=
  g_X10_colours_2 F F (0 : Int32) f_o_readColour
def f_X10_clearTold (F : Nat) (v_o_isBegun : Int32) (v_o_readCards : Int32) (v_o_readDeals : Int32) (f_o_readColour : Nat → Int32) : Option (Int32 × Int32 × Int32 × (Nat → Int32)) :=
  (f_X10_colours F f_o_readColour).bind fun b1 =>
  some ((0 : Int32), (8 : Int32), (0 : Int32), b1)
def g_X10_copies_3 (F : Nat) (n_p0 : Nat) (n_p2 : Nat) (x1 : Int32) (x3 : Int32) (x4 : Int32) (f_p2 : Nat → Int32) : Nat → Int32 → (Nat → Int32) → Option ((Nat → Int32))
  | 0, _, _ => none
  | n + 1, x5, f_p0 =>
    if x4 ≤ x5 then
      some (f_p0)
    else
      jgi (x3 + x5) n_p2 (
      jgi (x1 + x5) n_p0 (
      g_X10_copies_3 F n_p0 n_p2 x1 x3 x4 f_p2 n (x5 + (1 : Int32)) (upd f_p0 (x1 + x5).toNatClampNeg (f_p2 (x3 + x5).toNatClampNeg))))
def f_X10_copies (F : Nat) (n_p0 : Nat) (n_p2 : Nat) (x1 : Int32) (x3 : Int32) (x4 : Int32) (f_p2 : Nat → Int32) (f_p0 : Nat → Int32) : Option ((Nat → Int32)) :=
  g_X10_copies_3 F n_p0 n_p2 x1 x3 x4 f_p2 F (0 : Int32) f_p0
def g_X10_lies_2 (F : Nat) (n_p0 : Nat) : Nat → Int32 → (Nat → Int32) → Option ((Nat → Int32))
  | 0, _, _ => none
  | n + 1, x1, f_p0 =>
    if (16 : Int32) ≤ x1 then
      some (f_p0)
    else
      jgi x1 n_p0 (
      g_X10_lies_2 F n_p0 n (x1 + (1 : Int32)) (upd f_p0 x1.toNatClampNeg x1))
def f_X10_lies (F : Nat) (n_p0 : Nat) (f_p0 : Nat → Int32) : Option ((Nat → Int32)) :=
  g_X10_lies_2 F n_p0 F (0 : Int32) f_p0
def f_X10_settles (F : Nat) (v_o_readCards : Int32) (v_o_readDeals : Int32) (f_o_readColour : Nat → Int32) (f_o_readDeal : Nat → Int32) (v_o_cards : Int32) (v_o_dealMany : Int32) (v_o_acts : Int32) (v_o_keeps : Int32) (v_o_seens : Int32) (f_o_colour : Nat → Int32) (f_o_deal : Nat → Int32) (f_o_st : Nat → Int32) : Option (Int32 × Int32 × Int32 × Int32 × Int32 × (Nat → Int32) × (Nat → Int32) × (Nat → Int32)) :=
  (f_X10_copies F 16 16 (0 : Int32) (0 : Int32) (16 : Int32) f_o_readColour f_o_colour).bind fun b1 =>
  (f_X10_copies F 16 16 (0 : Int32) (0 : Int32) (16 : Int32) f_o_readDeal f_o_deal).bind fun b2 =>
  (f_X10_lies F 16 f_o_st).bind fun b3 =>
  some (v_o_readCards, v_o_readDeals, (0 : Int32), (0 : Int32), (0 : Int32), b1, b2, b3)
def f_X10_in (F : Nat) (x0 : Int32) (x1 : Int32) (x2 : Int32) : Option (Int32) :=
  if x0 < x1 then
    some ((0 : Int32))
  else
    if x2 < x0 then
      some ((0 : Int32))
    else
      some ((1 : Int32))
def f_X10_isCard (F : Nat) (x1 : Int32) (v_o_cards : Int32) : Option (Int32) :=
  (f_X10_in F x1 (0 : Int32) (v_o_cards - (1 : Int32))).bind fun b1 =>
  jgz b1 (some (b1))
def f_X10_isKind (F : Nat) (x0 : Int32) : Option (Int32) :=
  (f_X10_in F x0 (0 : Int32) (4 : Int32)).bind fun b1 =>
  jgz b1 (some (b1))
def f_X10_write (F : Nat) (x1 : Int32) (v_o_texted : Int32) (f_o_text : Nat → Int32) : Option (Int32 × Int32 × (Nat → Int32)) :=
  (f_X10_in F x1 (32 : Int32) (126 : Int32)).bind fun b1 =>
  if b1 = (0 : Int32) then
    some ((-1 : Int32), v_o_texted, f_o_text)
  else
    if v_o_texted = (200 : Int32) then
      some ((-3 : Int32), v_o_texted, f_o_text)
    else
      jgi v_o_texted 200 (
      some ((v_o_texted + (1 : Int32)), (v_o_texted + (1 : Int32)), (upd f_o_text v_o_texted.toNatClampNeg x1)))
def f_X10_wipe (F : Nat) (v_o_texted : Int32) : Option (Int32 × Int32) :=
  some (v_o_texted, (0 : Int32))
def f_X10_letterAt (F : Nat) (x1 : Int32) (v_o_texted : Int32) (f_o_text : Nat → Int32) : Option (Int32) :=
  if v_o_texted ≤ x1 then
    some ((-1 : Int32))
  else
    jgi x1 200 (
    some ((f_o_text x1.toNatClampNeg)))
def f_X10_isFigure (F : Nat) (x0 : Int32) : Option (Int32) :=
  (f_X10_in F x0 (48 : Int32) (57 : Int32)).bind fun b1 =>
  jgz b1 (some (b1))
def g_X10_readNumbers_101 (F : Nat) (x1 : Int32) (v_o_texted : Int32) (f_o_text : Nat → Int32) (k_2 : Int32 → Int32 → (Nat → Int32) → Option (Int32 × Int32 × (Nat → Int32))) (x2 : Int32) (v_o_at : Int32) (f_o_told : Nat → Int32) : Option (Int32 × Int32 × (Nat → Int32)) :=
  (f_X10_letterAt F v_o_at v_o_texted f_o_text).bind fun b1 =>
  if (x1 - (1 : Int32)) ≤ x2 then
    if b1 = (59 : Int32) then
      k_2 (x2 + (1 : Int32)) (v_o_at + (1 : Int32)) f_o_told
    else
      some ((0 : Int32), v_o_at, f_o_told)
  else
    if b1 = (44 : Int32) then
      k_2 (x2 + (1 : Int32)) (v_o_at + (1 : Int32)) f_o_told
    else
      some ((0 : Int32), v_o_at, f_o_told)
def g_X10_readNumbers_2 (F : Nat) (x1 : Int32) (v_o_texted : Int32) (f_o_text : Nat → Int32) : Nat → Int32 → Int32 → (Nat → Int32) → Option (Int32 × Int32 × (Nat → Int32))
  | 0, _, _, _ => none
  | n + 1, x2, v_o_at, f_o_told =>
    if x1 ≤ x2 then
      some ((1 : Int32), v_o_at, f_o_told)
    else
      (f_X10_letterAt F v_o_at v_o_texted f_o_text).bind fun b1 =>
      (f_X10_isFigure F b1).bind fun b2 =>
      if b2 = (0 : Int32) then
        some ((0 : Int32), v_o_at, f_o_told)
      else
        (f_X10_letterAt F v_o_at v_o_texted f_o_text).bind fun b3 =>
        jgi x2 2 (
        (f_X10_letterAt F (v_o_at + (1 : Int32)) v_o_texted f_o_text).bind fun b4 =>
        (f_X10_isFigure F b4).bind fun b5 =>
        if b5 = (0 : Int32) then
          g_X10_readNumbers_101 F x1 v_o_texted f_o_text (fun qx2 qv_o_at qf_o_told => g_X10_readNumbers_2 F x1 v_o_texted f_o_text n qx2 qv_o_at qf_o_told) x2 (v_o_at + (1 : Int32)) (upd f_o_told x2.toNatClampNeg (b3 - (48 : Int32)))
        else
          jgi x2 2 (
          (f_X10_letterAt F (v_o_at + (1 : Int32)) v_o_texted f_o_text).bind fun b6 =>
          jgi x2 2 (
          g_X10_readNumbers_101 F x1 v_o_texted f_o_text (fun qx2 qv_o_at qf_o_told => g_X10_readNumbers_2 F x1 v_o_texted f_o_text n qx2 qv_o_at qf_o_told) x2 ((v_o_at + (1 : Int32)) + (1 : Int32)) (upd (upd f_o_told x2.toNatClampNeg (b3 - (48 : Int32))) x2.toNatClampNeg ((((10 : Int32) * ((upd f_o_told x2.toNatClampNeg (b3 - (48 : Int32))) x2.toNatClampNeg)) + b6) - (48 : Int32))))))
def f_X10_readNumbers (F : Nat) (x1 : Int32) (v_o_texted : Int32) (f_o_text : Nat → Int32) (v_o_at : Int32) (f_o_told : Nat → Int32) : Option (Int32 × Int32 × (Nat → Int32)) :=
  g_X10_readNumbers_2 F x1 v_o_texted f_o_text F (0 : Int32) v_o_at f_o_told
def f_X10_isTold (F : Nat) (x1 : Int32) (x2 : Int32) (x3 : Int32) (f_o_told : Nat → Int32) : Option (Int32) :=
  jgi x1 2 (
  (f_X10_in F (f_o_told x1.toNatClampNeg) x2 x3).bind fun b1 =>
  jgz b1 (some (b1)))
def g_X10_readCardsOf_31 (F : Nat) (v_o_texted : Int32) (v_o_isBegun : Int32) (f_o_text : Nat → Int32) (s0 : Int32) (v_o_at : Int32) (v_o_readCards : Int32) (f_o_told : Nat → Int32) : Option (Int32 × Int32 × Int32 × (Nat → Int32)) :=
  if s0 = (0 : Int32) then
    jgz s0 (some (s0, v_o_at, v_o_readCards, f_o_told))
  else
    jgi (0 : Int32) 2 (
    jgz s0 (some (s0, v_o_at, (f_o_told (0 : Int32).toNatClampNeg), f_o_told)))
def f_X10_readCardsOf (F : Nat) (v_o_texted : Int32) (v_o_isBegun : Int32) (f_o_text : Nat → Int32) (v_o_at : Int32) (v_o_readCards : Int32) (f_o_told : Nat → Int32) : Option (Int32 × Int32 × Int32 × (Nat → Int32)) :=
  if v_o_isBegun = (0 : Int32) then
    (f_X10_readNumbers F (1 : Int32) v_o_texted f_o_text v_o_at f_o_told).bind fun b1 =>
    if b1.1 = (0 : Int32) then
      g_X10_readCardsOf_31 F v_o_texted v_o_isBegun f_o_text (0 : Int32) b1.2.1 v_o_readCards b1.2.2
    else
      (f_X10_isTold F (0 : Int32) (2 : Int32) (16 : Int32) b1.2.2).bind fun b2 =>
      if b2 = (0 : Int32) then
        g_X10_readCardsOf_31 F v_o_texted v_o_isBegun f_o_text (0 : Int32) b1.2.1 v_o_readCards b1.2.2
      else
        g_X10_readCardsOf_31 F v_o_texted v_o_isBegun f_o_text (1 : Int32) b1.2.1 v_o_readCards b1.2.2
  else
    g_X10_readCardsOf_31 F v_o_texted v_o_isBegun f_o_text (0 : Int32) v_o_at v_o_readCards f_o_told
def f_X10_readColourOf (F : Nat) (v_o_texted : Int32) (v_o_readCards : Int32) (f_o_text : Nat → Int32) (v_o_at : Int32) (f_o_readColour : Nat → Int32) (f_o_told : Nat → Int32) : Option (Int32 × Int32 × (Nat → Int32) × (Nat → Int32)) :=
  (f_X10_readNumbers F (2 : Int32) v_o_texted f_o_text v_o_at f_o_told).bind fun b1 =>
  if b1.1 = (0 : Int32) then
    some ((0 : Int32), b1.2.1, f_o_readColour, b1.2.2)
  else
    (f_X10_isTold F (0 : Int32) (0 : Int32) (v_o_readCards - (1 : Int32)) b1.2.2).bind fun b2 =>
    if b2 = (0 : Int32) then
      some ((0 : Int32), b1.2.1, f_o_readColour, b1.2.2)
    else
      (f_X10_isTold F (1 : Int32) (0 : Int32) (3 : Int32) b1.2.2).bind fun b3 =>
      if b3 = (0 : Int32) then
        some ((0 : Int32), b1.2.1, f_o_readColour, b1.2.2)
      else
        jgi (0 : Int32) 2 (
        jgi (1 : Int32) 2 (
        jgi (b1.2.2 (0 : Int32).toNatClampNeg) 16 (
        some ((1 : Int32), b1.2.1, (upd f_o_readColour (b1.2.2 (0 : Int32).toNatClampNeg).toNatClampNeg (b1.2.2 (1 : Int32).toNatClampNeg)), b1.2.2))))
def f_X10_readDealOf (F : Nat) (x1 : Int32) (x2 : Int32) (v_o_texted : Int32) (f_o_text : Nat → Int32) (v_o_at : Int32) (v_o_readDeals : Int32) (f_o_readDeal : Nat → Int32) (f_o_told : Nat → Int32) : Option (Int32 × Int32 × Int32 × (Nat → Int32) × (Nat → Int32)) :=
  if v_o_readDeals = (16 : Int32) then
    some ((0 : Int32), v_o_at, v_o_readDeals, f_o_readDeal, f_o_told)
  else
    (f_X10_readNumbers F (1 : Int32) v_o_texted f_o_text v_o_at f_o_told).bind fun b1 =>
    if b1.1 = (0 : Int32) then
      some ((0 : Int32), b1.2.1, v_o_readDeals, f_o_readDeal, b1.2.2)
    else
      (f_X10_isTold F (0 : Int32) (0 : Int32) x2 b1.2.2).bind fun b2 =>
      if b2 = (0 : Int32) then
        some ((0 : Int32), b1.2.1, v_o_readDeals, f_o_readDeal, b1.2.2)
      else
        jgi (0 : Int32) 2 (
        jgi v_o_readDeals 16 (
        some ((1 : Int32), b1.2.1, (v_o_readDeals + (1 : Int32)), (upd f_o_readDeal v_o_readDeals.toNatClampNeg (x1 + (b1.2.2 (0 : Int32).toNatClampNeg))), b1.2.2)))
def f_X10_readItem (F : Nat) (v_o_texted : Int32) (f_o_text : Nat → Int32) (v_o_at : Int32) (v_o_isBegun : Int32) (v_o_readCards : Int32) (v_o_readDeals : Int32) (f_o_readColour : Nat → Int32) (f_o_readDeal : Nat → Int32) (f_o_told : Nat → Int32) : Option (Int32 × Int32 × Int32 × Int32 × Int32 × (Nat → Int32) × (Nat → Int32) × (Nat → Int32)) :=
  (f_X10_letterAt F v_o_at v_o_texted f_o_text).bind fun b1 =>
  if b1 = (110 : Int32) then
    (f_X10_readCardsOf F v_o_texted v_o_isBegun f_o_text (v_o_at + (1 : Int32)) v_o_readCards f_o_told).bind fun b5 =>
    jgz b5.1 (some (b5.1, b5.2.1, v_o_isBegun, b5.2.2.1, v_o_readDeals, f_o_readColour, f_o_readDeal, b5.2.2.2))
  else
    if b1 = (99 : Int32) then
      (f_X10_readColourOf F v_o_texted v_o_readCards f_o_text (v_o_at + (1 : Int32)) f_o_readColour f_o_told).bind fun b2 =>
      jgz b2.1 (some (b2.1, b2.2.1, (1 : Int32), v_o_readCards, v_o_readDeals, b2.2.2.1, f_o_readDeal, b2.2.2.2))
    else if b1 = (108 : Int32) then
      (f_X10_readDealOf F (0 : Int32) (4 : Int32) v_o_texted f_o_text (v_o_at + (1 : Int32)) v_o_readDeals f_o_readDeal f_o_told).bind fun b3 =>
      jgz b3.1 (some (b3.1, b3.2.1, (1 : Int32), v_o_readCards, b3.2.2.1, f_o_readColour, b3.2.2.2.1, b3.2.2.2.2))
    else if b1 = (120 : Int32) then
      (f_X10_readDealOf F (6 : Int32) (v_o_readCards - (1 : Int32)) v_o_texted f_o_text (v_o_at + (1 : Int32)) v_o_readDeals f_o_readDeal f_o_told).bind fun b4 =>
      jgz b4.1 (some (b4.1, b4.2.1, (1 : Int32), v_o_readCards, b4.2.2.1, f_o_readColour, b4.2.2.2.1, b4.2.2.2.2))
    else
      some ((0 : Int32), (v_o_at + (1 : Int32)), (1 : Int32), v_o_readCards, v_o_readDeals, f_o_readColour, f_o_readDeal, f_o_told)
def g_X10_fault_9 (F : Nat) (v_o_texted : Int32) (f_o_text : Nat → Int32) : Nat → Int32 → Int32 → Int32 → Int32 → (Nat → Int32) → (Nat → Int32) → (Nat → Int32) → Option (Int32 × Int32 × Int32 × Int32 × Int32 × (Nat → Int32) × (Nat → Int32) × (Nat → Int32))
  | 0, _, _, _, _, _, _, _ => none
  | n + 1, v_o_at, v_o_isBegun, v_o_readCards, v_o_readDeals, f_o_readColour, f_o_readDeal, f_o_told =>
    if v_o_texted ≤ v_o_at then
      some ((-4 : Int32), v_o_at, v_o_isBegun, v_o_readCards, v_o_readDeals, f_o_readColour, f_o_readDeal, f_o_told)
    else
      (f_X10_readItem F v_o_texted f_o_text v_o_at v_o_isBegun v_o_readCards v_o_readDeals f_o_readColour f_o_readDeal f_o_told).bind fun b1 =>
      if b1.1 = (0 : Int32) then
        some (v_o_at, b1.2.1, b1.2.2.1, b1.2.2.2.1, b1.2.2.2.2.1, b1.2.2.2.2.2.1, b1.2.2.2.2.2.2.1, b1.2.2.2.2.2.2.2)
      else
        g_X10_fault_9 F v_o_texted f_o_text n b1.2.1 b1.2.2.1 b1.2.2.2.1 b1.2.2.2.2.1 b1.2.2.2.2.2.1 b1.2.2.2.2.2.2.1 b1.2.2.2.2.2.2.2
def f_X10_fault (F : Nat) (v_o_texted : Int32) (f_o_text : Nat → Int32) (v_o_at : Int32) (v_o_isBegun : Int32) (v_o_readCards : Int32) (v_o_readDeals : Int32) (f_o_readColour : Nat → Int32) (f_o_readDeal : Nat → Int32) (f_o_told : Nat → Int32) : Option (Int32 × Int32 × Int32 × Int32 × Int32 × (Nat → Int32) × (Nat → Int32) × (Nat → Int32)) :=
  (f_X10_clearTold F v_o_isBegun v_o_readCards v_o_readDeals f_o_readColour).bind fun b1 =>
  g_X10_fault_9 F v_o_texted f_o_text F (0 : Int32) b1.1 b1.2.1 b1.2.2.1 b1.2.2.2 f_o_readDeal f_o_told
def f_X10_lay (F : Nat) (v_o_texted : Int32) (f_o_text : Nat → Int32) (v_o_cards : Int32) (v_o_dealMany : Int32) (v_o_acts : Int32) (v_o_keeps : Int32) (v_o_seens : Int32) (v_o_at : Int32) (v_o_isBegun : Int32) (v_o_readCards : Int32) (v_o_readDeals : Int32) (f_o_colour : Nat → Int32) (f_o_deal : Nat → Int32) (f_o_readColour : Nat → Int32) (f_o_readDeal : Nat → Int32) (f_o_st : Nat → Int32) (f_o_told : Nat → Int32) : Option (Int32 × Int32 × Int32 × Int32 × Int32 × Int32 × Int32 × Int32 × Int32 × Int32 × (Nat → Int32) × (Nat → Int32) × (Nat → Int32) × (Nat → Int32) × (Nat → Int32) × (Nat → Int32)) :=
  if v_o_texted = (0 : Int32) then
    some ((-2 : Int32), v_o_cards, v_o_dealMany, v_o_acts, v_o_keeps, v_o_seens, v_o_at, v_o_isBegun, v_o_readCards, v_o_readDeals, f_o_colour, f_o_deal, f_o_readColour, f_o_readDeal, f_o_st, f_o_told)
  else
    (f_X10_fault F v_o_texted f_o_text v_o_at v_o_isBegun v_o_readCards v_o_readDeals f_o_readColour f_o_readDeal f_o_told).bind fun b1 =>
    if b1.1 = (-4 : Int32) then
      (f_X10_settles F b1.2.2.2.1 b1.2.2.2.2.1 b1.2.2.2.2.2.1 b1.2.2.2.2.2.2.1 v_o_cards v_o_dealMany v_o_acts v_o_keeps v_o_seens f_o_colour f_o_deal f_o_st).bind fun b2 =>
      some (b2.1, b2.1, b2.2.1, b2.2.2.1, b2.2.2.2.1, b2.2.2.2.2.1, b1.2.1, b1.2.2.1, b1.2.2.2.1, b1.2.2.2.2.1, b2.2.2.2.2.2.1, b2.2.2.2.2.2.2.1, b1.2.2.2.2.2.1, b1.2.2.2.2.2.2.1, b2.2.2.2.2.2.2.2, b1.2.2.2.2.2.2.2)
    else
      some ((-2 : Int32), v_o_cards, v_o_dealMany, v_o_acts, v_o_keeps, v_o_seens, b1.2.1, b1.2.2.1, b1.2.2.2.1, b1.2.2.2.2.1, f_o_colour, f_o_deal, b1.2.2.2.2.2.1, b1.2.2.2.2.2.2.1, f_o_st, b1.2.2.2.2.2.2.2)
def f_X10_asItIs (F : Nat) (f_o_st : Nat → Int32) (f_o_now : Nat → Int32) : Option ((Nat → Int32)) :=
  (f_X10_copies F 16 16 (0 : Int32) (0 : Int32) (16 : Int32) f_o_st f_o_now).bind fun b1 =>
  some (b1)
def g_X10_falls_3 (F : Nat) (x1 : Int32) (x2 : Int32) (x3 : Int32) (v_o_cards : Int32) (f_o_now : Nat → Int32) : Nat → Int32 → (Nat → Int32) → Option ((Nat → Int32))
  | 0, _, _ => none
  | n + 1, x4, f_o_then =>
    if v_o_cards ≤ x4 then
      some (f_o_then)
    else
      jgd (2 : Int32) (
      if (jrem x4 (2 : Int32)) = (0 : Int32) then
        jgd (2 : Int32) (
        jgi (x1 + ((x4 / (2 : Int32)) * x2)) 16 (
        jgi x4 16 (
        g_X10_falls_3 F x1 x2 x3 v_o_cards f_o_now n (x4 + (1 : Int32)) (upd f_o_then x4.toNatClampNeg (f_o_now (x1 + ((x4 / (2 : Int32)) * x2)).toNatClampNeg)))))
      else
        jgd (2 : Int32) (
        jgi (x3 + (x4 / (2 : Int32))) 16 (
        jgi x4 16 (
        g_X10_falls_3 F x1 x2 x3 v_o_cards f_o_now n (x4 + (1 : Int32)) (upd f_o_then x4.toNatClampNeg (f_o_now (x3 + (x4 / (2 : Int32))).toNatClampNeg))))))
def f_X10_falls (F : Nat) (x1 : Int32) (x2 : Int32) (x3 : Int32) (v_o_cards : Int32) (f_o_now : Nat → Int32) (f_o_then : Nat → Int32) : Option ((Nat → Int32)) :=
  g_X10_falls_3 F x1 x2 x3 v_o_cards f_o_now F (0 : Int32) f_o_then
def g_X10_milks_2 (F : Nat) (v_o_cards : Int32) (f_o_now : Nat → Int32) : Nat → Int32 → (Nat → Int32) → Option ((Nat → Int32))
  | 0, _, _ => none
  | n + 1, x1, f_o_then =>
    if v_o_cards ≤ x1 then
      some (f_o_then)
    else
      jgd (2 : Int32) (
      if (jrem x1 (2 : Int32)) = (0 : Int32) then
        jgd (2 : Int32) (
        jgi (x1 / (2 : Int32)) 16 (
        jgi x1 16 (
        g_X10_milks_2 F v_o_cards f_o_now n (x1 + (1 : Int32)) (upd f_o_then x1.toNatClampNeg (f_o_now (x1 / (2 : Int32)).toNatClampNeg)))))
      else
        jgd (2 : Int32) (
        jgi ((v_o_cards - (1 : Int32)) - (x1 / (2 : Int32))) 16 (
        jgi x1 16 (
        g_X10_milks_2 F v_o_cards f_o_now n (x1 + (1 : Int32)) (upd f_o_then x1.toNatClampNeg (f_o_now ((v_o_cards - (1 : Int32)) - (x1 / (2 : Int32))).toNatClampNeg))))))
def f_X10_milks (F : Nat) (v_o_cards : Int32) (f_o_now : Nat → Int32) (f_o_then : Nat → Int32) : Option ((Nat → Int32)) :=
  g_X10_milks_2 F v_o_cards f_o_now F (0 : Int32) f_o_then
def g_X10_under_26 (F : Nat) (v_o_cards : Int32) (f_o_now : Nat → Int32) : Nat → Int32 → Int32 → Int32 → (Nat → Int32) → (Nat → Int32) → Option ((Nat → Int32) × (Nat → Int32))
  | 0, _, _, _, _, _ => none
  | n + 1, x1, x2, x3, f_o_ring, f_o_then =>
    if v_o_cards ≤ x3 then
      some (f_o_ring, f_o_then)
    else
      jgi x1 32 (
      jgi x3 16 (
      if x2 ≤ (x1 + (1 : Int32)) then
        g_X10_under_26 F v_o_cards f_o_now n (x1 + (1 : Int32)) x2 (x3 + (1 : Int32)) f_o_ring (upd f_o_then x3.toNatClampNeg (f_o_ring x1.toNatClampNeg))
      else
        jgd (32 : Int32) (
        jgd (32 : Int32) (
        jgi (jrem (x1 + (1 : Int32)) (32 : Int32)) 32 (
        jgi (jrem x2 (32 : Int32)) 32 (
        g_X10_under_26 F v_o_cards f_o_now n ((x1 + (1 : Int32)) + (1 : Int32)) (x2 + (1 : Int32)) (x3 + (1 : Int32)) (upd f_o_ring (jrem x2 (32 : Int32)).toNatClampNeg (f_o_ring (jrem (x1 + (1 : Int32)) (32 : Int32)).toNatClampNeg)) (upd f_o_then x3.toNatClampNeg (f_o_ring x1.toNatClampNeg))))))))
def f_X10_under (F : Nat) (v_o_cards : Int32) (f_o_now : Nat → Int32) (f_o_ring : Nat → Int32) (f_o_then : Nat → Int32) : Option ((Nat → Int32) × (Nat → Int32)) :=
  (f_X10_copies F 32 16 (0 : Int32) (0 : Int32) v_o_cards f_o_now f_o_ring).bind fun b1 =>
  g_X10_under_26 F v_o_cards f_o_now F (0 : Int32) v_o_cards (0 : Int32) b1 f_o_then
def g_X10_cuts_2 (F : Nat) (x1 : Int32) (v_o_cards : Int32) (f_o_now : Nat → Int32) : Nat → Int32 → (Nat → Int32) → Option ((Nat → Int32))
  | 0, _, _ => none
  | n + 1, x2, f_o_then =>
    if v_o_cards ≤ x2 then
      some (f_o_then)
    else
      jgd v_o_cards (
      jgi (jrem (x2 + x1) v_o_cards) 16 (
      jgi x2 16 (
      g_X10_cuts_2 F x1 v_o_cards f_o_now n (x2 + (1 : Int32)) (upd f_o_then x2.toNatClampNeg (f_o_now (jrem (x2 + x1) v_o_cards).toNatClampNeg)))))
def f_X10_cuts (F : Nat) (x1 : Int32) (v_o_cards : Int32) (f_o_now : Nat → Int32) (f_o_then : Nat → Int32) : Option ((Nat → Int32)) :=
  g_X10_cuts_2 F x1 v_o_cards f_o_now F (0 : Int32) f_o_then
def g_X10_acts_155 (F : Nat) (x1 : Int32) (v_o_cards : Int32) (f_o_now : Nat → Int32) (f_o_ring : Nat → Int32) (f_o_then : Nat → Int32) : Option ((Nat → Int32) × (Nat → Int32) × (Nat → Int32)) :=
  (f_X10_copies F 16 16 (0 : Int32) (0 : Int32) v_o_cards f_o_then f_o_now).bind fun b1 =>
  some (b1, f_o_ring, f_o_then)
def g_X10_acts_108 (F : Nat) (x1 : Int32) (v_o_cards : Int32) : Nat → Int32 → (Nat → Int32) → (Nat → Int32) → (Nat → Int32) → Option ((Nat → Int32) × (Nat → Int32) × (Nat → Int32))
  | 0, _, _, _, _ => none
  | n + 1, x4, f_o_now, f_o_ring, f_o_then =>
    if v_o_cards ≤ x4 then
      g_X10_acts_155 F x1 v_o_cards f_o_now f_o_ring f_o_then
    else
      jgi ((v_o_cards - (1 : Int32)) - x4) 16 (
      jgi x4 16 (
      g_X10_acts_108 F x1 v_o_cards n (x4 + (1 : Int32)) f_o_now f_o_ring (upd f_o_then x4.toNatClampNeg (f_o_now ((v_o_cards - (1 : Int32)) - x4).toNatClampNeg))))
def f_X10_acts (F : Nat) (x1 : Int32) (v_o_cards : Int32) (f_o_now : Nat → Int32) (f_o_ring : Nat → Int32) (f_o_then : Nat → Int32) : Option ((Nat → Int32) × (Nat → Int32) × (Nat → Int32)) :=
  jgd (2 : Int32) (
  if x1 = (0 : Int32) then
    (f_X10_falls F (0 : Int32) (1 : Int32) ((v_o_cards + (1 : Int32)) / (2 : Int32)) v_o_cards f_o_now f_o_then).bind fun b1 =>
    g_X10_acts_155 F x1 v_o_cards f_o_now f_o_ring b1
  else if x1 = (1 : Int32) then
    (f_X10_falls F (v_o_cards - ((v_o_cards + (1 : Int32)) / (2 : Int32))) (1 : Int32) (0 : Int32) v_o_cards f_o_now f_o_then).bind fun b2 =>
    g_X10_acts_155 F x1 v_o_cards f_o_now f_o_ring b2
  else if x1 = (2 : Int32) then
    (f_X10_milks F v_o_cards f_o_now f_o_then).bind fun b3 =>
    g_X10_acts_155 F x1 v_o_cards f_o_now f_o_ring b3
  else if x1 = (3 : Int32) then
    (f_X10_under F v_o_cards f_o_now f_o_ring f_o_then).bind fun b4 =>
    g_X10_acts_155 F x1 v_o_cards f_o_now b4.1 b4.2
  else if x1 = (4 : Int32) then
    (f_X10_falls F (v_o_cards - (1 : Int32)) (-1 : Int32) (0 : Int32) v_o_cards f_o_now f_o_then).bind fun b5 =>
    g_X10_acts_155 F x1 v_o_cards f_o_now f_o_ring b5
  else if x1 = (5 : Int32) then
    g_X10_acts_108 F x1 v_o_cards F (0 : Int32) f_o_now f_o_ring f_o_then
  else
    (f_X10_cuts F (x1 - (6 : Int32)) v_o_cards f_o_now f_o_then).bind fun b6 =>
    g_X10_acts_155 F x1 v_o_cards f_o_now f_o_ring b6)
def g_X10_deals_2 (F : Nat) (v_o_cards : Int32) (v_o_dealMany : Int32) (f_o_deal : Nat → Int32) : Nat → Int32 → (Nat → Int32) → (Nat → Int32) → (Nat → Int32) → Option ((Nat → Int32) × (Nat → Int32) × (Nat → Int32))
  | 0, _, _, _, _ => none
  | n + 1, x1, f_o_now, f_o_ring, f_o_then =>
    if v_o_dealMany ≤ x1 then
      some (f_o_now, f_o_ring, f_o_then)
    else
      jgi x1 16 (
      (f_X10_acts F (f_o_deal x1.toNatClampNeg) v_o_cards f_o_now f_o_ring f_o_then).bind fun b1 =>
      g_X10_deals_2 F v_o_cards v_o_dealMany f_o_deal n (x1 + (1 : Int32)) b1.1 b1.2.1 b1.2.2)
def f_X10_deals (F : Nat) (v_o_cards : Int32) (v_o_dealMany : Int32) (f_o_deal : Nat → Int32) (f_o_now : Nat → Int32) (f_o_ring : Nat → Int32) (f_o_then : Nat → Int32) : Option ((Nat → Int32) × (Nat → Int32) × (Nat → Int32)) :=
  g_X10_deals_2 F v_o_cards v_o_dealMany f_o_deal F (0 : Int32) f_o_now f_o_ring f_o_then
def g_X10_placeOf_2 (F : Nat) (x1 : Int32) (f_o_now : Nat → Int32) : Nat → Int32 → Option (Int32)
  | 0, _ => none
  | n + 1, x2 =>
    jgi x2 16 (
    if (f_o_now x2.toNatClampNeg) = x1 then
      some (x2)
    else
      g_X10_placeOf_2 F x1 f_o_now n (x2 + (1 : Int32)))
def f_X10_placeOf (F : Nat) (x1 : Int32) (f_o_now : Nat → Int32) : Option (Int32) :=
  g_X10_placeOf_2 F x1 f_o_now F (0 : Int32)
def f_X10_at (F : Nat) (x1 : Int32) (v_o_cards : Int32) (f_o_st : Nat → Int32) : Option (Int32) :=
  (f_X10_isCard F x1 v_o_cards).bind fun b1 =>
  if b1 = (0 : Int32) then
    some ((-1 : Int32))
  else
    jgi x1 16 (
    some ((f_o_st x1.toNatClampNeg)))
def f_X10_where (F : Nat) (x1 : Int32) (v_o_cards : Int32) (f_o_st : Nat → Int32) (f_o_now : Nat → Int32) : Option (Int32 × (Nat → Int32)) :=
  (f_X10_isCard F x1 v_o_cards).bind fun b1 =>
  if b1 = (0 : Int32) then
    some ((-1 : Int32), f_o_now)
  else
    (f_X10_asItIs F f_o_st f_o_now).bind fun b2 =>
    (f_X10_placeOf F x1 b2).bind fun b3 =>
    some (b3, b2)
def f_X10_colour (F : Nat) (x1 : Int32) (v_o_cards : Int32) (f_o_colour : Nat → Int32) : Option (Int32) :=
  (f_X10_isCard F x1 v_o_cards).bind fun b1 =>
  if b1 = (0 : Int32) then
    some ((-1 : Int32))
  else
    jgi x1 16 (
    some ((f_o_colour x1.toNatClampNeg)))
def g_X10_remembers_48 (F : Nat) (f_o_st : Nat → Int32) (v_o_acts : Int32) (f_o_was : Nat → Int32) : Option (Int32 × (Nat → Int32)) :=
  (f_X10_copies F 128 16 ((16 : Int32) * v_o_acts) (0 : Int32) (16 : Int32) f_o_st f_o_was).bind fun b1 =>
  some ((v_o_acts + (1 : Int32)), b1)
def g_X10_remembers_11 (F : Nat) (f_o_st : Nat → Int32) : Nat → Int32 → Int32 → (Nat → Int32) → Option (Int32 × (Nat → Int32))
  | 0, _, _, _ => none
  | n + 1, x1, v_o_acts, f_o_was =>
    if (112 : Int32) ≤ x1 then
      g_X10_remembers_48 F f_o_st (v_o_acts - (1 : Int32)) f_o_was
    else
      jgi (x1 + (16 : Int32)) 128 (
      jgi x1 128 (
      g_X10_remembers_11 F f_o_st n (x1 + (1 : Int32)) v_o_acts (upd f_o_was x1.toNatClampNeg (f_o_was (x1 + (16 : Int32)).toNatClampNeg))))
def f_X10_remembers (F : Nat) (f_o_st : Nat → Int32) (v_o_acts : Int32) (f_o_was : Nat → Int32) : Option (Int32 × (Nat → Int32)) :=
  if v_o_acts = (8 : Int32) then
    g_X10_remembers_11 F f_o_st F (0 : Int32) v_o_acts f_o_was
  else
    g_X10_remembers_48 F f_o_st v_o_acts f_o_was
def f_X10_does (F : Nat) (x1 : Int32) (v_o_cards : Int32) (v_o_acts : Int32) (f_o_now : Nat → Int32) (f_o_ring : Nat → Int32) (f_o_st : Nat → Int32) (f_o_then : Nat → Int32) (f_o_was : Nat → Int32) : Option (Int32 × Int32 × (Nat → Int32) × (Nat → Int32) × (Nat → Int32) × (Nat → Int32) × (Nat → Int32)) :=
  (f_X10_remembers F f_o_st v_o_acts f_o_was).bind fun b1 =>
  (f_X10_asItIs F f_o_st f_o_now).bind fun b2 =>
  (f_X10_acts F x1 v_o_cards b2 f_o_ring f_o_then).bind fun b3 =>
  (f_X10_copies F 16 16 (0 : Int32) (0 : Int32) (16 : Int32) b3.1 f_o_st).bind fun b4 =>
  jgi (0 : Int32) 16 (
  some ((b4 (0 : Int32).toNatClampNeg), b1.1, b3.1, b3.2.1, b4, b3.2.2, b1.2))
def f_X10_lace (F : Nat) (x1 : Int32) (v_o_cards : Int32) (v_o_acts : Int32) (f_o_now : Nat → Int32) (f_o_ring : Nat → Int32) (f_o_st : Nat → Int32) (f_o_then : Nat → Int32) (f_o_was : Nat → Int32) : Option (Int32 × Int32 × (Nat → Int32) × (Nat → Int32) × (Nat → Int32) × (Nat → Int32) × (Nat → Int32)) :=
  (f_X10_isKind F x1).bind fun b1 =>
  if b1 = (0 : Int32) then
    some ((-1 : Int32), v_o_acts, f_o_now, f_o_ring, f_o_st, f_o_then, f_o_was)
  else
    (f_X10_does F x1 v_o_cards v_o_acts f_o_now f_o_ring f_o_st f_o_then f_o_was).bind fun b2 =>
    some (b2.1, b2.2.1, b2.2.2.1, b2.2.2.2.1, b2.2.2.2.2.1, b2.2.2.2.2.2.1, b2.2.2.2.2.2.2)
def f_X10_cut (F : Nat) (x1 : Int32) (v_o_cards : Int32) (v_o_acts : Int32) (f_o_now : Nat → Int32) (f_o_ring : Nat → Int32) (f_o_st : Nat → Int32) (f_o_then : Nat → Int32) (f_o_was : Nat → Int32) : Option (Int32 × Int32 × (Nat → Int32) × (Nat → Int32) × (Nat → Int32) × (Nat → Int32) × (Nat → Int32)) :=
  (f_X10_isCard F x1 v_o_cards).bind fun b1 =>
  if b1 = (0 : Int32) then
    some ((-1 : Int32), v_o_acts, f_o_now, f_o_ring, f_o_st, f_o_then, f_o_was)
  else
    (f_X10_does F ((6 : Int32) + x1) v_o_cards v_o_acts f_o_now f_o_ring f_o_st f_o_then f_o_was).bind fun b2 =>
    some (b2.1, b2.2.1, b2.2.2.1, b2.2.2.2.1, b2.2.2.2.2.1, b2.2.2.2.2.2.1, b2.2.2.2.2.2.2)
def f_X10_turn (F : Nat) (v_o_cards : Int32) (v_o_acts : Int32) (f_o_now : Nat → Int32) (f_o_ring : Nat → Int32) (f_o_st : Nat → Int32) (f_o_then : Nat → Int32) (f_o_was : Nat → Int32) : Option (Int32 × Int32 × (Nat → Int32) × (Nat → Int32) × (Nat → Int32) × (Nat → Int32) × (Nat → Int32)) :=
  (f_X10_does F (5 : Int32) v_o_cards v_o_acts f_o_now f_o_ring f_o_st f_o_then f_o_was).bind fun b1 =>
  some (b1.1, b1.2.1, b1.2.2.1, b1.2.2.2.1, b1.2.2.2.2.1, b1.2.2.2.2.2.1, b1.2.2.2.2.2.2)
def f_X10_deal (F : Nat) (v_o_cards : Int32) (v_o_dealMany : Int32) (f_o_deal : Nat → Int32) (v_o_acts : Int32) (f_o_now : Nat → Int32) (f_o_ring : Nat → Int32) (f_o_st : Nat → Int32) (f_o_then : Nat → Int32) (f_o_was : Nat → Int32) : Option (Int32 × Int32 × (Nat → Int32) × (Nat → Int32) × (Nat → Int32) × (Nat → Int32) × (Nat → Int32)) :=
  (f_X10_remembers F f_o_st v_o_acts f_o_was).bind fun b1 =>
  (f_X10_asItIs F f_o_st f_o_now).bind fun b2 =>
  (f_X10_deals F v_o_cards v_o_dealMany f_o_deal b2 f_o_ring f_o_then).bind fun b3 =>
  (f_X10_copies F 16 16 (0 : Int32) (0 : Int32) (16 : Int32) b3.1 f_o_st).bind fun b4 =>
  jgi (0 : Int32) 16 (
  some ((b4 (0 : Int32).toNatClampNeg), b1.1, b3.1, b3.2.1, b4, b3.2.2, b1.2))
def f_X10_undo (F : Nat) (f_o_was : Nat → Int32) (v_o_acts : Int32) (f_o_st : Nat → Int32) : Option (Int32 × Int32 × (Nat → Int32)) :=
  if v_o_acts = (0 : Int32) then
    some ((-2 : Int32), v_o_acts, f_o_st)
  else
    (f_X10_copies F 16 128 (0 : Int32) ((16 : Int32) * (v_o_acts - (1 : Int32))) (16 : Int32) f_o_was f_o_st).bind fun b1 =>
    some ((v_o_acts - (1 : Int32)), (v_o_acts - (1 : Int32)), b1)
def g_X10_isInOrder_4 (F : Nat) (v_o_cards : Int32) (f_o_now : Nat → Int32) : Nat → Int32 → Int32 → Option (Int32)
  | 0, _, _ => none
  | n + 1, x1, x2 =>
    if v_o_cards ≤ x2 then
      jgz x1 (some (x1))
    else
      if x1 = (0 : Int32) then
        g_X10_isInOrder_4 F v_o_cards f_o_now n (0 : Int32) (x2 + (1 : Int32))
      else
        jgi x2 16 (
        if (f_o_now x2.toNatClampNeg) = x2 then
          g_X10_isInOrder_4 F v_o_cards f_o_now n (1 : Int32) (x2 + (1 : Int32))
        else
          g_X10_isInOrder_4 F v_o_cards f_o_now n (0 : Int32) (x2 + (1 : Int32)))
def f_X10_isInOrder (F : Nat) (v_o_cards : Int32) (f_o_now : Nat → Int32) : Option (Int32) :=
  g_X10_isInOrder_4 F v_o_cards f_o_now F (1 : Int32) (0 : Int32)
def g_X10_again_22 (F : Nat) (x1 : Int32) (v_o_cards : Int32) (v_o_dealMany : Int32) (f_o_deal : Nat → Int32) : Nat → Int32 → Int32 → (Nat → Int32) → (Nat → Int32) → (Nat → Int32) → Option (Int32 × (Nat → Int32) × (Nat → Int32) × (Nat → Int32))
  | 0, _, _, _, _, _ => none
  | n + 1, x2, x3, f_o_now, f_o_ring, f_o_then =>
    if x3 = (0 : Int32) then
      some (x2, f_o_now, f_o_ring, f_o_then)
    else
      if x1 = (5 : Int32) then
        (f_X10_deals F v_o_cards v_o_dealMany f_o_deal f_o_now f_o_ring f_o_then).bind fun b3 =>
        (f_X10_isInOrder F v_o_cards b3.1).bind fun b4 =>
        if b4 = (0 : Int32) then
          g_X10_again_22 F x1 v_o_cards v_o_dealMany f_o_deal n (x2 + (1 : Int32)) (1 : Int32) b3.1 b3.2.1 b3.2.2
        else
          g_X10_again_22 F x1 v_o_cards v_o_dealMany f_o_deal n (x2 + (1 : Int32)) (0 : Int32) b3.1 b3.2.1 b3.2.2
      else
        (f_X10_acts F x1 v_o_cards f_o_now f_o_ring f_o_then).bind fun b1 =>
        (f_X10_isInOrder F v_o_cards b1.1).bind fun b2 =>
        if b2 = (0 : Int32) then
          g_X10_again_22 F x1 v_o_cards v_o_dealMany f_o_deal n (x2 + (1 : Int32)) (1 : Int32) b1.1 b1.2.1 b1.2.2
        else
          g_X10_again_22 F x1 v_o_cards v_o_dealMany f_o_deal n (x2 + (1 : Int32)) (0 : Int32) b1.1 b1.2.1 b1.2.2
def f_X10_again (F : Nat) (x1 : Int32) (v_o_cards : Int32) (v_o_dealMany : Int32) (f_o_deal : Nat → Int32) (f_o_now : Nat → Int32) (f_o_ring : Nat → Int32) (f_o_then : Nat → Int32) : Option (Int32 × (Nat → Int32) × (Nat → Int32) × (Nat → Int32)) :=
  (f_X10_in F x1 (0 : Int32) (5 : Int32)).bind fun b1 =>
  if b1 = (0 : Int32) then
    some ((-1 : Int32), f_o_now, f_o_ring, f_o_then)
  else
    (f_X10_lies F 16 f_o_now).bind fun b2 =>
    g_X10_again_22 F x1 v_o_cards v_o_dealMany f_o_deal F (0 : Int32) (1 : Int32) b2 f_o_ring f_o_then
def g_X10_round_29 (F : Nat) (x1 : Int32) (x2 : Int32) (v_o_cards : Int32) : Nat → Int32 → Int32 → (Nat → Int32) → (Nat → Int32) → (Nat → Int32) → Option (Int32 × (Nat → Int32) × (Nat → Int32) × (Nat → Int32))
  | 0, _, _, _, _, _ => none
  | n + 1, x3, x4, f_o_now, f_o_ring, f_o_then =>
    if x4 = (0 : Int32) then
      some (x3, f_o_now, f_o_ring, f_o_then)
    else
      (f_X10_acts F x2 v_o_cards f_o_now f_o_ring f_o_then).bind fun b1 =>
      jgi x1 16 (
      if (b1.1 x1.toNatClampNeg) = x1 then
        g_X10_round_29 F x1 x2 v_o_cards n (x3 + (1 : Int32)) (0 : Int32) b1.1 b1.2.1 b1.2.2
      else
        g_X10_round_29 F x1 x2 v_o_cards n (x3 + (1 : Int32)) (1 : Int32) b1.1 b1.2.1 b1.2.2)
def f_X10_round (F : Nat) (x1 : Int32) (x2 : Int32) (v_o_cards : Int32) (f_o_now : Nat → Int32) (f_o_ring : Nat → Int32) (f_o_then : Nat → Int32) : Option (Int32 × (Nat → Int32) × (Nat → Int32) × (Nat → Int32)) :=
  (f_X10_isCard F x1 v_o_cards).bind fun b1 =>
  if b1 = (0 : Int32) then
    some ((-1 : Int32), f_o_now, f_o_ring, f_o_then)
  else
    (f_X10_isKind F x2).bind fun b2 =>
    if b2 = (0 : Int32) then
      some ((-1 : Int32), f_o_now, f_o_ring, f_o_then)
    else
      (f_X10_lies F 16 f_o_now).bind fun b3 =>
      g_X10_round_29 F x1 x2 v_o_cards F (0 : Int32) (1 : Int32) b3 f_o_ring f_o_then
def g_X10_rounds_58 (F : Nat) (x1 : Int32) (v_o_cards : Int32) (k_28 : Int32 → Int32 → Int32 → (Nat → Int32) → (Nat → Int32) → (Nat → Int32) → Option (Int32 × (Nat → Int32) × (Nat → Int32) × (Nat → Int32))) : Nat → Int32 → Int32 → Int32 → Int32 → (Nat → Int32) → (Nat → Int32) → (Nat → Int32) → Option (Int32 × (Nat → Int32) × (Nat → Int32) × (Nat → Int32))
  | 0, _, _, _, _, _, _, _ => none
  | n + 1, x2, x3, x4, x5, f_o_now, f_o_ring, f_o_then =>
    if ((jshr x2 x5) &&& (1 : Int32)) = (0 : Int32) then
      jgi x5 16 (
      g_X10_rounds_58 F x1 v_o_cards k_28 n (x2 ||| (jshl (1 : Int32) x5)) x3 x4 (f_o_now x5.toNatClampNeg) f_o_now f_o_ring f_o_then)
    else
      k_28 x2 x3 (x4 + (1 : Int32)) f_o_now f_o_ring f_o_then
def g_X10_rounds_28 (F : Nat) (x1 : Int32) (v_o_cards : Int32) : Nat → Int32 → Int32 → Int32 → (Nat → Int32) → (Nat → Int32) → (Nat → Int32) → Option (Int32 × (Nat → Int32) × (Nat → Int32) × (Nat → Int32))
  | 0, _, _, _, _, _, _ => none
  | n + 1, x2, x3, x4, f_o_now, f_o_ring, f_o_then =>
    if v_o_cards ≤ x4 then
      some (x3, f_o_now, f_o_ring, f_o_then)
    else
      if ((jshr x2 x4) &&& (1 : Int32)) = (0 : Int32) then
        g_X10_rounds_58 F x1 v_o_cards (fun qx2 qx3 qx4 qf_o_now qf_o_ring qf_o_then => g_X10_rounds_28 F x1 v_o_cards n qx2 qx3 qx4 qf_o_now qf_o_ring qf_o_then) F x2 (x3 + (1 : Int32)) x4 x4 f_o_now f_o_ring f_o_then
      else
        g_X10_rounds_58 F x1 v_o_cards (fun qx2 qx3 qx4 qf_o_now qf_o_ring qf_o_then => g_X10_rounds_28 F x1 v_o_cards n qx2 qx3 qx4 qf_o_now qf_o_ring qf_o_then) F x2 (x3 + (0 : Int32)) x4 x4 f_o_now f_o_ring f_o_then
def f_X10_rounds (F : Nat) (x1 : Int32) (v_o_cards : Int32) (f_o_now : Nat → Int32) (f_o_ring : Nat → Int32) (f_o_then : Nat → Int32) : Option (Int32 × (Nat → Int32) × (Nat → Int32) × (Nat → Int32)) :=
  (f_X10_isKind F x1).bind fun b1 =>
  if b1 = (0 : Int32) then
    some ((-1 : Int32), f_o_now, f_o_ring, f_o_then)
  else
    (f_X10_lies F 16 f_o_now).bind fun b2 =>
    (f_X10_acts F x1 v_o_cards b2 f_o_ring f_o_then).bind fun b3 =>
    g_X10_rounds_28 F x1 v_o_cards F (0 : Int32) (0 : Int32) (0 : Int32) b3.1 b3.2.1 b3.2.2
def g_X10_findGoes_21 (F : Nat) (v_o_cards : Int32) (k_2 : Int32 → (Nat → Int32) → (Nat → Int32) → (Nat → Int32) → (Nat → Int32) → Option ((Nat → Int32) × (Nat → Int32) × (Nat → Int32) × (Nat → Int32))) : Nat → Int32 → Int32 → (Nat → Int32) → (Nat → Int32) → (Nat → Int32) → (Nat → Int32) → Option ((Nat → Int32) × (Nat → Int32) × (Nat → Int32) × (Nat → Int32))
  | 0, _, _, _, _, _, _ => none
  | n + 1, x1, x2, f_o_goes, f_o_now, f_o_ring, f_o_then =>
    if v_o_cards ≤ x2 then
      k_2 (x1 + (1 : Int32)) f_o_goes f_o_now f_o_ring f_o_then
    else
      jgi x2 16 (
      jgi (((16 : Int32) * x1) + (f_o_now x2.toNatClampNeg)) 32 (
      g_X10_findGoes_21 F v_o_cards k_2 n x1 (x2 + (1 : Int32)) (upd f_o_goes (((16 : Int32) * x1) + (f_o_now x2.toNatClampNeg)).toNatClampNeg x2) f_o_now f_o_ring f_o_then))
def g_X10_findGoes_2 (F : Nat) (v_o_cards : Int32) : Nat → Int32 → (Nat → Int32) → (Nat → Int32) → (Nat → Int32) → (Nat → Int32) → Option ((Nat → Int32) × (Nat → Int32) × (Nat → Int32) × (Nat → Int32))
  | 0, _, _, _, _, _ => none
  | n + 1, x1, f_o_goes, f_o_now, f_o_ring, f_o_then =>
    if (1 : Int32) < x1 then
      some (f_o_goes, f_o_now, f_o_ring, f_o_then)
    else
      (f_X10_lies F 16 f_o_now).bind fun b1 =>
      (f_X10_acts F x1 v_o_cards b1 f_o_ring f_o_then).bind fun b2 =>
      g_X10_findGoes_21 F v_o_cards (fun qx1 qf_o_goes qf_o_now qf_o_ring qf_o_then => g_X10_findGoes_2 F v_o_cards n qx1 qf_o_goes qf_o_now qf_o_ring qf_o_then) F x1 (0 : Int32) f_o_goes b2.1 b2.2.1 b2.2.2
def f_X10_findGoes (F : Nat) (v_o_cards : Int32) (f_o_goes : Nat → Int32) (f_o_now : Nat → Int32) (f_o_ring : Nat → Int32) (f_o_then : Nat → Int32) : Option ((Nat → Int32) × (Nat → Int32) × (Nat → Int32) × (Nat → Int32)) :=
  g_X10_findGoes_2 F v_o_cards F (0 : Int32) f_o_goes f_o_now f_o_ring f_o_then
def g_X10_findFar_95 (F : Nat) (x1 : Int32) (v_o_cards : Int32) (k_37 : Int32 → (Nat → Int32) → (Nat → Int32) → (Nat → Int32) → (Nat → Int32) → (Nat → Int32) → Option ((Nat → Int32) × (Nat → Int32) × (Nat → Int32) × (Nat → Int32) × (Nat → Int32))) (k_45 : Int32 → Int32 → (Nat → Int32) → (Nat → Int32) → (Nat → Int32) → (Nat → Int32) → (Nat → Int32) → Option ((Nat → Int32) × (Nat → Int32) × (Nat → Int32) × (Nat → Int32) × (Nat → Int32))) (x2 : Int32) (x3 : Int32) (s0 : Int32) (f_o_far : Nat → Int32) (f_o_goes : Nat → Int32) (f_o_now : Nat → Int32) (f_o_ring : Nat → Int32) (f_o_then : Nat → Int32) : Option ((Nat → Int32) × (Nat → Int32) × (Nat → Int32) × (Nat → Int32) × (Nat → Int32)) :=
  jgi x3 16 (
  if (0 : Int32) ≤ (f_o_far x3.toNatClampNeg) then
    jgi x3 16 (
    jgi x3 16 (
    k_45 x2 (x3 + (1 : Int32)) (upd f_o_far x3.toNatClampNeg (f_o_far x3.toNatClampNeg)) f_o_goes f_o_now f_o_ring f_o_then))
  else
    if s0 = (0 : Int32) then
      jgi x3 16 (
      jgi x3 16 (
      k_45 x2 (x3 + (1 : Int32)) (upd f_o_far x3.toNatClampNeg (f_o_far x3.toNatClampNeg)) f_o_goes f_o_now f_o_ring f_o_then))
    else
      jgi x3 16 (
      k_45 x2 (x3 + (1 : Int32)) (upd f_o_far x3.toNatClampNeg x2) f_o_goes f_o_now f_o_ring f_o_then))
def g_X10_findFar_45 (F : Nat) (x1 : Int32) (v_o_cards : Int32) (k_37 : Int32 → (Nat → Int32) → (Nat → Int32) → (Nat → Int32) → (Nat → Int32) → (Nat → Int32) → Option ((Nat → Int32) × (Nat → Int32) × (Nat → Int32) × (Nat → Int32) × (Nat → Int32))) : Nat → Int32 → Int32 → (Nat → Int32) → (Nat → Int32) → (Nat → Int32) → (Nat → Int32) → (Nat → Int32) → Option ((Nat → Int32) × (Nat → Int32) × (Nat → Int32) × (Nat → Int32) × (Nat → Int32))
  | 0, _, _, _, _, _, _, _ => none
  | n + 1, x2, x3, f_o_far, f_o_goes, f_o_now, f_o_ring, f_o_then =>
    if v_o_cards ≤ x3 then
      k_37 (x2 + (1 : Int32)) f_o_far f_o_goes f_o_now f_o_ring f_o_then
    else
      jgi x3 32 (
      jgi (f_o_goes x3.toNatClampNeg) 16 (
      if (f_o_far (f_o_goes x3.toNatClampNeg).toNatClampNeg) = (x2 - (1 : Int32)) then
        g_X10_findFar_95 F x1 v_o_cards k_37 (fun qx2 qx3 qf_o_far qf_o_goes qf_o_now qf_o_ring qf_o_then => g_X10_findFar_45 F x1 v_o_cards k_37 n qx2 qx3 qf_o_far qf_o_goes qf_o_now qf_o_ring qf_o_then) x2 x3 (1 : Int32) f_o_far f_o_goes f_o_now f_o_ring f_o_then
      else
        jgi ((16 : Int32) + x3) 32 (
        jgi (f_o_goes ((16 : Int32) + x3).toNatClampNeg) 16 (
        if (f_o_far (f_o_goes ((16 : Int32) + x3).toNatClampNeg).toNatClampNeg) = (x2 - (1 : Int32)) then
          g_X10_findFar_95 F x1 v_o_cards k_37 (fun qx2 qx3 qf_o_far qf_o_goes qf_o_now qf_o_ring qf_o_then => g_X10_findFar_45 F x1 v_o_cards k_37 n qx2 qx3 qf_o_far qf_o_goes qf_o_now qf_o_ring qf_o_then) x2 x3 (1 : Int32) f_o_far f_o_goes f_o_now f_o_ring f_o_then
        else
          g_X10_findFar_95 F x1 v_o_cards k_37 (fun qx2 qx3 qf_o_far qf_o_goes qf_o_now qf_o_ring qf_o_then => g_X10_findFar_45 F x1 v_o_cards k_37 n qx2 qx3 qf_o_far qf_o_goes qf_o_now qf_o_ring qf_o_then) x2 x3 (0 : Int32) f_o_far f_o_goes f_o_now f_o_ring f_o_then))))
def g_X10_findFar_37 (F : Nat) (x1 : Int32) (v_o_cards : Int32) : Nat → Int32 → (Nat → Int32) → (Nat → Int32) → (Nat → Int32) → (Nat → Int32) → (Nat → Int32) → Option ((Nat → Int32) × (Nat → Int32) × (Nat → Int32) × (Nat → Int32) × (Nat → Int32))
  | 0, _, _, _, _, _, _ => none
  | n + 1, x2, f_o_far, f_o_goes, f_o_now, f_o_ring, f_o_then =>
    if (16 : Int32) ≤ x2 then
      some (f_o_far, f_o_goes, f_o_now, f_o_ring, f_o_then)
    else
      g_X10_findFar_45 F x1 v_o_cards (fun qx2 qf_o_far qf_o_goes qf_o_now qf_o_ring qf_o_then => g_X10_findFar_37 F x1 v_o_cards n qx2 qf_o_far qf_o_goes qf_o_now qf_o_ring qf_o_then) F x2 (0 : Int32) f_o_far f_o_goes f_o_now f_o_ring f_o_then
def g_X10_findFar_6 (F : Nat) (x1 : Int32) (v_o_cards : Int32) : Nat → Int32 → (Nat → Int32) → (Nat → Int32) → (Nat → Int32) → (Nat → Int32) → (Nat → Int32) → Option ((Nat → Int32) × (Nat → Int32) × (Nat → Int32) × (Nat → Int32) × (Nat → Int32))
  | 0, _, _, _, _, _, _ => none
  | n + 1, x2, f_o_far, f_o_goes, f_o_now, f_o_ring, f_o_then =>
    if (16 : Int32) ≤ x2 then
      g_X10_findFar_37 F x1 v_o_cards F (1 : Int32) f_o_far f_o_goes f_o_now f_o_ring f_o_then
    else
      if x2 = x1 then
        jgi x2 16 (
        g_X10_findFar_6 F x1 v_o_cards n (x2 + (1 : Int32)) (upd f_o_far x2.toNatClampNeg (0 : Int32)) f_o_goes f_o_now f_o_ring f_o_then)
      else
        jgi x2 16 (
        g_X10_findFar_6 F x1 v_o_cards n (x2 + (1 : Int32)) (upd f_o_far x2.toNatClampNeg (-4 : Int32)) f_o_goes f_o_now f_o_ring f_o_then)
def f_X10_findFar (F : Nat) (x1 : Int32) (v_o_cards : Int32) (f_o_far : Nat → Int32) (f_o_goes : Nat → Int32) (f_o_now : Nat → Int32) (f_o_ring : Nat → Int32) (f_o_then : Nat → Int32) : Option ((Nat → Int32) × (Nat → Int32) × (Nat → Int32) × (Nat → Int32) × (Nat → Int32)) :=
  (f_X10_findGoes F v_o_cards f_o_goes f_o_now f_o_ring f_o_then).bind fun b1 =>
  g_X10_findFar_6 F x1 v_o_cards F (0 : Int32) f_o_far b1.1 b1.2.1 b1.2.2.1 b1.2.2.2
def g_X10_bring_97 (F : Nat) (x1 : Int32) (x2 : Int32) (x3 : Int32) (v_o_cards : Int32) (f_o_st : Nat → Int32) (k_63 : Int32 → Int32 → Int32 → (Nat → Int32) → (Nat → Int32) → (Nat → Int32) → (Nat → Int32) → (Nat → Int32) → Option (Int32 × (Nat → Int32) × (Nat → Int32) × (Nat → Int32) × (Nat → Int32) × (Nat → Int32))) (x4 : Int32) (x5 : Int32) (x6 : Int32) (s0 : Int32) (f_o_far : Nat → Int32) (f_o_goes : Nat → Int32) (f_o_now : Nat → Int32) (f_o_ring : Nat → Int32) (f_o_then : Nat → Int32) : Option (Int32 × (Nat → Int32) × (Nat → Int32) × (Nat → Int32) × (Nat → Int32) × (Nat → Int32)) :=
  if x6 = x3 then
    some (s0, f_o_far, f_o_goes, f_o_now, f_o_ring, f_o_then)
  else
    jgi (((16 : Int32) * s0) + x4) 32 (
    k_63 (f_o_goes (((16 : Int32) * s0) + x4).toNatClampNeg) x5 (x6 + (1 : Int32)) f_o_far f_o_goes f_o_now f_o_ring f_o_then)
def g_X10_bring_63 (F : Nat) (x1 : Int32) (x2 : Int32) (x3 : Int32) (v_o_cards : Int32) (f_o_st : Nat → Int32) : Nat → Int32 → Int32 → Int32 → (Nat → Int32) → (Nat → Int32) → (Nat → Int32) → (Nat → Int32) → (Nat → Int32) → Option (Int32 × (Nat → Int32) × (Nat → Int32) × (Nat → Int32) × (Nat → Int32) × (Nat → Int32))
  | 0, _, _, _, _, _, _, _, _ => none
  | n + 1, x4, x5, x6, f_o_far, f_o_goes, f_o_now, f_o_ring, f_o_then =>
    if x5 ≤ x6 then
      some ((-4 : Int32), f_o_far, f_o_goes, f_o_now, f_o_ring, f_o_then)
    else
      jgi x4 32 (
      jgi (f_o_goes x4.toNatClampNeg) 16 (
      if (f_o_far (f_o_goes x4.toNatClampNeg).toNatClampNeg) = ((x5 - (1 : Int32)) - x6) then
        g_X10_bring_97 F x1 x2 x3 v_o_cards f_o_st (fun qx4 qx5 qx6 qf_o_far qf_o_goes qf_o_now qf_o_ring qf_o_then => g_X10_bring_63 F x1 x2 x3 v_o_cards f_o_st n qx4 qx5 qx6 qf_o_far qf_o_goes qf_o_now qf_o_ring qf_o_then) x4 x5 x6 (0 : Int32) f_o_far f_o_goes f_o_now f_o_ring f_o_then
      else
        g_X10_bring_97 F x1 x2 x3 v_o_cards f_o_st (fun qx4 qx5 qx6 qf_o_far qf_o_goes qf_o_now qf_o_ring qf_o_then => g_X10_bring_63 F x1 x2 x3 v_o_cards f_o_st n qx4 qx5 qx6 qf_o_far qf_o_goes qf_o_now qf_o_ring qf_o_then) x4 x5 x6 (1 : Int32) f_o_far f_o_goes f_o_now f_o_ring f_o_then))
def f_X10_bring (F : Nat) (x1 : Int32) (x2 : Int32) (x3 : Int32) (v_o_cards : Int32) (f_o_st : Nat → Int32) (f_o_far : Nat → Int32) (f_o_goes : Nat → Int32) (f_o_now : Nat → Int32) (f_o_ring : Nat → Int32) (f_o_then : Nat → Int32) : Option (Int32 × (Nat → Int32) × (Nat → Int32) × (Nat → Int32) × (Nat → Int32) × (Nat → Int32)) :=
  (f_X10_isCard F x1 v_o_cards).bind fun b1 =>
  if b1 = (0 : Int32) then
    some ((-1 : Int32), f_o_far, f_o_goes, f_o_now, f_o_ring, f_o_then)
  else
    (f_X10_isCard F x2 v_o_cards).bind fun b2 =>
    if b2 = (0 : Int32) then
      some ((-1 : Int32), f_o_far, f_o_goes, f_o_now, f_o_ring, f_o_then)
    else
      if (-1 : Int32) ≤ x3 then
        (f_X10_findFar F x2 v_o_cards f_o_far f_o_goes f_o_now f_o_ring f_o_then).bind fun b3 =>
        (f_X10_asItIs F f_o_st b3.2.2.1).bind fun b4 =>
        (f_X10_placeOf F x1 b4).bind fun b5 =>
        jgi b5 16 (
        if (b3.1 b5.toNatClampNeg) < (0 : Int32) then
          some ((b3.1 b5.toNatClampNeg), b3.1, b3.2.1, b4, b3.2.2.2.1, b3.2.2.2.2)
        else
          if (0 : Int32) ≤ x3 then
            g_X10_bring_63 F x1 x2 x3 v_o_cards f_o_st F b5 (b3.1 b5.toNatClampNeg) (0 : Int32) b3.1 b3.2.1 b4 b3.2.2.2.1 b3.2.2.2.2
          else
            some ((b3.1 b5.toNatClampNeg), b3.1, b3.2.1, b4, b3.2.2.2.1, b3.2.2.2.2))
      else
        some ((-1 : Int32), f_o_far, f_o_goes, f_o_now, f_o_ring, f_o_then)
def g_X10_beside_76 (F : Nat) (x1 : Int32) (x2 : Int32) (v_o_cards : Int32) (f_o_st : Nat → Int32) (k_47 : Int32 → Int32 → Int32 → (Nat → Int32) → (Nat → Int32) → (Nat → Int32) → (Nat → Int32) → Option (Int32 × (Nat → Int32) × (Nat → Int32) × (Nat → Int32) × (Nat → Int32))) (k_57 : Int32 → Int32 → Int32 → Int32 → (Nat → Int32) → (Nat → Int32) → (Nat → Int32) → (Nat → Int32) → Option (Int32 × (Nat → Int32) × (Nat → Int32) × (Nat → Int32) × (Nat → Int32))) : Nat → Int32 → Int32 → Int32 → Int32 → Int32 → Int32 → Int32 → (Nat → Int32) → (Nat → Int32) → (Nat → Int32) → (Nat → Int32) → Option (Int32 × (Nat → Int32) × (Nat → Int32) × (Nat → Int32) × (Nat → Int32))
  | 0, _, _, _, _, _, _, _, _, _, _, _ => none
  | n + 1, x3, x4, x5, x6, x7, x8, x9, f_o_goes, f_o_now, f_o_ring, f_o_then =>
    if x5 ≤ x9 then
      if (x7 - x8) = (1 : Int32) then
        some (x5, f_o_goes, f_o_now, f_o_ring, f_o_then)
      else
        if (x8 - x7) = (1 : Int32) then
          some (x5, f_o_goes, f_o_now, f_o_ring, f_o_then)
        else
          k_57 x3 x4 x5 (x6 + (1 : Int32)) f_o_goes f_o_now f_o_ring f_o_then
    else
      jgi (((16 : Int32) * ((jshr x6 x9) &&& (1 : Int32))) + x7) 32 (
      jgi (((16 : Int32) * ((jshr x6 x9) &&& (1 : Int32))) + x8) 32 (
      g_X10_beside_76 F x1 x2 v_o_cards f_o_st k_47 k_57 n x3 x4 x5 x6 (f_o_goes (((16 : Int32) * ((jshr x6 x9) &&& (1 : Int32))) + x7).toNatClampNeg) (f_o_goes (((16 : Int32) * ((jshr x6 x9) &&& (1 : Int32))) + x8).toNatClampNeg) (x9 + (1 : Int32)) f_o_goes f_o_now f_o_ring f_o_then))
def g_X10_beside_57 (F : Nat) (x1 : Int32) (x2 : Int32) (v_o_cards : Int32) (f_o_st : Nat → Int32) (k_47 : Int32 → Int32 → Int32 → (Nat → Int32) → (Nat → Int32) → (Nat → Int32) → (Nat → Int32) → Option (Int32 × (Nat → Int32) × (Nat → Int32) × (Nat → Int32) × (Nat → Int32))) : Nat → Int32 → Int32 → Int32 → Int32 → (Nat → Int32) → (Nat → Int32) → (Nat → Int32) → (Nat → Int32) → Option (Int32 × (Nat → Int32) × (Nat → Int32) × (Nat → Int32) × (Nat → Int32))
  | 0, _, _, _, _, _, _, _, _ => none
  | n + 1, x3, x4, x5, x6, f_o_goes, f_o_now, f_o_ring, f_o_then =>
    if (jshl (1 : Int32) x5) ≤ x6 then
      k_47 x3 x4 (x5 + (1 : Int32)) f_o_goes f_o_now f_o_ring f_o_then
    else
      g_X10_beside_76 F x1 x2 v_o_cards f_o_st k_47 (fun qx3 qx4 qx5 qx6 qf_o_goes qf_o_now qf_o_ring qf_o_then => g_X10_beside_57 F x1 x2 v_o_cards f_o_st k_47 n qx3 qx4 qx5 qx6 qf_o_goes qf_o_now qf_o_ring qf_o_then) F x3 x4 x5 x6 x3 x4 (0 : Int32) f_o_goes f_o_now f_o_ring f_o_then
def g_X10_beside_47 (F : Nat) (x1 : Int32) (x2 : Int32) (v_o_cards : Int32) (f_o_st : Nat → Int32) : Nat → Int32 → Int32 → Int32 → (Nat → Int32) → (Nat → Int32) → (Nat → Int32) → (Nat → Int32) → Option (Int32 × (Nat → Int32) × (Nat → Int32) × (Nat → Int32) × (Nat → Int32))
  | 0, _, _, _, _, _, _, _ => none
  | n + 1, x3, x4, x5, f_o_goes, f_o_now, f_o_ring, f_o_then =>
    if (8 : Int32) < x5 then
      some ((-4 : Int32), f_o_goes, f_o_now, f_o_ring, f_o_then)
    else
      g_X10_beside_57 F x1 x2 v_o_cards f_o_st (fun qx3 qx4 qx5 qf_o_goes qf_o_now qf_o_ring qf_o_then => g_X10_beside_47 F x1 x2 v_o_cards f_o_st n qx3 qx4 qx5 qf_o_goes qf_o_now qf_o_ring qf_o_then) F x3 x4 x5 (0 : Int32) f_o_goes f_o_now f_o_ring f_o_then
def f_X10_beside (F : Nat) (x1 : Int32) (x2 : Int32) (v_o_cards : Int32) (f_o_st : Nat → Int32) (f_o_goes : Nat → Int32) (f_o_now : Nat → Int32) (f_o_ring : Nat → Int32) (f_o_then : Nat → Int32) : Option (Int32 × (Nat → Int32) × (Nat → Int32) × (Nat → Int32) × (Nat → Int32)) :=
  (f_X10_isCard F x1 v_o_cards).bind fun b1 =>
  if b1 = (0 : Int32) then
    some ((-1 : Int32), f_o_goes, f_o_now, f_o_ring, f_o_then)
  else
    (f_X10_isCard F x2 v_o_cards).bind fun b2 =>
    if b2 = (0 : Int32) then
      some ((-1 : Int32), f_o_goes, f_o_now, f_o_ring, f_o_then)
    else
      if x1 = x2 then
        some ((-1 : Int32), f_o_goes, f_o_now, f_o_ring, f_o_then)
      else
        (f_X10_findGoes F v_o_cards f_o_goes f_o_now f_o_ring f_o_then).bind fun b3 =>
        (f_X10_asItIs F f_o_st b3.2.1).bind fun b4 =>
        (f_X10_placeOf F x1 b4).bind fun b5 =>
        (f_X10_placeOf F x2 b4).bind fun b6 =>
        g_X10_beside_47 F x1 x2 v_o_cards f_o_st F b5 b6 (0 : Int32) b3.1 b4 b3.2.2.1 b3.2.2.2
def g_X10_isMet_17 (F : Nat) (v_o_cards : Int32) (v_o_metMany : Int32) (f_o_met : Nat → Int32) (f_o_now : Nat → Int32) (k_4 : Int32 → Int32 → Option (Int32)) : Nat → Int32 → Int32 → Int32 → Int32 → Option (Int32)
  | 0, _, _, _, _ => none
  | n + 1, x1, x2, x3, x4 =>
    if v_o_cards ≤ x4 then
      if x1 = (0 : Int32) then
        if x3 = (0 : Int32) then
          k_4 (0 : Int32) (x2 + (1 : Int32))
        else
          k_4 (1 : Int32) (x2 + (1 : Int32))
      else
        k_4 (1 : Int32) (x2 + (1 : Int32))
    else
      if x3 = (0 : Int32) then
        g_X10_isMet_17 F v_o_cards v_o_metMany f_o_met f_o_now k_4 n x1 x2 (0 : Int32) (x4 + (1 : Int32))
      else
        jgi (((16 : Int32) * x2) + x4) 2048 (
        jgi x4 16 (
        if (f_o_met (((16 : Int32) * x2) + x4).toNatClampNeg) = (f_o_now x4.toNatClampNeg) then
          g_X10_isMet_17 F v_o_cards v_o_metMany f_o_met f_o_now k_4 n x1 x2 (1 : Int32) (x4 + (1 : Int32))
        else
          g_X10_isMet_17 F v_o_cards v_o_metMany f_o_met f_o_now k_4 n x1 x2 (0 : Int32) (x4 + (1 : Int32))))
def g_X10_isMet_4 (F : Nat) (v_o_cards : Int32) (v_o_metMany : Int32) (f_o_met : Nat → Int32) (f_o_now : Nat → Int32) : Nat → Int32 → Int32 → Option (Int32)
  | 0, _, _ => none
  | n + 1, x1, x2 =>
    if v_o_metMany ≤ x2 then
      jgz x1 (some (x1))
    else
      g_X10_isMet_17 F v_o_cards v_o_metMany f_o_met f_o_now (fun qx1 qx2 => g_X10_isMet_4 F v_o_cards v_o_metMany f_o_met f_o_now n qx1 qx2) F x1 x2 (1 : Int32) (0 : Int32)
def f_X10_isMet (F : Nat) (v_o_cards : Int32) (v_o_metMany : Int32) (f_o_met : Nat → Int32) (f_o_now : Nat → Int32) : Option (Int32) :=
  g_X10_isMet_4 F v_o_cards v_o_metMany f_o_met f_o_now F (0 : Int32) (0 : Int32)
def g_X10_orders_43 (F : Nat) (x1 : Int32) (v_o_cards : Int32) (k_19 : Int32 → Int32 → (Nat → Int32) → (Nat → Int32) → (Nat → Int32) → (Nat → Int32) → Option (Int32 × Int32 × (Nat → Int32) × (Nat → Int32) × (Nat → Int32) × (Nat → Int32))) (k_26 : Int32 → Int32 → Int32 → (Nat → Int32) → (Nat → Int32) → (Nat → Int32) → (Nat → Int32) → Option (Int32 × Int32 × (Nat → Int32) × (Nat → Int32) × (Nat → Int32) × (Nat → Int32))) : Nat → Int32 → Int32 → Int32 → Int32 → (Nat → Int32) → (Nat → Int32) → (Nat → Int32) → (Nat → Int32) → Option (Int32 × Int32 × (Nat → Int32) × (Nat → Int32) × (Nat → Int32) × (Nat → Int32))
  | 0, _, _, _, _, _, _, _, _ => none
  | n + 1, x2, x3, x4, v_o_metMany, f_o_met, f_o_now, f_o_ring, f_o_then =>
    if x2 ≤ x4 then
      (f_X10_isMet F v_o_cards v_o_metMany f_o_met f_o_now).bind fun b1 =>
      if b1 = (0 : Int32) then
        (f_X10_copies F 2048 16 ((16 : Int32) * v_o_metMany) (0 : Int32) (16 : Int32) f_o_now f_o_met).bind fun b2 =>
        k_26 x2 (x3 + (1 : Int32)) (v_o_metMany + (1 : Int32)) b2 f_o_now f_o_ring f_o_then
      else
        k_26 x2 (x3 + (1 : Int32)) v_o_metMany f_o_met f_o_now f_o_ring f_o_then
    else
      (f_X10_acts F ((jshr x3 x4) &&& (1 : Int32)) v_o_cards f_o_now f_o_ring f_o_then).bind fun b3 =>
      g_X10_orders_43 F x1 v_o_cards k_19 k_26 n x2 x3 (x4 + (1 : Int32)) v_o_metMany f_o_met b3.1 b3.2.1 b3.2.2
def g_X10_orders_26 (F : Nat) (x1 : Int32) (v_o_cards : Int32) (k_19 : Int32 → Int32 → (Nat → Int32) → (Nat → Int32) → (Nat → Int32) → (Nat → Int32) → Option (Int32 × Int32 × (Nat → Int32) × (Nat → Int32) × (Nat → Int32) × (Nat → Int32))) : Nat → Int32 → Int32 → Int32 → (Nat → Int32) → (Nat → Int32) → (Nat → Int32) → (Nat → Int32) → Option (Int32 × Int32 × (Nat → Int32) × (Nat → Int32) × (Nat → Int32) × (Nat → Int32))
  | 0, _, _, _, _, _, _, _ => none
  | n + 1, x2, x3, v_o_metMany, f_o_met, f_o_now, f_o_ring, f_o_then =>
    if (jshl (1 : Int32) x2) ≤ x3 then
      k_19 (x2 + (1 : Int32)) v_o_metMany f_o_met f_o_now f_o_ring f_o_then
    else
      (f_X10_lies F 16 f_o_now).bind fun b1 =>
      g_X10_orders_43 F x1 v_o_cards k_19 (fun qx2 qx3 qv_o_metMany qf_o_met qf_o_now qf_o_ring qf_o_then => g_X10_orders_26 F x1 v_o_cards k_19 n qx2 qx3 qv_o_metMany qf_o_met qf_o_now qf_o_ring qf_o_then) F x2 x3 (0 : Int32) v_o_metMany f_o_met b1 f_o_ring f_o_then
def g_X10_orders_19 (F : Nat) (x1 : Int32) (v_o_cards : Int32) : Nat → Int32 → Int32 → (Nat → Int32) → (Nat → Int32) → (Nat → Int32) → (Nat → Int32) → Option (Int32 × Int32 × (Nat → Int32) × (Nat → Int32) × (Nat → Int32) × (Nat → Int32))
  | 0, _, _, _, _, _, _ => none
  | n + 1, x2, v_o_metMany, f_o_met, f_o_now, f_o_ring, f_o_then =>
    if x1 < x2 then
      some (v_o_metMany, v_o_metMany, f_o_met, f_o_now, f_o_ring, f_o_then)
    else
      g_X10_orders_26 F x1 v_o_cards (fun qx2 qv_o_metMany qf_o_met qf_o_now qf_o_ring qf_o_then => g_X10_orders_19 F x1 v_o_cards n qx2 qv_o_metMany qf_o_met qf_o_now qf_o_ring qf_o_then) F x2 (0 : Int32) v_o_metMany f_o_met f_o_now f_o_ring f_o_then
def f_X10_orders (F : Nat) (x1 : Int32) (v_o_cards : Int32) (v_o_metMany : Int32) (f_o_met : Nat → Int32) (f_o_now : Nat → Int32) (f_o_ring : Nat → Int32) (f_o_then : Nat → Int32) : Option (Int32 × Int32 × (Nat → Int32) × (Nat → Int32) × (Nat → Int32) × (Nat → Int32)) :=
  (f_X10_in F x1 (0 : Int32) (6 : Int32)).bind fun b1 =>
  if b1 = (0 : Int32) then
    some ((-1 : Int32), v_o_metMany, f_o_met, f_o_now, f_o_ring, f_o_then)
  else
    g_X10_orders_19 F x1 v_o_cards F (0 : Int32) (0 : Int32) f_o_met f_o_now f_o_ring f_o_then
def g_X10_risingNow_4 (F : Nat) (v_o_cards : Int32) (f_o_now : Nat → Int32) : Nat → Int32 → Int32 → Option (Int32)
  | 0, _, _ => none
  | n + 1, x1, x2 =>
    if v_o_cards ≤ (x2 + (1 : Int32)) then
      some (x1)
    else
      (f_X10_placeOf F (x2 + (1 : Int32)) f_o_now).bind fun b1 =>
      (f_X10_placeOf F x2 f_o_now).bind fun b2 =>
      if b2 ≤ b1 then
        g_X10_risingNow_4 F v_o_cards f_o_now n (x1 + (0 : Int32)) (x2 + (1 : Int32))
      else
        g_X10_risingNow_4 F v_o_cards f_o_now n (x1 + (1 : Int32)) (x2 + (1 : Int32))
def f_X10_risingNow (F : Nat) (v_o_cards : Int32) (f_o_now : Nat → Int32) : Option (Int32) :=
  g_X10_risingNow_4 F v_o_cards f_o_now F (1 : Int32) (0 : Int32)
def f_X10_rising (F : Nat) (v_o_cards : Int32) (f_o_st : Nat → Int32) (f_o_now : Nat → Int32) : Option (Int32 × (Nat → Int32)) :=
  (f_X10_asItIs F f_o_st f_o_now).bind fun b1 =>
  (f_X10_risingNow F v_o_cards b1).bind fun b2 =>
  some (b2, b1)
def g_X10_unlike_4 (F : Nat) (n_p1 : Nat) (v_o_cards : Int32) (f_p1 : Nat → Int32) (f_o_colour : Nat → Int32) : Nat → Int32 → Int32 → Option (Int32)
  | 0, _, _ => none
  | n + 1, x2, x3 =>
    if v_o_cards ≤ (x3 + (1 : Int32)) then
      some (x2)
    else
      jgi x3 n_p1 (
      jgi (f_p1 x3.toNatClampNeg) 16 (
      jgi (x3 + (1 : Int32)) n_p1 (
      jgi (f_p1 (x3 + (1 : Int32)).toNatClampNeg) 16 (
      if (f_o_colour (f_p1 x3.toNatClampNeg).toNatClampNeg) = (f_o_colour (f_p1 (x3 + (1 : Int32)).toNatClampNeg).toNatClampNeg) then
        g_X10_unlike_4 F n_p1 v_o_cards f_p1 f_o_colour n (x2 + (0 : Int32)) (x3 + (2 : Int32))
      else
        g_X10_unlike_4 F n_p1 v_o_cards f_p1 f_o_colour n (x2 + (1 : Int32)) (x3 + (2 : Int32))))))
def f_X10_unlike (F : Nat) (n_p1 : Nat) (v_o_cards : Int32) (f_p1 : Nat → Int32) (f_o_colour : Nat → Int32) : Option (Int32) :=
  g_X10_unlike_4 F n_p1 v_o_cards f_p1 f_o_colour F (0 : Int32) (0 : Int32)
def f_X10_pairs (F : Nat) (v_o_cards : Int32) (f_o_colour : Nat → Int32) (f_o_st : Nat → Int32) : Option (Int32) :=
  (f_X10_unlike F 16 v_o_cards f_o_st f_o_colour).bind fun b1 =>
  some (b1)
def g_X10_lowest_5 (F : Nat) (x0 : Int32) (x1 : Int32) (x2 : Int32) : Nat → Int32 → Int32 → Option (Int32)
  | 0, _, _ => none
  | n + 1, x3, x4 =>
    if x4 ≤ (0 : Int32) then
      if x2 = (0 : Int32) then
        jgd x3 (
        some ((x0 / x3)))
      else
        jgd x3 (
        some ((x1 / x3)))
    else
      jgd x4 (
      g_X10_lowest_5 F x0 x1 x2 n x4 (jrem x3 x4))
def f_X10_lowest (F : Nat) (x0 : Int32) (x1 : Int32) (x2 : Int32) : Option (Int32) :=
  g_X10_lowest_5 F x0 x1 x2 F x0 x1
def g_X10_bits_4 (F : Nat) (x0 : Int32) : Nat → Int32 → Int32 → Option (Int32)
  | 0, _, _ => none
  | n + 1, x1, x2 =>
    if (16 : Int32) ≤ x2 then
      some (x1)
    else
      g_X10_bits_4 F x0 n (x1 + ((jshr x0 x2) &&& (1 : Int32))) (x2 + (1 : Int32))
def f_X10_bits (F : Nat) (x0 : Int32) : Option (Int32) :=
  g_X10_bits_4 F x0 F (0 : Int32) (0 : Int32)
def g_X10_sure_125 (F : Nat) (x1 : Int32) (x2 : Int32) (v_o_cards : Int32) (f_o_colour : Nat → Int32) (f_o_st : Nat → Int32) (k_31 : Int32 → Int32 → Int32 → (Nat → Int32) → Option (Int32 × (Nat → Int32))) (k_62 : Int32 → Int32 → Int32 → Int32 → Int32 → Int32 → (Nat → Int32) → Option (Int32 × (Nat → Int32))) (x3 : Int32) (x4 : Int32) (x5 : Int32) (x7 : Int32) (x8 : Int32) (x9 : Int32) (s0 : Int32) (s1 : Int32) (f_o_then : Nat → Int32) : Option (Int32 × (Nat → Int32)) :=
  if x9 = (0 : Int32) then
    k_62 x3 x4 x5 (s0 - s1) (x7 + (1 : Int32)) (x8 + (1 : Int32)) f_o_then
  else
    k_62 x3 x4 x5 (s0 - s1) (x7 + (0 : Int32)) (x8 + (1 : Int32)) f_o_then
def g_X10_sure_87 (F : Nat) (x1 : Int32) (x2 : Int32) (v_o_cards : Int32) (f_o_colour : Nat → Int32) (f_o_st : Nat → Int32) (k_31 : Int32 → Int32 → Int32 → (Nat → Int32) → Option (Int32 × (Nat → Int32))) (k_62 : Int32 → Int32 → Int32 → Int32 → Int32 → Int32 → (Nat → Int32) → Option (Int32 × (Nat → Int32))) (x3 : Int32) (x4 : Int32) (x5 : Int32) (x6 : Int32) (x7 : Int32) (x8 : Int32) (s0 : Int32) (f_o_then : Nat → Int32) : Option (Int32 × (Nat → Int32)) :=
  if s0 = (0 : Int32) then
    jgi x7 16 (
    jgi x8 16 (
    if s0 = (0 : Int32) then
      g_X10_sure_125 F x1 x2 v_o_cards f_o_colour f_o_st k_31 k_62 x3 x4 x5 x7 x8 s0 x6 (0 : Int32) (upd f_o_then x8.toNatClampNeg (f_o_st x7.toNatClampNeg))
    else
      g_X10_sure_125 F x1 x2 v_o_cards f_o_colour f_o_st k_31 k_62 x3 x4 x5 x7 x8 s0 x6 (1 : Int32) (upd f_o_then x8.toNatClampNeg (f_o_st x7.toNatClampNeg))))
  else
    jgi x6 16 (
    jgi x8 16 (
    if s0 = (0 : Int32) then
      g_X10_sure_125 F x1 x2 v_o_cards f_o_colour f_o_st k_31 k_62 x3 x4 x5 x7 x8 s0 x6 (0 : Int32) (upd f_o_then x8.toNatClampNeg (f_o_st x6.toNatClampNeg))
    else
      g_X10_sure_125 F x1 x2 v_o_cards f_o_colour f_o_st k_31 k_62 x3 x4 x5 x7 x8 s0 x6 (1 : Int32) (upd f_o_then x8.toNatClampNeg (f_o_st x6.toNatClampNeg))))
def g_X10_sure_62 (F : Nat) (x1 : Int32) (x2 : Int32) (v_o_cards : Int32) (f_o_colour : Nat → Int32) (f_o_st : Nat → Int32) (k_31 : Int32 → Int32 → Int32 → (Nat → Int32) → Option (Int32 × (Nat → Int32))) : Nat → Int32 → Int32 → Int32 → Int32 → Int32 → Int32 → (Nat → Int32) → Option (Int32 × (Nat → Int32))
  | 0, _, _, _, _, _, _, _ => none
  | n + 1, x3, x4, x5, x6, x7, x8, f_o_then =>
    if v_o_cards ≤ x8 then
      (f_X10_unlike F 16 v_o_cards f_o_then f_o_colour).bind fun b1 =>
      jgd (2 : Int32) (
      if b1 = (v_o_cards / (2 : Int32)) then
        k_31 (x3 + (1 : Int32)) (x4 + (1 : Int32)) (x5 + (1 : Int32)) f_o_then
      else
        k_31 (x3 + (0 : Int32)) (x4 + (1 : Int32)) (x5 + (1 : Int32)) f_o_then)
    else
      if ((jshr x5 x8) &&& (1 : Int32)) = (1 : Int32) then
        g_X10_sure_87 F x1 x2 v_o_cards f_o_colour f_o_st k_31 (fun qx3 qx4 qx5 qx6 qx7 qx8 qf_o_then => g_X10_sure_62 F x1 x2 v_o_cards f_o_colour f_o_st k_31 n qx3 qx4 qx5 qx6 qx7 qx8 qf_o_then) x3 x4 x5 x6 x7 x8 (1 : Int32) f_o_then
      else
        g_X10_sure_87 F x1 x2 v_o_cards f_o_colour f_o_st k_31 (fun qx3 qx4 qx5 qx6 qx7 qx8 qf_o_then => g_X10_sure_62 F x1 x2 v_o_cards f_o_colour f_o_st k_31 n qx3 qx4 qx5 qx6 qx7 qx8 qf_o_then) x3 x4 x5 x6 x7 x8 (0 : Int32) f_o_then
def g_X10_sure_31 (F : Nat) (x1 : Int32) (x2 : Int32) (v_o_cards : Int32) (f_o_colour : Nat → Int32) (f_o_st : Nat → Int32) : Nat → Int32 → Int32 → Int32 → (Nat → Int32) → Option (Int32 × (Nat → Int32))
  | 0, _, _, _, _ => none
  | n + 1, x3, x4, x5, f_o_then =>
    if (jshl (1 : Int32) v_o_cards) ≤ x5 then
      (f_X10_lowest F x3 x4 x2).bind fun b1 =>
      some (b1, f_o_then)
    else
      (f_X10_bits F x5).bind fun b2 =>
      if b2 = x1 then
        g_X10_sure_62 F x1 x2 v_o_cards f_o_colour f_o_st (fun qx3 qx4 qx5 qf_o_then => g_X10_sure_31 F x1 x2 v_o_cards f_o_colour f_o_st n qx3 qx4 qx5 qf_o_then) F x3 x4 x5 (x1 - (1 : Int32)) x1 (0 : Int32) f_o_then
      else
        g_X10_sure_31 F x1 x2 v_o_cards f_o_colour f_o_st n x3 x4 (x5 + (1 : Int32)) f_o_then
def f_X10_sure (F : Nat) (x1 : Int32) (x2 : Int32) (v_o_cards : Int32) (f_o_colour : Nat → Int32) (f_o_st : Nat → Int32) (f_o_then : Nat → Int32) : Option (Int32 × (Nat → Int32)) :=
  (f_X10_in F x1 (0 : Int32) v_o_cards).bind fun b1 =>
  if b1 = (0 : Int32) then
    some ((-1 : Int32), f_o_then)
  else
    (f_X10_in F x2 (0 : Int32) (1 : Int32)).bind fun b2 =>
    if b2 = (0 : Int32) then
      some ((-1 : Int32), f_o_then)
    else
      g_X10_sure_31 F x1 x2 v_o_cards f_o_colour f_o_st F (0 : Int32) (0 : Int32) (0 : Int32) f_o_then
def f_X10_seen (F : Nat) (x1 : Int32) (x2 : Int32) (v_o_cards : Int32) (v_o_seens : Int32) (f_o_seen : Nat → Int32) : Option (Int32 × Int32 × (Nat → Int32)) :=
  (f_X10_isCard F x1 v_o_cards).bind fun b1 =>
  if b1 = (0 : Int32) then
    some ((-1 : Int32), v_o_seens, f_o_seen)
  else
    (f_X10_isCard F x2 v_o_cards).bind fun b2 =>
    if b2 = (0 : Int32) then
      some ((-1 : Int32), v_o_seens, f_o_seen)
    else
      if v_o_seens = (8 : Int32) then
        some ((-3 : Int32), v_o_seens, f_o_seen)
      else
        jgi ((2 : Int32) * v_o_seens) 16 (
        jgi (((2 : Int32) * v_o_seens) + (1 : Int32)) 16 (
        some ((v_o_seens + (1 : Int32)), (v_o_seens + (1 : Int32)), (upd (upd f_o_seen ((2 : Int32) * v_o_seens).toNatClampNeg x1) (((2 : Int32) * v_o_seens) + (1 : Int32)).toNatClampNeg x2))))
def f_X10_forget (F : Nat) (v_o_seens : Int32) : Option (Int32 × Int32) :=
  some (v_o_seens, (0 : Int32))
def g_X10_isBy_16 (F : Nat) (x1 : Int32) (v_o_cards : Int32) (v_o_seens : Int32) (f_o_seen : Nat → Int32) : Nat → Int32 → Int32 → (Nat → Int32) → (Nat → Int32) → (Nat → Int32) → Option (Int32 × (Nat → Int32) × (Nat → Int32) × (Nat → Int32))
  | 0, _, _, _, _, _ => none
  | n + 1, x2, x3, f_o_now, f_o_ring, f_o_then =>
    if v_o_seens ≤ x3 then
      jgz x2 (some (x2, f_o_now, f_o_ring, f_o_then))
    else
      if x2 = (0 : Int32) then
        g_X10_isBy_16 F x1 v_o_cards v_o_seens f_o_seen n (0 : Int32) (x3 + (1 : Int32)) f_o_now f_o_ring f_o_then
      else
        jgi (((2 : Int32) * x3) + (1 : Int32)) 16 (
        jgi (f_o_seen (((2 : Int32) * x3) + (1 : Int32)).toNatClampNeg) 16 (
        jgi ((2 : Int32) * x3) 16 (
        if (f_o_now (f_o_seen (((2 : Int32) * x3) + (1 : Int32)).toNatClampNeg).toNatClampNeg) = (f_o_seen ((2 : Int32) * x3).toNatClampNeg) then
          g_X10_isBy_16 F x1 v_o_cards v_o_seens f_o_seen n (1 : Int32) (x3 + (1 : Int32)) f_o_now f_o_ring f_o_then
        else
          g_X10_isBy_16 F x1 v_o_cards v_o_seens f_o_seen n (0 : Int32) (x3 + (1 : Int32)) f_o_now f_o_ring f_o_then)))
def f_X10_isBy (F : Nat) (x1 : Int32) (v_o_cards : Int32) (v_o_seens : Int32) (f_o_seen : Nat → Int32) (f_o_now : Nat → Int32) (f_o_ring : Nat → Int32) (f_o_then : Nat → Int32) : Option (Int32 × (Nat → Int32) × (Nat → Int32) × (Nat → Int32)) :=
  (f_X10_lies F 16 f_o_now).bind fun b1 =>
  (f_X10_acts F x1 v_o_cards b1 f_o_ring f_o_then).bind fun b2 =>
  g_X10_isBy_16 F x1 v_o_cards v_o_seens f_o_seen F (1 : Int32) (0 : Int32) b2.1 b2.2.1 b2.2.2
def g_X10_done_46 (F : Nat) (x1 : Int32) (v_o_cards : Int32) (v_o_seens : Int32) (f_o_seen : Nat → Int32) (k_15 : Int32 → Int32 → (Nat → Int32) → (Nat → Int32) → (Nat → Int32) → Option (Int32 × (Nat → Int32) × (Nat → Int32) × (Nat → Int32))) (x3 : Int32) (s0 : Int32) (s2 : Int32) (f_o_now : Nat → Int32) (f_o_ring : Nat → Int32) (f_o_then : Nat → Int32) : Option (Int32 × (Nat → Int32) × (Nat → Int32) × (Nat → Int32)) :=
  (f_X10_isBy F s2 v_o_cards v_o_seens f_o_seen f_o_now f_o_ring f_o_then).bind fun b1 =>
  if b1.1 = (0 : Int32) then
    k_15 (s0 ||| (0 : Int32)) (x3 + (1 : Int32)) b1.2.1 b1.2.2.1 b1.2.2.2
  else
    k_15 (s0 ||| (jshl (1 : Int32) x3)) (x3 + (1 : Int32)) b1.2.1 b1.2.2.1 b1.2.2.2
def g_X10_done_15 (F : Nat) (x1 : Int32) (v_o_cards : Int32) (v_o_seens : Int32) (f_o_seen : Nat → Int32) : Nat → Int32 → Int32 → (Nat → Int32) → (Nat → Int32) → (Nat → Int32) → Option (Int32 × (Nat → Int32) × (Nat → Int32) × (Nat → Int32))
  | 0, _, _, _, _, _ => none
  | n + 1, x2, x3, f_o_now, f_o_ring, f_o_then =>
    if x1 = (0 : Int32) then
      if (6 : Int32) ≤ x3 then
        some (x2, f_o_now, f_o_ring, f_o_then)
      else
        if x1 = (0 : Int32) then
          g_X10_done_46 F x1 v_o_cards v_o_seens f_o_seen (fun qx2 qx3 qf_o_now qf_o_ring qf_o_then => g_X10_done_15 F x1 v_o_cards v_o_seens f_o_seen n qx2 qx3 qf_o_now qf_o_ring qf_o_then) x3 x2 x3 f_o_now f_o_ring f_o_then
        else
          g_X10_done_46 F x1 v_o_cards v_o_seens f_o_seen (fun qx2 qx3 qf_o_now qf_o_ring qf_o_then => g_X10_done_15 F x1 v_o_cards v_o_seens f_o_seen n qx2 qx3 qf_o_now qf_o_ring qf_o_then) x3 x2 ((6 : Int32) + x3) f_o_now f_o_ring f_o_then
    else
      if v_o_cards ≤ x3 then
        some (x2, f_o_now, f_o_ring, f_o_then)
      else
        if x1 = (0 : Int32) then
          g_X10_done_46 F x1 v_o_cards v_o_seens f_o_seen (fun qx2 qx3 qf_o_now qf_o_ring qf_o_then => g_X10_done_15 F x1 v_o_cards v_o_seens f_o_seen n qx2 qx3 qf_o_now qf_o_ring qf_o_then) x3 x2 x3 f_o_now f_o_ring f_o_then
        else
          g_X10_done_46 F x1 v_o_cards v_o_seens f_o_seen (fun qx2 qx3 qf_o_now qf_o_ring qf_o_then => g_X10_done_15 F x1 v_o_cards v_o_seens f_o_seen n qx2 qx3 qf_o_now qf_o_ring qf_o_then) x3 x2 ((6 : Int32) + x3) f_o_now f_o_ring f_o_then
def f_X10_done (F : Nat) (x1 : Int32) (v_o_cards : Int32) (v_o_seens : Int32) (f_o_seen : Nat → Int32) (f_o_now : Nat → Int32) (f_o_ring : Nat → Int32) (f_o_then : Nat → Int32) : Option (Int32 × (Nat → Int32) × (Nat → Int32) × (Nat → Int32)) :=
  (f_X10_in F x1 (0 : Int32) (1 : Int32)).bind fun b1 =>
  if b1 = (0 : Int32) then
    some ((-1 : Int32), f_o_now, f_o_ring, f_o_then)
  else
    g_X10_done_15 F x1 v_o_cards v_o_seens f_o_seen F (0 : Int32) (0 : Int32) f_o_now f_o_ring f_o_then
def g_X10_likely_112 (F : Nat) (x1 : Int32) (x2 : Int32) (x3 : Int32) (x4 : Int32) (x5 : Int32) (v_o_cards : Int32) (f_o_st : Nat → Int32) (k_94 : Int32 → Int32 → Int32 → Int32 → (Nat → Int32) → (Nat → Int32) → (Nat → Int32) → (Nat → Int32) → Option (Int32 × (Nat → Int32) × (Nat → Int32) × (Nat → Int32) × (Nat → Int32))) : Nat → Int32 → Int32 → Int32 → Int32 → Int32 → Int32 → Int32 → (Nat → Int32) → (Nat → Int32) → (Nat → Int32) → (Nat → Int32) → Option (Int32 × (Nat → Int32) × (Nat → Int32) × (Nat → Int32) × (Nat → Int32))
  | 0, _, _, _, _, _, _, _, _, _, _, _ => none
  | n + 1, x6, x7, x8, x9, x10, x11, x12, f_o_goes, f_o_now, f_o_ring, f_o_then =>
    if x3 ≤ x12 then
      if x10 = x2 then
        k_94 x6 (x7 + x11) x8 (x9 + (1 : Int32)) f_o_goes f_o_now f_o_ring f_o_then
      else
        k_94 x6 (x7 + (0 : Int32)) x8 (x9 + (1 : Int32)) f_o_goes f_o_now f_o_ring f_o_then
    else
      if ((jshr x9 x12) &&& (1 : Int32)) = (0 : Int32) then
        jgi (((16 : Int32) * ((jshr x9 x12) &&& (1 : Int32))) + x10) 32 (
        g_X10_likely_112 F x1 x2 x3 x4 x5 v_o_cards f_o_st k_94 n x6 x7 x8 x9 (f_o_goes (((16 : Int32) * ((jshr x9 x12) &&& (1 : Int32))) + x10).toNatClampNeg) (x11 * x4) (x12 + (1 : Int32)) f_o_goes f_o_now f_o_ring f_o_then)
      else
        jgi (((16 : Int32) * ((jshr x9 x12) &&& (1 : Int32))) + x10) 32 (
        g_X10_likely_112 F x1 x2 x3 x4 x5 v_o_cards f_o_st k_94 n x6 x7 x8 x9 (f_o_goes (((16 : Int32) * ((jshr x9 x12) &&& (1 : Int32))) + x10).toNatClampNeg) (x11 * ((10 : Int32) - x4)) (x12 + (1 : Int32)) f_o_goes f_o_now f_o_ring f_o_then)
def g_X10_likely_94 (F : Nat) (x1 : Int32) (x2 : Int32) (x3 : Int32) (x4 : Int32) (x5 : Int32) (v_o_cards : Int32) (f_o_st : Nat → Int32) : Nat → Int32 → Int32 → Int32 → Int32 → (Nat → Int32) → (Nat → Int32) → (Nat → Int32) → (Nat → Int32) → Option (Int32 × (Nat → Int32) × (Nat → Int32) × (Nat → Int32) × (Nat → Int32))
  | 0, _, _, _, _, _, _, _, _ => none
  | n + 1, x6, x7, x8, x9, f_o_goes, f_o_now, f_o_ring, f_o_then =>
    if (jshl (1 : Int32) x3) ≤ x9 then
      (f_X10_lowest F x7 x8 x5).bind fun b1 =>
      some (b1, f_o_goes, f_o_now, f_o_ring, f_o_then)
    else
      g_X10_likely_112 F x1 x2 x3 x4 x5 v_o_cards f_o_st (fun qx6 qx7 qx8 qx9 qf_o_goes qf_o_now qf_o_ring qf_o_then => g_X10_likely_94 F x1 x2 x3 x4 x5 v_o_cards f_o_st n qx6 qx7 qx8 qx9 qf_o_goes qf_o_now qf_o_ring qf_o_then) F x6 x7 x8 x9 x6 (1 : Int32) (0 : Int32) f_o_goes f_o_now f_o_ring f_o_then
def g_X10_likely_72 (F : Nat) (x1 : Int32) (x2 : Int32) (x3 : Int32) (x4 : Int32) (x5 : Int32) (v_o_cards : Int32) (f_o_st : Nat → Int32) : Nat → Int32 → Int32 → Int32 → Int32 → (Nat → Int32) → (Nat → Int32) → (Nat → Int32) → (Nat → Int32) → Option (Int32 × (Nat → Int32) × (Nat → Int32) × (Nat → Int32) × (Nat → Int32))
  | 0, _, _, _, _, _, _, _, _ => none
  | n + 1, x6, x7, x8, x9, f_o_goes, f_o_now, f_o_ring, f_o_then =>
    if x3 ≤ x9 then
      g_X10_likely_94 F x1 x2 x3 x4 x5 v_o_cards f_o_st F x6 x7 x8 (0 : Int32) f_o_goes f_o_now f_o_ring f_o_then
    else
      g_X10_likely_72 F x1 x2 x3 x4 x5 v_o_cards f_o_st n x6 x7 (x8 * (10 : Int32)) (x9 + (1 : Int32)) f_o_goes f_o_now f_o_ring f_o_then
def f_X10_likely (F : Nat) (x1 : Int32) (x2 : Int32) (x3 : Int32) (x4 : Int32) (x5 : Int32) (v_o_cards : Int32) (f_o_st : Nat → Int32) (f_o_goes : Nat → Int32) (f_o_now : Nat → Int32) (f_o_ring : Nat → Int32) (f_o_then : Nat → Int32) : Option (Int32 × (Nat → Int32) × (Nat → Int32) × (Nat → Int32) × (Nat → Int32)) :=
  (f_X10_isCard F x1 v_o_cards).bind fun b1 =>
  if b1 = (0 : Int32) then
    some ((-1 : Int32), f_o_goes, f_o_now, f_o_ring, f_o_then)
  else
    (f_X10_isCard F x2 v_o_cards).bind fun b2 =>
    if b2 = (0 : Int32) then
      some ((-1 : Int32), f_o_goes, f_o_now, f_o_ring, f_o_then)
    else
      (f_X10_in F x3 (0 : Int32) (5 : Int32)).bind fun b3 =>
      if b3 = (0 : Int32) then
        some ((-1 : Int32), f_o_goes, f_o_now, f_o_ring, f_o_then)
      else
        (f_X10_in F x4 (0 : Int32) (10 : Int32)).bind fun b4 =>
        if b4 = (0 : Int32) then
          some ((-1 : Int32), f_o_goes, f_o_now, f_o_ring, f_o_then)
        else
          (f_X10_in F x5 (0 : Int32) (1 : Int32)).bind fun b5 =>
          if b5 = (0 : Int32) then
            some ((-1 : Int32), f_o_goes, f_o_now, f_o_ring, f_o_then)
          else
            (f_X10_findGoes F v_o_cards f_o_goes f_o_now f_o_ring f_o_then).bind fun b6 =>
            (f_X10_asItIs F f_o_st b6.2.1).bind fun b7 =>
            (f_X10_placeOf F x1 b7).bind fun b8 =>
            g_X10_likely_72 F x1 x2 x3 x4 x5 v_o_cards f_o_st F b8 (0 : Int32) (1 : Int32) (0 : Int32) b6.1 b7 b6.2.2.1 b6.2.2.2
def g_X10_dealing_136 (F : Nat) (x1 : Int32) (x2 : Int32) (x3 : Int32) (v_o_cards : Int32) (f_o_st : Nat → Int32) : Nat → Int32 → Int32 → (Nat → Int32) → (Nat → Int32) → (Nat → Int32) → Option (Int32 × (Nat → Int32) × (Nat → Int32) × (Nat → Int32))
  | 0, _, _, _, _, _ => none
  | n + 1, x4, x5, f_o_now, f_o_ring, f_o_then =>
    if v_o_cards ≤ x5 then
      if x3 = (0 : Int32) then
        jgi (0 : Int32) 16 (
        some ((f_o_now (0 : Int32).toNatClampNeg), f_o_now, f_o_ring, f_o_then))
      else
        if x3 = (1 : Int32) then
          some (x4, f_o_now, f_o_ring, f_o_then)
        else
          (f_X10_risingNow F v_o_cards f_o_now).bind fun b1 =>
          some (b1, f_o_now, f_o_ring, f_o_then)
    else
      jgi x5 16 (
      jgi x5 16 (
      if (f_o_now x5.toNatClampNeg) = (f_o_st x5.toNatClampNeg) then
        g_X10_dealing_136 F x1 x2 x3 v_o_cards f_o_st n (x4 + (1 : Int32)) (x5 + (1 : Int32)) f_o_now f_o_ring f_o_then
      else
        g_X10_dealing_136 F x1 x2 x3 v_o_cards f_o_st n (x4 + (0 : Int32)) (x5 + (1 : Int32)) f_o_now f_o_ring f_o_then))
def g_X10_dealing_39 (F : Nat) (x1 : Int32) (x2 : Int32) (x3 : Int32) (v_o_cards : Int32) (f_o_st : Nat → Int32) : Nat → Int32 → (Nat → Int32) → (Nat → Int32) → (Nat → Int32) → Option (Int32 × (Nat → Int32) × (Nat → Int32) × (Nat → Int32))
  | 0, _, _, _, _ => none
  | n + 1, x4, f_o_now, f_o_ring, f_o_then =>
    if x2 ≤ x4 then
      g_X10_dealing_136 F x1 x2 x3 v_o_cards f_o_st F (0 : Int32) (0 : Int32) f_o_now f_o_ring f_o_then
    else
      jge (65521 : Int64) (
      jge (2 : Int64) (
      jgd (7 : Int32) (
      if (5 : Int32) ≤ (jrem ((((jreml (((((7919 : Int64) * x1.toInt64) + ((6151 : Int64) * x4.toInt64)) + (1 : Int64)) * ((((7919 : Int64) * x1.toInt64) + ((6151 : Int64) * x4.toInt64)) + (1 : Int64))) (65521 : Int64)) / (2 : Int64))).toInt32) (7 : Int32)) then
        if (jrem ((((jreml (((((7919 : Int64) * x1.toInt64) + ((6151 : Int64) * x4.toInt64)) + (1 : Int64)) * ((((7919 : Int64) * x1.toInt64) + ((6151 : Int64) * x4.toInt64)) + (1 : Int64))) (65521 : Int64)) / (2 : Int64))).toInt32) (7 : Int32)) = (5 : Int32) then
          jgd (8 : Int32) (
          jgd v_o_cards (
          (f_X10_acts F ((6 : Int32) + (jrem ((((jreml (((((7919 : Int64) * x1.toInt64) + ((6151 : Int64) * x4.toInt64)) + (1 : Int64)) * ((((7919 : Int64) * x1.toInt64) + ((6151 : Int64) * x4.toInt64)) + (1 : Int64))) (65521 : Int64)) / (2 : Int64))).toInt32 / (8 : Int32)) v_o_cards)) v_o_cards f_o_now f_o_ring f_o_then).bind fun b2 =>
          g_X10_dealing_39 F x1 x2 x3 v_o_cards f_o_st n (x4 + (1 : Int32)) b2.1 b2.2.1 b2.2.2))
        else
          (f_X10_acts F (5 : Int32) v_o_cards f_o_now f_o_ring f_o_then).bind fun b1 =>
          g_X10_dealing_39 F x1 x2 x3 v_o_cards f_o_st n (x4 + (1 : Int32)) b1.1 b1.2.1 b1.2.2
      else
        (f_X10_acts F (jrem ((((jreml (((((7919 : Int64) * x1.toInt64) + ((6151 : Int64) * x4.toInt64)) + (1 : Int64)) * ((((7919 : Int64) * x1.toInt64) + ((6151 : Int64) * x4.toInt64)) + (1 : Int64))) (65521 : Int64)) / (2 : Int64))).toInt32) (7 : Int32)) v_o_cards f_o_now f_o_ring f_o_then).bind fun b3 =>
        g_X10_dealing_39 F x1 x2 x3 v_o_cards f_o_st n (x4 + (1 : Int32)) b3.1 b3.2.1 b3.2.2)))
def f_X10_dealing (F : Nat) (x1 : Int32) (x2 : Int32) (x3 : Int32) (v_o_cards : Int32) (f_o_st : Nat → Int32) (f_o_now : Nat → Int32) (f_o_ring : Nat → Int32) (f_o_then : Nat → Int32) : Option (Int32 × (Nat → Int32) × (Nat → Int32) × (Nat → Int32)) :=
  (f_X10_in F x1 (0 : Int32) (9999 : Int32)).bind fun b1 =>
  if b1 = (0 : Int32) then
    some ((-1 : Int32), f_o_now, f_o_ring, f_o_then)
  else
    (f_X10_in F x2 (1 : Int32) (60 : Int32)).bind fun b2 =>
    if b2 = (0 : Int32) then
      some ((-1 : Int32), f_o_now, f_o_ring, f_o_then)
    else
      (f_X10_in F x3 (0 : Int32) (2 : Int32)).bind fun b3 =>
      if b3 = (0 : Int32) then
        some ((-1 : Int32), f_o_now, f_o_ring, f_o_then)
      else
        (f_X10_asItIs F f_o_st f_o_now).bind fun b4 =>
        g_X10_dealing_39 F x1 x2 x3 v_o_cards f_o_st F (0 : Int32) b4 f_o_ring f_o_then
def f_X10_keep (F : Nat) (f_o_st : Nat → Int32) (v_o_keeps : Int32) (f_o_kept : Nat → Int32) : Option (Int32 × Int32 × (Nat → Int32)) :=
  if v_o_keeps = (2 : Int32) then
    some ((-3 : Int32), v_o_keeps, f_o_kept)
  else
    (f_X10_copies F 32 16 ((16 : Int32) * v_o_keeps) (0 : Int32) (16 : Int32) f_o_st f_o_kept).bind fun b1 =>
    some ((v_o_keeps + (1 : Int32)), (v_o_keeps + (1 : Int32)), b1)
def f_X10_back (F : Nat) (f_o_kept : Nat → Int32) (v_o_acts : Int32) (v_o_keeps : Int32) (f_o_st : Nat → Int32) : Option (Int32 × Int32 × Int32 × (Nat → Int32)) :=
  if v_o_keeps = (0 : Int32) then
    some ((-2 : Int32), v_o_acts, v_o_keeps, f_o_st)
  else
    (f_X10_copies F 16 32 (0 : Int32) ((16 : Int32) * (v_o_keeps - (1 : Int32))) (16 : Int32) f_o_kept f_o_st).bind fun b1 =>
    some ((v_o_keeps - (1 : Int32)), (0 : Int32), (v_o_keeps - (1 : Int32)), b1)
def f_X10_count (F : Nat) (x1 : Int32) (v_o_cards : Int32) (v_o_dealMany : Int32) (v_o_acts : Int32) (v_o_keeps : Int32) (v_o_seens : Int32) (v_o_texted : Int32) : Option (Int32) :=
  if x1 = (0 : Int32) then
    some (v_o_cards)
  else if x1 = (1 : Int32) then
    some (v_o_dealMany)
  else if x1 = (2 : Int32) then
    some (v_o_seens)
  else if x1 = (3 : Int32) then
    some (v_o_acts)
  else if x1 = (4 : Int32) then
    some (v_o_keeps)
  else if x1 = (5 : Int32) then
    some (v_o_texted)
  else
    some ((-1 : Int32))
end
