-- ===== PART A: goes FIRST, ahead of the names: the tables' words, and 'selects' of the private methods out of them =====
/-- a private method of a class that the tables say can be made, by its rows of tables_1 -/
def lw_okq (q : MethodName × Nat) : Prop := (q.1.cls ≠ "java/lang/invoke/MethodHandle" ∧ q.1.cls ≠ "java/lang/invoke/VarHandle") ∧ Cond.instantiable q.1.cls q.2 ∈ tables_1 ∧ Cond.privateMethod q.1 ∈ tables_1 ∧ Cond.instanceMethod q.1 ∈ tables_1
theorem lw_p0 : lw_okq (⟨"LetterTurns$Reader", "phaseBehind", "(III)I"⟩, 12) := ⟨⟨by decide +kernel, by decide +kernel⟩, List.mem_of_getElem? (i := 41) (by decide +kernel), List.mem_of_getElem? (i := 340) (by decide +kernel), List.mem_of_getElem? (i := 341) (by decide +kernel)⟩
theorem lw_p1 : lw_okq (⟨"LetterTurns$Reader", "phaseBehindItem", "(I)I"⟩, 12) := ⟨⟨by decide +kernel, by decide +kernel⟩, List.mem_of_getElem? (i := 41) (by decide +kernel), List.mem_of_getElem? (i := 356) (by decide +kernel), List.mem_of_getElem? (i := 357) (by decide +kernel)⟩
theorem lw_p2 : lw_okq (⟨"LetterTurns", "readWhole", "(I)Z"⟩, 18) := ⟨⟨by decide +kernel, by decide +kernel⟩, List.mem_of_getElem? (i := 15) (by decide +kernel), List.mem_of_getElem? (i := 364) (by decide +kernel), List.mem_of_getElem? (i := 365) (by decide +kernel)⟩
theorem lw_p3 : lw_okq (⟨"LetterTurns$Reader", "openBraces", "()V"⟩, 12) := ⟨⟨by decide +kernel, by decide +kernel⟩, List.mem_of_getElem? (i := 41) (by decide +kernel), List.mem_of_getElem? (i := 379) (by decide +kernel), List.mem_of_getElem? (i := 380) (by decide +kernel)⟩
theorem lw_p4 : lw_okq (⟨"LetterTurns$Reader", "startRow", "()V"⟩, 12) := ⟨⟨by decide +kernel, by decide +kernel⟩, List.mem_of_getElem? (i := 41) (by decide +kernel), List.mem_of_getElem? (i := 383) (by decide +kernel), List.mem_of_getElem? (i := 384) (by decide +kernel)⟩
theorem lw_p5 : lw_okq (⟨"LetterTurns$Reader", "addAct", "(I)V"⟩, 12) := ⟨⟨by decide +kernel, by decide +kernel⟩, List.mem_of_getElem? (i := 41) (by decide +kernel), List.mem_of_getElem? (i := 393) (by decide +kernel), List.mem_of_getElem? (i := 394) (by decide +kernel)⟩
theorem lw_p6 : lw_okq (⟨"LetterTurns$Reader", "addItem", "(IIZ)V"⟩, 12) := ⟨⟨by decide +kernel, by decide +kernel⟩, List.mem_of_getElem? (i := 41) (by decide +kernel), List.mem_of_getElem? (i := 397) (by decide +kernel), List.mem_of_getElem? (i := 398) (by decide +kernel)⟩
theorem lw_p7 : lw_okq (⟨"LetterTurns$Reader", "followUp", "(II)V"⟩, 12) := ⟨⟨by decide +kernel, by decide +kernel⟩, List.mem_of_getElem? (i := 41) (by decide +kernel), List.mem_of_getElem? (i := 401) (by decide +kernel), List.mem_of_getElem? (i := 402) (by decide +kernel)⟩
theorem lw_p8 : lw_okq (⟨"LetterTurns$Reader", "endRow", "()V"⟩, 12) := ⟨⟨by decide +kernel, by decide +kernel⟩, List.mem_of_getElem? (i := 41) (by decide +kernel), List.mem_of_getElem? (i := 405) (by decide +kernel), List.mem_of_getElem? (i := 406) (by decide +kernel)⟩
theorem lw_p9 : lw_okq (⟨"LetterTurns$Reader", "closeBraces", "(Z)V"⟩, 12) := ⟨⟨by decide +kernel, by decide +kernel⟩, List.mem_of_getElem? (i := 41) (by decide +kernel), List.mem_of_getElem? (i := 409) (by decide +kernel), List.mem_of_getElem? (i := 410) (by decide +kernel)⟩
theorem lw_p10 : lw_okq (⟨"LetterTurns", "keep", "(LLetterTurns$Book;)I"⟩, 18) := ⟨⟨by decide +kernel, by decide +kernel⟩, List.mem_of_getElem? (i := 15) (by decide +kernel), List.mem_of_getElem? (i := 461) (by decide +kernel), List.mem_of_getElem? (i := 462) (by decide +kernel)⟩
theorem lw_p11 : lw_okq (⟨"LetterTurns", "isBook", "(I)Z"⟩, 18) := ⟨⟨by decide +kernel, by decide +kernel⟩, List.mem_of_getElem? (i := 15) (by decide +kernel), List.mem_of_getElem? (i := 487) (by decide +kernel), List.mem_of_getElem? (i := 488) (by decide +kernel)⟩
theorem lw_p12 : lw_okq (⟨"LetterTurns", "machineOf", "(I)LLetterTurns$Machine;"⟩, 18) := ⟨⟨by decide +kernel, by decide +kernel⟩, List.mem_of_getElem? (i := 15) (by decide +kernel), List.mem_of_getElem? (i := 503) (by decide +kernel), List.mem_of_getElem? (i := 504) (by decide +kernel)⟩
theorem lw_p13 : lw_okq (⟨"LetterTurns$Folder", "gatherSets", "(LLetterTurns$Book;)V"⟩, 7) := ⟨⟨by decide +kernel, by decide +kernel⟩, List.mem_of_getElem? (i := 86) (by decide +kernel), List.mem_of_getElem? (i := 511) (by decide +kernel), List.mem_of_getElem? (i := 512) (by decide +kernel)⟩
theorem lw_p14 : lw_okq (⟨"LetterTurns$Folder", "numberOf", "(I)I"⟩, 7) := ⟨⟨by decide +kernel, by decide +kernel⟩, List.mem_of_getElem? (i := 86) (by decide +kernel), List.mem_of_getElem? (i := 519) (by decide +kernel), List.mem_of_getElem? (i := 520) (by decide +kernel)⟩
theorem lw_p15 : lw_okq (⟨"LetterTurns$Folder", "grow", "()V"⟩, 7) := ⟨⟨by decide +kernel, by decide +kernel⟩, List.mem_of_getElem? (i := 86) (by decide +kernel), List.mem_of_getElem? (i := 523) (by decide +kernel), List.mem_of_getElem? (i := 524) (by decide +kernel)⟩
def lw_privs_1 : List (MethodName × Nat) := [(⟨"LetterTurns$Reader", "phaseBehind", "(III)I"⟩, 12), (⟨"LetterTurns$Reader", "phaseBehindItem", "(I)I"⟩, 12), (⟨"LetterTurns", "readWhole", "(I)Z"⟩, 18), (⟨"LetterTurns$Reader", "openBraces", "()V"⟩, 12), (⟨"LetterTurns$Reader", "startRow", "()V"⟩, 12), (⟨"LetterTurns$Reader", "addAct", "(I)V"⟩, 12), (⟨"LetterTurns$Reader", "addItem", "(IIZ)V"⟩, 12), (⟨"LetterTurns$Reader", "followUp", "(II)V"⟩, 12), (⟨"LetterTurns$Reader", "endRow", "()V"⟩, 12), (⟨"LetterTurns$Reader", "closeBraces", "(Z)V"⟩, 12), (⟨"LetterTurns", "keep", "(LLetterTurns$Book;)I"⟩, 18), (⟨"LetterTurns", "isBook", "(I)Z"⟩, 18), (⟨"LetterTurns", "machineOf", "(I)LLetterTurns$Machine;"⟩, 18), (⟨"LetterTurns$Folder", "gatherSets", "(LLetterTurns$Book;)V"⟩, 7), (⟨"LetterTurns$Folder", "numberOf", "(I)I"⟩, 7), (⟨"LetterTurns$Folder", "grow", "()V"⟩, 7)]
theorem lw_r1 : ∀ q ∈ lw_privs_1, lw_okq q := List.forall_mem_cons.mpr ⟨lw_p0, List.forall_mem_cons.mpr ⟨lw_p1, List.forall_mem_cons.mpr ⟨lw_p2, List.forall_mem_cons.mpr ⟨lw_p3, List.forall_mem_cons.mpr ⟨lw_p4, List.forall_mem_cons.mpr ⟨lw_p5, List.forall_mem_cons.mpr ⟨lw_p6, List.forall_mem_cons.mpr ⟨lw_p7, List.forall_mem_cons.mpr ⟨lw_p8, List.forall_mem_cons.mpr ⟨lw_p9, List.forall_mem_cons.mpr ⟨lw_p10, List.forall_mem_cons.mpr ⟨lw_p11, List.forall_mem_cons.mpr ⟨lw_p12, List.forall_mem_cons.mpr ⟨lw_p13, List.forall_mem_cons.mpr ⟨lw_p14, List.forall_mem_cons.mpr ⟨lw_p15, fun _ h => absurd h List.not_mem_nil⟩⟩⟩⟩⟩⟩⟩⟩⟩⟩⟩⟩⟩⟩⟩⟩
theorem lw_p16 : lw_okq (⟨"LetterTurns$Folder", "refine", "()I"⟩, 7) := ⟨⟨by decide +kernel, by decide +kernel⟩, List.mem_of_getElem? (i := 86) (by decide +kernel), List.mem_of_getElem? (i := 529) (by decide +kernel), List.mem_of_getElem? (i := 530) (by decide +kernel)⟩
theorem lw_p17 : lw_okq (⟨"LetterTurns$Folder", "alike", "(II)Z"⟩, 7) := ⟨⟨by decide +kernel, by decide +kernel⟩, List.mem_of_getElem? (i := 86) (by decide +kernel), List.mem_of_getElem? (i := 533) (by decide +kernel), List.mem_of_getElem? (i := 534) (by decide +kernel)⟩
theorem lw_p18 : lw_okq (⟨"LetterTurns$Folder", "kinOf", "(I)I"⟩, 7) := ⟨⟨by decide +kernel, by decide +kernel⟩, List.mem_of_getElem? (i := 86) (by decide +kernel), List.mem_of_getElem? (i := 537) (by decide +kernel), List.mem_of_getElem? (i := 538) (by decide +kernel)⟩
theorem lw_p19 : lw_okq (⟨"LetterTurns$Folder", "folded", "(II)LLetterTurns$Machine;"⟩, 7) := ⟨⟨by decide +kernel, by decide +kernel⟩, List.mem_of_getElem? (i := 86) (by decide +kernel), List.mem_of_getElem? (i := 541) (by decide +kernel), List.mem_of_getElem? (i := 542) (by decide +kernel)⟩
theorem lw_p20 : lw_okq (⟨"LetterTurns$Contest", "makeRoom", "(I)V"⟩, 11) := ⟨⟨by decide +kernel, by decide +kernel⟩, List.mem_of_getElem? (i := 114) (by decide +kernel), List.mem_of_getElem? (i := 585) (by decide +kernel), List.mem_of_getElem? (i := 586) (by decide +kernel)⟩
theorem lw_p21 : lw_okq (⟨"LetterTurns$Contest", "meet", "(IIII)V"⟩, 11) := ⟨⟨by decide +kernel, by decide +kernel⟩, List.mem_of_getElem? (i := 114) (by decide +kernel), List.mem_of_getElem? (i := 589) (by decide +kernel), List.mem_of_getElem? (i := 590) (by decide +kernel)⟩
theorem lw_p22 : lw_okq (⟨"LetterTurns$Contest", "chiefOf", "(I)I"⟩, 11) := ⟨⟨by decide +kernel, by decide +kernel⟩, List.mem_of_getElem? (i := 114) (by decide +kernel), List.mem_of_getElem? (i := 593) (by decide +kernel), List.mem_of_getElem? (i := 594) (by decide +kernel)⟩
theorem lw_p23 : lw_okq (⟨"LetterTurns$Contest", "leftBehind", "(II)I"⟩, 11) := ⟨⟨by decide +kernel, by decide +kernel⟩, List.mem_of_getElem? (i := 114) (by decide +kernel), List.mem_of_getElem? (i := 597) (by decide +kernel), List.mem_of_getElem? (i := 598) (by decide +kernel)⟩
theorem lw_p24 : lw_okq (⟨"LetterTurns$Contest", "rightBehind", "(II)I"⟩, 11) := ⟨⟨by decide +kernel, by decide +kernel⟩, List.mem_of_getElem? (i := 114) (by decide +kernel), List.mem_of_getElem? (i := 605) (by decide +kernel), List.mem_of_getElem? (i := 606) (by decide +kernel)⟩
theorem lw_p25 : lw_okq (⟨"LetterTurns", "changeTalk", "()V"⟩, 18) := ⟨⟨by decide +kernel, by decide +kernel⟩, List.mem_of_getElem? (i := 15) (by decide +kernel), List.mem_of_getElem? (i := 654) (by decide +kernel), List.mem_of_getElem? (i := 655) (by decide +kernel)⟩
theorem lw_p26 : lw_okq (⟨"LetterTurns", "beginAnew", "()V"⟩, 18) := ⟨⟨by decide +kernel, by decide +kernel⟩, List.mem_of_getElem? (i := 15) (by decide +kernel), List.mem_of_getElem? (i := 658) (by decide +kernel), List.mem_of_getElem? (i := 659) (by decide +kernel)⟩
theorem lw_p27 : lw_okq (⟨"LetterTurns$Talk", "listAct", "(JII)V"⟩, 10) := ⟨⟨by decide +kernel, by decide +kernel⟩, List.mem_of_getElem? (i := 158) (by decide +kernel), List.mem_of_getElem? (i := 700) (by decide +kernel), List.mem_of_getElem? (i := 701) (by decide +kernel)⟩
theorem lw_p28 : lw_okq (⟨"LetterTurns$Talk", "listStep", "(IJ)V"⟩, 10) := ⟨⟨by decide +kernel, by decide +kernel⟩, List.mem_of_getElem? (i := 158) (by decide +kernel), List.mem_of_getElem? (i := 719) (by decide +kernel), List.mem_of_getElem? (i := 720) (by decide +kernel)⟩
theorem lw_p29 : lw_okq (⟨"LetterTurns", "doListed", "(I)V"⟩, 18) := ⟨⟨by decide +kernel, by decide +kernel⟩, List.mem_of_getElem? (i := 15) (by decide +kernel), List.mem_of_getElem? (i := 737) (by decide +kernel), List.mem_of_getElem? (i := 738) (by decide +kernel)⟩
theorem lw_p30 : lw_okq (⟨"LetterTurns$Talk", "isBarred", "(JIII)Z"⟩, 10) := ⟨⟨by decide +kernel, by decide +kernel⟩, List.mem_of_getElem? (i := 158) (by decide +kernel), List.mem_of_getElem? (i := 773) (by decide +kernel), List.mem_of_getElem? (i := 774) (by decide +kernel)⟩
theorem lw_p31 : lw_okq (⟨"LetterTurns", "surveyNow", "()LLetterTurns$Survey;"⟩, 18) := ⟨⟨by decide +kernel, by decide +kernel⟩, List.mem_of_getElem? (i := 15) (by decide +kernel), List.mem_of_getElem? (i := 777) (by decide +kernel), List.mem_of_getElem? (i := 778) (by decide +kernel)⟩
def lw_privs_2 : List (MethodName × Nat) := [(⟨"LetterTurns$Folder", "refine", "()I"⟩, 7), (⟨"LetterTurns$Folder", "alike", "(II)Z"⟩, 7), (⟨"LetterTurns$Folder", "kinOf", "(I)I"⟩, 7), (⟨"LetterTurns$Folder", "folded", "(II)LLetterTurns$Machine;"⟩, 7), (⟨"LetterTurns$Contest", "makeRoom", "(I)V"⟩, 11), (⟨"LetterTurns$Contest", "meet", "(IIII)V"⟩, 11), (⟨"LetterTurns$Contest", "chiefOf", "(I)I"⟩, 11), (⟨"LetterTurns$Contest", "leftBehind", "(II)I"⟩, 11), (⟨"LetterTurns$Contest", "rightBehind", "(II)I"⟩, 11), (⟨"LetterTurns", "changeTalk", "()V"⟩, 18), (⟨"LetterTurns", "beginAnew", "()V"⟩, 18), (⟨"LetterTurns$Talk", "listAct", "(JII)V"⟩, 10), (⟨"LetterTurns$Talk", "listStep", "(IJ)V"⟩, 10), (⟨"LetterTurns", "doListed", "(I)V"⟩, 18), (⟨"LetterTurns$Talk", "isBarred", "(JIII)Z"⟩, 10), (⟨"LetterTurns", "surveyNow", "()LLetterTurns$Survey;"⟩, 18)]
theorem lw_r2 : ∀ q ∈ lw_privs_2, lw_okq q := List.forall_mem_cons.mpr ⟨lw_p16, List.forall_mem_cons.mpr ⟨lw_p17, List.forall_mem_cons.mpr ⟨lw_p18, List.forall_mem_cons.mpr ⟨lw_p19, List.forall_mem_cons.mpr ⟨lw_p20, List.forall_mem_cons.mpr ⟨lw_p21, List.forall_mem_cons.mpr ⟨lw_p22, List.forall_mem_cons.mpr ⟨lw_p23, List.forall_mem_cons.mpr ⟨lw_p24, List.forall_mem_cons.mpr ⟨lw_p25, List.forall_mem_cons.mpr ⟨lw_p26, List.forall_mem_cons.mpr ⟨lw_p27, List.forall_mem_cons.mpr ⟨lw_p28, List.forall_mem_cons.mpr ⟨lw_p29, List.forall_mem_cons.mpr ⟨lw_p30, List.forall_mem_cons.mpr ⟨lw_p31, fun _ h => absurd h List.not_mem_nil⟩⟩⟩⟩⟩⟩⟩⟩⟩⟩⟩⟩⟩⟩⟩⟩
theorem lw_p32 : lw_okq (⟨"LetterTurns$Survey", "clear", "()V"⟩, 15) := ⟨⟨by decide +kernel, by decide +kernel⟩, List.mem_of_getElem? (i := 203) (by decide +kernel), List.mem_of_getElem? (i := 785) (by decide +kernel), List.mem_of_getElem? (i := 786) (by decide +kernel)⟩
theorem lw_p33 : lw_okq (⟨"LetterTurns$Survey", "meet", "(JII)I"⟩, 15) := ⟨⟨by decide +kernel, by decide +kernel⟩, List.mem_of_getElem? (i := 203) (by decide +kernel), List.mem_of_getElem? (i := 790) (by decide +kernel), List.mem_of_getElem? (i := 791) (by decide +kernel)⟩
theorem lw_p34 : lw_okq (⟨"LetterTurns$Survey", "slotOf", "(J)I"⟩, 15) := ⟨⟨by decide +kernel, by decide +kernel⟩, List.mem_of_getElem? (i := 203) (by decide +kernel), List.mem_of_getElem? (i := 794) (by decide +kernel), List.mem_of_getElem? (i := 795) (by decide +kernel)⟩
theorem lw_p35 : lw_okq (⟨"LetterTurns$Survey", "link", "(II)V"⟩, 15) := ⟨⟨by decide +kernel, by decide +kernel⟩, List.mem_of_getElem? (i := 203) (by decide +kernel), List.mem_of_getElem? (i := 801) (by decide +kernel), List.mem_of_getElem? (i := 802) (by decide +kernel)⟩
theorem lw_p36 : lw_okq (⟨"LetterTurns$Survey", "markForever", "()V"⟩, 15) := ⟨⟨by decide +kernel, by decide +kernel⟩, List.mem_of_getElem? (i := 203) (by decide +kernel), List.mem_of_getElem? (i := 806) (by decide +kernel), List.mem_of_getElem? (i := 807) (by decide +kernel)⟩
theorem lw_p37 : lw_okq (⟨"LetterTurns$Survey", "tell", "(I)V"⟩, 15) := ⟨⟨by decide +kernel, by decide +kernel⟩, List.mem_of_getElem? (i := 203) (by decide +kernel), List.mem_of_getElem? (i := 810) (by decide +kernel), List.mem_of_getElem? (i := 811) (by decide +kernel)⟩
theorem lw_p38 : lw_okq (⟨"LetterTurns", "seekMend", "()V"⟩, 18) := ⟨⟨by decide +kernel, by decide +kernel⟩, List.mem_of_getElem? (i := 15) (by decide +kernel), List.mem_of_getElem? (i := 855) (by decide +kernel), List.mem_of_getElem? (i := 856) (by decide +kernel)⟩
theorem lw_p39 : lw_okq (⟨"LetterTurns$Survey", "firstBad", "()I"⟩, 15) := ⟨⟨by decide +kernel, by decide +kernel⟩, List.mem_of_getElem? (i := 203) (by decide +kernel), List.mem_of_getElem? (i := 864) (by decide +kernel), List.mem_of_getElem? (i := 865) (by decide +kernel)⟩
theorem lw_p40 : lw_okq (⟨"LetterTurns$Survey", "actsOnWay", "(II)I"⟩, 15) := ⟨⟨by decide +kernel, by decide +kernel⟩, List.mem_of_getElem? (i := 203) (by decide +kernel), List.mem_of_getElem? (i := 868) (by decide +kernel), List.mem_of_getElem? (i := 869) (by decide +kernel)⟩
theorem lw_p41 : lw_okq (⟨"LetterTurns", "mendsAct", "(II)Z"⟩, 18) := ⟨⟨by decide +kernel, by decide +kernel⟩, List.mem_of_getElem? (i := 15) (by decide +kernel), List.mem_of_getElem? (i := 873) (by decide +kernel), List.mem_of_getElem? (i := 874) (by decide +kernel)⟩
theorem lw_p42 : lw_okq (⟨"LetterTurns", "withBook", "(JI)J"⟩, 18) := ⟨⟨by decide +kernel, by decide +kernel⟩, List.mem_of_getElem? (i := 15) (by decide +kernel), List.mem_of_getElem? (i := 890) (by decide +kernel), List.mem_of_getElem? (i := 891) (by decide +kernel)⟩
theorem lw_p43 : lw_okq (⟨"LetterTurns", "withPost", "(JI)J"⟩, 18) := ⟨⟨by decide +kernel, by decide +kernel⟩, List.mem_of_getElem? (i := 15) (by decide +kernel), List.mem_of_getElem? (i := 899) (by decide +kernel), List.mem_of_getElem? (i := 900) (by decide +kernel)⟩
theorem lw_p44 : lw_okq (⟨"LetterTurnsModel", "readPage", "(I)V"⟩, 58) := ⟨⟨by decide +kernel, by decide +kernel⟩, List.mem_of_getElem? (i := 906) (by decide +kernel), List.mem_of_getElem? (i := 1108) (by decide +kernel), List.mem_of_getElem? (i := 1109) (by decide +kernel)⟩
theorem lw_p45 : lw_okq (⟨"LetterTurnsModel", "layIdle", "(I)V"⟩, 58) := ⟨⟨by decide +kernel, by decide +kernel⟩, List.mem_of_getElem? (i := 906) (by decide +kernel), List.mem_of_getElem? (i := 1122) (by decide +kernel), List.mem_of_getElem? (i := 1123) (by decide +kernel)⟩
theorem lw_p46 : lw_okq (⟨"LetterTurnsModel", "openGroup", "()V"⟩, 58) := ⟨⟨by decide +kernel, by decide +kernel⟩, List.mem_of_getElem? (i := 906) (by decide +kernel), List.mem_of_getElem? (i := 1126) (by decide +kernel), List.mem_of_getElem? (i := 1127) (by decide +kernel)⟩
theorem lw_p47 : lw_okq (⟨"LetterTurnsModel", "newRow", "()V"⟩, 58) := ⟨⟨by decide +kernel, by decide +kernel⟩, List.mem_of_getElem? (i := 906) (by decide +kernel), List.mem_of_getElem? (i := 1130) (by decide +kernel), List.mem_of_getElem? (i := 1131) (by decide +kernel)⟩
def lw_privs_3 : List (MethodName × Nat) := [(⟨"LetterTurns$Survey", "clear", "()V"⟩, 15), (⟨"LetterTurns$Survey", "meet", "(JII)I"⟩, 15), (⟨"LetterTurns$Survey", "slotOf", "(J)I"⟩, 15), (⟨"LetterTurns$Survey", "link", "(II)V"⟩, 15), (⟨"LetterTurns$Survey", "markForever", "()V"⟩, 15), (⟨"LetterTurns$Survey", "tell", "(I)V"⟩, 15), (⟨"LetterTurns", "seekMend", "()V"⟩, 18), (⟨"LetterTurns$Survey", "firstBad", "()I"⟩, 15), (⟨"LetterTurns$Survey", "actsOnWay", "(II)I"⟩, 15), (⟨"LetterTurns", "mendsAct", "(II)Z"⟩, 18), (⟨"LetterTurns", "withBook", "(JI)J"⟩, 18), (⟨"LetterTurns", "withPost", "(JI)J"⟩, 18), (⟨"LetterTurnsModel", "readPage", "(I)V"⟩, 58), (⟨"LetterTurnsModel", "layIdle", "(I)V"⟩, 58), (⟨"LetterTurnsModel", "openGroup", "()V"⟩, 58), (⟨"LetterTurnsModel", "newRow", "()V"⟩, 58)]
theorem lw_r3 : ∀ q ∈ lw_privs_3, lw_okq q := List.forall_mem_cons.mpr ⟨lw_p32, List.forall_mem_cons.mpr ⟨lw_p33, List.forall_mem_cons.mpr ⟨lw_p34, List.forall_mem_cons.mpr ⟨lw_p35, List.forall_mem_cons.mpr ⟨lw_p36, List.forall_mem_cons.mpr ⟨lw_p37, List.forall_mem_cons.mpr ⟨lw_p38, List.forall_mem_cons.mpr ⟨lw_p39, List.forall_mem_cons.mpr ⟨lw_p40, List.forall_mem_cons.mpr ⟨lw_p41, List.forall_mem_cons.mpr ⟨lw_p42, List.forall_mem_cons.mpr ⟨lw_p43, List.forall_mem_cons.mpr ⟨lw_p44, List.forall_mem_cons.mpr ⟨lw_p45, List.forall_mem_cons.mpr ⟨lw_p46, List.forall_mem_cons.mpr ⟨lw_p47, fun _ h => absurd h List.not_mem_nil⟩⟩⟩⟩⟩⟩⟩⟩⟩⟩⟩⟩⟩⟩⟩⟩
theorem lw_p48 : lw_okq (⟨"LetterTurnsModel", "endRow", "()V"⟩, 58) := ⟨⟨by decide +kernel, by decide +kernel⟩, List.mem_of_getElem? (i := 906) (by decide +kernel), List.mem_of_getElem? (i := 1134) (by decide +kernel), List.mem_of_getElem? (i := 1135) (by decide +kernel)⟩
theorem lw_p49 : lw_okq (⟨"LetterTurnsModel", "lay", "(IIII)V"⟩, 58) := ⟨⟨by decide +kernel, by decide +kernel⟩, List.mem_of_getElem? (i := 906) (by decide +kernel), List.mem_of_getElem? (i := 1138) (by decide +kernel), List.mem_of_getElem? (i := 1139) (by decide +kernel)⟩
theorem lw_p50 : lw_okq (⟨"LetterTurnsModel", "signAt", "(II)I"⟩, 58) := ⟨⟨by decide +kernel, by decide +kernel⟩, List.mem_of_getElem? (i := 906) (by decide +kernel), List.mem_of_getElem? (i := 1142) (by decide +kernel), List.mem_of_getElem? (i := 1143) (by decide +kernel)⟩
theorem lw_p51 : lw_okq (⟨"LetterTurnsModel", "join", "(III)V"⟩, 58) := ⟨⟨by decide +kernel, by decide +kernel⟩, List.mem_of_getElem? (i := 906) (by decide +kernel), List.mem_of_getElem? (i := 1146) (by decide +kernel), List.mem_of_getElem? (i := 1147) (by decide +kernel)⟩
theorem lw_p52 : lw_okq (⟨"LetterTurnsModel", "item", "(IIIZ)V"⟩, 58) := ⟨⟨by decide +kernel, by decide +kernel⟩, List.mem_of_getElem? (i := 906) (by decide +kernel), List.mem_of_getElem? (i := 1150) (by decide +kernel), List.mem_of_getElem? (i := 1151) (by decide +kernel)⟩
theorem lw_p53 : lw_okq (⟨"LetterTurnsModel", "layAct", "(IIIII)V"⟩, 58) := ⟨⟨by decide +kernel, by decide +kernel⟩, List.mem_of_getElem? (i := 906) (by decide +kernel), List.mem_of_getElem? (i := 1154) (by decide +kernel), List.mem_of_getElem? (i := 1155) (by decide +kernel)⟩
theorem lw_p54 : lw_okq (⟨"LetterTurnsModel", "isBook", "(I)Z"⟩, 58) := ⟨⟨by decide +kernel, by decide +kernel⟩, List.mem_of_getElem? (i := 906) (by decide +kernel), List.mem_of_getElem? (i := 1173) (by decide +kernel), List.mem_of_getElem? (i := 1174) (by decide +kernel)⟩
theorem lw_p55 : lw_okq (⟨"LetterTurnsModel", "aboutOf", "(II)I"⟩, 58) := ⟨⟨by decide +kernel, by decide +kernel⟩, List.mem_of_getElem? (i := 906) (by decide +kernel), List.mem_of_getElem? (i := 1181) (by decide +kernel), List.mem_of_getElem? (i := 1182) (by decide +kernel)⟩
theorem lw_p56 : lw_okq (⟨"LetterTurnsModel", "fewest", "(I)I"⟩, 58) := ⟨⟨by decide +kernel, by decide +kernel⟩, List.mem_of_getElem? (i := 906) (by decide +kernel), List.mem_of_getElem? (i := 1185) (by decide +kernel), List.mem_of_getElem? (i := 1186) (by decide +kernel)⟩
theorem lw_p57 : lw_okq (⟨"LetterTurnsModel", "meetSets", "(I)V"⟩, 58) := ⟨⟨by decide +kernel, by decide +kernel⟩, List.mem_of_getElem? (i := 906) (by decide +kernel), List.mem_of_getElem? (i := 1189) (by decide +kernel), List.mem_of_getElem? (i := 1190) (by decide +kernel)⟩
theorem lw_p58 : lw_okq (⟨"LetterTurnsModel", "nextOf", "(II)I"⟩, 58) := ⟨⟨by decide +kernel, by decide +kernel⟩, List.mem_of_getElem? (i := 906) (by decide +kernel), List.mem_of_getElem? (i := 1193) (by decide +kernel), List.mem_of_getElem? (i := 1194) (by decide +kernel)⟩
theorem lw_p59 : lw_okq (⟨"LetterTurnsModel", "lead", "(III)I"⟩, 58) := ⟨⟨by decide +kernel, by decide +kernel⟩, List.mem_of_getElem? (i := 906) (by decide +kernel), List.mem_of_getElem? (i := 1197) (by decide +kernel), List.mem_of_getElem? (i := 1198) (by decide +kernel)⟩
theorem lw_p60 : lw_okq (⟨"LetterTurnsModel", "areAlike", "(II)Z"⟩, 58) := ⟨⟨by decide +kernel, by decide +kernel⟩, List.mem_of_getElem? (i := 906) (by decide +kernel), List.mem_of_getElem? (i := 1204) (by decide +kernel), List.mem_of_getElem? (i := 1205) (by decide +kernel)⟩
theorem lw_p61 : lw_okq (⟨"LetterTurnsModel", "endsOf", "(I)I"⟩, 58) := ⟨⟨by decide +kernel, by decide +kernel⟩, List.mem_of_getElem? (i := 906) (by decide +kernel), List.mem_of_getElem? (i := 1208) (by decide +kernel), List.mem_of_getElem? (i := 1209) (by decide +kernel)⟩
theorem lw_p62 : lw_okq (⟨"LetterTurnsModel", "seekApart", "(II)V"⟩, 58) := ⟨⟨by decide +kernel, by decide +kernel⟩, List.mem_of_getElem? (i := 906) (by decide +kernel), List.mem_of_getElem? (i := 1224) (by decide +kernel), List.mem_of_getElem? (i := 1225) (by decide +kernel)⟩
theorem lw_p63 : lw_okq (⟨"LetterTurnsModel", "meetPair", "(IIII)Z"⟩, 58) := ⟨⟨by decide +kernel, by decide +kernel⟩, List.mem_of_getElem? (i := 906) (by decide +kernel), List.mem_of_getElem? (i := 1228) (by decide +kernel), List.mem_of_getElem? (i := 1229) (by decide +kernel)⟩
def lw_privs_4 : List (MethodName × Nat) := [(⟨"LetterTurnsModel", "endRow", "()V"⟩, 58), (⟨"LetterTurnsModel", "lay", "(IIII)V"⟩, 58), (⟨"LetterTurnsModel", "signAt", "(II)I"⟩, 58), (⟨"LetterTurnsModel", "join", "(III)V"⟩, 58), (⟨"LetterTurnsModel", "item", "(IIIZ)V"⟩, 58), (⟨"LetterTurnsModel", "layAct", "(IIIII)V"⟩, 58), (⟨"LetterTurnsModel", "isBook", "(I)Z"⟩, 58), (⟨"LetterTurnsModel", "aboutOf", "(II)I"⟩, 58), (⟨"LetterTurnsModel", "fewest", "(I)I"⟩, 58), (⟨"LetterTurnsModel", "meetSets", "(I)V"⟩, 58), (⟨"LetterTurnsModel", "nextOf", "(II)I"⟩, 58), (⟨"LetterTurnsModel", "lead", "(III)I"⟩, 58), (⟨"LetterTurnsModel", "areAlike", "(II)Z"⟩, 58), (⟨"LetterTurnsModel", "endsOf", "(I)I"⟩, 58), (⟨"LetterTurnsModel", "seekApart", "(II)V"⟩, 58), (⟨"LetterTurnsModel", "meetPair", "(IIII)Z"⟩, 58)]
theorem lw_r4 : ∀ q ∈ lw_privs_4, lw_okq q := List.forall_mem_cons.mpr ⟨lw_p48, List.forall_mem_cons.mpr ⟨lw_p49, List.forall_mem_cons.mpr ⟨lw_p50, List.forall_mem_cons.mpr ⟨lw_p51, List.forall_mem_cons.mpr ⟨lw_p52, List.forall_mem_cons.mpr ⟨lw_p53, List.forall_mem_cons.mpr ⟨lw_p54, List.forall_mem_cons.mpr ⟨lw_p55, List.forall_mem_cons.mpr ⟨lw_p56, List.forall_mem_cons.mpr ⟨lw_p57, List.forall_mem_cons.mpr ⟨lw_p58, List.forall_mem_cons.mpr ⟨lw_p59, List.forall_mem_cons.mpr ⟨lw_p60, List.forall_mem_cons.mpr ⟨lw_p61, List.forall_mem_cons.mpr ⟨lw_p62, List.forall_mem_cons.mpr ⟨lw_p63, fun _ h => absurd h List.not_mem_nil⟩⟩⟩⟩⟩⟩⟩⟩⟩⟩⟩⟩⟩⟩⟩⟩
theorem lw_p64 : lw_okq (⟨"LetterTurnsModel", "ends", "(II)Z"⟩, 58) := ⟨⟨by decide +kernel, by decide +kernel⟩, List.mem_of_getElem? (i := 906) (by decide +kernel), List.mem_of_getElem? (i := 1234) (by decide +kernel), List.mem_of_getElem? (i := 1235) (by decide +kernel)⟩
theorem lw_p65 : lw_okq (⟨"LetterTurnsModel", "beginAnew", "()V"⟩, 58) := ⟨⟨by decide +kernel, by decide +kernel⟩, List.mem_of_getElem? (i := 906) (by decide +kernel), List.mem_of_getElem? (i := 1253) (by decide +kernel), List.mem_of_getElem? (i := 1254) (by decide +kernel)⟩
theorem lw_p66 : lw_okq (⟨"LetterTurnsModel", "laySteps", "()V"⟩, 58) := ⟨⟨by decide +kernel, by decide +kernel⟩, List.mem_of_getElem? (i := 906) (by decide +kernel), List.mem_of_getElem? (i := 1280) (by decide +kernel), List.mem_of_getElem? (i := 1281) (by decide +kernel)⟩
theorem lw_p67 : lw_okq (⟨"LetterTurnsModel", "followNow", "(I)I"⟩, 58) := ⟨⟨by decide +kernel, by decide +kernel⟩, List.mem_of_getElem? (i := 906) (by decide +kernel), List.mem_of_getElem? (i := 1284) (by decide +kernel), List.mem_of_getElem? (i := 1285) (by decide +kernel)⟩
theorem lw_p68 : lw_okq (⟨"LetterTurnsModel", "layStep", "(II)V"⟩, 58) := ⟨⟨by decide +kernel, by decide +kernel⟩, List.mem_of_getElem? (i := 906) (by decide +kernel), List.mem_of_getElem? (i := 1288) (by decide +kernel), List.mem_of_getElem? (i := 1289) (by decide +kernel)⟩
theorem lw_p69 : lw_okq (⟨"LetterTurnsModel", "actOfSeat", "(II)I"⟩, 58) := ⟨⟨by decide +kernel, by decide +kernel⟩, List.mem_of_getElem? (i := 906) (by decide +kernel), List.mem_of_getElem? (i := 1292) (by decide +kernel), List.mem_of_getElem? (i := 1293) (by decide +kernel)⟩
theorem lw_p70 : lw_okq (⟨"LetterTurnsModel", "placeOf", "(II)I"⟩, 58) := ⟨⟨by decide +kernel, by decide +kernel⟩, List.mem_of_getElem? (i := 906) (by decide +kernel), List.mem_of_getElem? (i := 1299) (by decide +kernel), List.mem_of_getElem? (i := 1300) (by decide +kernel)⟩
theorem lw_p71 : lw_okq (⟨"LetterTurnsModel", "doStep", "(I)V"⟩, 58) := ⟨⟨by decide +kernel, by decide +kernel⟩, List.mem_of_getElem? (i := 906) (by decide +kernel), List.mem_of_getElem? (i := 1314) (by decide +kernel), List.mem_of_getElem? (i := 1315) (by decide +kernel)⟩
theorem lw_p72 : lw_okq (⟨"LetterTurnsModel", "isSo", "(I)Z"⟩, 58) := ⟨⟨by decide +kernel, by decide +kernel⟩, List.mem_of_getElem? (i := 906) (by decide +kernel), List.mem_of_getElem? (i := 1347) (by decide +kernel), List.mem_of_getElem? (i := 1348) (by decide +kernel)⟩
theorem lw_p73 : lw_okq (⟨"LetterTurnsModel", "allAtEnds", "()Z"⟩, 58) := ⟨⟨by decide +kernel, by decide +kernel⟩, List.mem_of_getElem? (i := 906) (by decide +kernel), List.mem_of_getElem? (i := 1351) (by decide +kernel), List.mem_of_getElem? (i := 1352) (by decide +kernel)⟩
theorem lw_p74 : lw_okq (⟨"LetterTurnsModel", "postsEmpty", "()Z"⟩, 58) := ⟨⟨by decide +kernel, by decide +kernel⟩, List.mem_of_getElem? (i := 906) (by decide +kernel), List.mem_of_getElem? (i := 1355) (by decide +kernel), List.mem_of_getElem? (i := 1356) (by decide +kernel)⟩
theorem lw_p75 : lw_okq (⟨"LetterTurnsModel", "isWrong", "(I)Z"⟩, 58) := ⟨⟨by decide +kernel, by decide +kernel⟩, List.mem_of_getElem? (i := 906) (by decide +kernel), List.mem_of_getElem? (i := 1359) (by decide +kernel), List.mem_of_getElem? (i := 1360) (by decide +kernel)⟩
theorem lw_p76 : lw_okq (⟨"LetterTurnsModel", "onlyWaits", "(I)Z"⟩, 58) := ⟨⟨by decide +kernel, by decide +kernel⟩, List.mem_of_getElem? (i := 906) (by decide +kernel), List.mem_of_getElem? (i := 1363) (by decide +kernel), List.mem_of_getElem? (i := 1364) (by decide +kernel)⟩
theorem lw_p77 : lw_okq (⟨"LetterTurnsModel", "waitsFor", "(II)I"⟩, 58) := ⟨⟨by decide +kernel, by decide +kernel⟩, List.mem_of_getElem? (i := 906) (by decide +kernel), List.mem_of_getElem? (i := 1367) (by decide +kernel), List.mem_of_getElem? (i := 1368) (by decide +kernel)⟩
theorem lw_p78 : lw_okq (⟨"LetterTurnsModel", "meetAll", "()V"⟩, 58) := ⟨⟨by decide +kernel, by decide +kernel⟩, List.mem_of_getElem? (i := 906) (by decide +kernel), List.mem_of_getElem? (i := 1371) (by decide +kernel), List.mem_of_getElem? (i := 1372) (by decide +kernel)⟩
theorem lw_p79 : lw_okq (⟨"LetterTurnsModel", "asState", "()J"⟩, 58) := ⟨⟨by decide +kernel, by decide +kernel⟩, List.mem_of_getElem? (i := 906) (by decide +kernel), List.mem_of_getElem? (i := 1375) (by decide +kernel), List.mem_of_getElem? (i := 1376) (by decide +kernel)⟩
def lw_privs_5 : List (MethodName × Nat) := [(⟨"LetterTurnsModel", "ends", "(II)Z"⟩, 58), (⟨"LetterTurnsModel", "beginAnew", "()V"⟩, 58), (⟨"LetterTurnsModel", "laySteps", "()V"⟩, 58), (⟨"LetterTurnsModel", "followNow", "(I)I"⟩, 58), (⟨"LetterTurnsModel", "layStep", "(II)V"⟩, 58), (⟨"LetterTurnsModel", "actOfSeat", "(II)I"⟩, 58), (⟨"LetterTurnsModel", "placeOf", "(II)I"⟩, 58), (⟨"LetterTurnsModel", "doStep", "(I)V"⟩, 58), (⟨"LetterTurnsModel", "isSo", "(I)Z"⟩, 58), (⟨"LetterTurnsModel", "allAtEnds", "()Z"⟩, 58), (⟨"LetterTurnsModel", "postsEmpty", "()Z"⟩, 58), (⟨"LetterTurnsModel", "isWrong", "(I)Z"⟩, 58), (⟨"LetterTurnsModel", "onlyWaits", "(I)Z"⟩, 58), (⟨"LetterTurnsModel", "waitsFor", "(II)I"⟩, 58), (⟨"LetterTurnsModel", "meetAll", "()V"⟩, 58), (⟨"LetterTurnsModel", "asState", "()J"⟩, 58)]
theorem lw_r5 : ∀ q ∈ lw_privs_5, lw_okq q := List.forall_mem_cons.mpr ⟨lw_p64, List.forall_mem_cons.mpr ⟨lw_p65, List.forall_mem_cons.mpr ⟨lw_p66, List.forall_mem_cons.mpr ⟨lw_p67, List.forall_mem_cons.mpr ⟨lw_p68, List.forall_mem_cons.mpr ⟨lw_p69, List.forall_mem_cons.mpr ⟨lw_p70, List.forall_mem_cons.mpr ⟨lw_p71, List.forall_mem_cons.mpr ⟨lw_p72, List.forall_mem_cons.mpr ⟨lw_p73, List.forall_mem_cons.mpr ⟨lw_p74, List.forall_mem_cons.mpr ⟨lw_p75, List.forall_mem_cons.mpr ⟨lw_p76, List.forall_mem_cons.mpr ⟨lw_p77, List.forall_mem_cons.mpr ⟨lw_p78, List.forall_mem_cons.mpr ⟨lw_p79, fun _ h => absurd h List.not_mem_nil⟩⟩⟩⟩⟩⟩⟩⟩⟩⟩⟩⟩⟩⟩⟩⟩
theorem lw_p80 : lw_okq (⟨"LetterTurnsModel", "meet", "(JII)I"⟩, 58) := ⟨⟨by decide +kernel, by decide +kernel⟩, List.mem_of_getElem? (i := 906) (by decide +kernel), List.mem_of_getElem? (i := 1381) (by decide +kernel), List.mem_of_getElem? (i := 1382) (by decide +kernel)⟩
theorem lw_p81 : lw_okq (⟨"LetterTurnsModel", "stateNumber", "(J)I"⟩, 58) := ⟨⟨by decide +kernel, by decide +kernel⟩, List.mem_of_getElem? (i := 906) (by decide +kernel), List.mem_of_getElem? (i := 1385) (by decide +kernel), List.mem_of_getElem? (i := 1386) (by decide +kernel)⟩
theorem lw_p82 : lw_okq (⟨"LetterTurnsModel", "layState", "(J)V"⟩, 58) := ⟨⟨by decide +kernel, by decide +kernel⟩, List.mem_of_getElem? (i := 906) (by decide +kernel), List.mem_of_getElem? (i := 1391) (by decide +kernel), List.mem_of_getElem? (i := 1392) (by decide +kernel)⟩
theorem lw_p83 : lw_okq (⟨"LetterTurnsModel", "layFine", "()V"⟩, 58) := ⟨⟨by decide +kernel, by decide +kernel⟩, List.mem_of_getElem? (i := 906) (by decide +kernel), List.mem_of_getElem? (i := 1395) (by decide +kernel), List.mem_of_getElem? (i := 1396) (by decide +kernel)⟩
theorem lw_p84 : lw_okq (⟨"LetterTurnsModel", "leadsToFine", "(I)Z"⟩, 58) := ⟨⟨by decide +kernel, by decide +kernel⟩, List.mem_of_getElem? (i := 906) (by decide +kernel), List.mem_of_getElem? (i := 1399) (by decide +kernel), List.mem_of_getElem? (i := 1400) (by decide +kernel)⟩
theorem lw_p85 : lw_okq (⟨"LetterTurnsModel", "isStateSo", "(II)Z"⟩, 58) := ⟨⟨by decide +kernel, by decide +kernel⟩, List.mem_of_getElem? (i := 906) (by decide +kernel), List.mem_of_getElem? (i := 1411) (by decide +kernel), List.mem_of_getElem? (i := 1412) (by decide +kernel)⟩
theorem lw_p86 : lw_okq (⟨"LetterTurnsModel", "isWell", "()Z"⟩, 58) := ⟨⟨by decide +kernel, by decide +kernel⟩, List.mem_of_getElem? (i := 906) (by decide +kernel), List.mem_of_getElem? (i := 1423) (by decide +kernel), List.mem_of_getElem? (i := 1424) (by decide +kernel)⟩
theorem lw_p87 : lw_okq (⟨"LetterTurnsModel", "howMany", "(I)I"⟩, 58) := ⟨⟨by decide +kernel, by decide +kernel⟩, List.mem_of_getElem? (i := 906) (by decide +kernel), List.mem_of_getElem? (i := 1431) (by decide +kernel), List.mem_of_getElem? (i := 1432) (by decide +kernel)⟩
theorem lw_p88 : lw_okq (⟨"LetterTurnsModel", "lettersLying", "()I"⟩, 58) := ⟨⟨by decide +kernel, by decide +kernel⟩, List.mem_of_getElem? (i := 906) (by decide +kernel), List.mem_of_getElem? (i := 1435) (by decide +kernel), List.mem_of_getElem? (i := 1436) (by decide +kernel)⟩
theorem lw_p89 : lw_okq (⟨"LetterTurnsModel", "mix", "(J)V"⟩, 58) := ⟨⟨by decide +kernel, by decide +kernel⟩, List.mem_of_getElem? (i := 906) (by decide +kernel), List.mem_of_getElem? (i := 1444) (by decide +kernel), List.mem_of_getElem? (i := 1445) (by decide +kernel)⟩
def lw_privs_6 : List (MethodName × Nat) := [(⟨"LetterTurnsModel", "meet", "(JII)I"⟩, 58), (⟨"LetterTurnsModel", "stateNumber", "(J)I"⟩, 58), (⟨"LetterTurnsModel", "layState", "(J)V"⟩, 58), (⟨"LetterTurnsModel", "layFine", "()V"⟩, 58), (⟨"LetterTurnsModel", "leadsToFine", "(I)Z"⟩, 58), (⟨"LetterTurnsModel", "isStateSo", "(II)Z"⟩, 58), (⟨"LetterTurnsModel", "isWell", "()Z"⟩, 58), (⟨"LetterTurnsModel", "howMany", "(I)I"⟩, 58), (⟨"LetterTurnsModel", "lettersLying", "()I"⟩, 58), (⟨"LetterTurnsModel", "mix", "(J)V"⟩, 58)]
theorem lw_r6 : ∀ q ∈ lw_privs_6, lw_okq q := List.forall_mem_cons.mpr ⟨lw_p80, List.forall_mem_cons.mpr ⟨lw_p81, List.forall_mem_cons.mpr ⟨lw_p82, List.forall_mem_cons.mpr ⟨lw_p83, List.forall_mem_cons.mpr ⟨lw_p84, List.forall_mem_cons.mpr ⟨lw_p85, List.forall_mem_cons.mpr ⟨lw_p86, List.forall_mem_cons.mpr ⟨lw_p87, List.forall_mem_cons.mpr ⟨lw_p88, List.forall_mem_cons.mpr ⟨lw_p89, fun _ h => absurd h List.not_mem_nil⟩⟩⟩⟩⟩⟩⟩⟩⟩⟩
def lw_privs : List (MethodName × Nat) := lw_privs_1 ++ (lw_privs_2 ++ (lw_privs_3 ++ (lw_privs_4 ++ (lw_privs_5 ++ (lw_privs_6)))))
def lw_tbl : List Cond := k2_sels lw_privs ++ tables_1
theorem lw_privs_ok : ∀ q ∈ lw_privs, lw_okq q := by
  show ∀ q ∈ lw_privs_1 ++ (lw_privs_2 ++ (lw_privs_3 ++ (lw_privs_4 ++ (lw_privs_5 ++ (lw_privs_6))))), lw_okq q
  exact List.forall_mem_append.mpr ⟨lw_r1, List.forall_mem_append.mpr ⟨lw_r2, List.forall_mem_append.mpr ⟨lw_r3, List.forall_mem_append.mpr ⟨lw_r4, List.forall_mem_append.mpr ⟨lw_r5, lw_r6⟩⟩⟩⟩⟩
theorem goodIn_r {big : List Cond} (ws : List Cond) (ps : List Nat) (hp : ws = ps.filterMap (fun i => big[i]?)) (h : ws.all goodWord = true) : GoodIn big ws := by
  intro w hw
  have h1 := List.all_eq_true.mp h w hw
  rw [hp] at hw
  obtain ⟨i, -, hi⟩ := List.mem_filterMap.mp hw
  have hm : w ∈ big := by first | exact List.mem_of_getElem? hi | exact List.getElem?_mem hi
  exact ⟨hm, good_of_word h1⟩
theorem goodIn_app {big a b : List Cond} (ha : GoodIn big a) (hb : GoodIn big b) : GoodIn big (a ++ b) := fun w h => (List.mem_append.mp h).elim (ha w) (hb w)
theorem goodIn_ca {big a b : List Cond} {c : Cond} (ha : GoodIn big (c :: a)) (hb : GoodIn big b) : GoodIn big (c :: (a ++ b)) := fun w h => (List.mem_cons.mp h).elim (fun e => ha w (List.mem_cons.mpr (Or.inl e))) (fun h => (List.mem_append.mp h).elim (fun h => ha w (List.mem_cons.mpr (Or.inr h))) (hb w))
theorem goodIn_sub {big ws : List Cond} (hm : ∀ w ∈ ws, w ∈ big) (h : ws.all goodWord = true) : GoodIn big ws := fun w hw => ⟨hm w hw, good_of_word (List.all_eq_true.mp h w hw)⟩

def RX0 : String := "LetterTurns$Book"
def TX0 : u_T := fun k => match k with
  | 0 => ("LetterTurns$Book", "acts", "I", true)
  | 1 => ("LetterTurns$Book", "code", "[I", true)
  | 2 => ("LetterTurns$Book", "follow", "[I", true)
  | _ => ("LetterTurns$Book", "machine", "LLetterTurns$Machine;", false)
def tyX0 : Nat → FieldType := fun k => match k with
  | 0 => .int
  | 1 => .array .int
  | 2 => .array .int
  | _ => .object "LetterTurns$Machine"
abbrev wsX00 : List Cond := u_ws RX0 TX0 4
theorem nmX0 : ∀ a, a < 4 → ∀ b, b < 4 → a ≠ b → (TX0 a).2.1 ≠ (TX0 b).2.1 := by decide +kernel
theorem tyX0_ok : ∀ k, k < 4 → parseFieldDescriptor (TX0 k).2.2.1 = some (tyX0 k) := by decide +kernel
abbrev cX0_init : ByteArray := prog_2_method_1_code
def yX0_init : MethodName := ⟨RX0, "<init>", "(I[I[I)V"⟩
abbrev cX0_mirrored : ByteArray := prog_2_method_2_code
def yX0_mirrored : MethodName := ⟨RX0, "mirrored", "()LLetterTurns$Book;"⟩
abbrev cX0_endings : ByteArray := prog_2_method_3_code
def yX0_endings : MethodName := ⟨RX0, "endings", "()I"⟩
abbrev cX0_names : ByteArray := prog_2_method_4_code
def yX0_names : MethodName := ⟨RX0, "names", "(I)Z"⟩
def RX1 : String := "LetterTurns$Contest"
def TX1 : u_T := fun k => match k with
  | 0 => ("LetterTurns$Contest", "firstTakes", "Z", false)
  | 1 => ("LetterTurns$Contest", "one", "LLetterTurns$Machine;", false)
  | 2 => ("LetterTurns$Contest", "other", "LLetterTurns$Machine;", false)
  | 3 => ("LetterTurns$Contest", "nowhere", "I", false)
  | 4 => ("LetterTurns$Contest", "size", "I", false)
  | 5 => ("LetterTurns$Contest", "found", "I", false)
  | 6 => ("LetterTurns$Contest", "chief", "[I", false)
  | 7 => ("LetterTurns$Contest", "left", "[I", false)
  | 8 => ("LetterTurns$Contest", "right", "[I", false)
  | 9 => ("LetterTurns$Contest", "parent", "[I", false)
  | _ => ("LetterTurns$Contest", "sortBy", "[I", false)
def tyX1 : Nat → FieldType := fun k => match k with
  | 0 => .boolean
  | 1 => .object "LetterTurns$Machine"
  | 2 => .object "LetterTurns$Machine"
  | 3 => .int
  | 4 => .int
  | 5 => .int
  | 6 => .array .int
  | 7 => .array .int
  | 8 => .array .int
  | 9 => .array .int
  | _ => .array .int
abbrev wsX10 : List Cond := u_ws RX1 TX1 11
theorem nmX1 : ∀ a, a < 11 → ∀ b, b < 11 → a ≠ b → (TX1 a).2.1 ≠ (TX1 b).2.1 := by decide +kernel
theorem tyX1_ok : ∀ k, k < 11 → parseFieldDescriptor (TX1 k).2.2.1 = some (tyX1 k) := by decide +kernel
abbrev cX1_init : ByteArray := prog_3_method_1_code
def yX1_init : MethodName := ⟨RX1, "<init>", "()V"⟩
abbrev cX1_tells : ByteArray := prog_3_method_2_code
def yX1_tells : MethodName := ⟨RX1, "tells", "(LLetterTurns$Machine;LLetterTurns$Machine;)Z"⟩
abbrev cX1_length : ByteArray := prog_3_method_3_code
def yX1_length : MethodName := ⟨RX1, "length", "()I"⟩
abbrev cX1_codeAt : ByteArray := prog_3_method_4_code
def yX1_codeAt : MethodName := ⟨RX1, "codeAt", "(I)I"⟩
abbrev cX1_makeRoom : ByteArray := prog_3_method_5_code
def yX1_makeRoom : MethodName := ⟨RX1, "makeRoom", "(I)V"⟩
abbrev cX1_leftBehind : ByteArray := prog_3_method_6_code
def yX1_leftBehind : MethodName := ⟨RX1, "leftBehind", "(II)I"⟩
abbrev cX1_rightBehind : ByteArray := prog_3_method_7_code
def yX1_rightBehind : MethodName := ⟨RX1, "rightBehind", "(II)I"⟩
abbrev cX1_meet : ByteArray := prog_3_method_8_code
def yX1_meet : MethodName := ⟨RX1, "meet", "(IIII)V"⟩
abbrev cX1_chiefOf : ByteArray := prog_3_method_9_code
def yX1_chiefOf : MethodName := ⟨RX1, "chiefOf", "(I)I"⟩
def RX2 : String := "LetterTurns$Folder"
def TX2 : u_T := fun k => match k with
  | 0 => ("LetterTurns$Folder", "size", "I", false)
  | 1 => ("LetterTurns$Folder", "set", "[I", false)
  | 2 => ("LetterTurns$Folder", "next", "[I", false)
  | 3 => ("LetterTurns$Folder", "kin", "[I", false)
  | 4 => ("LetterTurns$Folder", "finer", "[I", false)
  | 5 => ("LetterTurns$Folder", "lead", "[I", false)
  | _ => ("LetterTurns$Folder", "ofSort", "[I", true)
def tyX2 : Nat → FieldType := fun k => match k with
  | 0 => .int
  | 1 => .array .int
  | 2 => .array .int
  | 3 => .array .int
  | 4 => .array .int
  | 5 => .array .int
  | _ => .array .int
abbrev wsX20 : List Cond := u_ws RX2 TX2 7
theorem nmX2 : ∀ a, a < 7 → ∀ b, b < 7 → a ≠ b → (TX2 a).2.1 ≠ (TX2 b).2.1 := by decide +kernel
theorem tyX2_ok : ∀ k, k < 7 → parseFieldDescriptor (TX2 k).2.2.1 = some (tyX2 k) := by decide +kernel
abbrev cX2_init : ByteArray := prog_4_method_1_code
def yX2_init : MethodName := ⟨RX2, "<init>", "()V"⟩
abbrev cX2_fold : ByteArray := prog_4_method_2_code
def yX2_fold : MethodName := ⟨RX2, "fold", "(LLetterTurns$Book;)LLetterTurns$Machine;"⟩
abbrev cX2_gatherSets : ByteArray := prog_4_method_3_code
def yX2_gatherSets : MethodName := ⟨RX2, "gatherSets", "(LLetterTurns$Book;)V"⟩
abbrev cX2_numberOf : ByteArray := prog_4_method_4_code
def yX2_numberOf : MethodName := ⟨RX2, "numberOf", "(I)I"⟩
abbrev cX2_grow : ByteArray := prog_4_method_5_code
def yX2_grow : MethodName := ⟨RX2, "grow", "()V"⟩
abbrev cX2_refine : ByteArray := prog_4_method_6_code
def yX2_refine : MethodName := ⟨RX2, "refine", "()I"⟩
abbrev cX2_alike : ByteArray := prog_4_method_7_code
def yX2_alike : MethodName := ⟨RX2, "alike", "(II)Z"⟩
abbrev cX2_kinOf : ByteArray := prog_4_method_8_code
def yX2_kinOf : MethodName := ⟨RX2, "kinOf", "(I)I"⟩
abbrev cX2_folded : ByteArray := prog_4_method_9_code
def yX2_folded : MethodName := ⟨RX2, "folded", "(II)LLetterTurns$Machine;"⟩
def RX3 : String := "LetterTurns$Machine"
def TX3 : u_T := fun k => match k with
  | 0 => ("LetterTurns$Machine", "places", "I", true)
  | 1 => ("LetterTurns$Machine", "end", "[Z", true)
  | _ => ("LetterTurns$Machine", "next", "[I", true)
def tyX3 : Nat → FieldType := fun k => match k with
  | 0 => .int
  | 1 => .array .boolean
  | _ => .array .int
abbrev wsX30 : List Cond := u_ws RX3 TX3 3
theorem nmX3 : ∀ a, a < 3 → ∀ b, b < 3 → a ≠ b → (TX3 a).2.1 ≠ (TX3 b).2.1 := by decide +kernel
theorem tyX3_ok : ∀ k, k < 3 → parseFieldDescriptor (TX3 k).2.2.1 = some (tyX3 k) := by decide +kernel
abbrev cX3_init : ByteArray := prog_5_method_1_code
def yX3_init : MethodName := ⟨RX3, "<init>", "(I[I[Z)V"⟩
abbrev cX3_behind : ByteArray := prog_5_method_2_code
def yX3_behind : MethodName := ⟨RX3, "behind", "(II)I"⟩
def RX4 : String := "LetterTurns$Page"
def TX4 : u_T := fun k => match k with
  | 0 => ("LetterTurns$Page", "sign", "[I", true)
  | _ => ("LetterTurns$Page", "size", "I", false)
def tyX4 : Nat → FieldType := fun k => match k with
  | 0 => .array .int
  | _ => .int
abbrev wsX40 : List Cond := u_ws RX4 TX4 2
theorem nmX4 : ∀ a, a < 2 → ∀ b, b < 2 → a ≠ b → (TX4 a).2.1 ≠ (TX4 b).2.1 := by decide +kernel
theorem tyX4_ok : ∀ k, k < 2 → parseFieldDescriptor (TX4 k).2.2.1 = some (tyX4 k) := by decide +kernel
abbrev cX4_init : ByteArray := prog_6_method_1_code
def yX4_init : MethodName := ⟨RX4, "<init>", "()V"⟩
abbrev cX4_told : ByteArray := prog_6_method_2_code
def yX4_told : MethodName := ⟨RX4, "told", "(J)I"⟩
abbrev cX4_byteOf : ByteArray := prog_6_method_3_code
def yX4_byteOf : MethodName := ⟨RX4, "byteOf", "(JI)I"⟩
abbrev cX4_append : ByteArray := prog_6_method_4_code
def yX4_append : MethodName := ⟨RX4, "append", "(JI)V"⟩
abbrev cX4_copy : ByteArray := prog_6_method_5_code
def yX4_copy : MethodName := ⟨RX4, "copy", "()LLetterTurns$Page;"⟩
def RX5 : String := "LetterTurns$Reader"
def TX5 : u_T := fun k => match k with
  | 0 => ("LetterTurns$Reader", "idleLoop", "Z", false)
  | 1 => ("LetterTurns$Reader", "phase", "I", false)
  | 2 => ("LetterTurns$Reader", "depth", "I", false)
  | 3 => ("LetterTurns$Reader", "acts", "I", false)
  | 4 => ("LetterTurns$Reader", "code", "[I", true)
  | 5 => ("LetterTurns$Reader", "follow", "[I", true)
  | 6 => ("LetterTurns$Reader", "rowFirst", "[I", true)
  | 7 => ("LetterTurns$Reader", "rowLast", "[I", true)
  | 8 => ("LetterTurns$Reader", "rowIdle", "[Z", true)
  | 9 => ("LetterTurns$Reader", "anyFirst", "[I", true)
  | 10 => ("LetterTurns$Reader", "anyLast", "[I", true)
  | _ => ("LetterTurns$Reader", "anyIdle", "[Z", true)
def tyX5 : Nat → FieldType := fun k => match k with
  | 0 => .boolean
  | 1 => .int
  | 2 => .int
  | 3 => .int
  | 4 => .array .int
  | 5 => .array .int
  | 6 => .array .int
  | 7 => .array .int
  | 8 => .array .boolean
  | 9 => .array .int
  | 10 => .array .int
  | _ => .array .boolean
abbrev wsX50 : List Cond := u_ws RX5 TX5 12
theorem nmX5 : ∀ a, a < 12 → ∀ b, b < 12 → a ≠ b → (TX5 a).2.1 ≠ (TX5 b).2.1 := by decide +kernel
theorem tyX5_ok : ∀ k, k < 12 → parseFieldDescriptor (TX5 k).2.2.1 = some (tyX5 k) := by decide +kernel
abbrev cX5_init : ByteArray := prog_7_method_1_code
def yX5_init : MethodName := ⟨RX5, "<init>", "()V"⟩
abbrev cX5_faultIn : ByteArray := prog_7_method_2_code
def yX5_faultIn : MethodName := ⟨RX5, "faultIn", "(LLetterTurns$Page;I)I"⟩
abbrev cX5_isWhole : ByteArray := prog_7_method_3_code
def yX5_isWhole : MethodName := ⟨RX5, "isWhole", "()Z"⟩
abbrev cX5_phaseBehind : ByteArray := prog_7_method_4_code
def yX5_phaseBehind : MethodName := ⟨RX5, "phaseBehind", "(III)I"⟩
abbrev cX5_phaseBehindItem : ByteArray := prog_7_method_5_code
def yX5_phaseBehindItem : MethodName := ⟨RX5, "phaseBehindItem", "(I)I"⟩
abbrev cX5_startsAct : ByteArray := prog_7_method_6_code
def yX5_startsAct : MethodName := ⟨RX5, "startsAct", "(II)Z"⟩
abbrev cX5_isMark : ByteArray := prog_7_method_7_code
def yX5_isMark : MethodName := ⟨RX5, "isMark", "(I)Z"⟩
abbrev cX5_isDigit : ByteArray := prog_7_method_8_code
def yX5_isDigit : MethodName := ⟨RX5, "isDigit", "(I)Z"⟩
abbrev cX5_isLetter : ByteArray := prog_7_method_9_code
def yX5_isLetter : MethodName := ⟨RX5, "isLetter", "(I)Z"⟩
abbrev cX5_isRowOfActs : ByteArray := prog_7_method_10_code
def yX5_isRowOfActs : MethodName := ⟨RX5, "isRowOfActs", "(LLetterTurns$Page;)Z"⟩
abbrev cX5_bookCode : ByteArray := prog_7_method_11_code
def yX5_bookCode : MethodName := ⟨RX5, "bookCode", "(LLetterTurns$Page;I)I"⟩
abbrev cX5_partCode : ByteArray := prog_7_method_12_code
def yX5_partCode : MethodName := ⟨RX5, "partCode", "(LLetterTurns$Page;II)I"⟩
abbrev cX5_gather : ByteArray := prog_7_method_13_code
def yX5_gather : MethodName := ⟨RX5, "gather", "(LLetterTurns$Page;II)V"⟩
abbrev cX5_gathered : ByteArray := prog_7_method_14_code
def yX5_gathered : MethodName := ⟨RX5, "gathered", "()LLetterTurns$Book;"⟩
abbrev cX5_openBraces : ByteArray := prog_7_method_15_code
def yX5_openBraces : MethodName := ⟨RX5, "openBraces", "()V"⟩
abbrev cX5_startRow : ByteArray := prog_7_method_16_code
def yX5_startRow : MethodName := ⟨RX5, "startRow", "()V"⟩
abbrev cX5_endRow : ByteArray := prog_7_method_17_code
def yX5_endRow : MethodName := ⟨RX5, "endRow", "()V"⟩
abbrev cX5_closeBraces : ByteArray := prog_7_method_18_code
def yX5_closeBraces : MethodName := ⟨RX5, "closeBraces", "(Z)V"⟩
abbrev cX5_addAct : ByteArray := prog_7_method_19_code
def yX5_addAct : MethodName := ⟨RX5, "addAct", "(I)V"⟩
abbrev cX5_addItem : ByteArray := prog_7_method_20_code
def yX5_addItem : MethodName := ⟨RX5, "addItem", "(IIZ)V"⟩
abbrev cX5_followUp : ByteArray := prog_7_method_21_code
def yX5_followUp : MethodName := ⟨RX5, "followUp", "(II)V"⟩
def RX6 : String := "LetterTurns$Survey"
def TX6 : u_T := fun k => match k with
  | 0 => ("LetterTurns$Survey", "size", "I", false)
  | 1 => ("LetterTurns$Survey", "spent", "Z", false)
  | 2 => ("LetterTurns$Survey", "tally", "[I", true)
  | 3 => ("LetterTurns$Survey", "first", "[I", true)
  | 4 => ("LetterTurns$Survey", "broken", "Z", false)
  | 5 => ("LetterTurns$Survey", "state", "[J", true)
  | 6 => ("LetterTurns$Survey", "mark", "[I", true)
  | 7 => ("LetterTurns$Survey", "parent", "[I", true)
  | 8 => ("LetterTurns$Survey", "stepBy", "[I", true)
  | 9 => ("LetterTurns$Survey", "slot", "[I", true)
  | 10 => ("LetterTurns$Survey", "queue", "[I", true)
  | 11 => ("LetterTurns$Survey", "chain", "[I", true)
  | 12 => ("LetterTurns$Survey", "links", "I", false)
  | 13 => ("LetterTurns$Survey", "source", "[I", false)
  | _ => ("LetterTurns$Survey", "nextLink", "[I", false)
def tyX6 : Nat → FieldType := fun k => match k with
  | 0 => .int
  | 1 => .boolean
  | 2 => .array .int
  | 3 => .array .int
  | 4 => .boolean
  | 5 => .array .long
  | 6 => .array .int
  | 7 => .array .int
  | 8 => .array .int
  | 9 => .array .int
  | 10 => .array .int
  | 11 => .array .int
  | 12 => .int
  | 13 => .array .int
  | _ => .array .int
abbrev wsX60 : List Cond := u_ws RX6 TX6 15
theorem nmX6 : ∀ a, a < 15 → ∀ b, b < 15 → a ≠ b → (TX6 a).2.1 ≠ (TX6 b).2.1 := by decide +kernel
theorem tyX6_ok : ∀ k, k < 15 → parseFieldDescriptor (TX6 k).2.2.1 = some (tyX6 k) := by decide +kernel
abbrev cX6_init : ByteArray := prog_8_method_1_code
def yX6_init : MethodName := ⟨RX6, "<init>", "()V"⟩
abbrev cX6_explore : ByteArray := prog_8_method_2_code
def yX6_explore : MethodName := ⟨RX6, "explore", "(LLetterTurns$Talk;Z)V"⟩
abbrev cX6_isSound : ByteArray := prog_8_method_3_code
def yX6_isSound : MethodName := ⟨RX6, "isSound", "()Z"⟩
abbrev cX6_marksOf : ByteArray := prog_8_method_4_code
def yX6_marksOf : MethodName := ⟨RX6, "marksOf", "(J)I"⟩
abbrev cX6_depthOf : ByteArray := prog_8_method_5_code
def yX6_depthOf : MethodName := ⟨RX6, "depthOf", "(I)I"⟩
abbrev cX6_stepTo : ByteArray := prog_8_method_6_code
def yX6_stepTo : MethodName := ⟨RX6, "stepTo", "(II)I"⟩
abbrev cX6_fullest : ByteArray := prog_8_method_7_code
def yX6_fullest : MethodName := ⟨RX6, "fullest", "(LLetterTurns$Talk;I)I"⟩
abbrev cX6_worthMending : ByteArray := prog_8_method_8_code
def yX6_worthMending : MethodName := ⟨RX6, "worthMending", "(LLetterTurns$Talk;I)I"⟩
abbrev cX6_actsOnWay : ByteArray := prog_8_method_9_code
def yX6_actsOnWay : MethodName := ⟨RX6, "actsOnWay", "(II)I"⟩
abbrev cX6_firstBad : ByteArray := prog_8_method_10_code
def yX6_firstBad : MethodName := ⟨RX6, "firstBad", "()I"⟩
abbrev cX6_clear : ByteArray := prog_8_method_11_code
def yX6_clear : MethodName := ⟨RX6, "clear", "()V"⟩
abbrev cX6_meet : ByteArray := prog_8_method_12_code
def yX6_meet : MethodName := ⟨RX6, "meet", "(JII)I"⟩
abbrev cX6_slotOf : ByteArray := prog_8_method_13_code
def yX6_slotOf : MethodName := ⟨RX6, "slotOf", "(J)I"⟩
abbrev cX6_link : ByteArray := prog_8_method_14_code
def yX6_link : MethodName := ⟨RX6, "link", "(II)V"⟩
abbrev cX6_markForever : ByteArray := prog_8_method_15_code
def yX6_markForever : MethodName := ⟨RX6, "markForever", "()V"⟩
abbrev cX6_tell : ByteArray := prog_8_method_16_code
def yX6_tell : MethodName := ⟨RX6, "tell", "(I)V"⟩
def RX7 : String := "LetterTurns$Talk"
def TX7 : u_T := fun k => match k with
  | 0 => ("LetterTurns$Talk", "room", "I", false)
  | 1 => ("LetterTurns$Talk", "kind", "[I", true)
  | 2 => ("LetterTurns$Talk", "letter", "[I", true)
  | 3 => ("LetterTurns$Talk", "told", "[I", true)
  | 4 => ("LetterTurns$Talk", "after", "[J", true)
  | 5 => ("LetterTurns$Talk", "listed", "I", false)
  | 6 => ("LetterTurns$Talk", "seated", "[Z", true)
  | 7 => ("LetterTurns$Talk", "follow", "[I", true)
  | 8 => ("LetterTurns$Talk", "number", "[I", true)
  | _ => ("LetterTurns$Talk", "waits", "[I", true)
def tyX7 : Nat → FieldType := fun k => match k with
  | 0 => .int
  | 1 => .array .int
  | 2 => .array .int
  | 3 => .array .int
  | 4 => .array .long
  | 5 => .int
  | 6 => .array .boolean
  | 7 => .array .int
  | 8 => .array .int
  | _ => .array .int
abbrev wsX70 : List Cond := u_ws RX7 TX7 10
theorem nmX7 : ∀ a, a < 10 → ∀ b, b < 10 → a ≠ b → (TX7 a).2.1 ≠ (TX7 b).2.1 := by decide +kernel
theorem tyX7_ok : ∀ k, k < 10 → parseFieldDescriptor (TX7 k).2.2.1 = some (tyX7 k) := by decide +kernel
abbrev cX7_init : ByteArray := prog_9_method_1_code
def yX7_init : MethodName := ⟨RX7, "<init>", "()V"⟩
abbrev cX7_give : ByteArray := prog_9_method_2_code
def yX7_give : MethodName := ⟨RX7, "give", "(ILLetterTurns$Book;)V"⟩
abbrev cX7_placeIn : ByteArray := prog_9_method_3_code
def yX7_placeIn : MethodName := ⟨RX7, "placeIn", "(JI)I"⟩
abbrev cX7_contentIn : ByteArray := prog_9_method_4_code
def yX7_contentIn : MethodName := ⟨RX7, "contentIn", "(JI)I"⟩
abbrev cX7_withContent : ByteArray := prog_9_method_5_code
def yX7_withContent : MethodName := ⟨RX7, "withContent", "(JII)J"⟩
abbrev cX7_loadIn : ByteArray := prog_9_method_6_code
def yX7_loadIn : MethodName := ⟨RX7, "loadIn", "(JI)I"⟩
abbrev cX7_load : ByteArray := prog_9_method_7_code
def yX7_load : MethodName := ⟨RX7, "load", "(II)I"⟩
abbrev cX7_lyingInAll : ByteArray := prog_9_method_8_code
def yX7_lyingInAll : MethodName := ⟨RX7, "lyingInAll", "(J)I"⟩
abbrev cX7_lying : ByteArray := prog_9_method_9_code
def yX7_lying : MethodName := ⟨RX7, "lying", "(JII)I"⟩
abbrev cX7_canTake : ByteArray := prog_9_method_10_code
def yX7_canTake : MethodName := ⟨RX7, "canTake", "(III)Z"⟩
abbrev cX7_taken : ByteArray := prog_9_method_11_code
def yX7_taken : MethodName := ⟨RX7, "taken", "(III)I"⟩
abbrev cX7_put : ByteArray := prog_9_method_12_code
def yX7_put : MethodName := ⟨RX7, "put", "(III)I"⟩
abbrev cX7_list : ByteArray := prog_9_method_13_code
def yX7_list : MethodName := ⟨RX7, "list", "(J)I"⟩
abbrev cX7_listAct : ByteArray := prog_9_method_14_code
def yX7_listAct : MethodName := ⟨RX7, "listAct", "(JII)V"⟩
abbrev cX7_listStep : ByteArray := prog_9_method_15_code
def yX7_listStep : MethodName := ⟨RX7, "listStep", "(IJ)V"⟩
abbrev cX7_marks : ByteArray := prog_9_method_16_code
def yX7_marks : MethodName := ⟨RX7, "marks", "(JI)I"⟩
abbrev cX7_mayAt : ByteArray := prog_9_method_17_code
def yX7_mayAt : MethodName := ⟨RX7, "mayAt", "(JI)I"⟩
abbrev cX7_isBarred : ByteArray := prog_9_method_18_code
def yX7_isBarred : MethodName := ⟨RX7, "isBarred", "(JIII)Z"⟩
def RX8 : String := "LetterTurns"
def TX8 : u_T := fun k => match k with
  | 0 => ("LetterTurns", "page", "LLetterTurns$Page;", true)
  | 1 => ("LetterTurns", "reader", "LLetterTurns$Reader;", true)
  | 2 => ("LetterTurns", "folder", "LLetterTurns$Folder;", true)
  | 3 => ("LetterTurns", "contest", "LLetterTurns$Contest;", true)
  | 4 => ("LetterTurns", "books", "[LLetterTurns$Book;", true)
  | 5 => ("LetterTurns", "bookCount", "I", false)
  | 6 => ("LetterTurns", "ones", "[LLetterTurns$Page;", true)
  | 7 => ("LetterTurns", "oneCount", "I", false)
  | 8 => ("LetterTurns", "seats", "[I", true)
  | 9 => ("LetterTurns", "talk", "LLetterTurns$Talk;", true)
  | 10 => ("LetterTurns", "state", "J", false)
  | 11 => ("LetterTurns", "stepsDone", "I", false)
  | 12 => ("LetterTurns", "survey", "LLetterTurns$Survey;", true)
  | 13 => ("LetterTurns", "surveyed", "Z", false)
  | 14 => ("LetterTurns", "mendSought", "Z", false)
  | 15 => ("LetterTurns", "mended", "[I", true)
  | 16 => ("LetterTurns", "worth", "[I", true)
  | _ => ("LetterTurns", "mendsDone", "I", false)
def tyX8 : Nat → FieldType := fun k => match k with
  | 0 => .object "LetterTurns$Page"
  | 1 => .object "LetterTurns$Reader"
  | 2 => .object "LetterTurns$Folder"
  | 3 => .object "LetterTurns$Contest"
  | 4 => .array (.object "LetterTurns$Book")
  | 5 => .int
  | 6 => .array (.object "LetterTurns$Page")
  | 7 => .int
  | 8 => .array .int
  | 9 => .object "LetterTurns$Talk"
  | 10 => .long
  | 11 => .int
  | 12 => .object "LetterTurns$Survey"
  | 13 => .boolean
  | 14 => .boolean
  | 15 => .array .int
  | 16 => .array .int
  | _ => .int
abbrev wsX80 : List Cond := u_ws RX8 TX8 18
theorem nmX8 : ∀ a, a < 18 → ∀ b, b < 18 → a ≠ b → (TX8 a).2.1 ≠ (TX8 b).2.1 := by decide +kernel
theorem tyX8_ok : ∀ k, k < 18 → parseFieldDescriptor (TX8 k).2.2.1 = some (tyX8 k) := by decide +kernel
abbrev cX8_init : ByteArray := prog_1_method_1_code
def yX8_init : MethodName := ⟨RX8, "<init>", "()V"⟩
abbrev cX8_letters : ByteArray := prog_1_method_2_code
def yX8_letters : MethodName := ⟨RX8, "letters", "(J)I"⟩
abbrev cX8_blank : ByteArray := prog_1_method_3_code
def yX8_blank : MethodName := ⟨RX8, "blank", "()I"⟩
abbrev cX8_fault : ByteArray := prog_1_method_4_code
def yX8_fault : MethodName := ⟨RX8, "fault", "(I)I"⟩
abbrev cX8_book : ByteArray := prog_1_method_5_code
def yX8_book : MethodName := ⟨RX8, "book", "()I"⟩
abbrev cX8_one : ByteArray := prog_1_method_6_code
def yX8_one : MethodName := ⟨RX8, "one", "()I"⟩
abbrev cX8_own : ByteArray := prog_1_method_7_code
def yX8_own : MethodName := ⟨RX8, "own", "(II)I"⟩
abbrev cX8_twin : ByteArray := prog_1_method_8_code
def yX8_twin : MethodName := ⟨RX8, "twin", "(I)I"⟩
abbrev cX8_about : ByteArray := prog_1_method_9_code
def yX8_about : MethodName := ⟨RX8, "about", "(II)I"⟩
abbrev cX8_act : ByteArray := prog_1_method_10_code
def yX8_act : MethodName := ⟨RX8, "act", "(II)I"⟩
abbrev cX8_follow : ByteArray := prog_1_method_11_code
def yX8_follow : MethodName := ⟨RX8, "follow", "(II)I"⟩
abbrev cX8_same : ByteArray := prog_1_method_12_code
def yX8_same : MethodName := ⟨RX8, "same", "(II)I"⟩
abbrev cX8_apart : ByteArray := prog_1_method_13_code
def yX8_apart : MethodName := ⟨RX8, "apart", "(III)I"⟩
abbrev cX8_watch : ByteArray := prog_1_method_14_code
def yX8_watch : MethodName := ⟨RX8, "watch", "(I)I"⟩
abbrev cX8_seat : ByteArray := prog_1_method_15_code
def yX8_seat : MethodName := ⟨RX8, "seat", "(II)I"⟩
abbrev cX8_post : ByteArray := prog_1_method_16_code
def yX8_post : MethodName := ⟨RX8, "post", "(III)I"⟩
abbrev cX8_as : ByteArray := prog_1_method_17_code
def yX8_as : MethodName := ⟨RX8, "as", "(III)I"⟩
abbrev cX8_room : ByteArray := prog_1_method_18_code
def yX8_room : MethodName := ⟨RX8, "room", "(I)I"⟩
abbrev cX8_begin : ByteArray := prog_1_method_19_code
def yX8_begin : MethodName := ⟨RX8, "begin", "()I"⟩
abbrev cX8_steps : ByteArray := prog_1_method_20_code
def yX8_steps : MethodName := ⟨RX8, "steps", "()I"⟩
abbrev cX8_step : ByteArray := prog_1_method_21_code
def yX8_step : MethodName := ⟨RX8, "step", "(I)I"⟩
abbrev cX8_go : ByteArray := prog_1_method_22_code
def yX8_go : MethodName := ⟨RX8, "go", "(I)I"⟩
abbrev cX8_run : ByteArray := prog_1_method_23_code
def yX8_run : MethodName := ⟨RX8, "run", "(II)I"⟩
abbrev cX8_at : ByteArray := prog_1_method_24_code
def yX8_at : MethodName := ⟨RX8, "at", "(I)I"⟩
abbrev cX8_lies : ByteArray := prog_1_method_25_code
def yX8_lies : MethodName := ⟨RX8, "lies", "(III)I"⟩
abbrev cX8_now : ByteArray := prog_1_method_26_code
def yX8_now : MethodName := ⟨RX8, "now", "(I)I"⟩
abbrev cX8_met : ByteArray := prog_1_method_27_code
def yX8_met : MethodName := ⟨RX8, "met", "()I"⟩
abbrev cX8_find : ByteArray := prog_1_method_28_code
def yX8_find : MethodName := ⟨RX8, "find", "(II)I"⟩
abbrev cX8_most : ByteArray := prog_1_method_29_code
def yX8_most : MethodName := ⟨RX8, "most", "(II)I"⟩
abbrev cX8_mend : ByteArray := prog_1_method_30_code
def yX8_mend : MethodName := ⟨RX8, "mend", "(I)I"⟩
abbrev cX8_count : ByteArray := prog_1_method_31_code
def yX8_count : MethodName := ⟨RX8, "count", "(I)I"⟩
abbrev cX8_digest : ByteArray := prog_1_method_32_code
def yX8_digest : MethodName := ⟨RX8, "digest", "()J"⟩
abbrev cX8_with : ByteArray := prog_1_method_33_code
def yX8_with : MethodName := ⟨RX8, "with", "(JJ)J"⟩
abbrev cX8_withBook : ByteArray := prog_1_method_34_code
def yX8_withBook : MethodName := ⟨RX8, "withBook", "(JI)J"⟩
abbrev cX8_withPost : ByteArray := prog_1_method_35_code
def yX8_withPost : MethodName := ⟨RX8, "withPost", "(JI)J"⟩
abbrev cX8_isBook : ByteArray := prog_1_method_36_code
def yX8_isBook : MethodName := ⟨RX8, "isBook", "(I)Z"⟩
abbrev cX8_isOffice : ByteArray := prog_1_method_37_code
def yX8_isOffice : MethodName := ⟨RX8, "isOffice", "(I)Z"⟩
abbrev cX8_isPost : ByteArray := prog_1_method_38_code
def yX8_isPost : MethodName := ⟨RX8, "isPost", "(II)Z"⟩
abbrev cX8_isItem : ByteArray := prog_1_method_39_code
def yX8_isItem : MethodName := ⟨RX8, "isItem", "(I)Z"⟩
abbrev cX8_isSuch : ByteArray := prog_1_method_40_code
def yX8_isSuch : MethodName := ⟨RX8, "isSuch", "(II)Z"⟩
abbrev cX8_postOf : ByteArray := prog_1_method_41_code
def yX8_postOf : MethodName := ⟨RX8, "postOf", "(II)I"⟩
abbrev cX8_sortOf : ByteArray := prog_1_method_42_code
def yX8_sortOf : MethodName := ⟨RX8, "sortOf", "(I)I"⟩
abbrev cX8_codeOf : ByteArray := prog_1_method_43_code
def yX8_codeOf : MethodName := ⟨RX8, "codeOf", "(I)I"⟩
abbrev cX8_readWhole : ByteArray := prog_1_method_44_code
def yX8_readWhole : MethodName := ⟨RX8, "readWhole", "(I)Z"⟩
abbrev cX8_keep : ByteArray := prog_1_method_45_code
def yX8_keep : MethodName := ⟨RX8, "keep", "(LLetterTurns$Book;)I"⟩
abbrev cX8_machineOf : ByteArray := prog_1_method_46_code
def yX8_machineOf : MethodName := ⟨RX8, "machineOf", "(I)LLetterTurns$Machine;"⟩
abbrev cX8_beginAnew : ByteArray := prog_1_method_47_code
def yX8_beginAnew : MethodName := ⟨RX8, "beginAnew", "()V"⟩
abbrev cX8_changeTalk : ByteArray := prog_1_method_48_code
def yX8_changeTalk : MethodName := ⟨RX8, "changeTalk", "()V"⟩
abbrev cX8_doListed : ByteArray := prog_1_method_49_code
def yX8_doListed : MethodName := ⟨RX8, "doListed", "(I)V"⟩
abbrev cX8_surveyNow : ByteArray := prog_1_method_50_code
def yX8_surveyNow : MethodName := ⟨RX8, "surveyNow", "()LLetterTurns$Survey;"⟩
abbrev cX8_seekMend : ByteArray := prog_1_method_51_code
def yX8_seekMend : MethodName := ⟨RX8, "seekMend", "()V"⟩
abbrev cX8_mendsAct : ByteArray := prog_1_method_52_code
def yX8_mendsAct : MethodName := ⟨RX8, "mendsAct", "(II)Z"⟩
def RX9 : String := "LetterTurnsModel"
def TX9 : u_T := fun k => match k with
  | 0 => ("LetterTurnsModel", "pageLength", "I", false)
  | 1 => ("LetterTurnsModel", "page", "[B", true)
  | 2 => ("LetterTurnsModel", "books", "I", false)
  | 3 => ("LetterTurnsModel", "actOf", "[I", true)
  | 4 => ("LetterTurnsModel", "followOf", "[I", true)
  | 5 => ("LetterTurnsModel", "actMany", "[I", true)
  | 6 => ("LetterTurnsModel", "ones", "I", false)
  | 7 => ("LetterTurnsModel", "oneText", "[B", true)
  | 8 => ("LetterTurnsModel", "oneSize", "[I", true)
  | 9 => ("LetterTurnsModel", "seatOf", "[I", true)
  | 10 => ("LetterTurnsModel", "kindOf", "[I", true)
  | 11 => ("LetterTurnsModel", "roomNow", "I", false)
  | 12 => ("LetterTurnsModel", "stepsDone", "I", false)
  | 13 => ("LetterTurnsModel", "mendDone", "I", false)
  | 14 => ("LetterTurnsModel", "faultAt", "I", false)
  | 15 => ("LetterTurnsModel", "isWhole", "Z", false)
  | 16 => ("LetterTurnsModel", "rowFirst", "[I", true)
  | 17 => ("LetterTurnsModel", "rowLast", "[I", true)
  | 18 => ("LetterTurnsModel", "rowNone", "[Z", true)
  | 19 => ("LetterTurnsModel", "someFirst", "[I", true)
  | 20 => ("LetterTurnsModel", "someLast", "[I", true)
  | 21 => ("LetterTurnsModel", "someNone", "[Z", true)
  | 22 => ("LetterTurnsModel", "deep", "I", false)
  | 23 => ("LetterTurnsModel", "isIdle", "Z", false)
  | 24 => ("LetterTurnsModel", "setOf", "[I", true)
  | 25 => ("LetterTurnsModel", "numberOf", "[I", true)
  | 26 => ("LetterTurnsModel", "sets", "I", false)
  | 27 => ("LetterTurnsModel", "leadsTo", "[I", true)
  | 28 => ("LetterTurnsModel", "isEnd", "[Z", true)
  | 29 => ("LetterTurnsModel", "classOf", "[I", true)
  | 30 => ("LetterTurnsModel", "classThen", "[I", true)
  | 31 => ("LetterTurnsModel", "pairA", "[I", true)
  | 32 => ("LetterTurnsModel", "pairB", "[I", true)
  | 33 => ("LetterTurnsModel", "pairFrom", "[I", true)
  | 34 => ("LetterTurnsModel", "pairAct", "[I", true)
  | 35 => ("LetterTurnsModel", "pairTable", "[I", true)
  | 36 => ("LetterTurnsModel", "pairs", "I", false)
  | 37 => ("LetterTurnsModel", "found", "I", false)
  | 38 => ("LetterTurnsModel", "placeNow", "[I", true)
  | 39 => ("LetterTurnsModel", "postNow", "[I", true)
  | 40 => ("LetterTurnsModel", "otherOffice", "I", false)
  | 41 => ("LetterTurnsModel", "otherAct", "I", false)
  | 42 => ("LetterTurnsModel", "otherLetter", "I", false)
  | 43 => ("LetterTurnsModel", "stepOf", "[I", true)
  | 44 => ("LetterTurnsModel", "stepMany", "I", false)
  | 45 => ("LetterTurnsModel", "stateOf", "[J", true)
  | 46 => ("LetterTurnsModel", "fromOf", "[I", true)
  | 47 => ("LetterTurnsModel", "byOf", "[I", true)
  | 48 => ("LetterTurnsModel", "isFine", "[Z", true)
  | 49 => ("LetterTurnsModel", "stateTable", "[I", true)
  | 50 => ("LetterTurnsModel", "states", "I", false)
  | 51 => ("LetterTurnsModel", "isSpent", "Z", false)
  | 52 => ("LetterTurnsModel", "isMet", "Z", false)
  | 53 => ("LetterTurnsModel", "isFineLaid", "Z", false)
  | 54 => ("LetterTurnsModel", "leadFrom", "[I", true)
  | 55 => ("LetterTurnsModel", "leadList", "[I", true)
  | 56 => ("LetterTurnsModel", "leads", "I", false)
  | _ => ("LetterTurnsModel", "h", "J", false)
def tyX9 : Nat → FieldType := fun k => match k with
  | 0 => .int
  | 1 => .array .byte
  | 2 => .int
  | 3 => .array .int
  | 4 => .array .int
  | 5 => .array .int
  | 6 => .int
  | 7 => .array .byte
  | 8 => .array .int
  | 9 => .array .int
  | 10 => .array .int
  | 11 => .int
  | 12 => .int
  | 13 => .int
  | 14 => .int
  | 15 => .boolean
  | 16 => .array .int
  | 17 => .array .int
  | 18 => .array .boolean
  | 19 => .array .int
  | 20 => .array .int
  | 21 => .array .boolean
  | 22 => .int
  | 23 => .boolean
  | 24 => .array .int
  | 25 => .array .int
  | 26 => .int
  | 27 => .array .int
  | 28 => .array .boolean
  | 29 => .array .int
  | 30 => .array .int
  | 31 => .array .int
  | 32 => .array .int
  | 33 => .array .int
  | 34 => .array .int
  | 35 => .array .int
  | 36 => .int
  | 37 => .int
  | 38 => .array .int
  | 39 => .array .int
  | 40 => .int
  | 41 => .int
  | 42 => .int
  | 43 => .array .int
  | 44 => .int
  | 45 => .array .long
  | 46 => .array .int
  | 47 => .array .int
  | 48 => .array .boolean
  | 49 => .array .int
  | 50 => .int
  | 51 => .boolean
  | 52 => .boolean
  | 53 => .boolean
  | 54 => .array .int
  | 55 => .array .int
  | 56 => .int
  | _ => .long
abbrev wsX90 : List Cond := u_ws RX9 TX9 58
theorem nmX9 : ∀ a, a < 58 → ∀ b, b < 58 → a ≠ b → (TX9 a).2.1 ≠ (TX9 b).2.1 := by decide +kernel
theorem tyX9_ok : ∀ k, k < 58 → parseFieldDescriptor (TX9 k).2.2.1 = some (tyX9 k) := by decide +kernel
abbrev cX9_init : ByteArray := prog_11_method_1_code
def yX9_init : MethodName := ⟨RX9, "<init>", "()V"⟩
abbrev cX9_within : ByteArray := prog_11_method_3_code
def yX9_within : MethodName := ⟨RX9, "within", "(III)Z"⟩
abbrev cX9_letters : ByteArray := prog_11_method_5_code
def yX9_letters : MethodName := ⟨RX9, "letters", "(J)I"⟩
abbrev cX9_blank : ByteArray := prog_11_method_6_code
def yX9_blank : MethodName := ⟨RX9, "blank", "()I"⟩
abbrev cX9_isOfficeSign : ByteArray := prog_11_method_7_code
def yX9_isOfficeSign : MethodName := ⟨RX9, "isOfficeSign", "(I)Z"⟩
abbrev cX9_isLetterSign : ByteArray := prog_11_method_8_code
def yX9_isLetterSign : MethodName := ⟨RX9, "isLetterSign", "(I)Z"⟩
abbrev cX9_readPage : ByteArray := prog_11_method_9_code
def yX9_readPage : MethodName := ⟨RX9, "readPage", "(I)V"⟩
abbrev cX9_fault : ByteArray := prog_11_method_10_code
def yX9_fault : MethodName := ⟨RX9, "fault", "(I)I"⟩
abbrev cX9_newRow : ByteArray := prog_11_method_11_code
def yX9_newRow : MethodName := ⟨RX9, "newRow", "()V"⟩
abbrev cX9_openGroup : ByteArray := prog_11_method_12_code
def yX9_openGroup : MethodName := ⟨RX9, "openGroup", "()V"⟩
abbrev cX9_endRow : ByteArray := prog_11_method_13_code
def yX9_endRow : MethodName := ⟨RX9, "endRow", "()V"⟩
abbrev cX9_join : ByteArray := prog_11_method_14_code
def yX9_join : MethodName := ⟨RX9, "join", "(III)V"⟩
abbrev cX9_item : ByteArray := prog_11_method_15_code
def yX9_item : MethodName := ⟨RX9, "item", "(IIIZ)V"⟩
abbrev cX9_lay : ByteArray := prog_11_method_16_code
def yX9_lay : MethodName := ⟨RX9, "lay", "(IIII)V"⟩
abbrev cX9_signAt : ByteArray := prog_11_method_17_code
def yX9_signAt : MethodName := ⟨RX9, "signAt", "(II)I"⟩
abbrev cX9_layAct : ByteArray := prog_11_method_18_code
def yX9_layAct : MethodName := ⟨RX9, "layAct", "(IIIII)V"⟩
abbrev cX9_book : ByteArray := prog_11_method_19_code
def yX9_book : MethodName := ⟨RX9, "book", "()I"⟩
abbrev cX9_layIdle : ByteArray := prog_11_method_20_code
def yX9_layIdle : MethodName := ⟨RX9, "layIdle", "(I)V"⟩
abbrev cX9_one : ByteArray := prog_11_method_21_code
def yX9_one : MethodName := ⟨RX9, "one", "()I"⟩
abbrev cX9_isOffice : ByteArray := prog_11_method_22_code
def yX9_isOffice : MethodName := ⟨RX9, "isOffice", "(I)Z"⟩
abbrev cX9_isBook : ByteArray := prog_11_method_23_code
def yX9_isBook : MethodName := ⟨RX9, "isBook", "(I)Z"⟩
abbrev cX9_own : ByteArray := prog_11_method_24_code
def yX9_own : MethodName := ⟨RX9, "own", "(II)I"⟩
abbrev cX9_twin : ByteArray := prog_11_method_25_code
def yX9_twin : MethodName := ⟨RX9, "twin", "(I)I"⟩
abbrev cX9_asNumber : ByteArray := prog_11_method_26_code
def yX9_asNumber : MethodName := ⟨RX9, "asNumber", "(I)I"⟩
abbrev cX9_asAct : ByteArray := prog_11_method_27_code
def yX9_asAct : MethodName := ⟨RX9, "asAct", "(I)I"⟩
abbrev cX9_nextOf : ByteArray := prog_11_method_28_code
def yX9_nextOf : MethodName := ⟨RX9, "nextOf", "(II)I"⟩
abbrev cX9_lead : ByteArray := prog_11_method_29_code
def yX9_lead : MethodName := ⟨RX9, "lead", "(III)I"⟩
abbrev cX9_meetSets : ByteArray := prog_11_method_30_code
def yX9_meetSets : MethodName := ⟨RX9, "meetSets", "(I)V"⟩
abbrev cX9_areAlike : ByteArray := prog_11_method_31_code
def yX9_areAlike : MethodName := ⟨RX9, "areAlike", "(II)Z"⟩
abbrev cX9_fewest : ByteArray := prog_11_method_32_code
def yX9_fewest : MethodName := ⟨RX9, "fewest", "(I)I"⟩
abbrev cX9_endsOf : ByteArray := prog_11_method_33_code
def yX9_endsOf : MethodName := ⟨RX9, "endsOf", "(I)I"⟩
abbrev cX9_aboutOf : ByteArray := prog_11_method_34_code
def yX9_aboutOf : MethodName := ⟨RX9, "aboutOf", "(II)I"⟩
abbrev cX9_about : ByteArray := prog_11_method_35_code
def yX9_about : MethodName := ⟨RX9, "about", "(II)I"⟩
abbrev cX9_act : ByteArray := prog_11_method_36_code
def yX9_act : MethodName := ⟨RX9, "act", "(II)I"⟩
abbrev cX9_follow : ByteArray := prog_11_method_37_code
def yX9_follow : MethodName := ⟨RX9, "follow", "(II)I"⟩
abbrev cX9_meetPair : ByteArray := prog_11_method_38_code
def yX9_meetPair : MethodName := ⟨RX9, "meetPair", "(IIII)Z"⟩
abbrev cX9_ends : ByteArray := prog_11_method_39_code
def yX9_ends : MethodName := ⟨RX9, "ends", "(II)Z"⟩
abbrev cX9_seekApart : ByteArray := prog_11_method_40_code
def yX9_seekApart : MethodName := ⟨RX9, "seekApart", "(II)V"⟩
abbrev cX9_same : ByteArray := prog_11_method_41_code
def yX9_same : MethodName := ⟨RX9, "same", "(II)I"⟩
abbrev cX9_apart : ByteArray := prog_11_method_42_code
def yX9_apart : MethodName := ⟨RX9, "apart", "(III)I"⟩
abbrev cX9_watch : ByteArray := prog_11_method_43_code
def yX9_watch : MethodName := ⟨RX9, "watch", "(I)I"⟩
abbrev cX9_beginAnew : ByteArray := prog_11_method_44_code
def yX9_beginAnew : MethodName := ⟨RX9, "beginAnew", "()V"⟩
abbrev cX9_seat : ByteArray := prog_11_method_45_code
def yX9_seat : MethodName := ⟨RX9, "seat", "(II)I"⟩
abbrev cX9_isPost : ByteArray := prog_11_method_46_code
def yX9_isPost : MethodName := ⟨RX9, "isPost", "(II)Z"⟩
abbrev cX9_post : ByteArray := prog_11_method_47_code
def yX9_post : MethodName := ⟨RX9, "post", "(III)I"⟩
abbrev cX9_as : ByteArray := prog_11_method_48_code
def yX9_as : MethodName := ⟨RX9, "as", "(III)I"⟩
abbrev cX9_room : ByteArray := prog_11_method_49_code
def yX9_room : MethodName := ⟨RX9, "room", "(I)I"⟩
abbrev cX9_begin : ByteArray := prog_11_method_50_code
def yX9_begin : MethodName := ⟨RX9, "begin", "()I"⟩
abbrev cX9_sizeOf : ByteArray := prog_11_method_51_code
def yX9_sizeOf : MethodName := ⟨RX9, "sizeOf", "(I)I"⟩
abbrev cX9_letterAt : ByteArray := prog_11_method_52_code
def yX9_letterAt : MethodName := ⟨RX9, "letterAt", "(II)I"⟩
abbrev cX9_without : ByteArray := prog_11_method_53_code
def yX9_without : MethodName := ⟨RX9, "without", "(II)I"⟩
abbrev cX9_behind : ByteArray := prog_11_method_54_code
def yX9_behind : MethodName := ⟨RX9, "behind", "(II)I"⟩
abbrev cX9_among : ByteArray := prog_11_method_55_code
def yX9_among : MethodName := ⟨RX9, "among", "(II)I"⟩
abbrev cX9_placeOf : ByteArray := prog_11_method_56_code
def yX9_placeOf : MethodName := ⟨RX9, "placeOf", "(II)I"⟩
abbrev cX9_actOfSeat : ByteArray := prog_11_method_57_code
def yX9_actOfSeat : MethodName := ⟨RX9, "actOfSeat", "(II)I"⟩
abbrev cX9_followNow : ByteArray := prog_11_method_58_code
def yX9_followNow : MethodName := ⟨RX9, "followNow", "(I)I"⟩
abbrev cX9_laySteps : ByteArray := prog_11_method_59_code
def yX9_laySteps : MethodName := ⟨RX9, "laySteps", "()V"⟩
abbrev cX9_layStep : ByteArray := prog_11_method_60_code
def yX9_layStep : MethodName := ⟨RX9, "layStep", "(II)V"⟩
abbrev cX9_doStep : ByteArray := prog_11_method_61_code
def yX9_doStep : MethodName := ⟨RX9, "doStep", "(I)V"⟩
abbrev cX9_steps : ByteArray := prog_11_method_62_code
def yX9_steps : MethodName := ⟨RX9, "steps", "()I"⟩
abbrev cX9_step : ByteArray := prog_11_method_63_code
def yX9_step : MethodName := ⟨RX9, "step", "(I)I"⟩
abbrev cX9_go : ByteArray := prog_11_method_64_code
def yX9_go : MethodName := ⟨RX9, "go", "(I)I"⟩
abbrev cX9_run : ByteArray := prog_11_method_65_code
def yX9_run : MethodName := ⟨RX9, "run", "(II)I"⟩
abbrev cX9_at : ByteArray := prog_11_method_66_code
def yX9_at : MethodName := ⟨RX9, "at", "(I)I"⟩
abbrev cX9_lies : ByteArray := prog_11_method_67_code
def yX9_lies : MethodName := ⟨RX9, "lies", "(III)I"⟩
abbrev cX9_allAtEnds : ByteArray := prog_11_method_68_code
def yX9_allAtEnds : MethodName := ⟨RX9, "allAtEnds", "()Z"⟩
abbrev cX9_postsEmpty : ByteArray := prog_11_method_69_code
def yX9_postsEmpty : MethodName := ⟨RX9, "postsEmpty", "()Z"⟩
abbrev cX9_waitsFor : ByteArray := prog_11_method_70_code
def yX9_waitsFor : MethodName := ⟨RX9, "waitsFor", "(II)I"⟩
abbrev cX9_onlyWaits : ByteArray := prog_11_method_71_code
def yX9_onlyWaits : MethodName := ⟨RX9, "onlyWaits", "(I)Z"⟩
abbrev cX9_isWrong : ByteArray := prog_11_method_72_code
def yX9_isWrong : MethodName := ⟨RX9, "isWrong", "(I)Z"⟩
abbrev cX9_isSo : ByteArray := prog_11_method_73_code
def yX9_isSo : MethodName := ⟨RX9, "isSo", "(I)Z"⟩
abbrev cX9_asState : ByteArray := prog_11_method_74_code
def yX9_asState : MethodName := ⟨RX9, "asState", "()J"⟩
abbrev cX9_layState : ByteArray := prog_11_method_75_code
def yX9_layState : MethodName := ⟨RX9, "layState", "(J)V"⟩
abbrev cX9_stateNumber : ByteArray := prog_11_method_76_code
def yX9_stateNumber : MethodName := ⟨RX9, "stateNumber", "(J)I"⟩
abbrev cX9_meetAll : ByteArray := prog_11_method_77_code
def yX9_meetAll : MethodName := ⟨RX9, "meetAll", "()V"⟩
abbrev cX9_meet : ByteArray := prog_11_method_78_code
def yX9_meet : MethodName := ⟨RX9, "meet", "(JII)I"⟩
abbrev cX9_layFine : ByteArray := prog_11_method_79_code
def yX9_layFine : MethodName := ⟨RX9, "layFine", "()V"⟩
abbrev cX9_leadsToFine : ByteArray := prog_11_method_80_code
def yX9_leadsToFine : MethodName := ⟨RX9, "leadsToFine", "(I)Z"⟩
abbrev cX9_isStateSo : ByteArray := prog_11_method_81_code
def yX9_isStateSo : MethodName := ⟨RX9, "isStateSo", "(II)Z"⟩
abbrev cX9_now : ByteArray := prog_11_method_82_code
def yX9_now : MethodName := ⟨RX9, "now", "(I)I"⟩
abbrev cX9_met : ByteArray := prog_11_method_83_code
def yX9_met : MethodName := ⟨RX9, "met", "()I"⟩
abbrev cX9_find : ByteArray := prog_11_method_84_code
def yX9_find : MethodName := ⟨RX9, "find", "(II)I"⟩
abbrev cX9_most : ByteArray := prog_11_method_85_code
def yX9_most : MethodName := ⟨RX9, "most", "(II)I"⟩
abbrev cX9_isWell : ByteArray := prog_11_method_86_code
def yX9_isWell : MethodName := ⟨RX9, "isWell", "()Z"⟩
abbrev cX9_mend : ByteArray := prog_11_method_87_code
def yX9_mend : MethodName := ⟨RX9, "mend", "(I)I"⟩
abbrev cX9_lettersLying : ByteArray := prog_11_method_88_code
def yX9_lettersLying : MethodName := ⟨RX9, "lettersLying", "()I"⟩
abbrev cX9_howMany : ByteArray := prog_11_method_89_code
def yX9_howMany : MethodName := ⟨RX9, "howMany", "(I)I"⟩
abbrev cX9_count : ByteArray := prog_11_method_90_code
def yX9_count : MethodName := ⟨RX9, "count", "(I)I"⟩
abbrev cX9_mix : ByteArray := prog_11_method_91_code
def yX9_mix : MethodName := ⟨RX9, "mix", "(J)V"⟩
abbrev cX9_digest : ByteArray := prog_11_method_92_code
def yX9_digest : MethodName := ⟨RX9, "digest", "()J"⟩
def RJx8e188 : String := "java/lang/Cloneable"
def TJx8e188 : u_T := fun k => match k with
  | _ => ("", "", "", false)
def tyJx8e188 : Nat → FieldType := fun k => match k with
  | _ => .int
abbrev wsJx8e1880 : List Cond := u_ws RJx8e188 TJx8e188 0
theorem nmJx8e188 : ∀ a, a < 0 → ∀ b, b < 0 → a ≠ b → (TJx8e188 a).2.1 ≠ (TJx8e188 b).2.1 := by decide +kernel
theorem tyJx8e188_ok : ∀ k, k < 0 → parseFieldDescriptor (TJx8e188 k).2.2.1 = some (tyJx8e188 k) := by decide +kernel
def RJ9 : String := "java/lang/Math"
def TJ9 : u_T := fun k => match k with
  | _ => ("", "", "", false)
def tyJ9 : Nat → FieldType := fun k => match k with
  | _ => .int
abbrev wsJ90 : List Cond := u_ws RJ9 TJ9 0
theorem nmJ9 : ∀ a, a < 0 → ∀ b, b < 0 → a ≠ b → (TJ9 a).2.1 ≠ (TJ9 b).2.1 := by decide +kernel
theorem tyJ9_ok : ∀ k, k < 0 → parseFieldDescriptor (TJ9 k).2.2.1 = some (tyJ9 k) := by decide +kernel
abbrev cJ9_max_7cf53 : ByteArray := prog_13_method_65_code
def yJ9_max_7cf53 : MethodName := ⟨RJ9, "max", "(II)I"⟩
abbrev cJ9_min_7cf53 : ByteArray := prog_13_method_69_code
def yJ9_min_7cf53 : MethodName := ⟨RJ9, "min", "(II)I"⟩
def RJ10 : String := "java/lang/System"
def TJ10 : u_T := fun k => match k with
  | _ => ("", "", "", false)
def tyJ10 : Nat → FieldType := fun k => match k with
  | _ => .int
abbrev wsJ100 : List Cond := u_ws RJ10 TJ10 0
theorem nmJ10 : ∀ a, a < 0 → ∀ b, b < 0 → a ≠ b → (TJ10 a).2.1 ≠ (TJ10 b).2.1 := by decide +kernel
theorem tyJ10_ok : ∀ k, k < 0 → parseFieldDescriptor (TJ10 k).2.2.1 = some (tyJ10 k) := by decide +kernel
def RJ7 : String := "java/util/Arrays"
def TJ7 : u_T := fun k => match k with
  | _ => ("", "", "", false)
def tyJ7 : Nat → FieldType := fun k => match k with
  | _ => .int
abbrev wsJ70 : List Cond := u_ws RJ7 TJ7 0
theorem nmJ7 : ∀ a, a < 0 → ∀ b, b < 0 → a ≠ b → (TJ7 a).2.1 ≠ (TJ7 b).2.1 := by decide +kernel
theorem tyJ7_ok : ∀ k, k < 0 → parseFieldDescriptor (TJ7 k).2.2.1 = some (tyJ7 k) := by decide +kernel
abbrev cJ7_fill_53178 : ByteArray := prog_15_method_103_code
def yJ7_fill_53178 : MethodName := ⟨RJ7, "fill", "([II)V"⟩
abbrev cJ7_copyOf_59c91 : ByteArray := prog_15_method_123_code
def yJ7_copyOf_59c91 : MethodName := ⟨RJ7, "copyOf", "([II)[I"⟩
def RL : String := "LetterTurnsLaw"
abbrev cL_law : ByteArray := code
def yL_law : MethodName := ⟨RL, "law", "([I)Z"⟩
abbrev vwCl : List vw_C := [(RX0, TX0, 4), (RX1, TX1, 11), (RX2, TX2, 7), (RX3, TX3, 3), (RX4, TX4, 2), (RX5, TX5, 12), (RX6, TX6, 15), (RX7, TX7, 10), (RX8, TX8, 18), (RX9, TX9, 58)]
