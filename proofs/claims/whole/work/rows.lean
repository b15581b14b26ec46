section
-- ===== PART A: goes FIRST, ahead of the names: the tables' words, and 'selects' of the private methods out of them =====
/-- a private method of a class that the tables say can be made, by its rows of tables_1 -/
def lw_okq (q : MethodName × Nat) : Prop := (q.1.cls ≠ "java/lang/invoke/MethodHandle" ∧ q.1.cls ≠ "java/lang/invoke/VarHandle") ∧ Cond.instantiable q.1.cls q.2 ∈ tables_1 ∧ Cond.privateMethod q.1 ∈ tables_1 ∧ Cond.instanceMethod q.1 ∈ tables_1
theorem lw_p0 : lw_okq (⟨"WalkFrames$History", "dropOldest", "()V"⟩, 2) := ⟨⟨by decide +kernel, by decide +kernel⟩, List.mem_of_getElem? (i := 174) (by decide +kernel), List.mem_of_getElem? (i := 272) (by decide +kernel), List.mem_of_getElem? (i := 273) (by decide +kernel)⟩
theorem lw_p1 : lw_okq (⟨"WalkFrames$Letters", "addFromBag", "(IILWalkFrames$Line;)V"⟩, 9) := ⟨⟨by decide +kernel, by decide +kernel⟩, List.mem_of_getElem? (i := 54) (by decide +kernel), List.mem_of_getElem? (i := 333) (by decide +kernel), List.mem_of_getElem? (i := 334) (by decide +kernel)⟩
theorem lw_p2 : lw_okq (⟨"WalkFrames$Office", "sort", "(I)Z"⟩, 8) := ⟨⟨by decide +kernel, by decide +kernel⟩, List.mem_of_getElem? (i := 28) (by decide +kernel), List.mem_of_getElem? (i := 348) (by decide +kernel), List.mem_of_getElem? (i := 349) (by decide +kernel)⟩
theorem lw_p3 : lw_okq (⟨"WalkFrames$Office", "frameFor", "(I)I"⟩, 8) := ⟨⟨by decide +kernel, by decide +kernel⟩, List.mem_of_getElem? (i := 28) (by decide +kernel), List.mem_of_getElem? (i := 352) (by decide +kernel), List.mem_of_getElem? (i := 353) (by decide +kernel)⟩
theorem lw_p4 : lw_okq (⟨"WalkFrames$Letters", "isAt", "(III)Z"⟩, 9) := ⟨⟨by decide +kernel, by decide +kernel⟩, List.mem_of_getElem? (i := 54) (by decide +kernel), List.mem_of_getElem? (i := 380) (by decide +kernel), List.mem_of_getElem? (i := 381) (by decide +kernel)⟩
theorem lw_p5 : lw_okq (⟨"WalkFrames$Office", "walkWithMostFree", "()I"⟩, 8) := ⟨⟨by decide +kernel, by decide +kernel⟩, List.mem_of_getElem? (i := 28) (by decide +kernel), List.mem_of_getElem? (i := 385) (by decide +kernel), List.mem_of_getElem? (i := 386) (by decide +kernel)⟩
theorem lw_p6 : lw_okq (⟨"WalkFrames$Letters", "insertByCode", "(ILWalkFrames$Line;)V"⟩, 9) := ⟨⟨by decide +kernel, by decide +kernel⟩, List.mem_of_getElem? (i := 54) (by decide +kernel), List.mem_of_getElem? (i := 449) (by decide +kernel), List.mem_of_getElem? (i := 450) (by decide +kernel)⟩
theorem lw_p7 : lw_okq (⟨"WalkFrames$Letters", "hasGreaterCode", "(II)Z"⟩, 9) := ⟨⟨by decide +kernel, by decide +kernel⟩, List.mem_of_getElem? (i := 54) (by decide +kernel), List.mem_of_getElem? (i := 454) (by decide +kernel), List.mem_of_getElem? (i := 455) (by decide +kernel)⟩
theorem lw_p8 : lw_okq (⟨"WalkFrames$Office", "countBelonging", "(LWalkFrames$Line;I)I"⟩, 8) := ⟨⟨by decide +kernel, by decide +kernel⟩, List.mem_of_getElem? (i := 28) (by decide +kernel), List.mem_of_getElem? (i := 470) (by decide +kernel), List.mem_of_getElem? (i := 471) (by decide +kernel)⟩
theorem lw_p9 : lw_okq (⟨"WalkFrames$Office", "putBack", "(II)V"⟩, 8) := ⟨⟨by decide +kernel, by decide +kernel⟩, List.mem_of_getElem? (i := 28) (by decide +kernel), List.mem_of_getElem? (i := 493) (by decide +kernel), List.mem_of_getElem? (i := 494) (by decide +kernel)⟩
theorem lw_p10 : lw_okq (⟨"WalkFrames$RangeText", "readRange", "()V"⟩, 8) := ⟨⟨by decide +kernel, by decide +kernel⟩, List.mem_of_getElem? (i := 191) (by decide +kernel), List.mem_of_getElem? (i := 549) (by decide +kernel), List.mem_of_getElem? (i := 550) (by decide +kernel)⟩
theorem lw_p11 : lw_okq (⟨"WalkFrames$RangeText", "readNumber", "()I"⟩, 8) := ⟨⟨by decide +kernel, by decide +kernel⟩, List.mem_of_getElem? (i := 191) (by decide +kernel), List.mem_of_getElem? (i := 553) (by decide +kernel), List.mem_of_getElem? (i := 554) (by decide +kernel)⟩
theorem lw_p12 : lw_okq (⟨"WalkFrames$RangeText", "readDigit", "(C)I"⟩, 8) := ⟨⟨by decide +kernel, by decide +kernel⟩, List.mem_of_getElem? (i := 191) (by decide +kernel), List.mem_of_getElem? (i := 557) (by decide +kernel), List.mem_of_getElem? (i := 558) (by decide +kernel)⟩
theorem lw_p13 : lw_okq (⟨"WalkFrames$RangeText", "isNextIn", "(CC)Z"⟩, 8) := ⟨⟨by decide +kernel, by decide +kernel⟩, List.mem_of_getElem? (i := 191) (by decide +kernel), List.mem_of_getElem? (i := 561) (by decide +kernel), List.mem_of_getElem? (i := 562) (by decide +kernel)⟩
theorem lw_p14 : lw_okq (⟨"WalkFrames$RangeText", "readSign", "(C)V"⟩, 8) := ⟨⟨by decide +kernel, by decide +kernel⟩, List.mem_of_getElem? (i := 191) (by decide +kernel), List.mem_of_getElem? (i := 565) (by decide +kernel), List.mem_of_getElem? (i := 566) (by decide +kernel)⟩
theorem lw_p15 : lw_okq (⟨"WalkFramesModel", "records", "()V"⟩, 7) := ⟨⟨by decide +kernel, by decide +kernel⟩, List.mem_of_getElem? (i := 674) (by decide +kernel), List.mem_of_getElem? (i := 709) (by decide +kernel), List.mem_of_getElem? (i := 710) (by decide +kernel)⟩
def lw_privs_1 : List (MethodName × Nat) := [(⟨"WalkFrames$History", "dropOldest", "()V"⟩, 2), (⟨"WalkFrames$Letters", "addFromBag", "(IILWalkFrames$Line;)V"⟩, 9), (⟨"WalkFrames$Office", "sort", "(I)Z"⟩, 8), (⟨"WalkFrames$Office", "frameFor", "(I)I"⟩, 8), (⟨"WalkFrames$Letters", "isAt", "(III)Z"⟩, 9), (⟨"WalkFrames$Office", "walkWithMostFree", "()I"⟩, 8), (⟨"WalkFrames$Letters", "insertByCode", "(ILWalkFrames$Line;)V"⟩, 9), (⟨"WalkFrames$Letters", "hasGreaterCode", "(II)Z"⟩, 9), (⟨"WalkFrames$Office", "countBelonging", "(LWalkFrames$Line;I)I"⟩, 8), (⟨"WalkFrames$Office", "putBack", "(II)V"⟩, 8), (⟨"WalkFrames$RangeText", "readRange", "()V"⟩, 8), (⟨"WalkFrames$RangeText", "readNumber", "()I"⟩, 8), (⟨"WalkFrames$RangeText", "readDigit", "(C)I"⟩, 8), (⟨"WalkFrames$RangeText", "isNextIn", "(CC)Z"⟩, 8), (⟨"WalkFrames$RangeText", "readSign", "(C)V"⟩, 8), (⟨"WalkFramesModel", "records", "()V"⟩, 7)]
theorem lw_r1 : ∀ q ∈ lw_privs_1, lw_okq q := List.forall_mem_cons.mpr ⟨lw_p0, List.forall_mem_cons.mpr ⟨lw_p1, List.forall_mem_cons.mpr ⟨lw_p2, List.forall_mem_cons.mpr ⟨lw_p3, List.forall_mem_cons.mpr ⟨lw_p4, List.forall_mem_cons.mpr ⟨lw_p5, List.forall_mem_cons.mpr ⟨lw_p6, List.forall_mem_cons.mpr ⟨lw_p7, List.forall_mem_cons.mpr ⟨lw_p8, List.forall_mem_cons.mpr ⟨lw_p9, List.forall_mem_cons.mpr ⟨lw_p10, List.forall_mem_cons.mpr ⟨lw_p11, List.forall_mem_cons.mpr ⟨lw_p12, List.forall_mem_cons.mpr ⟨lw_p13, List.forall_mem_cons.mpr ⟨lw_p14, List.forall_mem_cons.mpr ⟨lw_p15, fun _ h => absurd h List.not_mem_nil⟩⟩⟩⟩⟩⟩⟩⟩⟩⟩⟩⟩⟩⟩⟩⟩
theorem lw_p16 : lw_okq (⟨"WalkFramesModel", "copies", "(III)V"⟩, 7) := ⟨⟨by decide +kernel, by decide +kernel⟩, List.mem_of_getElem? (i := 674) (by decide +kernel), List.mem_of_getElem? (i := 713) (by decide +kernel), List.mem_of_getElem? (i := 714) (by decide +kernel)⟩
theorem lw_p17 : lw_okq (⟨"WalkFramesModel", "set", "(III)V"⟩, 7) := ⟨⟨by decide +kernel, by decide +kernel⟩, List.mem_of_getElem? (i := 674) (by decide +kernel), List.mem_of_getElem? (i := 717) (by decide +kernel), List.mem_of_getElem? (i := 718) (by decide +kernel)⟩
theorem lw_p18 : lw_okq (⟨"WalkFramesModel", "puts", "(III)V"⟩, 7) := ⟨⟨by decide +kernel, by decide +kernel⟩, List.mem_of_getElem? (i := 674) (by decide +kernel), List.mem_of_getElem? (i := 721) (by decide +kernel), List.mem_of_getElem? (i := 722) (by decide +kernel)⟩
theorem lw_p19 : lw_okq (⟨"WalkFramesModel", "hours", "()I"⟩, 7) := ⟨⟨by decide +kernel, by decide +kernel⟩, List.mem_of_getElem? (i := 674) (by decide +kernel), List.mem_of_getElem? (i := 729) (by decide +kernel), List.mem_of_getElem? (i := 730) (by decide +kernel)⟩
theorem lw_p20 : lw_okq (⟨"WalkFramesModel", "of", "(II)I"⟩, 7) := ⟨⟨by decide +kernel, by decide +kernel⟩, List.mem_of_getElem? (i := 674) (by decide +kernel), List.mem_of_getElem? (i := 733) (by decide +kernel), List.mem_of_getElem? (i := 734) (by decide +kernel)⟩
theorem lw_p21 : lw_okq (⟨"WalkFramesModel", "layBag", "()I"⟩, 7) := ⟨⟨by decide +kernel, by decide +kernel⟩, List.mem_of_getElem? (i := 674) (by decide +kernel), List.mem_of_getElem? (i := 737) (by decide +kernel), List.mem_of_getElem? (i := 738) (by decide +kernel)⟩
theorem lw_p22 : lw_okq (⟨"WalkFramesModel", "rank", "(I)I"⟩, 7) := ⟨⟨by decide +kernel, by decide +kernel⟩, List.mem_of_getElem? (i := 674) (by decide +kernel), List.mem_of_getElem? (i := 741) (by decide +kernel), List.mem_of_getElem? (i := 742) (by decide +kernel)⟩
theorem lw_p23 : lw_okq (⟨"WalkFramesModel", "sorts", "(I)V"⟩, 7) := ⟨⟨by decide +kernel, by decide +kernel⟩, List.mem_of_getElem? (i := 674) (by decide +kernel), List.mem_of_getElem? (i := 745) (by decide +kernel), List.mem_of_getElem? (i := 746) (by decide +kernel)⟩
theorem lw_p24 : lw_okq (⟨"WalkFramesModel", "walkOf", "(I)I"⟩, 7) := ⟨⟨by decide +kernel, by decide +kernel⟩, List.mem_of_getElem? (i := 674) (by decide +kernel), List.mem_of_getElem? (i := 749) (by decide +kernel), List.mem_of_getElem? (i := 750) (by decide +kernel)⟩
theorem lw_p25 : lw_okq (⟨"WalkFramesModel", "free", "(I)I"⟩, 7) := ⟨⟨by decide +kernel, by decide +kernel⟩, List.mem_of_getElem? (i := 674) (by decide +kernel), List.mem_of_getElem? (i := 753) (by decide +kernel), List.mem_of_getElem? (i := 754) (by decide +kernel)⟩
theorem lw_p26 : lw_okq (⟨"WalkFramesModel", "countAt", "(II)I"⟩, 7) := ⟨⟨by decide +kernel, by decide +kernel⟩, List.mem_of_getElem? (i := 674) (by decide +kernel), List.mem_of_getElem? (i := 757) (by decide +kernel), List.mem_of_getElem? (i := 758) (by decide +kernel)⟩
theorem lw_p27 : lw_okq (⟨"WalkFramesModel", "isAt", "(III)Z"⟩, 7) := ⟨⟨by decide +kernel, by decide +kernel⟩, List.mem_of_getElem? (i := 674) (by decide +kernel), List.mem_of_getElem? (i := 761) (by decide +kernel), List.mem_of_getElem? (i := 762) (by decide +kernel)⟩
theorem lw_p28 : lw_okq (⟨"WalkFramesModel", "lastSecond", "(I)I"⟩, 7) := ⟨⟨by decide +kernel, by decide +kernel⟩, List.mem_of_getElem? (i := 674) (by decide +kernel), List.mem_of_getElem? (i := 765) (by decide +kernel), List.mem_of_getElem? (i := 766) (by decide +kernel)⟩
theorem lw_p29 : lw_okq (⟨"WalkFramesModel", "freest", "()I"⟩, 7) := ⟨⟨by decide +kernel, by decide +kernel⟩, List.mem_of_getElem? (i := 674) (by decide +kernel), List.mem_of_getElem? (i := 769) (by decide +kernel), List.mem_of_getElem? (i := 770) (by decide +kernel)⟩
theorem lw_p30 : lw_okq (⟨"WalkFramesModel", "countIn", "(I)I"⟩, 7) := ⟨⟨by decide +kernel, by decide +kernel⟩, List.mem_of_getElem? (i := 674) (by decide +kernel), List.mem_of_getElem? (i := 773) (by decide +kernel), List.mem_of_getElem? (i := 774) (by decide +kernel)⟩
theorem lw_p31 : lw_okq (⟨"WalkFramesModel", "ranges", "(III)V"⟩, 7) := ⟨⟨by decide +kernel, by decide +kernel⟩, List.mem_of_getElem? (i := 674) (by decide +kernel), List.mem_of_getElem? (i := 784) (by decide +kernel), List.mem_of_getElem? (i := 785) (by decide +kernel)⟩
def lw_privs_2 : List (MethodName × Nat) := [(⟨"WalkFramesModel", "copies", "(III)V"⟩, 7), (⟨"WalkFramesModel", "set", "(III)V"⟩, 7), (⟨"WalkFramesModel", "puts", "(III)V"⟩, 7), (⟨"WalkFramesModel", "hours", "()I"⟩, 7), (⟨"WalkFramesModel", "of", "(II)I"⟩, 7), (⟨"WalkFramesModel", "layBag", "()I"⟩, 7), (⟨"WalkFramesModel", "rank", "(I)I"⟩, 7), (⟨"WalkFramesModel", "sorts", "(I)V"⟩, 7), (⟨"WalkFramesModel", "walkOf", "(I)I"⟩, 7), (⟨"WalkFramesModel", "free", "(I)I"⟩, 7), (⟨"WalkFramesModel", "countAt", "(II)I"⟩, 7), (⟨"WalkFramesModel", "isAt", "(III)Z"⟩, 7), (⟨"WalkFramesModel", "lastSecond", "(I)I"⟩, 7), (⟨"WalkFramesModel", "freest", "()I"⟩, 7), (⟨"WalkFramesModel", "countIn", "(I)I"⟩, 7), (⟨"WalkFramesModel", "ranges", "(III)V"⟩, 7)]
theorem lw_r2 : ∀ q ∈ lw_privs_2, lw_okq q := List.forall_mem_cons.mpr ⟨lw_p16, List.forall_mem_cons.mpr ⟨lw_p17, List.forall_mem_cons.mpr ⟨lw_p18, List.forall_mem_cons.mpr ⟨lw_p19, List.forall_mem_cons.mpr ⟨lw_p20, List.forall_mem_cons.mpr ⟨lw_p21, List.forall_mem_cons.mpr ⟨lw_p22, List.forall_mem_cons.mpr ⟨lw_p23, List.forall_mem_cons.mpr ⟨lw_p24, List.forall_mem_cons.mpr ⟨lw_p25, List.forall_mem_cons.mpr ⟨lw_p26, List.forall_mem_cons.mpr ⟨lw_p27, List.forall_mem_cons.mpr ⟨lw_p28, List.forall_mem_cons.mpr ⟨lw_p29, List.forall_mem_cons.mpr ⟨lw_p30, List.forall_mem_cons.mpr ⟨lw_p31, fun _ h => absurd h List.not_mem_nil⟩⟩⟩⟩⟩⟩⟩⟩⟩⟩⟩⟩⟩⟩⟩⟩
theorem lw_p32 : lw_okq (⟨"WalkFramesModel", "stretches", "()I"⟩, 7) := ⟨⟨by decide +kernel, by decide +kernel⟩, List.mem_of_getElem? (i := 674) (by decide +kernel), List.mem_of_getElem? (i := 788) (by decide +kernel), List.mem_of_getElem? (i := 789) (by decide +kernel)⟩
theorem lw_p33 : lw_okq (⟨"WalkFramesModel", "walkBy", "(I)I"⟩, 7) := ⟨⟨by decide +kernel, by decide +kernel⟩, List.mem_of_getElem? (i := 674) (by decide +kernel), List.mem_of_getElem? (i := 806) (by decide +kernel), List.mem_of_getElem? (i := 807) (by decide +kernel)⟩
theorem lw_p34 : lw_okq (⟨"WalkFramesModel", "canGo", "(I)Z"⟩, 7) := ⟨⟨by decide +kernel, by decide +kernel⟩, List.mem_of_getElem? (i := 674) (by decide +kernel), List.mem_of_getElem? (i := 814) (by decide +kernel), List.mem_of_getElem? (i := 815) (by decide +kernel)⟩
theorem lw_p35 : lw_okq (⟨"WalkFramesModel", "goes", "(I)I"⟩, 7) := ⟨⟨by decide +kernel, by decide +kernel⟩, List.mem_of_getElem? (i := 674) (by decide +kernel), List.mem_of_getElem? (i := 818) (by decide +kernel), List.mem_of_getElem? (i := 819) (by decide +kernel)⟩
theorem lw_p36 : lw_okq (⟨"WalkFramesModel", "layByCodes", "(II)I"⟩, 7) := ⟨⟨by decide +kernel, by decide +kernel⟩, List.mem_of_getElem? (i := 674) (by decide +kernel), List.mem_of_getElem? (i := 822) (by decide +kernel), List.mem_of_getElem? (i := 823) (by decide +kernel)⟩
theorem lw_p37 : lw_okq (⟨"WalkFramesModel", "comes", "(I)I"⟩, 7) := ⟨⟨by decide +kernel, by decide +kernel⟩, List.mem_of_getElem? (i := 674) (by decide +kernel), List.mem_of_getElem? (i := 830) (by decide +kernel), List.mem_of_getElem? (i := 831) (by decide +kernel)⟩
theorem lw_p38 : lw_okq (⟨"WalkFramesModel", "misroutes", "(I)V"⟩, 7) := ⟨⟨by decide +kernel, by decide +kernel⟩, List.mem_of_getElem? (i := 674) (by decide +kernel), List.mem_of_getElem? (i := 834) (by decide +kernel), List.mem_of_getElem? (i := 835) (by decide +kernel)⟩
theorem lw_p39 : lw_okq (⟨"WalkFramesModel", "ends", "(II)V"⟩, 7) := ⟨⟨by decide +kernel, by decide +kernel⟩, List.mem_of_getElem? (i := 674) (by decide +kernel), List.mem_of_getElem? (i := 838) (by decide +kernel), List.mem_of_getElem? (i := 839) (by decide +kernel)⟩
theorem lw_p40 : lw_okq (⟨"WalkFramesModel", "reads", "(I)I"⟩, 7) := ⟨⟨by decide +kernel, by decide +kernel⟩, List.mem_of_getElem? (i := 674) (by decide +kernel), List.mem_of_getElem? (i := 866) (by decide +kernel), List.mem_of_getElem? (i := 867) (by decide +kernel)⟩
theorem lw_p41 : lw_okq (⟨"WalkFramesModel", "takesNumber", "()Z"⟩, 7) := ⟨⟨by decide +kernel, by decide +kernel⟩, List.mem_of_getElem? (i := 674) (by decide +kernel), List.mem_of_getElem? (i := 870) (by decide +kernel), List.mem_of_getElem? (i := 871) (by decide +kernel)⟩
theorem lw_p42 : lw_okq (⟨"WalkFramesModel", "isDigit", "(I)Z"⟩, 7) := ⟨⟨by decide +kernel, by decide +kernel⟩, List.mem_of_getElem? (i := 674) (by decide +kernel), List.mem_of_getElem? (i := 874) (by decide +kernel), List.mem_of_getElem? (i := 875) (by decide +kernel)⟩
theorem lw_p43 : lw_okq (⟨"WalkFramesModel", "takes", "(I)Z"⟩, 7) := ⟨⟨by decide +kernel, by decide +kernel⟩, List.mem_of_getElem? (i := 674) (by decide +kernel), List.mem_of_getElem? (i := 878) (by decide +kernel), List.mem_of_getElem? (i := 879) (by decide +kernel)⟩
theorem lw_p44 : lw_okq (⟨"WalkFramesModel", "out", "()I"⟩, 7) := ⟨⟨by decide +kernel, by decide +kernel⟩, List.mem_of_getElem? (i := 674) (by decide +kernel), List.mem_of_getElem? (i := 886) (by decide +kernel), List.mem_of_getElem? (i := 887) (by decide +kernel)⟩
theorem lw_p45 : lw_okq (⟨"WalkFramesModel", "astray", "()I"⟩, 7) := ⟨⟨by decide +kernel, by decide +kernel⟩, List.mem_of_getElem? (i := 674) (by decide +kernel), List.mem_of_getElem? (i := 890) (by decide +kernel), List.mem_of_getElem? (i := 891) (by decide +kernel)⟩
theorem lw_p46 : lw_okq (⟨"WalkFramesModel", "firstIn", "(I)I"⟩, 7) := ⟨⟨by decide +kernel, by decide +kernel⟩, List.mem_of_getElem? (i := 674) (by decide +kernel), List.mem_of_getElem? (i := 902) (by decide +kernel), List.mem_of_getElem? (i := 903) (by decide +kernel)⟩
theorem lw_p47 : lw_okq (⟨"WalkFramesModel", "putAside", "()V"⟩, 7) := ⟨⟨by decide +kernel, by decide +kernel⟩, List.mem_of_getElem? (i := 674) (by decide +kernel), List.mem_of_getElem? (i := 930) (by decide +kernel), List.mem_of_getElem? (i := 931) (by decide +kernel)⟩
def lw_privs_3 : List (MethodName × Nat) := [(⟨"WalkFramesModel", "stretches", "()I"⟩, 7), (⟨"WalkFramesModel", "walkBy", "(I)I"⟩, 7), (⟨"WalkFramesModel", "canGo", "(I)Z"⟩, 7), (⟨"WalkFramesModel", "goes", "(I)I"⟩, 7), (⟨"WalkFramesModel", "layByCodes", "(II)I"⟩, 7), (⟨"WalkFramesModel", "comes", "(I)I"⟩, 7), (⟨"WalkFramesModel", "misroutes", "(I)V"⟩, 7), (⟨"WalkFramesModel", "ends", "(II)V"⟩, 7), (⟨"WalkFramesModel", "reads", "(I)I"⟩, 7), (⟨"WalkFramesModel", "takesNumber", "()Z"⟩, 7), (⟨"WalkFramesModel", "isDigit", "(I)Z"⟩, 7), (⟨"WalkFramesModel", "takes", "(I)Z"⟩, 7), (⟨"WalkFramesModel", "out", "()I"⟩, 7), (⟨"WalkFramesModel", "astray", "()I"⟩, 7), (⟨"WalkFramesModel", "firstIn", "(I)I"⟩, 7), (⟨"WalkFramesModel", "putAside", "()V"⟩, 7)]
theorem lw_r3 : ∀ q ∈ lw_privs_3, lw_okq q := List.forall_mem_cons.mpr ⟨lw_p32, List.forall_mem_cons.mpr ⟨lw_p33, List.forall_mem_cons.mpr ⟨lw_p34, List.forall_mem_cons.mpr ⟨lw_p35, List.forall_mem_cons.mpr ⟨lw_p36, List.forall_mem_cons.mpr ⟨lw_p37, List.forall_mem_cons.mpr ⟨lw_p38, List.forall_mem_cons.mpr ⟨lw_p39, List.forall_mem_cons.mpr ⟨lw_p40, List.forall_mem_cons.mpr ⟨lw_p41, List.forall_mem_cons.mpr ⟨lw_p42, List.forall_mem_cons.mpr ⟨lw_p43, List.forall_mem_cons.mpr ⟨lw_p44, List.forall_mem_cons.mpr ⟨lw_p45, List.forall_mem_cons.mpr ⟨lw_p46, List.forall_mem_cons.mpr ⟨lw_p47, fun _ h => absurd h List.not_mem_nil⟩⟩⟩⟩⟩⟩⟩⟩⟩⟩⟩⟩⟩⟩⟩⟩
theorem lw_p48 : lw_okq (⟨"WalkFramesModel", "comesBack", "()V"⟩, 7) := ⟨⟨by decide +kernel, by decide +kernel⟩, List.mem_of_getElem? (i := 674) (by decide +kernel), List.mem_of_getElem? (i := 934) (by decide +kernel), List.mem_of_getElem? (i := 935) (by decide +kernel)⟩
def lw_privs_4 : List (MethodName × Nat) := [(⟨"WalkFramesModel", "comesBack", "()V"⟩, 7)]
theorem lw_r4 : ∀ q ∈ lw_privs_4, lw_okq q := List.forall_mem_cons.mpr ⟨lw_p48, fun _ h => absurd h List.not_mem_nil⟩
def lw_privs : List (MethodName × Nat) := lw_privs_1 ++ (lw_privs_2 ++ (lw_privs_3 ++ (lw_privs_4)))
def lw_tbl : List Cond := k2_sels lw_privs ++ tables_1
theorem lw_privs_ok : ∀ q ∈ lw_privs, lw_okq q := by
  show ∀ q ∈ lw_privs_1 ++ (lw_privs_2 ++ (lw_privs_3 ++ (lw_privs_4))), lw_okq q
  exact List.forall_mem_append.mpr ⟨lw_r1, List.forall_mem_append.mpr ⟨lw_r2, List.forall_mem_append.mpr ⟨lw_r3, lw_r4⟩⟩⟩
def RX0 : String := "WalkFrames$Carriers"
def TX0 : u_T := fun k => match k with
  | 0 => ("WalkFrames$Carriers", "walk", "[I", true)
  | 1 => ("WalkFrames$Carriers", "out", "[Z", true)
  | 2 => ("WalkFrames$Carriers", "delivered", "[I", true)
  | _ => ("WalkFrames$Carriers", "roundsMade", "[I", true)
def tyX0 : Nat → FieldType := fun k => match k with
  | 0 => .array .int
  | 1 => .array .boolean
  | 2 => .array .int
  | _ => .array .int
abbrev wsX00 : List Cond := u_ws RX0 TX0 4
theorem nmX0 : ∀ a, a < 4 → ∀ b, b < 4 → a ≠ b → (TX0 a).2.1 ≠ (TX0 b).2.1 := by decide +kernel
theorem tyX0_ok : ∀ k, k < 4 → parseFieldDescriptor (TX0 k).2.2.1 = some (tyX0 k) := by decide +kernel
def RX1 : String := "WalkFrames$History"
def TX1 : u_T := fun k => match k with
  | 0 => ("WalkFrames$History", "moments", "[LWalkFrames$Moment;", true)
  | _ => ("WalkFrames$History", "depth", "I", false)
def tyX1 : Nat → FieldType := fun k => match k with
  | 0 => .array (.object "WalkFrames$Moment")
  | _ => .int
abbrev wsX10 : List Cond := u_ws RX1 TX1 2
theorem nmX1 : ∀ a, a < 2 → ∀ b, b < 2 → a ≠ b → (TX1 a).2.1 ≠ (TX1 b).2.1 := by decide +kernel
theorem tyX1_ok : ∀ k, k < 2 → parseFieldDescriptor (TX1 k).2.2.1 = some (tyX1 k) := by decide +kernel
def RX2 : String := "WalkFrames$Letters"
def TX2 : u_T := fun k => match k with
  | 0 => ("WalkFrames$Letters", "code", "[I", true)
  | 1 => ("WalkFrames$Letters", "category", "[I", true)
  | 2 => ("WalkFrames$Letters", "misroutes", "[I", true)
  | 3 => ("WalkFrames$Letters", "place", "[I", true)
  | 4 => ("WalkFrames$Letters", "keeper", "[I", true)
  | 5 => ("WalkFrames$Letters", "came", "[I", true)
  | 6 => ("WalkFrames$Letters", "ended", "[I", true)
  | 7 => ("WalkFrames$Letters", "framed", "[I", true)
  | _ => ("WalkFrames$Letters", "count", "I", false)
def tyX2 : Nat → FieldType := fun k => match k with
  | 0 => .array .int
  | 1 => .array .int
  | 2 => .array .int
  | 3 => .array .int
  | 4 => .array .int
  | 5 => .array .int
  | 6 => .array .int
  | 7 => .array .int
  | _ => .int
abbrev wsX20 : List Cond := u_ws RX2 TX2 9
theorem nmX2 : ∀ a, a < 9 → ∀ b, b < 9 → a ≠ b → (TX2 a).2.1 ≠ (TX2 b).2.1 := by decide +kernel
theorem tyX2_ok : ∀ k, k < 9 → parseFieldDescriptor (TX2 k).2.2.1 = some (tyX2 k) := by decide +kernel
def RX3 : String := "WalkFrames$Line"
def TX3 : u_T := fun k => match k with
  | 0 => ("WalkFrames$Line", "letters", "[I", true)
  | _ => ("WalkFrames$Line", "size", "I", false)
def tyX3 : Nat → FieldType := fun k => match k with
  | 0 => .array .int
  | _ => .int
abbrev wsX30 : List Cond := u_ws RX3 TX3 2
theorem nmX3 : ∀ a, a < 2 → ∀ b, b < 2 → a ≠ b → (TX3 a).2.1 ≠ (TX3 b).2.1 := by decide +kernel
theorem tyX3_ok : ∀ k, k < 2 → parseFieldDescriptor (TX3 k).2.2.1 = some (tyX3 k) := by decide +kernel
def RX4 : String := "WalkFrames$Moment"
def TX4 : u_T := fun k => match k with
  | 0 => ("WalkFrames$Moment", "office", "LWalkFrames$Office;", true)
  | 1 => ("WalkFrames$Moment", "slots", "[LWalkFrames$Office;", true)
  | _ => ("WalkFrames$Moment", "filled", "[Z", true)
def tyX4 : Nat → FieldType := fun k => match k with
  | 0 => .object "WalkFrames$Office"
  | 1 => .array (.object "WalkFrames$Office")
  | _ => .array .boolean
abbrev wsX40 : List Cond := u_ws RX4 TX4 3
theorem nmX4 : ∀ a, a < 3 → ∀ b, b < 3 → a ≠ b → (TX4 a).2.1 ≠ (TX4 b).2.1 := by decide +kernel
theorem tyX4_ok : ∀ k, k < 3 → parseFieldDescriptor (TX4 k).2.2.1 = some (tyX4 k) := by decide +kernel
def RX5 : String := "WalkFrames$Office"
def TX5 : u_T := fun k => match k with
  | 0 => ("WalkFrames$Office", "ranges", "LWalkFrames$Ranges;", true)
  | 1 => ("WalkFrames$Office", "letters", "LWalkFrames$Letters;", true)
  | 2 => ("WalkFrames$Office", "carriers", "LWalkFrames$Carriers;", true)
  | 3 => ("WalkFrames$Office", "holes", "[I", true)
  | 4 => ("WalkFrames$Office", "hour", "I", false)
  | 5 => ("WalkFrames$Office", "rule", "I", false)
  | 6 => ("WalkFrames$Office", "speed", "I", false)
  | _ => ("WalkFrames$Office", "load", "I", false)
def tyX5 : Nat → FieldType := fun k => match k with
  | 0 => .object "WalkFrames$Ranges"
  | 1 => .object "WalkFrames$Letters"
  | 2 => .object "WalkFrames$Carriers"
  | 3 => .array .int
  | 4 => .int
  | 5 => .int
  | 6 => .int
  | _ => .int
abbrev wsX50 : List Cond := u_ws RX5 TX5 8
theorem nmX5 : ∀ a, a < 8 → ∀ b, b < 8 → a ≠ b → (TX5 a).2.1 ≠ (TX5 b).2.1 := by decide +kernel
theorem tyX5_ok : ∀ k, k < 8 → parseFieldDescriptor (TX5 k).2.2.1 = some (tyX5 k) := by decide +kernel
def RX6 : String := "WalkFrames$RangeText"
def TX6 : u_T := fun k => match k with
  | 0 => ("WalkFrames$RangeText", "signs", "[C", true)
  | 1 => ("WalkFrames$RangeText", "length", "I", false)
  | 2 => ("WalkFrames$RangeText", "from", "[I", true)
  | 3 => ("WalkFrames$RangeText", "to", "[I", true)
  | 4 => ("WalkFrames$RangeText", "walk", "[I", true)
  | 5 => ("WalkFrames$RangeText", "ranges", "I", false)
  | 6 => ("WalkFrames$RangeText", "next", "I", false)
  | _ => ("WalkFrames$RangeText", "broken", "Z", false)
def tyX6 : Nat → FieldType := fun k => match k with
  | 0 => .array .char
  | 1 => .int
  | 2 => .array .int
  | 3 => .array .int
  | 4 => .array .int
  | 5 => .int
  | 6 => .int
  | _ => .boolean
abbrev wsX60 : List Cond := u_ws RX6 TX6 8
theorem nmX6 : ∀ a, a < 8 → ∀ b, b < 8 → a ≠ b → (TX6 a).2.1 ≠ (TX6 b).2.1 := by decide +kernel
theorem tyX6_ok : ∀ k, k < 8 → parseFieldDescriptor (TX6 k).2.2.1 = some (tyX6 k) := by decide +kernel
def RX7 : String := "WalkFrames$Ranges"
def TX7 : u_T := fun k => match k with
  | _ => ("WalkFrames$Ranges", "walk", "[I", true)
def tyX7 : Nat → FieldType := fun k => match k with
  | _ => .array .int
abbrev wsX70 : List Cond := u_ws RX7 TX7 1
theorem nmX7 : ∀ a, a < 1 → ∀ b, b < 1 → a ≠ b → (TX7 a).2.1 ≠ (TX7 b).2.1 := by decide +kernel
theorem tyX7_ok : ∀ k, k < 1 → parseFieldDescriptor (TX7 k).2.2.1 = some (tyX7 k) := by decide +kernel
def RX8 : String := "WalkFrames"
def TX8 : u_T := fun k => match k with
  | 0 => ("WalkFrames", "now", "LWalkFrames$Moment;", true)
  | 1 => ("WalkFrames", "history", "LWalkFrames$History;", true)
  | 2 => ("WalkFrames", "text", "LWalkFrames$RangeText;", true)
  | 3 => ("WalkFrames", "trial", "LWalkFrames$Office;", true)
  | _ => ("WalkFrames", "line", "LWalkFrames$Line;", true)
def tyX8 : Nat → FieldType := fun k => match k with
  | 0 => .object "WalkFrames$Moment"
  | 1 => .object "WalkFrames$History"
  | 2 => .object "WalkFrames$RangeText"
  | 3 => .object "WalkFrames$Office"
  | _ => .object "WalkFrames$Line"
abbrev wsX80 : List Cond := u_ws RX8 TX8 5
theorem nmX8 : ∀ a, a < 5 → ∀ b, b < 5 → a ≠ b → (TX8 a).2.1 ≠ (TX8 b).2.1 := by decide +kernel
theorem tyX8_ok : ∀ k, k < 5 → parseFieldDescriptor (TX8 k).2.2.1 = some (tyX8 k) := by decide +kernel
def RX9 : String := "WalkFramesModel"
def TX9 : u_T := fun k => match k with
  | 0 => ("WalkFramesModel", "row", "[I", true)
  | 1 => ("WalkFramesModel", "kept", "I", false)
  | 2 => ("WalkFramesModel", "text", "[I", true)
  | 3 => ("WalkFramesModel", "length", "I", false)
  | 4 => ("WalkFramesModel", "at", "I", false)
  | 5 => ("WalkFramesModel", "number", "I", false)
  | _ => ("WalkFramesModel", "order", "[I", true)
def tyX9 : Nat → FieldType := fun k => match k with
  | 0 => .array .int
  | 1 => .int
  | 2 => .array .int
  | 3 => .int
  | 4 => .int
  | 5 => .int
  | _ => .array .int
abbrev wsX90 : List Cond := u_ws RX9 TX9 7
theorem nmX9 : ∀ a, a < 7 → ∀ b, b < 7 → a ≠ b → (TX9 a).2.1 ≠ (TX9 b).2.1 := by decide +kernel
theorem tyX9_ok : ∀ k, k < 7 → parseFieldDescriptor (TX9 k).2.2.1 = some (tyX9 k) := by decide +kernel
def RL : String := "WalkFramesLaw"
abbrev cX0_init : ByteArray := prog_2_method_1_code
def yX0_init : MethodName := ⟨RX0, "<init>", "()V"⟩
abbrev cX0_copyFrom : ByteArray := prog_2_method_2_code
def yX0_copyFrom : MethodName := ⟨RX0, "copyFrom", "(LWalkFrames$Carriers;)V"⟩
abbrev cX0_ofWalk : ByteArray := prog_2_method_3_code
def yX0_ofWalk : MethodName := ⟨RX0, "ofWalk", "(I)I"⟩
abbrev cX0_countOut : ByteArray := prog_2_method_4_code
def yX0_countOut : MethodName := ⟨RX0, "countOut", "()I"⟩
abbrev cX0_countRounds : ByteArray := prog_2_method_5_code
def yX0_countRounds : MethodName := ⟨RX0, "countRounds", "()I"⟩
abbrev cX0_roundsOn : ByteArray := prog_2_method_6_code
def yX0_roundsOn : MethodName := ⟨RX0, "roundsOn", "(II)I"⟩
abbrev cX0_knows : ByteArray := prog_2_method_7_code
def yX0_knows : MethodName := ⟨RX0, "knows", "(II)Z"⟩
abbrev cX0_endRound : ByteArray := prog_2_method_8_code
def yX0_endRound : MethodName := ⟨RX0, "endRound", "(II)V"⟩
abbrev cX0_bestWithoutWalk : ByteArray := prog_2_method_9_code
def yX0_bestWithoutWalk : MethodName := ⟨RX0, "bestWithoutWalk", "(I)I"⟩
abbrev cX1_init : ByteArray := prog_3_method_1_code
def yX1_init : MethodName := ⟨RX1, "<init>", "()V"⟩
abbrev cX1_remember : ByteArray := prog_3_method_2_code
def yX1_remember : MethodName := ⟨RX1, "remember", "(LWalkFrames$Moment;)V"⟩
abbrev cX1_dropOldest : ByteArray := prog_3_method_3_code
def yX1_dropOldest : MethodName := ⟨RX1, "dropOldest", "()V"⟩
abbrev cX1_giveBack : ByteArray := prog_3_method_4_code
def yX1_giveBack : MethodName := ⟨RX1, "giveBack", "(LWalkFrames$Moment;)V"⟩
abbrev cX2_init : ByteArray := prog_4_method_1_code
def yX2_init : MethodName := ⟨RX2, "<init>", "()V"⟩
abbrev cX2_copyFrom : ByteArray := prog_4_method_2_code
def yX2_copyFrom : MethodName := ⟨RX2, "copyFrom", "(LWalkFrames$Letters;)V"⟩
abbrev cX2_has : ByteArray := prog_4_method_3_code
def yX2_has : MethodName := ⟨RX2, "has", "(I)Z"⟩
abbrev cX2_add : ByteArray := prog_4_method_4_code
def yX2_add : MethodName := ⟨RX2, "add", "(III)V"⟩
abbrev cX2_moveTo : ByteArray := prog_4_method_5_code
def yX2_moveTo : MethodName := ⟨RX2, "moveTo", "(III)V"⟩
abbrev cX2_finish : ByteArray := prog_4_method_6_code
def yX2_finish : MethodName := ⟨RX2, "finish", "(III)V"⟩
abbrev cX2_misroute : ByteArray := prog_4_method_7_code
def yX2_misroute : MethodName := ⟨RX2, "misroute", "(II)V"⟩
abbrev cX2_isFirstClass : ByteArray := prog_4_method_8_code
def yX2_isFirstClass : MethodName := ⟨RX2, "isFirstClass", "(I)Z"⟩
abbrev cX2_emptyOverflow : ByteArray := prog_4_method_9_code
def yX2_emptyOverflow : MethodName := ⟨RX2, "emptyOverflow", "()V"⟩
abbrev cX2_countIn : ByteArray := prog_4_method_10_code
def yX2_countIn : MethodName := ⟨RX2, "countIn", "(I)I"⟩
abbrev cX2_countInHand : ByteArray := prog_4_method_11_code
def yX2_countInHand : MethodName := ⟨RX2, "countInHand", "(I)I"⟩
abbrev cX2_countFirstClass : ByteArray := prog_4_method_12_code
def yX2_countFirstClass : MethodName := ⟨RX2, "countFirstClass", "(I)I"⟩
abbrev cX2_countMisroutes : ByteArray := prog_4_method_13_code
def yX2_countMisroutes : MethodName := ⟨RX2, "countMisroutes", "()I"⟩
abbrev cX2_displaceSecondClass : ByteArray := prog_4_method_14_code
def yX2_displaceSecondClass : MethodName := ⟨RX2, "displaceSecondClass", "(I)Z"⟩
abbrev cX2_listBag : ByteArray := prog_4_method_15_code
def yX2_listBag : MethodName := ⟨RX2, "listBag", "(LWalkFrames$Line;)V"⟩
abbrev cX2_addFromBag : ByteArray := prog_4_method_16_code
def yX2_addFromBag : MethodName := ⟨RX2, "addFromBag", "(IILWalkFrames$Line;)V"⟩
abbrev cX2_listByCode : ByteArray := prog_4_method_17_code
def yX2_listByCode : MethodName := ⟨RX2, "listByCode", "(IILWalkFrames$Line;)V"⟩
abbrev cX2_insertByCode : ByteArray := prog_4_method_18_code
def yX2_insertByCode : MethodName := ⟨RX2, "insertByCode", "(ILWalkFrames$Line;)V"⟩
abbrev cX2_hasGreaterCode : ByteArray := prog_4_method_19_code
def yX2_hasGreaterCode : MethodName := ⟨RX2, "hasGreaterCode", "(II)Z"⟩
abbrev cX2_isAt : ByteArray := prog_4_method_20_code
def yX2_isAt : MethodName := ⟨RX2, "isAt", "(III)Z"⟩
abbrev cX3_init : ByteArray := prog_5_method_1_code
def yX3_init : MethodName := ⟨RX3, "<init>", "()V"⟩
abbrev cX3_addLast : ByteArray := prog_5_method_2_code
def yX3_addLast : MethodName := ⟨RX3, "addLast", "(I)V"⟩
abbrev cX3_swapWithPrevious : ByteArray := prog_5_method_3_code
def yX3_swapWithPrevious : MethodName := ⟨RX3, "swapWithPrevious", "(I)V"⟩
abbrev cX3_letterAt : ByteArray := prog_5_method_4_code
def yX3_letterAt : MethodName := ⟨RX3, "letterAt", "(I)I"⟩
abbrev cX4_init : ByteArray := prog_6_method_1_code
def yX4_init : MethodName := ⟨RX4, "<init>", "()V"⟩
abbrev cX4_copyFrom : ByteArray := prog_6_method_2_code
def yX4_copyFrom : MethodName := ⟨RX4, "copyFrom", "(LWalkFrames$Moment;)V"⟩
abbrev cX4_fillSlot : ByteArray := prog_6_method_3_code
def yX4_fillSlot : MethodName := ⟨RX4, "fillSlot", "(I)V"⟩
abbrev cX4_countSnapshots : ByteArray := prog_6_method_4_code
def yX4_countSnapshots : MethodName := ⟨RX4, "countSnapshots", "()I"⟩
abbrev cX5_init : ByteArray := prog_7_method_1_code
def yX5_init : MethodName := ⟨RX5, "<init>", "()V"⟩
abbrev cX5_copyFrom : ByteArray := prog_7_method_2_code
def yX5_copyFrom : MethodName := ⟨RX5, "copyFrom", "(LWalkFrames$Office;)V"⟩
abbrev cX5_number : ByteArray := prog_7_method_3_code
def yX5_number : MethodName := ⟨RX5, "number", "(I)I"⟩
abbrev cX5_changeNumber : ByteArray := prog_7_method_4_code
def yX5_changeNumber : MethodName := ⟨RX5, "changeNumber", "(II)V"⟩
abbrev cX5_walkOf : ByteArray := prog_7_method_5_code
def yX5_walkOf : MethodName := ⟨RX5, "walkOf", "(I)I"⟩
abbrev cX5_freeHoles : ByteArray := prog_7_method_6_code
def yX5_freeHoles : MethodName := ⟨RX5, "freeHoles", "(I)I"⟩
abbrev cX5_countStrayLetters : ByteArray := prog_7_method_7_code
def yX5_countStrayLetters : MethodName := ⟨RX5, "countStrayLetters", "()I"⟩
abbrev cX5_isCleared : ByteArray := prog_7_method_8_code
def yX5_isCleared : MethodName := ⟨RX5, "isCleared", "()Z"⟩
abbrev cX5_passHour : ByteArray := prog_7_method_9_code
def yX5_passHour : MethodName := ⟨RX5, "passHour", "(LWalkFrames$Line;)I"⟩
abbrev cX5_sort : ByteArray := prog_7_method_10_code
def yX5_sort : MethodName := ⟨RX5, "sort", "(I)Z"⟩
abbrev cX5_frameFor : ByteArray := prog_7_method_11_code
def yX5_frameFor : MethodName := ⟨RX5, "frameFor", "(I)I"⟩
abbrev cX5_walkWithMostFree : ByteArray := prog_7_method_12_code
def yX5_walkWithMostFree : MethodName := ⟨RX5, "walkWithMostFree", "()I"⟩
abbrev cX5_canGoOut : ByteArray := prog_7_method_13_code
def yX5_canGoOut : MethodName := ⟨RX5, "canGoOut", "(I)Z"⟩
abbrev cX5_sendOut : ByteArray := prog_7_method_14_code
def yX5_sendOut : MethodName := ⟨RX5, "sendOut", "(ILWalkFrames$Line;)I"⟩
abbrev cX5_bringBack : ByteArray := prog_7_method_15_code
def yX5_bringBack : MethodName := ⟨RX5, "bringBack", "(ILWalkFrames$Line;)I"⟩
abbrev cX5_countBelonging : ByteArray := prog_7_method_16_code
def yX5_countBelonging : MethodName := ⟨RX5, "countBelonging", "(LWalkFrames$Line;I)I"⟩
abbrev cX5_putBack : ByteArray := prog_7_method_17_code
def yX5_putBack : MethodName := ⟨RX5, "putBack", "(II)V"⟩
abbrev cX6_init : ByteArray := prog_8_method_1_code
def yX6_init : MethodName := ⟨RX6, "<init>", "()V"⟩
abbrev cX6_isFull : ByteArray := prog_8_method_2_code
def yX6_isFull : MethodName := ⟨RX6, "isFull", "()Z"⟩
abbrev cX6_add : ByteArray := prog_8_method_3_code
def yX6_add : MethodName := ⟨RX6, "add", "(C)V"⟩
abbrev cX6_read : ByteArray := prog_8_method_4_code
def yX6_read : MethodName := ⟨RX6, "read", "()I"⟩
abbrev cX6_readRange : ByteArray := prog_8_method_5_code
def yX6_readRange : MethodName := ⟨RX6, "readRange", "()V"⟩
abbrev cX6_readNumber : ByteArray := prog_8_method_6_code
def yX6_readNumber : MethodName := ⟨RX6, "readNumber", "()I"⟩
abbrev cX6_readDigit : ByteArray := prog_8_method_7_code
def yX6_readDigit : MethodName := ⟨RX6, "readDigit", "(C)I"⟩
abbrev cX6_readSign : ByteArray := prog_8_method_8_code
def yX6_readSign : MethodName := ⟨RX6, "readSign", "(C)V"⟩
abbrev cX6_isNextIn : ByteArray := prog_8_method_9_code
def yX6_isNextIn : MethodName := ⟨RX6, "isNextIn", "(CC)Z"⟩
abbrev cX6_hasReversedRange : ByteArray := prog_8_method_10_code
def yX6_hasReversedRange : MethodName := ⟨RX6, "hasReversedRange", "()Z"⟩
abbrev cX7_init : ByteArray := prog_9_method_1_code
def yX7_init : MethodName := ⟨RX7, "<init>", "()V"⟩
abbrev cX7_copyFrom : ByteArray := prog_9_method_2_code
def yX7_copyFrom : MethodName := ⟨RX7, "copyFrom", "(LWalkFrames$Ranges;)V"⟩
abbrev cX7_walkOf : ByteArray := prog_9_method_3_code
def yX7_walkOf : MethodName := ⟨RX7, "walkOf", "(I)I"⟩
abbrev cX7_give : ByteArray := prog_9_method_4_code
def yX7_give : MethodName := ⟨RX7, "give", "(III)V"⟩
abbrev cX7_countStretches : ByteArray := prog_9_method_5_code
def yX7_countStretches : MethodName := ⟨RX7, "countStretches", "()I"⟩
abbrev cX7_firstCode : ByteArray := prog_9_method_6_code
def yX7_firstCode : MethodName := ⟨RX7, "firstCode", "(I)I"⟩
abbrev cX7_lastCode : ByteArray := prog_9_method_7_code
def yX7_lastCode : MethodName := ⟨RX7, "lastCode", "(I)I"⟩
abbrev cX8_init : ByteArray := prog_1_method_1_code
def yX8_init : MethodName := ⟨RX8, "<init>", "()V"⟩
abbrev cX8_post : ByteArray := prog_1_method_2_code
def yX8_post : MethodName := ⟨RX8, "post", "(III)I"⟩
abbrev cX8_hour : ByteArray := prog_1_method_3_code
def yX8_hour : MethodName := ⟨RX8, "hour", "()I"⟩
abbrev cX8_setRange : ByteArray := prog_1_method_4_code
def yX8_setRange : MethodName := ⟨RX8, "setRange", "(III)I"⟩
abbrev cX8_set : ByteArray := prog_1_method_5_code
def yX8_set : MethodName := ⟨RX8, "set", "(II)I"⟩
abbrev cX8_assign : ByteArray := prog_1_method_6_code
def yX8_assign : MethodName := ⟨RX8, "assign", "(II)I"⟩
abbrev cX8_goOut : ByteArray := prog_1_method_7_code
def yX8_goOut : MethodName := ⟨RX8, "goOut", "(I)I"⟩
abbrev cX8_comeBack : ByteArray := prog_1_method_8_code
def yX8_comeBack : MethodName := ⟨RX8, "comeBack", "(I)I"⟩
abbrev cX8_take : ByteArray := prog_1_method_9_code
def yX8_take : MethodName := ⟨RX8, "take", "(I)I"⟩
abbrev cX8_restore : ByteArray := prog_1_method_10_code
def yX8_restore : MethodName := ⟨RX8, "restore", "(I)I"⟩
abbrev cX8_undo : ByteArray := prog_1_method_11_code
def yX8_undo : MethodName := ⟨RX8, "undo", "()I"⟩
abbrev cX8_append : ByteArray := prog_1_method_12_code
def yX8_append : MethodName := ⟨RX8, "append", "(I)I"⟩
abbrev cX8_clearText : ByteArray := prog_1_method_13_code
def yX8_clearText : MethodName := ⟨RX8, "clearText", "()I"⟩
abbrev cX8_setRanges : ByteArray := prog_1_method_14_code
def yX8_setRanges : MethodName := ⟨RX8, "setRanges", "()I"⟩
abbrev cX8_count : ByteArray := prog_1_method_15_code
def yX8_count : MethodName := ⟨RX8, "count", "(I)I"⟩
abbrev cX8_letter : ByteArray := prog_1_method_16_code
def yX8_letter : MethodName := ⟨RX8, "letter", "(II)I"⟩
abbrev cX8_frame : ByteArray := prog_1_method_17_code
def yX8_frame : MethodName := ⟨RX8, "frame", "(II)I"⟩
abbrev cX8_carrier : ByteArray := prog_1_method_18_code
def yX8_carrier : MethodName := ⟨RX8, "carrier", "(II)I"⟩
abbrev cX8_rounds : ByteArray := prog_1_method_19_code
def yX8_rounds : MethodName := ⟨RX8, "rounds", "(II)I"⟩
abbrev cX8_stretch : ByteArray := prog_1_method_20_code
def yX8_stretch : MethodName := ⟨RX8, "stretch", "(II)I"⟩
abbrev cX8_inBag : ByteArray := prog_1_method_21_code
def yX8_inBag : MethodName := ⟨RX8, "inBag", "(I)I"⟩
abbrev cX8_inFrame : ByteArray := prog_1_method_22_code
def yX8_inFrame : MethodName := ⟨RX8, "inFrame", "(II)I"⟩
abbrev cX8_clearIn : ByteArray := prog_1_method_23_code
def yX8_clearIn : MethodName := ⟨RX8, "clearIn", "()I"⟩
abbrev cX8_wouldOverflow : ByteArray := prog_1_method_24_code
def yX8_wouldOverflow : MethodName := ⟨RX8, "wouldOverflow", "(I)I"⟩
abbrev cX8_bestCarrier : ByteArray := prog_1_method_25_code
def yX8_bestCarrier : MethodName := ⟨RX8, "bestCarrier", "(I)I"⟩
abbrev cX8_wouldDeliver : ByteArray := prog_1_method_26_code
def yX8_wouldDeliver : MethodName := ⟨RX8, "wouldDeliver", "(I)I"⟩
abbrev cX8_isIn : ByteArray := prog_1_method_27_code
def yX8_isIn : MethodName := ⟨RX8, "isIn", "(III)Z"⟩
abbrev cX8_isWalk : ByteArray := prog_1_method_28_code
def yX8_isWalk : MethodName := ⟨RX8, "isWalk", "(I)Z"⟩
abbrev cX8_isCarrier : ByteArray := prog_1_method_29_code
def yX8_isCarrier : MethodName := ⟨RX8, "isCarrier", "(I)Z"⟩
abbrev cX8_isSlot : ByteArray := prog_1_method_30_code
def yX8_isSlot : MethodName := ⟨RX8, "isSlot", "(I)Z"⟩
abbrev cX8_leastValue : ByteArray := prog_1_method_31_code
def yX8_leastValue : MethodName := ⟨RX8, "leastValue", "(I)I"⟩
abbrev cX8_greatestValue : ByteArray := prog_1_method_32_code
def yX8_greatestValue : MethodName := ⟨RX8, "greatestValue", "(I)I"⟩
abbrev cX9_init : ByteArray := prog_11_method_1_code
def yX9_init : MethodName := ⟨RX9, "<init>", "()V"⟩
abbrev cX9_in : ByteArray := prog_11_method_2_code
def yX9_in : MethodName := ⟨RX9, "in", "(III)Z"⟩
abbrev cX9_copies : ByteArray := prog_11_method_3_code
def yX9_copies : MethodName := ⟨RX9, "copies", "(III)V"⟩
abbrev cX9_records : ByteArray := prog_11_method_4_code
def yX9_records : MethodName := ⟨RX9, "records", "()V"⟩
abbrev cX9_of : ByteArray := prog_11_method_5_code
def yX9_of : MethodName := ⟨RX9, "of", "(II)I"⟩
abbrev cX9_set : ByteArray := prog_11_method_6_code
def yX9_set : MethodName := ⟨RX9, "set", "(III)V"⟩
abbrev cX9_puts : ByteArray := prog_11_method_7_code
def yX9_puts : MethodName := ⟨RX9, "puts", "(III)V"⟩
abbrev cX9_walkOf : ByteArray := prog_11_method_8_code
def yX9_walkOf : MethodName := ⟨RX9, "walkOf", "(I)I"⟩
abbrev cX9_isWalk : ByteArray := prog_11_method_9_code
def yX9_isWalk : MethodName := ⟨RX9, "isWalk", "(I)Z"⟩
abbrev cX9_isCarrier : ByteArray := prog_11_method_10_code
def yX9_isCarrier : MethodName := ⟨RX9, "isCarrier", "(I)Z"⟩
abbrev cX9_isAt : ByteArray := prog_11_method_11_code
def yX9_isAt : MethodName := ⟨RX9, "isAt", "(III)Z"⟩
abbrev cX9_countAt : ByteArray := prog_11_method_12_code
def yX9_countAt : MethodName := ⟨RX9, "countAt", "(II)I"⟩
abbrev cX9_countIn : ByteArray := prog_11_method_13_code
def yX9_countIn : MethodName := ⟨RX9, "countIn", "(I)I"⟩
abbrev cX9_free : ByteArray := prog_11_method_14_code
def yX9_free : MethodName := ⟨RX9, "free", "(I)I"⟩
abbrev cX9_layByCodes : ByteArray := prog_11_method_15_code
def yX9_layByCodes : MethodName := ⟨RX9, "layByCodes", "(II)I"⟩
abbrev cX9_rank : ByteArray := prog_11_method_16_code
def yX9_rank : MethodName := ⟨RX9, "rank", "(I)I"⟩
abbrev cX9_layBag : ByteArray := prog_11_method_17_code
def yX9_layBag : MethodName := ⟨RX9, "layBag", "()I"⟩
abbrev cX9_post : ByteArray := prog_11_method_18_code
def yX9_post : MethodName := ⟨RX9, "post", "(III)I"⟩
abbrev cX9_lastSecond : ByteArray := prog_11_method_19_code
def yX9_lastSecond : MethodName := ⟨RX9, "lastSecond", "(I)I"⟩
abbrev cX9_freest : ByteArray := prog_11_method_20_code
def yX9_freest : MethodName := ⟨RX9, "freest", "()I"⟩
abbrev cX9_sorts : ByteArray := prog_11_method_21_code
def yX9_sorts : MethodName := ⟨RX9, "sorts", "(I)V"⟩
abbrev cX9_hours : ByteArray := prog_11_method_22_code
def yX9_hours : MethodName := ⟨RX9, "hours", "()I"⟩
abbrev cX9_hour : ByteArray := prog_11_method_23_code
def yX9_hour : MethodName := ⟨RX9, "hour", "()I"⟩
abbrev cX9_stretches : ByteArray := prog_11_method_24_code
def yX9_stretches : MethodName := ⟨RX9, "stretches", "()I"⟩
abbrev cX9_ranges : ByteArray := prog_11_method_25_code
def yX9_ranges : MethodName := ⟨RX9, "ranges", "(III)V"⟩
abbrev cX9_setRange : ByteArray := prog_11_method_26_code
def yX9_setRange : MethodName := ⟨RX9, "setRange", "(III)I"⟩
abbrev cX9_most : ByteArray := prog_11_method_27_code
def yX9_most : MethodName := ⟨RX9, "most", "(I)I"⟩
abbrev cX9_set_ : ByteArray := prog_11_method_28_code
def yX9_set_ : MethodName := ⟨RX9, "set", "(II)I"⟩
abbrev cX9_walkBy : ByteArray := prog_11_method_29_code
def yX9_walkBy : MethodName := ⟨RX9, "walkBy", "(I)I"⟩
abbrev cX9_assign : ByteArray := prog_11_method_30_code
def yX9_assign : MethodName := ⟨RX9, "assign", "(II)I"⟩
abbrev cX9_canGo : ByteArray := prog_11_method_31_code
def yX9_canGo : MethodName := ⟨RX9, "canGo", "(I)Z"⟩
abbrev cX9_goes : ByteArray := prog_11_method_32_code
def yX9_goes : MethodName := ⟨RX9, "goes", "(I)I"⟩
abbrev cX9_goOut : ByteArray := prog_11_method_33_code
def yX9_goOut : MethodName := ⟨RX9, "goOut", "(I)I"⟩
abbrev cX9_ends : ByteArray := prog_11_method_34_code
def yX9_ends : MethodName := ⟨RX9, "ends", "(II)V"⟩
abbrev cX9_misroutes : ByteArray := prog_11_method_35_code
def yX9_misroutes : MethodName := ⟨RX9, "misroutes", "(I)V"⟩
abbrev cX9_comes : ByteArray := prog_11_method_36_code
def yX9_comes : MethodName := ⟨RX9, "comes", "(I)I"⟩
abbrev cX9_comeBack : ByteArray := prog_11_method_37_code
def yX9_comeBack : MethodName := ⟨RX9, "comeBack", "(I)I"⟩
abbrev cX9_take : ByteArray := prog_11_method_38_code
def yX9_take : MethodName := ⟨RX9, "take", "(I)I"⟩
abbrev cX9_restore : ByteArray := prog_11_method_39_code
def yX9_restore : MethodName := ⟨RX9, "restore", "(I)I"⟩
abbrev cX9_undo : ByteArray := prog_11_method_40_code
def yX9_undo : MethodName := ⟨RX9, "undo", "()I"⟩
abbrev cX9_append : ByteArray := prog_11_method_41_code
def yX9_append : MethodName := ⟨RX9, "append", "(I)I"⟩
abbrev cX9_clearText : ByteArray := prog_11_method_42_code
def yX9_clearText : MethodName := ⟨RX9, "clearText", "()I"⟩
abbrev cX9_isDigit : ByteArray := prog_11_method_43_code
def yX9_isDigit : MethodName := ⟨RX9, "isDigit", "(I)Z"⟩
abbrev cX9_takes : ByteArray := prog_11_method_44_code
def yX9_takes : MethodName := ⟨RX9, "takes", "(I)Z"⟩
abbrev cX9_takesNumber : ByteArray := prog_11_method_45_code
def yX9_takesNumber : MethodName := ⟨RX9, "takesNumber", "()Z"⟩
abbrev cX9_reads : ByteArray := prog_11_method_46_code
def yX9_reads : MethodName := ⟨RX9, "reads", "(I)I"⟩
abbrev cX9_setRanges : ByteArray := prog_11_method_47_code
def yX9_setRanges : MethodName := ⟨RX9, "setRanges", "()I"⟩
abbrev cX9_astray : ByteArray := prog_11_method_48_code
def yX9_astray : MethodName := ⟨RX9, "astray", "()I"⟩
abbrev cX9_out : ByteArray := prog_11_method_49_code
def yX9_out : MethodName := ⟨RX9, "out", "()I"⟩
abbrev cX9_count : ByteArray := prog_11_method_50_code
def yX9_count : MethodName := ⟨RX9, "count", "(I)I"⟩
abbrev cX9_letter : ByteArray := prog_11_method_51_code
def yX9_letter : MethodName := ⟨RX9, "letter", "(II)I"⟩
abbrev cX9_firstIn : ByteArray := prog_11_method_52_code
def yX9_firstIn : MethodName := ⟨RX9, "firstIn", "(I)I"⟩
abbrev cX9_frame : ByteArray := prog_11_method_53_code
def yX9_frame : MethodName := ⟨RX9, "frame", "(II)I"⟩
abbrev cX9_carrier : ByteArray := prog_11_method_54_code
def yX9_carrier : MethodName := ⟨RX9, "carrier", "(II)I"⟩
abbrev cX9_rounds : ByteArray := prog_11_method_55_code
def yX9_rounds : MethodName := ⟨RX9, "rounds", "(II)I"⟩
abbrev cX9_stretch : ByteArray := prog_11_method_56_code
def yX9_stretch : MethodName := ⟨RX9, "stretch", "(II)I"⟩
abbrev cX9_inBag : ByteArray := prog_11_method_57_code
def yX9_inBag : MethodName := ⟨RX9, "inBag", "(I)I"⟩
abbrev cX9_inFrame : ByteArray := prog_11_method_58_code
def yX9_inFrame : MethodName := ⟨RX9, "inFrame", "(II)I"⟩
abbrev cX9_putAside : ByteArray := prog_11_method_59_code
def yX9_putAside : MethodName := ⟨RX9, "putAside", "()V"⟩
abbrev cX9_comesBack : ByteArray := prog_11_method_60_code
def yX9_comesBack : MethodName := ⟨RX9, "comesBack", "()V"⟩
abbrev cX9_clearIn : ByteArray := prog_11_method_61_code
def yX9_clearIn : MethodName := ⟨RX9, "clearIn", "()I"⟩
abbrev cX9_wouldOverflow : ByteArray := prog_11_method_62_code
def yX9_wouldOverflow : MethodName := ⟨RX9, "wouldOverflow", "(I)I"⟩
abbrev cX9_bestCarrier : ByteArray := prog_11_method_63_code
def yX9_bestCarrier : MethodName := ⟨RX9, "bestCarrier", "(I)I"⟩
abbrev cX9_wouldDeliver : ByteArray := prog_11_method_64_code
def yX9_wouldDeliver : MethodName := ⟨RX9, "wouldDeliver", "(I)I"⟩
abbrev vwCl : List vw_C := [(RX0, TX0, 4), (RX1, TX1, 2), (RX2, TX2, 9), (RX3, TX3, 2), (RX4, TX4, 3), (RX5, TX5, 8), (RX6, TX6, 8), (RX7, TX7, 1), (RX8, TX8, 5), (RX9, TX9, 7)]
/-- the tables' words that keep: what every contract asks -/
def Tg : List Cond := lw_tbl.filter goodWord
theorem tg_mem {w : Cond} (i : Nat) (h : lw_tbl[i]? = some w) (hg : goodWord w = true) : w ∈ Tg := List.mem_filter.mpr ⟨List.mem_of_getElem? h, hg⟩
theorem tg_sub {w : Cond} (h : w ∈ Tg) : w ∈ lw_tbl := (List.mem_filter.mp h).1
theorem tg_good : GoodIn Tg Tg := fun w h => ⟨h, good_of_word (List.mem_filter.mp h).2⟩
/-- links between mates of a nest: they keep, but not as the other words do -/
def isNest : Cond → Bool
  | .fieldLinkNest _ _ _ _ _ _ => true
  | .methodLinkNest _ _ _ _ => true
  | _ => false
def Nw : List Cond := lw_tbl.filter isNest
theorem nw_mem {w : Cond} (i : Nat) (h : lw_tbl[i]? = some w) (hg : isNest w = true) : w ∈ Nw := List.mem_filter.mpr ⟨List.mem_of_getElem? h, hg⟩
theorem nw_sub {w : Cond} (h : w ∈ Nw) : w ∈ lw_tbl := (List.mem_filter.mp h).1
theorem nw_tab {w : Cond} (h : w ∈ Nw) : w.onTables = true := by
  have h2 := (List.mem_filter.mp h).2
  unfold isNest at h2
  split at h2
  · rfl
  · rfl
  · cases h2
theorem nw_warm {s U : State} (hW : s.WarmedH U.vm) {w : Cond} (h : w ∈ Nw) (hZ : va_Nw w s) : va_Nw w U := by
  have h2 := (List.mem_filter.mp h).2
  unfold isNest at h2
  split at h2
  · exact va_Nw.warmF hW hZ
  · exact va_Nw.warmM hW hZ
  · cases h2
set_option maxRecDepth 100000 in
theorem tgX0 : ∀ w ∈ wsX00, w ∈ Tg := by decide +kernel
set_option maxRecDepth 100000 in
theorem tgX1 : ∀ w ∈ wsX10, w ∈ Tg := by decide +kernel
set_option maxRecDepth 100000 in
theorem tgX2 : ∀ w ∈ wsX20, w ∈ Tg := by decide +kernel
set_option maxRecDepth 100000 in
theorem tgX3 : ∀ w ∈ wsX30, w ∈ Tg := by decide +kernel
set_option maxRecDepth 100000 in
theorem tgX4 : ∀ w ∈ wsX40, w ∈ Tg := by decide +kernel
set_option maxRecDepth 100000 in
theorem tgX5 : ∀ w ∈ wsX50, w ∈ Tg := by decide +kernel
set_option maxRecDepth 100000 in
theorem tgX6 : ∀ w ∈ wsX60, w ∈ Tg := by decide +kernel
set_option maxRecDepth 100000 in
theorem tgX7 : ∀ w ∈ wsX70, w ∈ Tg := by decide +kernel
set_option maxRecDepth 100000 in
theorem tgX8 : ∀ w ∈ wsX80, w ∈ Tg := by decide +kernel
set_option maxRecDepth 100000 in
theorem tgX9 : ∀ w ∈ wsX90, w ∈ Tg := by decide +kernel
/-- the class of a number -/
def nmC (c : Nat) : String := match c with
  | 0 => RX0
  | 1 => RX1
  | 2 => RX2
  | 3 => RX3
  | 4 => RX4
  | 5 => RX5
  | 6 => RX6
  | 7 => RX7
  | 8 => RX8
  | 9 => RX9
  | _ => RL
def tbC (c : Nat) : u_T := match c with
  | 0 => TX0
  | 1 => TX1
  | 2 => TX2
  | 3 => TX3
  | 4 => TX4
  | 5 => TX5
  | 6 => TX6
  | 7 => TX7
  | 8 => TX8
  | _ => TX9
/-- a link of a field: by the class itself, or by a mate of its nest -/
def FlOk (r : Nat × Nat × Nat × Nat) : Prop := (Cond.fieldLink (nmC r.1) r.2.1 (nmC r.2.2.1) (tbC r.2.2.1 r.2.2.2).2.1 (tbC r.2.2.1 r.2.2.2).2.2.1 ∈ Tg) ∨ (∃ host, Cond.fieldLinkNest (nmC r.1) r.2.1 (nmC r.2.2.1) (tbC r.2.2.1 r.2.2.2).2.1 (tbC r.2.2.1 r.2.2.2).2.2.1 host ∈ Nw)
theorem fl_0 : FlOk (7, 9, 7, 0) := .inl (tg_mem 97 (by decide +kernel) rfl)
theorem fl_1 : FlOk (2, 9, 2, 0) := .inl (tg_mem 108 (by decide +kernel) rfl)
theorem fl_2 : FlOk (5, 72, 2, 0) := .inr ⟨"WalkFrames", nw_mem 109 (by decide +kernel) rfl⟩
theorem fl_3 : FlOk (8, 216, 2, 0) := .inr ⟨"WalkFrames", nw_mem 110 (by decide +kernel) rfl⟩
theorem fl_4 : FlOk (2, 15, 2, 1) := .inl (tg_mem 111 (by decide +kernel) rfl)
theorem fl_5 : FlOk (8, 219, 2, 1) := .inr ⟨"WalkFrames", nw_mem 112 (by decide +kernel) rfl⟩
theorem fl_6 : FlOk (2, 18, 2, 2) := .inl (tg_mem 113 (by decide +kernel) rfl)
theorem fl_7 : FlOk (8, 228, 2, 2) := .inr ⟨"WalkFrames", nw_mem 114 (by decide +kernel) rfl⟩
theorem fl_8 : FlOk (2, 21, 2, 3) := .inl (tg_mem 115 (by decide +kernel) rfl)
theorem fl_9 : FlOk (5, 91, 2, 3) := .inr ⟨"WalkFrames", nw_mem 116 (by decide +kernel) rfl⟩
theorem fl_10 : FlOk (8, 222, 2, 3) := .inr ⟨"WalkFrames", nw_mem 117 (by decide +kernel) rfl⟩
theorem fl_11 : FlOk (2, 24, 2, 4) := .inl (tg_mem 118 (by decide +kernel) rfl)
theorem fl_12 : FlOk (5, 94, 2, 4) := .inr ⟨"WalkFrames", nw_mem 119 (by decide +kernel) rfl⟩
theorem fl_13 : FlOk (8, 225, 2, 4) := .inr ⟨"WalkFrames", nw_mem 120 (by decide +kernel) rfl⟩
theorem fl_14 : FlOk (2, 27, 2, 5) := .inl (tg_mem 121 (by decide +kernel) rfl)
theorem fl_15 : FlOk (8, 231, 2, 5) := .inr ⟨"WalkFrames", nw_mem 122 (by decide +kernel) rfl⟩
theorem fl_16 : FlOk (2, 30, 2, 6) := .inl (tg_mem 123 (by decide +kernel) rfl)
theorem fl_17 : FlOk (8, 234, 2, 6) := .inr ⟨"WalkFrames", nw_mem 124 (by decide +kernel) rfl⟩
theorem fl_18 : FlOk (2, 33, 2, 7) := .inl (tg_mem 125 (by decide +kernel) rfl)
theorem fl_19 : FlOk (5, 79, 2, 7) := .inr ⟨"WalkFrames", nw_mem 126 (by decide +kernel) rfl⟩
theorem fl_20 : FlOk (8, 243, 2, 7) := .inr ⟨"WalkFrames", nw_mem 127 (by decide +kernel) rfl⟩
theorem fl_21 : FlOk (8, 55, 2, 8) := .inr ⟨"WalkFrames", nw_mem 128 (by decide +kernel) rfl⟩
theorem fl_22 : FlOk (2, 42, 2, 8) := .inl (tg_mem 129 (by decide +kernel) rfl)
theorem fl_23 : FlOk (5, 88, 2, 8) := .inr ⟨"WalkFrames", nw_mem 130 (by decide +kernel) rfl⟩
theorem fl_24 : FlOk (0, 9, 0, 0) := .inl (tg_mem 156 (by decide +kernel) rfl)
theorem fl_25 : FlOk (8, 119, 0, 0) := .inr ⟨"WalkFrames", nw_mem 157 (by decide +kernel) rfl⟩
theorem fl_26 : FlOk (5, 142, 0, 0) := .inr ⟨"WalkFrames", nw_mem 158 (by decide +kernel) rfl⟩
theorem fl_27 : FlOk (0, 15, 0, 1) := .inl (tg_mem 159 (by decide +kernel) rfl)
theorem fl_28 : FlOk (8, 123, 0, 1) := .inr ⟨"WalkFrames", nw_mem 160 (by decide +kernel) rfl⟩
theorem fl_29 : FlOk (5, 145, 0, 1) := .inr ⟨"WalkFrames", nw_mem 161 (by decide +kernel) rfl⟩
theorem fl_30 : FlOk (0, 19, 0, 2) := .inl (tg_mem 162 (by decide +kernel) rfl)
theorem fl_31 : FlOk (8, 255, 0, 2) := .inr ⟨"WalkFrames", nw_mem 163 (by decide +kernel) rfl⟩
theorem fl_32 : FlOk (0, 22, 0, 3) := .inl (tg_mem 164 (by decide +kernel) rfl)
theorem fl_33 : FlOk (5, 12, 5, 0) := .inl (tg_mem 175 (by decide +kernel) rfl)
theorem fl_34 : FlOk (8, 84, 5, 0) := .inr ⟨"WalkFrames", nw_mem 176 (by decide +kernel) rfl⟩
theorem fl_35 : FlOk (5, 21, 5, 1) := .inl (tg_mem 177 (by decide +kernel) rfl)
theorem fl_36 : FlOk (8, 51, 5, 1) := .inr ⟨"WalkFrames", nw_mem 178 (by decide +kernel) rfl⟩
theorem fl_37 : FlOk (5, 28, 5, 2) := .inl (tg_mem 179 (by decide +kernel) rfl)
theorem fl_38 : FlOk (8, 110, 5, 2) := .inr ⟨"WalkFrames", nw_mem 180 (by decide +kernel) rfl⟩
theorem fl_39 : FlOk (5, 32, 5, 3) := .inl (tg_mem 181 (by decide +kernel) rfl)
theorem fl_40 : FlOk (8, 240, 5, 3) := .inr ⟨"WalkFrames", nw_mem 182 (by decide +kernel) rfl⟩
theorem fl_41 : FlOk (5, 62, 5, 4) := .inl (tg_mem 183 (by decide +kernel) rfl)
theorem fl_42 : FlOk (8, 65, 5, 4) := .inr ⟨"WalkFrames", nw_mem 184 (by decide +kernel) rfl⟩
theorem fl_43 : FlOk (5, 36, 5, 5) := .inl (tg_mem 185 (by decide +kernel) rfl)
theorem fl_44 : FlOk (8, 201, 5, 5) := .inr ⟨"WalkFrames", nw_mem 186 (by decide +kernel) rfl⟩
theorem fl_45 : FlOk (5, 40, 5, 6) := .inl (tg_mem 187 (by decide +kernel) rfl)
theorem fl_46 : FlOk (8, 204, 5, 6) := .inr ⟨"WalkFrames", nw_mem 188 (by decide +kernel) rfl⟩
theorem fl_47 : FlOk (5, 43, 5, 7) := .inl (tg_mem 189 (by decide +kernel) rfl)
theorem fl_48 : FlOk (8, 207, 5, 7) := .inr ⟨"WalkFrames", nw_mem 190 (by decide +kernel) rfl⟩
theorem fl_49 : FlOk (4, 12, 4, 0) := .inl (tg_mem 209 (by decide +kernel) rfl)
theorem fl_50 : FlOk (8, 48, 4, 0) := .inr ⟨"WalkFrames", nw_mem 210 (by decide +kernel) rfl⟩
theorem fl_51 : FlOk (4, 18, 4, 1) := .inl (tg_mem 211 (by decide +kernel) rfl)
theorem fl_52 : FlOk (8, 150, 4, 1) := .inr ⟨"WalkFrames", nw_mem 212 (by decide +kernel) rfl⟩
theorem fl_53 : FlOk (4, 22, 4, 2) := .inl (tg_mem 213 (by decide +kernel) rfl)
theorem fl_54 : FlOk (8, 147, 4, 2) := .inr ⟨"WalkFrames", nw_mem 214 (by decide +kernel) rfl⟩
theorem fl_55 : FlOk (1, 11, 1, 0) := .inl (tg_mem 231 (by decide +kernel) rfl)
theorem fl_56 : FlOk (1, 18, 1, 1) := .inl (tg_mem 232 (by decide +kernel) rfl)
theorem fl_57 : FlOk (8, 158, 1, 1) := .inr ⟨"WalkFrames", nw_mem 233 (by decide +kernel) rfl⟩
theorem fl_58 : FlOk (6, 11, 6, 0) := .inl (tg_mem 245 (by decide +kernel) rfl)
theorem fl_59 : FlOk (6, 25, 6, 1) := .inl (tg_mem 246 (by decide +kernel) rfl)
theorem fl_60 : FlOk (8, 171, 6, 1) := .inr ⟨"WalkFrames", nw_mem 247 (by decide +kernel) rfl⟩
theorem fl_61 : FlOk (6, 15, 6, 2) := .inl (tg_mem 248 (by decide +kernel) rfl)
theorem fl_62 : FlOk (8, 182, 6, 2) := .inr ⟨"WalkFrames", nw_mem 249 (by decide +kernel) rfl⟩
theorem fl_63 : FlOk (6, 19, 6, 3) := .inl (tg_mem 250 (by decide +kernel) rfl)
theorem fl_64 : FlOk (8, 185, 6, 3) := .inr ⟨"WalkFrames", nw_mem 251 (by decide +kernel) rfl⟩
theorem fl_65 : FlOk (6, 22, 6, 4) := .inl (tg_mem 252 (by decide +kernel) rfl)
theorem fl_66 : FlOk (8, 188, 6, 4) := .inr ⟨"WalkFrames", nw_mem 253 (by decide +kernel) rfl⟩
theorem fl_67 : FlOk (6, 36, 6, 5) := .inl (tg_mem 254 (by decide +kernel) rfl)
theorem fl_68 : FlOk (8, 180, 6, 5) := .inr ⟨"WalkFrames", nw_mem 255 (by decide +kernel) rfl⟩
theorem fl_69 : FlOk (6, 29, 6, 6) := .inl (tg_mem 256 (by decide +kernel) rfl)
theorem fl_70 : FlOk (6, 32, 6, 7) := .inl (tg_mem 257 (by decide +kernel) rfl)
theorem fl_71 : FlOk (3, 9, 3, 0) := .inl (tg_mem 284 (by decide +kernel) rfl)
theorem fl_72 : FlOk (3, 15, 3, 1) := .inl (tg_mem 285 (by decide +kernel) rfl)
theorem fl_73 : FlOk (5, 108, 3, 1) := .inr ⟨"WalkFrames", nw_mem 286 (by decide +kernel) rfl⟩
theorem fl_74 : FlOk (2, 67, 3, 1) := .inr ⟨"WalkFrames", nw_mem 287 (by decide +kernel) rfl⟩
theorem fl_75 : FlOk (8, 10, 8, 0) := .inl (tg_mem 293 (by decide +kernel) rfl)
theorem fl_76 : FlOk (8, 19, 8, 1) := .inl (tg_mem 294 (by decide +kernel) rfl)
theorem fl_77 : FlOk (8, 26, 8, 2) := .inl (tg_mem 295 (by decide +kernel) rfl)
theorem fl_78 : FlOk (8, 33, 8, 3) := .inl (tg_mem 296 (by decide +kernel) rfl)
theorem fl_79 : FlOk (8, 40, 8, 4) := .inl (tg_mem 297 (by decide +kernel) rfl)
theorem fl_80 : FlOk (9, 7, 9, 0) := .inl (tg_mem 728 (by decide +kernel) rfl)
theorem fl_81 : FlOk (9, 19, 9, 1) := .inl (tg_mem 729 (by decide +kernel) rfl)
theorem fl_82 : FlOk (9, 13, 9, 2) := .inl (tg_mem 730 (by decide +kernel) rfl)
theorem fl_83 : FlOk (9, 118, 9, 3) := .inl (tg_mem 731 (by decide +kernel) rfl)
theorem fl_84 : FlOk (9, 121, 9, 4) := .inl (tg_mem 732 (by decide +kernel) rfl)
theorem fl_85 : FlOk (9, 127, 9, 5) := .inl (tg_mem 733 (by decide +kernel) rfl)
theorem fl_86 : FlOk (9, 16, 9, 6) := .inl (tg_mem 734 (by decide +kernel) rfl)
def flT : List (Nat × Nat × Nat × Nat) := [(7, 9, 7, 0), (2, 9, 2, 0), (5, 72, 2, 0), (8, 216, 2, 0), (2, 15, 2, 1), (8, 219, 2, 1), (2, 18, 2, 2), (8, 228, 2, 2), (2, 21, 2, 3), (5, 91, 2, 3), (8, 222, 2, 3), (2, 24, 2, 4), (5, 94, 2, 4), (8, 225, 2, 4), (2, 27, 2, 5), (8, 231, 2, 5), (2, 30, 2, 6), (8, 234, 2, 6), (2, 33, 2, 7), (5, 79, 2, 7), (8, 243, 2, 7), (8, 55, 2, 8), (2, 42, 2, 8), (5, 88, 2, 8), (0, 9, 0, 0), (8, 119, 0, 0), (5, 142, 0, 0), (0, 15, 0, 1), (8, 123, 0, 1), (5, 145, 0, 1), (0, 19, 0, 2), (8, 255, 0, 2), (0, 22, 0, 3), (5, 12, 5, 0), (8, 84, 5, 0), (5, 21, 5, 1), (8, 51, 5, 1), (5, 28, 5, 2), (8, 110, 5, 2), (5, 32, 5, 3), (8, 240, 5, 3), (5, 62, 5, 4), (8, 65, 5, 4), (5, 36, 5, 5), (8, 201, 5, 5), (5, 40, 5, 6), (8, 204, 5, 6), (5, 43, 5, 7), (8, 207, 5, 7), (4, 12, 4, 0), (8, 48, 4, 0), (4, 18, 4, 1), (8, 150, 4, 1), (4, 22, 4, 2), (8, 147, 4, 2), (1, 11, 1, 0), (1, 18, 1, 1), (8, 158, 1, 1), (6, 11, 6, 0), (6, 25, 6, 1), (8, 171, 6, 1), (6, 15, 6, 2), (8, 182, 6, 2), (6, 19, 6, 3), (8, 185, 6, 3), (6, 22, 6, 4), (8, 188, 6, 4), (6, 36, 6, 5), (8, 180, 6, 5), (6, 29, 6, 6), (6, 32, 6, 7), (3, 9, 3, 0), (3, 15, 3, 1), (5, 108, 3, 1), (2, 67, 3, 1), (8, 10, 8, 0), (8, 19, 8, 1), (8, 26, 8, 2), (8, 33, 8, 3), (8, 40, 8, 4), (9, 7, 9, 0), (9, 19, 9, 1), (9, 13, 9, 2), (9, 118, 9, 3), (9, 121, 9, 4), (9, 127, 9, 5), (9, 16, 9, 6)]
theorem flT_ok : ∀ r ∈ flT, FlOk r := List.forall_mem_cons.mpr ⟨fl_0, List.forall_mem_cons.mpr ⟨fl_1, List.forall_mem_cons.mpr ⟨fl_2, List.forall_mem_cons.mpr ⟨fl_3, List.forall_mem_cons.mpr ⟨fl_4, List.forall_mem_cons.mpr ⟨fl_5, List.forall_mem_cons.mpr ⟨fl_6, List.forall_mem_cons.mpr ⟨fl_7, List.forall_mem_cons.mpr ⟨fl_8, List.forall_mem_cons.mpr ⟨fl_9, List.forall_mem_cons.mpr ⟨fl_10, List.forall_mem_cons.mpr ⟨fl_11, List.forall_mem_cons.mpr ⟨fl_12, List.forall_mem_cons.mpr ⟨fl_13, List.forall_mem_cons.mpr ⟨fl_14, List.forall_mem_cons.mpr ⟨fl_15, List.forall_mem_cons.mpr ⟨fl_16, List.forall_mem_cons.mpr ⟨fl_17, List.forall_mem_cons.mpr ⟨fl_18, List.forall_mem_cons.mpr ⟨fl_19, List.forall_mem_cons.mpr ⟨fl_20, List.forall_mem_cons.mpr ⟨fl_21, List.forall_mem_cons.mpr ⟨fl_22, List.forall_mem_cons.mpr ⟨fl_23, List.forall_mem_cons.mpr ⟨fl_24, List.forall_mem_cons.mpr ⟨fl_25, List.forall_mem_cons.mpr ⟨fl_26, List.forall_mem_cons.mpr ⟨fl_27, List.forall_mem_cons.mpr ⟨fl_28, List.forall_mem_cons.mpr ⟨fl_29, List.forall_mem_cons.mpr ⟨fl_30, List.forall_mem_cons.mpr ⟨fl_31, List.forall_mem_cons.mpr ⟨fl_32, List.forall_mem_cons.mpr ⟨fl_33, List.forall_mem_cons.mpr ⟨fl_34, List.forall_mem_cons.mpr ⟨fl_35, List.forall_mem_cons.mpr ⟨fl_36, List.forall_mem_cons.mpr ⟨fl_37, List.forall_mem_cons.mpr ⟨fl_38, List.forall_mem_cons.mpr ⟨fl_39, List.forall_mem_cons.mpr ⟨fl_40, List.forall_mem_cons.mpr ⟨fl_41, List.forall_mem_cons.mpr ⟨fl_42, List.forall_mem_cons.mpr ⟨fl_43, List.forall_mem_cons.mpr ⟨fl_44, List.forall_mem_cons.mpr ⟨fl_45, List.forall_mem_cons.mpr ⟨fl_46, List.forall_mem_cons.mpr ⟨fl_47, List.forall_mem_cons.mpr ⟨fl_48, List.forall_mem_cons.mpr ⟨fl_49, List.forall_mem_cons.mpr ⟨fl_50, List.forall_mem_cons.mpr ⟨fl_51, List.forall_mem_cons.mpr ⟨fl_52, List.forall_mem_cons.mpr ⟨fl_53, List.forall_mem_cons.mpr ⟨fl_54, List.forall_mem_cons.mpr ⟨fl_55, List.forall_mem_cons.mpr ⟨fl_56, List.forall_mem_cons.mpr ⟨fl_57, List.forall_mem_cons.mpr ⟨fl_58, List.forall_mem_cons.mpr ⟨fl_59, List.forall_mem_cons.mpr ⟨fl_60, List.forall_mem_cons.mpr ⟨fl_61, List.forall_mem_cons.mpr ⟨fl_62, List.forall_mem_cons.mpr ⟨fl_63, List.forall_mem_cons.mpr ⟨fl_64, List.forall_mem_cons.mpr ⟨fl_65, List.forall_mem_cons.mpr ⟨fl_66, List.forall_mem_cons.mpr ⟨fl_67, List.forall_mem_cons.mpr ⟨fl_68, List.forall_mem_cons.mpr ⟨fl_69, List.forall_mem_cons.mpr ⟨fl_70, List.forall_mem_cons.mpr ⟨fl_71, List.forall_mem_cons.mpr ⟨fl_72, List.forall_mem_cons.mpr ⟨fl_73, List.forall_mem_cons.mpr ⟨fl_74, List.forall_mem_cons.mpr ⟨fl_75, List.forall_mem_cons.mpr ⟨fl_76, List.forall_mem_cons.mpr ⟨fl_77, List.forall_mem_cons.mpr ⟨fl_78, List.forall_mem_cons.mpr ⟨fl_79, List.forall_mem_cons.mpr ⟨fl_80, List.forall_mem_cons.mpr ⟨fl_81, List.forall_mem_cons.mpr ⟨fl_82, List.forall_mem_cons.mpr ⟨fl_83, List.forall_mem_cons.mpr ⟨fl_84, List.forall_mem_cons.mpr ⟨fl_85, List.forall_mem_cons.mpr ⟨fl_86, fun _ h => absurd h List.not_mem_nil⟩⟩⟩⟩⟩⟩⟩⟩⟩⟩⟩⟩⟩⟩⟩⟩⟩⟩⟩⟩⟩⟩⟩⟩⟩⟩⟩⟩⟩⟩⟩⟩⟩⟩⟩⟩⟩⟩⟩⟩⟩⟩⟩⟩⟩⟩⟩⟩⟩⟩⟩⟩⟩⟩⟩⟩⟩⟩⟩⟩⟩⟩⟩⟩⟩⟩⟩⟩⟩⟩⟩⟩⟩⟩⟩⟩⟩⟩⟩⟩⟩⟩⟩⟩⟩⟩⟩
/-- the methods by their numbers: name, bytes, locals, answer -/
def mN (j : Nat) : MethodName × ByteArray × Nat × Option FieldType := bif Nat.blt j 85 then (bif Nat.blt j 42 then (bif Nat.blt j 21 then (bif Nat.blt j 10 then (bif Nat.blt j 5 then (bif Nat.blt j 2 then (bif Nat.blt j 1 then ((yX0_init, cX0_init, 2, none)) else ((yX0_copyFrom, cX0_copyFrom, 2, none))) else (bif Nat.blt j 3 then ((yX0_ofWalk, cX0_ofWalk, 3, (some .int))) else (bif Nat.blt j 4 then ((yX0_countOut, cX0_countOut, 3, (some .int))) else ((yX0_countRounds, cX0_countRounds, 3, (some .int)))))) else (bif Nat.blt j 7 then (bif Nat.blt j 6 then ((yX0_roundsOn, cX0_roundsOn, 3, (some .int))) else ((yX0_knows, cX0_knows, 3, (some .boolean)))) else (bif Nat.blt j 8 then ((yX0_endRound, cX0_endRound, 3, none)) else (bif Nat.blt j 9 then ((yX0_bestWithoutWalk, cX0_bestWithoutWalk, 4, (some .int))) else ((yX1_init, cX1_init, 2, none)))))) else (bif Nat.blt j 15 then (bif Nat.blt j 12 then (bif Nat.blt j 11 then ((yX1_remember, cX1_remember, 2, none)) else ((yX1_dropOldest, cX1_dropOldest, 3, none))) else (bif Nat.blt j 13 then ((yX1_giveBack, cX1_giveBack, 2, none)) else (bif Nat.blt j 14 then ((yX2_init, cX2_init, 1, none)) else ((yX2_copyFrom, cX2_copyFrom, 2, none))))) else (bif Nat.blt j 18 then (bif Nat.blt j 16 then ((yX2_has, cX2_has, 2, (some .boolean))) else (bif Nat.blt j 17 then ((yX2_add, cX2_add, 4, none)) else ((yX2_moveTo, cX2_moveTo, 4, none)))) else (bif Nat.blt j 19 then ((yX2_finish, cX2_finish, 4, none)) else (bif Nat.blt j 20 then ((yX2_misroute, cX2_misroute, 3, none)) else ((yX2_isFirstClass, cX2_isFirstClass, 2, (some .boolean)))))))) else (bif Nat.blt j 31 then (bif Nat.blt j 26 then (bif Nat.blt j 23 then (bif Nat.blt j 22 then ((yX2_emptyOverflow, cX2_emptyOverflow, 2, none)) else ((yX2_countIn, cX2_countIn, 4, (some .int)))) else (bif Nat.blt j 24 then ((yX2_countInHand, cX2_countInHand, 4, (some .int))) else (bif Nat.blt j 25 then ((yX2_countFirstClass, cX2_countFirstClass, 4, (some .int))) else ((yX2_countMisroutes, cX2_countMisroutes, 3, (some .int)))))) else (bif Nat.blt j 28 then (bif Nat.blt j 27 then ((yX2_displaceSecondClass, cX2_displaceSecondClass, 3, (some .boolean))) else ((yX2_listBag, cX2_listBag, 4, none))) else (bif Nat.blt j 29 then ((yX2_addFromBag, cX2_addFromBag, 5, none)) else (bif Nat.blt j 30 then ((yX2_listByCode, cX2_listByCode, 5, none)) else ((yX2_insertByCode, cX2_insertByCode, 4, none)))))) else (bif Nat.blt j 36 then (bif Nat.blt j 33 then (bif Nat.blt j 32 then ((yX2_hasGreaterCode, cX2_hasGreaterCode, 3, (some .boolean))) else ((yX2_isAt, cX2_isAt, 4, (some .boolean)))) else (bif Nat.blt j 34 then ((yX3_init, cX3_init, 1, none)) else (bif Nat.blt j 35 then ((yX3_addLast, cX3_addLast, 2, none)) else ((yX3_swapWithPrevious, cX3_swapWithPrevious, 3, none))))) else (bif Nat.blt j 39 then (bif Nat.blt j 37 then ((yX3_letterAt, cX3_letterAt, 2, (some .int))) else (bif Nat.blt j 38 then ((yX4_init, cX4_init, 2, none)) else ((yX4_copyFrom, cX4_copyFrom, 3, none)))) else (bif Nat.blt j 40 then ((yX4_fillSlot, cX4_fillSlot, 2, none)) else (bif Nat.blt j 41 then ((yX4_countSnapshots, cX4_countSnapshots, 3, (some .int))) else ((yX5_init, cX5_init, 2, none)))))))) else (bif Nat.blt j 63 then (bif Nat.blt j 52 then (bif Nat.blt j 47 then (bif Nat.blt j 44 then (bif Nat.blt j 43 then ((yX5_copyFrom, cX5_copyFrom, 2, none)) else ((yX5_number, cX5_number, 2, (some .int)))) else (bif Nat.blt j 45 then ((yX5_changeNumber, cX5_changeNumber, 3, none)) else (bif Nat.blt j 46 then ((yX5_walkOf, cX5_walkOf, 2, (some .int))) else ((yX5_freeHoles, cX5_freeHoles, 2, (some .int)))))) else (bif Nat.blt j 49 then (bif Nat.blt j 48 then ((yX5_countStrayLetters, cX5_countStrayLetters, 3, (some .int))) else ((yX5_isCleared, cX5_isCleared, 1, (some .boolean)))) else (bif Nat.blt j 50 then ((yX5_passHour, cX5_passHour, 5, (some .int))) else (bif Nat.blt j 51 then ((yX5_sort, cX5_sort, 3, (some .boolean))) else ((yX5_frameFor, cX5_frameFor, 3, (some .int))))))) else (bif Nat.blt j 57 then (bif Nat.blt j 54 then (bif Nat.blt j 53 then ((yX5_walkWithMostFree, cX5_walkWithMostFree, 4, (some .int))) else ((yX5_canGoOut, cX5_canGoOut, 3, (some .boolean)))) else (bif Nat.blt j 55 then ((yX5_sendOut, cX5_sendOut, 5, (some .int))) else (bif Nat.blt j 56 then ((yX5_bringBack, cX5_bringBack, 8, (some .int))) else ((yX5_countBelonging, cX5_countBelonging, 5, (some .int)))))) else (bif Nat.blt j 60 then (bif Nat.blt j 58 then ((yX5_putBack, cX5_putBack, 3, none)) else (bif Nat.blt j 59 then ((yX6_init, cX6_init, 1, none)) else ((yX6_isFull, cX6_isFull, 1, (some .boolean))))) else (bif Nat.blt j 61 then ((yX6_add, cX6_add, 2, none)) else (bif Nat.blt j 62 then ((yX6_read, cX6_read, 2, (some .int))) else ((yX6_readRange, cX6_readRange, 4, none))))))) else (bif Nat.blt j 74 then (bif Nat.blt j 68 then (bif Nat.blt j 65 then (bif Nat.blt j 64 then ((yX6_readNumber, cX6_readNumber, 2, (some .int))) else ((yX6_readDigit, cX6_readDigit, 3, (some .int)))) else (bif Nat.blt j 66 then ((yX6_readSign, cX6_readSign, 2, none)) else (bif Nat.blt j 67 then ((yX6_isNextIn, cX6_isNextIn, 3, (some .boolean))) else ((yX6_hasReversedRange, cX6_hasReversedRange, 2, (some .boolean)))))) else (bif Nat.blt j 71 then (bif Nat.blt j 69 then ((yX7_init, cX7_init, 2, none)) else (bif Nat.blt j 70 then ((yX7_copyFrom, cX7_copyFrom, 2, none)) else ((yX7_walkOf, cX7_walkOf, 2, (some .int))))) else (bif Nat.blt j 72 then ((yX7_give, cX7_give, 5, none)) else (bif Nat.blt j 73 then ((yX7_countStretches, cX7_countStretches, 3, (some .int))) else ((yX7_firstCode, cX7_firstCode, 3, (some .int))))))) else (bif Nat.blt j 79 then (bif Nat.blt j 76 then (bif Nat.blt j 75 then ((yX7_lastCode, cX7_lastCode, 3, (some .int))) else ((yX8_init, cX8_init, 1, none))) else (bif Nat.blt j 77 then ((yX8_post, cX8_post, 6, (some .int))) else (bif Nat.blt j 78 then ((yX8_hour, cX8_hour, 1, (some .int))) else ((yX8_setRange, cX8_setRange, 4, (some .int)))))) else (bif Nat.blt j 82 then (bif Nat.blt j 80 then ((yX8_set, cX8_set, 4, (some .int))) else (bif Nat.blt j 81 then ((yX8_assign, cX8_assign, 5, (some .int))) else ((yX8_goOut, cX8_goOut, 2, (some .int))))) else (bif Nat.blt j 83 then ((yX8_comeBack, cX8_comeBack, 2, (some .int))) else (bif Nat.blt j 84 then ((yX8_take, cX8_take, 2, (some .int))) else ((yX8_restore, cX8_restore, 2, (some .int)))))))))) else (bif Nat.blt j 128 then (bif Nat.blt j 106 then (bif Nat.blt j 95 then (bif Nat.blt j 90 then (bif Nat.blt j 87 then (bif Nat.blt j 86 then ((yX8_undo, cX8_undo, 1, (some .int))) else ((yX8_append, cX8_append, 2, (some .int)))) else (bif Nat.blt j 88 then ((yX8_clearText, cX8_clearText, 2, (some .int))) else (bif Nat.blt j 89 then ((yX8_setRanges, cX8_setRanges, 3, (some .int))) else ((yX8_count, cX8_count, 2, (some .int)))))) else (bif Nat.blt j 92 then (bif Nat.blt j 91 then ((yX8_letter, cX8_letter, 4, (some .int))) else ((yX8_frame, cX8_frame, 3, (some .int)))) else (bif Nat.blt j 93 then ((yX8_carrier, cX8_carrier, 4, (some .int))) else (bif Nat.blt j 94 then ((yX8_rounds, cX8_rounds, 3, (some .int))) else ((yX8_stretch, cX8_stretch, 3, (some .int))))))) else (bif Nat.blt j 100 then (bif Nat.blt j 97 then (bif Nat.blt j 96 then ((yX8_inBag, cX8_inBag, 2, (some .int))) else ((yX8_inFrame, cX8_inFrame, 3, (some .int)))) else (bif Nat.blt j 98 then ((yX8_clearIn, cX8_clearIn, 2, (some .int))) else (bif Nat.blt j 99 then ((yX8_wouldOverflow, cX8_wouldOverflow, 2, (some .int))) else ((yX8_bestCarrier, cX8_bestCarrier, 2, (some .int)))))) else (bif Nat.blt j 103 then (bif Nat.blt j 101 then ((yX8_wouldDeliver, cX8_wouldDeliver, 3, (some .int))) else (bif Nat.blt j 102 then ((yX8_isIn, cX8_isIn, 3, (some .boolean))) else ((yX8_isWalk, cX8_isWalk, 1, (some .boolean))))) else (bif Nat.blt j 104 then ((yX8_isCarrier, cX8_isCarrier, 1, (some .boolean))) else (bif Nat.blt j 105 then ((yX8_isSlot, cX8_isSlot, 1, (some .boolean))) else ((yX8_leastValue, cX8_leastValue, 1, (some .int)))))))) else (bif Nat.blt j 117 then (bif Nat.blt j 111 then (bif Nat.blt j 108 then (bif Nat.blt j 107 then ((yX8_greatestValue, cX8_greatestValue, 1, (some .int))) else ((yX9_init, cX9_init, 2, none))) else (bif Nat.blt j 109 then ((yX9_in, cX9_in, 3, (some .boolean))) else (bif Nat.blt j 110 then ((yX9_copies, cX9_copies, 5, none)) else ((yX9_records, cX9_records, 2, none))))) else (bif Nat.blt j 114 then (bif Nat.blt j 112 then ((yX9_of, cX9_of, 3, (some .int))) else (bif Nat.blt j 113 then ((yX9_set, cX9_set, 4, none)) else ((yX9_puts, cX9_puts, 4, none)))) else (bif Nat.blt j 115 then ((yX9_walkOf, cX9_walkOf, 2, (some .int))) else (bif Nat.blt j 116 then ((yX9_isWalk, cX9_isWalk, 1, (some .boolean))) else ((yX9_isCarrier, cX9_isCarrier, 1, (some .boolean))))))) else (bif Nat.blt j 122 then (bif Nat.blt j 119 then (bif Nat.blt j 118 then ((yX9_isAt, cX9_isAt, 4, (some .boolean))) else ((yX9_countAt, cX9_countAt, 5, (some .int)))) else (bif Nat.blt j 120 then ((yX9_countIn, cX9_countIn, 4, (some .int))) else (bif Nat.blt j 121 then ((yX9_free, cX9_free, 3, (some .int))) else ((yX9_layByCodes, cX9_layByCodes, 6, (some .int)))))) else (bif Nat.blt j 125 then (bif Nat.blt j 123 then ((yX9_rank, cX9_rank, 2, (some .int))) else (bif Nat.blt j 124 then ((yX9_layBag, cX9_layBag, 4, (some .int))) else ((yX9_post, cX9_post, 7, (some .int))))) else (bif Nat.blt j 126 then ((yX9_lastSecond, cX9_lastSecond, 4, (some .int))) else (bif Nat.blt j 127 then ((yX9_freest, cX9_freest, 5, (some .int))) else ((yX9_sorts, cX9_sorts, 3, none)))))))) else (bif Nat.blt j 149 then (bif Nat.blt j 138 then (bif Nat.blt j 133 then (bif Nat.blt j 130 then (bif Nat.blt j 129 then ((yX9_hours, cX9_hours, 3, (some .int))) else ((yX9_hour, cX9_hour, 1, (some .int)))) else (bif Nat.blt j 131 then ((yX9_stretches, cX9_stretches, 3, (some .int))) else (bif Nat.blt j 132 then ((yX9_ranges, cX9_ranges, 5, none)) else ((yX9_setRange, cX9_setRange, 4, (some .int)))))) else (bif Nat.blt j 135 then (bif Nat.blt j 134 then ((yX9_most, cX9_most, 1, (some .int))) else ((yX9_set_, cX9_set_, 4, (some .int)))) else (bif Nat.blt j 136 then ((yX9_walkBy, cX9_walkBy, 3, (some .int))) else (bif Nat.blt j 137 then ((yX9_assign, cX9_assign, 5, (some .int))) else ((yX9_canGo, cX9_canGo, 3, (some .boolean))))))) else (bif Nat.blt j 143 then (bif Nat.blt j 140 then (bif Nat.blt j 139 then ((yX9_goes, cX9_goes, 4, (some .int))) else ((yX9_goOut, cX9_goOut, 2, (some .int)))) else (bif Nat.blt j 141 then ((yX9_ends, cX9_ends, 3, none)) else (bif Nat.blt j 142 then ((yX9_misroutes, cX9_misroutes, 2, none)) else ((yX9_comes, cX9_comes, 9, (some .int)))))) else (bif Nat.blt j 146 then (bif Nat.blt j 144 then ((yX9_comeBack, cX9_comeBack, 2, (some .int))) else (bif Nat.blt j 145 then ((yX9_take, cX9_take, 2, (some .int))) else ((yX9_restore, cX9_restore, 2, (some .int))))) else (bif Nat.blt j 147 then ((yX9_undo, cX9_undo, 1, (some .int))) else (bif Nat.blt j 148 then ((yX9_append, cX9_append, 2, (some .int))) else ((yX9_clearText, cX9_clearText, 2, (some .int)))))))) else (bif Nat.blt j 160 then (bif Nat.blt j 154 then (bif Nat.blt j 151 then (bif Nat.blt j 150 then ((yX9_isDigit, cX9_isDigit, 2, (some .boolean))) else ((yX9_takes, cX9_takes, 3, (some .boolean)))) else (bif Nat.blt j 152 then ((yX9_takesNumber, cX9_takesNumber, 1, (some .boolean))) else (bif Nat.blt j 153 then ((yX9_reads, cX9_reads, 7, (some .int))) else ((yX9_setRanges, cX9_setRanges, 2, (some .int)))))) else (bif Nat.blt j 157 then (bif Nat.blt j 155 then ((yX9_astray, cX9_astray, 3, (some .int))) else (bif Nat.blt j 156 then ((yX9_out, cX9_out, 3, (some .int))) else ((yX9_count, cX9_count, 2, (some .int))))) else (bif Nat.blt j 158 then ((yX9_letter, cX9_letter, 3, (some .int))) else (bif Nat.blt j 159 then ((yX9_firstIn, cX9_firstIn, 4, (some .int))) else ((yX9_frame, cX9_frame, 3, (some .int))))))) else (bif Nat.blt j 165 then (bif Nat.blt j 162 then (bif Nat.blt j 161 then ((yX9_carrier, cX9_carrier, 3, (some .int))) else ((yX9_rounds, cX9_rounds, 3, (some .int)))) else (bif Nat.blt j 163 then ((yX9_stretch, cX9_stretch, 5, (some .int))) else (bif Nat.blt j 164 then ((yX9_inBag, cX9_inBag, 2, (some .int))) else ((yX9_inFrame, cX9_inFrame, 3, (some .int)))))) else (bif Nat.blt j 168 then (bif Nat.blt j 166 then ((yX9_putAside, cX9_putAside, 1, none)) else (bif Nat.blt j 167 then ((yX9_comesBack, cX9_comesBack, 1, none)) else ((yX9_clearIn, cX9_clearIn, 2, (some .int))))) else (bif Nat.blt j 169 then ((yX9_wouldOverflow, cX9_wouldOverflow, 3, (some .int))) else (bif Nat.blt j 170 then ((yX9_bestCarrier, cX9_bestCarrier, 6, (some .int))) else ((yX9_wouldDeliver, cX9_wouldDeliver, 3, (some .int))))))))))
/-- what a call's link says: (kind, own class, place, method, arguments); kinds: 44 virtual, 45 special, 46 static -/
def ClOk (r : Nat × Nat × Nat × Nat × Nat) : Prop := ((Cond.methodLink (nmC r.2.1) r.2.2.1 (mN r.2.2.2.1).1 ∈ Tg) ∨ (∃ host, Cond.methodLinkNest (nmC r.2.1) r.2.2.1 (mN r.2.2.2.1).1 host ∈ Nw)) ∧ (Cond.code (mN r.2.2.2.1).1 (mN r.2.2.2.1).2.1 (mN r.2.2.2.1).2.2.1 (mN r.2.2.2.1).2.2.2 ∈ Tg) ∧ (Cond.initialized (mN r.2.2.2.1).1.cls ∈ Tg) ∧ ((mN r.2.2.2.1).1.cls ≠ "java/lang/invoke/MethodHandle" ∧ (mN r.2.2.2.1).1.cls ≠ "java/lang/invoke/VarHandle" ∧ (parseMethodDescriptor (mN r.2.2.2.1).1.desc).map (fun d => d.parameters.length) = some r.2.2.2.2) ∧ (r.1 = 46 → Cond.static (mN r.2.2.2.1).1 ∈ Tg) ∧ (r.1 ≠ 46 → Cond.instanceMethod (mN r.2.2.2.1).1 ∈ Tg) ∧ (r.1 = 44 → Cond.selects (mN r.2.2.2.1).1.cls (mN r.2.2.2.1).1 (mN r.2.2.2.1).1 ∈ Tg) ∧ (r.1 = 45 → (mN r.2.2.2.1).1.name = "<init>")
theorem cl_0 : ClOk (46, 0, 31, 103, 1) := ⟨.inr ⟨"WalkFrames", nw_mem 530 (by decide +kernel) rfl⟩, tg_mem 484 (by decide +kernel) rfl, tg_mem 50 (by decide +kernel) rfl, by decide +kernel, fun _ => tg_mem 483 (by decide +kernel) rfl, fun h => absurd rfl h, fun h => absurd h (by decide), fun h => absurd h (by decide)⟩
theorem cl_1 : ClOk (46, 0, 35, 102, 1) := ⟨.inr ⟨"WalkFrames", nw_mem 531 (by decide +kernel) rfl⟩, tg_mem 376 (by decide +kernel) rfl, tg_mem 50 (by decide +kernel) rfl, by decide +kernel, fun _ => tg_mem 375 (by decide +kernel) rfl, fun h => absurd rfl h, fun h => absurd h (by decide), fun h => absurd h (by decide)⟩
theorem cl_2 : ClOk (44, 0, 38, 5, 2) := ⟨.inl (tg_mem 526 (by decide +kernel) rfl), tg_mem 529 (by decide +kernel) rfl, tg_mem 56 (by decide +kernel) rfl, by decide +kernel, fun h => absurd h (by decide), fun _ => tg_mem 527 (by decide +kernel) rfl, fun _ => tg_mem 528 (by decide +kernel) rfl, fun h => absurd h (by decide)⟩
theorem cl_3 : ClOk (45, 1, 17, 37, 0) := ⟨.inl (tg_mem 230 (by decide +kernel) rfl), tg_mem 74 (by decide +kernel) rfl, tg_mem 51 (by decide +kernel) rfl, by decide +kernel, fun h => absurd h (by decide), fun _ => tg_mem 73 (by decide +kernel) rfl, fun h => absurd h (by decide), fun _ => rfl⟩
theorem cl_4 : ClOk (44, 1, 22, 11, 0) := ⟨.inl (tg_mem 320 (by decide +kernel) rfl), tg_mem 323 (by decide +kernel) rfl, tg_mem 57 (by decide +kernel) rfl, by decide +kernel, fun h => absurd h (by decide), fun _ => tg_mem 322 (by decide +kernel) rfl, fun _ => tg_mem 0 (by decide +kernel) rfl, fun h => absurd h (by decide)⟩
theorem cl_5 : ClOk (44, 1, 25, 38, 1) := ⟨.inl (tg_mem 324 (by decide +kernel) rfl), tg_mem 327 (by decide +kernel) rfl, tg_mem 51 (by decide +kernel) rfl, by decide +kernel, fun h => absurd h (by decide), fun _ => tg_mem 325 (by decide +kernel) rfl, fun _ => tg_mem 326 (by decide +kernel) rfl, fun h => absurd h (by decide)⟩
theorem cl_6 : ClOk (44, 2, 46, 15, 1) := ⟨.inl (tg_mem 370 (by decide +kernel) rfl), tg_mem 373 (by decide +kernel) rfl, tg_mem 55 (by decide +kernel) rfl, by decide +kernel, fun h => absurd h (by decide), fun _ => tg_mem 371 (by decide +kernel) rfl, fun _ => tg_mem 372 (by decide +kernel) rfl, fun h => absurd h (by decide)⟩
theorem cl_7 : ClOk (46, 2, 50, 102, 1) := ⟨.inr ⟨"WalkFrames", nw_mem 374 (by decide +kernel) rfl⟩, tg_mem 376 (by decide +kernel) rfl, tg_mem 50 (by decide +kernel) rfl, by decide +kernel, fun _ => tg_mem 375 (by decide +kernel) rfl, fun h => absurd rfl h, fun h => absurd h (by decide), fun h => absurd h (by decide)⟩
theorem cl_8 : ClOk (44, 2, 53, 17, 3) := ⟨.inl (tg_mem 366 (by decide +kernel) rfl), tg_mem 369 (by decide +kernel) rfl, tg_mem 55 (by decide +kernel) rfl, by decide +kernel, fun h => absurd h (by decide), fun _ => tg_mem 367 (by decide +kernel) rfl, fun _ => tg_mem 368 (by decide +kernel) rfl, fun h => absurd h (by decide)⟩
theorem cl_9 : ClOk (44, 2, 57, 18, 3) := ⟨.inl (tg_mem 536 (by decide +kernel) rfl), tg_mem 539 (by decide +kernel) rfl, tg_mem 55 (by decide +kernel) rfl, by decide +kernel, fun h => absurd h (by decide), fun _ => tg_mem 537 (by decide +kernel) rfl, fun _ => tg_mem 538 (by decide +kernel) rfl, fun h => absurd h (by decide)⟩
theorem cl_10 : ClOk (44, 2, 60, 32, 3) := ⟨.inl (tg_mem 428 (by decide +kernel) rfl), tg_mem 431 (by decide +kernel) rfl, tg_mem 55 (by decide +kernel) rfl, by decide +kernel, fun h => absurd h (by decide), fun _ => tg_mem 430 (by decide +kernel) rfl, fun _ => tg_mem 4 (by decide +kernel) rfl, fun h => absurd h (by decide)⟩
theorem cl_11 : ClOk (44, 2, 64, 20, 1) := ⟨.inl (tg_mem 432 (by decide +kernel) rfl), tg_mem 423 (by decide +kernel) rfl, tg_mem 55 (by decide +kernel) rfl, by decide +kernel, fun h => absurd h (by decide), fun _ => tg_mem 421 (by decide +kernel) rfl, fun _ => tg_mem 422 (by decide +kernel) rfl, fun h => absurd h (by decide)⟩
theorem cl_12 : ClOk (44, 2, 72, 28, 3) := ⟨.inl (tg_mem 381 (by decide +kernel) rfl), tg_mem 384 (by decide +kernel) rfl, tg_mem 55 (by decide +kernel) rfl, by decide +kernel, fun h => absurd h (by decide), fun _ => tg_mem 383 (by decide +kernel) rfl, fun _ => tg_mem 1 (by decide +kernel) rfl, fun h => absurd h (by decide)⟩
theorem cl_13 : ClOk (44, 2, 76, 34, 1) := ⟨.inl (tg_mem 385 (by decide +kernel) rfl), tg_mem 388 (by decide +kernel) rfl, tg_mem 59 (by decide +kernel) rfl, by decide +kernel, fun h => absurd h (by decide), fun _ => tg_mem 386 (by decide +kernel) rfl, fun _ => tg_mem 387 (by decide +kernel) rfl, fun h => absurd h (by decide)⟩
theorem cl_14 : ClOk (44, 2, 80, 30, 2) := ⟨.inl (tg_mem 497 (by decide +kernel) rfl), tg_mem 500 (by decide +kernel) rfl, tg_mem 55 (by decide +kernel) rfl, by decide +kernel, fun h => absurd h (by decide), fun _ => tg_mem 499 (by decide +kernel) rfl, fun _ => tg_mem 6 (by decide +kernel) rfl, fun h => absurd h (by decide)⟩
theorem cl_15 : ClOk (44, 2, 84, 36, 1) := ⟨.inl (tg_mem 501 (by decide +kernel) rfl), tg_mem 395 (by decide +kernel) rfl, tg_mem 59 (by decide +kernel) rfl, by decide +kernel, fun h => absurd h (by decide), fun _ => tg_mem 393 (by decide +kernel) rfl, fun _ => tg_mem 394 (by decide +kernel) rfl, fun h => absurd h (by decide)⟩
theorem cl_16 : ClOk (44, 2, 88, 31, 2) := ⟨.inl (tg_mem 502 (by decide +kernel) rfl), tg_mem 505 (by decide +kernel) rfl, tg_mem 55 (by decide +kernel) rfl, by decide +kernel, fun h => absurd h (by decide), fun _ => tg_mem 504 (by decide +kernel) rfl, fun _ => tg_mem 7 (by decide +kernel) rfl, fun h => absurd h (by decide)⟩
theorem cl_17 : ClOk (44, 2, 92, 35, 1) := ⟨.inl (tg_mem 506 (by decide +kernel) rfl), tg_mem 509 (by decide +kernel) rfl, tg_mem 59 (by decide +kernel) rfl, by decide +kernel, fun h => absurd h (by decide), fun _ => tg_mem 507 (by decide +kernel) rfl, fun _ => tg_mem 508 (by decide +kernel) rfl, fun h => absurd h (by decide)⟩
theorem cl_18 : ClOk (45, 4, 11, 41, 0) := ⟨.inl (tg_mem 78 (by decide +kernel) rfl), tg_mem 80 (by decide +kernel) rfl, tg_mem 52 (by decide +kernel) rfl, by decide +kernel, fun h => absurd h (by decide), fun _ => tg_mem 79 (by decide +kernel) rfl, fun h => absurd h (by decide), fun _ => rfl⟩
theorem cl_19 : ClOk (44, 4, 26, 42, 1) := ⟨.inl (tg_mem 328 (by decide +kernel) rfl), tg_mem 331 (by decide +kernel) rfl, tg_mem 52 (by decide +kernel) rfl, by decide +kernel, fun h => absurd h (by decide), fun _ => tg_mem 329 (by decide +kernel) rfl, fun _ => tg_mem 330 (by decide +kernel) rfl, fun h => absurd h (by decide)⟩
theorem cl_20 : ClOk (45, 5, 11, 68, 0) := ⟨.inl (tg_mem 84 (by decide +kernel) rfl), tg_mem 86 (by decide +kernel) rfl, tg_mem 53 (by decide +kernel) rfl, by decide +kernel, fun h => absurd h (by decide), fun _ => tg_mem 85 (by decide +kernel) rfl, fun h => absurd h (by decide), fun _ => rfl⟩
theorem cl_21 : ClOk (45, 5, 20, 13, 0) := ⟨.inr ⟨"WalkFrames", nw_mem 104 (by decide +kernel) rfl⟩, tg_mem 106 (by decide +kernel) rfl, tg_mem 55 (by decide +kernel) rfl, by decide +kernel, fun h => absurd h (by decide), fun _ => tg_mem 105 (by decide +kernel) rfl, fun h => absurd h (by decide), fun _ => rfl⟩
theorem cl_22 : ClOk (45, 5, 27, 0, 0) := ⟨.inl (tg_mem 152 (by decide +kernel) rfl), tg_mem 154 (by decide +kernel) rfl, tg_mem 56 (by decide +kernel) rfl, by decide +kernel, fun h => absurd h (by decide), fun _ => tg_mem 153 (by decide +kernel) rfl, fun h => absurd h (by decide), fun _ => rfl⟩
theorem cl_23 : ClOk (44, 5, 46, 69, 1) := ⟨.inl (tg_mem 332 (by decide +kernel) rfl), tg_mem 335 (by decide +kernel) rfl, tg_mem 53 (by decide +kernel) rfl, by decide +kernel, fun h => absurd h (by decide), fun _ => tg_mem 333 (by decide +kernel) rfl, fun _ => tg_mem 334 (by decide +kernel) rfl, fun h => absurd h (by decide)⟩
theorem cl_24 : ClOk (44, 5, 50, 14, 1) := ⟨.inl (tg_mem 339 (by decide +kernel) rfl), tg_mem 342 (by decide +kernel) rfl, tg_mem 55 (by decide +kernel) rfl, by decide +kernel, fun h => absurd h (by decide), fun _ => tg_mem 340 (by decide +kernel) rfl, fun _ => tg_mem 341 (by decide +kernel) rfl, fun h => absurd h (by decide)⟩
theorem cl_25 : ClOk (44, 5, 53, 1, 1) := ⟨.inl (tg_mem 344 (by decide +kernel) rfl), tg_mem 347 (by decide +kernel) rfl, tg_mem 56 (by decide +kernel) rfl, by decide +kernel, fun h => absurd h (by decide), fun _ => tg_mem 345 (by decide +kernel) rfl, fun _ => tg_mem 346 (by decide +kernel) rfl, fun h => absurd h (by decide)⟩
theorem cl_26 : ClOk (46, 5, 65, 102, 1) := ⟨.inr ⟨"WalkFrames", nw_mem 418 (by decide +kernel) rfl⟩, tg_mem 376 (by decide +kernel) rfl, tg_mem 50 (by decide +kernel) rfl, by decide +kernel, fun _ => tg_mem 375 (by decide +kernel) rfl, fun h => absurd rfl h, fun h => absurd h (by decide), fun h => absurd h (by decide)⟩
theorem cl_27 : ClOk (44, 5, 69, 15, 1) := ⟨.inl (tg_mem 408 (by decide +kernel) rfl), tg_mem 373 (by decide +kernel) rfl, tg_mem 55 (by decide +kernel) rfl, by decide +kernel, fun h => absurd h (by decide), fun _ => tg_mem 371 (by decide +kernel) rfl, fun _ => tg_mem 372 (by decide +kernel) rfl, fun h => absurd h (by decide)⟩
theorem cl_28 : ClOk (44, 5, 75, 70, 1) := ⟨.inl (tg_mem 409 (by decide +kernel) rfl), tg_mem 412 (by decide +kernel) rfl, tg_mem 53 (by decide +kernel) rfl, by decide +kernel, fun h => absurd h (by decide), fun _ => tg_mem 410 (by decide +kernel) rfl, fun _ => tg_mem 411 (by decide +kernel) rfl, fun h => absurd h (by decide)⟩
theorem cl_29 : ClOk (44, 5, 97, 45, 1) := ⟨.inl (tg_mem 404 (by decide +kernel) rfl), tg_mem 407 (by decide +kernel) rfl, tg_mem 52 (by decide +kernel) rfl, by decide +kernel, fun h => absurd h (by decide), fun _ => tg_mem 405 (by decide +kernel) rfl, fun _ => tg_mem 406 (by decide +kernel) rfl, fun h => absurd h (by decide)⟩
theorem cl_30 : ClOk (44, 5, 98, 22, 1) := ⟨.inl (tg_mem 705 (by decide +kernel) rfl), tg_mem 441 (by decide +kernel) rfl, tg_mem 55 (by decide +kernel) rfl, by decide +kernel, fun h => absurd h (by decide), fun _ => tg_mem 439 (by decide +kernel) rfl, fun _ => tg_mem 440 (by decide +kernel) rfl, fun h => absurd h (by decide)⟩
theorem cl_31 : ClOk (44, 5, 101, 21, 0) := ⟨.inl (tg_mem 362 (by decide +kernel) rfl), tg_mem 365 (by decide +kernel) rfl, tg_mem 55 (by decide +kernel) rfl, by decide +kernel, fun h => absurd h (by decide), fun _ => tg_mem 363 (by decide +kernel) rfl, fun _ => tg_mem 364 (by decide +kernel) rfl, fun h => absurd h (by decide)⟩
theorem cl_32 : ClOk (44, 5, 104, 27, 1) := ⟨.inl (tg_mem 377 (by decide +kernel) rfl), tg_mem 380 (by decide +kernel) rfl, tg_mem 55 (by decide +kernel) rfl, by decide +kernel, fun h => absurd h (by decide), fun _ => tg_mem 378 (by decide +kernel) rfl, fun _ => tg_mem 379 (by decide +kernel) rfl, fun h => absurd h (by decide)⟩
theorem cl_33 : ClOk (44, 5, 116, 36, 1) := ⟨.inl (tg_mem 392 (by decide +kernel) rfl), tg_mem 395 (by decide +kernel) rfl, tg_mem 59 (by decide +kernel) rfl, by decide +kernel, fun h => absurd h (by decide), fun _ => tg_mem 393 (by decide +kernel) rfl, fun _ => tg_mem 394 (by decide +kernel) rfl, fun h => absurd h (by decide)⟩
theorem cl_34 : ClOk (44, 5, 119, 50, 1) := ⟨.inl (tg_mem 396 (by decide +kernel) rfl), tg_mem 399 (by decide +kernel) rfl, tg_mem 52 (by decide +kernel) rfl, by decide +kernel, fun h => absurd h (by decide), fun _ => tg_mem 398 (by decide +kernel) rfl, fun _ => tg_mem 2 (by decide +kernel) rfl, fun h => absurd h (by decide)⟩
theorem cl_35 : ClOk (44, 5, 122, 51, 1) := ⟨.inl (tg_mem 400 (by decide +kernel) rfl), tg_mem 403 (by decide +kernel) rfl, tg_mem 52 (by decide +kernel) rfl, by decide +kernel, fun h => absurd h (by decide), fun _ => tg_mem 402 (by decide +kernel) rfl, fun _ => tg_mem 3 (by decide +kernel) rfl, fun h => absurd h (by decide)⟩
theorem cl_36 : ClOk (44, 5, 125, 17, 3) := ⟨.inl (tg_mem 437 (by decide +kernel) rfl), tg_mem 369 (by decide +kernel) rfl, tg_mem 55 (by decide +kernel) rfl, by decide +kernel, fun h => absurd h (by decide), fun _ => tg_mem 367 (by decide +kernel) rfl, fun _ => tg_mem 368 (by decide +kernel) rfl, fun h => absurd h (by decide)⟩
theorem cl_37 : ClOk (44, 5, 129, 46, 1) := ⟨.inl (tg_mem 414 (by decide +kernel) rfl), tg_mem 417 (by decide +kernel) rfl, tg_mem 52 (by decide +kernel) rfl, by decide +kernel, fun h => absurd h (by decide), fun _ => tg_mem 415 (by decide +kernel) rfl, fun _ => tg_mem 416 (by decide +kernel) rfl, fun h => absurd h (by decide)⟩
theorem cl_38 : ClOk (44, 5, 132, 20, 1) := ⟨.inl (tg_mem 420 (by decide +kernel) rfl), tg_mem 423 (by decide +kernel) rfl, tg_mem 55 (by decide +kernel) rfl, by decide +kernel, fun h => absurd h (by decide), fun _ => tg_mem 421 (by decide +kernel) rfl, fun _ => tg_mem 422 (by decide +kernel) rfl, fun h => absurd h (by decide)⟩
theorem cl_39 : ClOk (44, 5, 135, 26, 1) := ⟨.inl (tg_mem 424 (by decide +kernel) rfl), tg_mem 427 (by decide +kernel) rfl, tg_mem 55 (by decide +kernel) rfl, by decide +kernel, fun h => absurd h (by decide), fun _ => tg_mem 425 (by decide +kernel) rfl, fun _ => tg_mem 426 (by decide +kernel) rfl, fun h => absurd h (by decide)⟩
theorem cl_40 : ClOk (44, 5, 138, 52, 0) := ⟨.inl (tg_mem 433 (by decide +kernel) rfl), tg_mem 436 (by decide +kernel) rfl, tg_mem 52 (by decide +kernel) rfl, by decide +kernel, fun h => absurd h (by decide), fun _ => tg_mem 435 (by decide +kernel) rfl, fun _ => tg_mem 5 (by decide +kernel) rfl, fun h => absurd h (by decide)⟩
theorem cl_41 : ClOk (44, 5, 149, 29, 3) := ⟨.inl (tg_mem 493 (by decide +kernel) rfl), tg_mem 496 (by decide +kernel) rfl, tg_mem 55 (by decide +kernel) rfl, by decide +kernel, fun h => absurd h (by decide), fun _ => tg_mem 494 (by decide +kernel) rfl, fun _ => tg_mem 495 (by decide +kernel) rfl, fun h => absurd h (by decide)⟩
theorem cl_42 : ClOk (44, 5, 153, 56, 2) := ⟨.inl (tg_mem 518 (by decide +kernel) rfl), tg_mem 521 (by decide +kernel) rfl, tg_mem 52 (by decide +kernel) rfl, by decide +kernel, fun h => absurd h (by decide), fun _ => tg_mem 520 (by decide +kernel) rfl, fun _ => tg_mem 8 (by decide +kernel) rfl, fun h => absurd h (by decide)⟩
theorem cl_43 : ClOk (44, 5, 157, 6, 2) := ⟨.inl (tg_mem 522 (by decide +kernel) rfl), tg_mem 525 (by decide +kernel) rfl, tg_mem 56 (by decide +kernel) rfl, by decide +kernel, fun h => absurd h (by decide), fun _ => tg_mem 523 (by decide +kernel) rfl, fun _ => tg_mem 524 (by decide +kernel) rfl, fun h => absurd h (by decide)⟩
theorem cl_44 : ClOk (44, 5, 161, 19, 2) := ⟨.inl (tg_mem 532 (by decide +kernel) rfl), tg_mem 535 (by decide +kernel) rfl, tg_mem 55 (by decide +kernel) rfl, by decide +kernel, fun h => absurd h (by decide), fun _ => tg_mem 533 (by decide +kernel) rfl, fun _ => tg_mem 534 (by decide +kernel) rfl, fun h => absurd h (by decide)⟩
theorem cl_45 : ClOk (44, 5, 165, 18, 3) := ⟨.inl (tg_mem 540 (by decide +kernel) rfl), tg_mem 539 (by decide +kernel) rfl, tg_mem 55 (by decide +kernel) rfl, by decide +kernel, fun h => absurd h (by decide), fun _ => tg_mem 537 (by decide +kernel) rfl, fun _ => tg_mem 538 (by decide +kernel) rfl, fun h => absurd h (by decide)⟩
theorem cl_46 : ClOk (44, 5, 168, 57, 2) := ⟨.inl (tg_mem 541 (by decide +kernel) rfl), tg_mem 544 (by decide +kernel) rfl, tg_mem 52 (by decide +kernel) rfl, by decide +kernel, fun h => absurd h (by decide), fun _ => tg_mem 543 (by decide +kernel) rfl, fun _ => tg_mem 9 (by decide +kernel) rfl, fun h => absurd h (by decide)⟩
theorem cl_47 : ClOk (44, 5, 171, 7, 2) := ⟨.inl (tg_mem 545 (by decide +kernel) rfl), tg_mem 548 (by decide +kernel) rfl, tg_mem 56 (by decide +kernel) rfl, by decide +kernel, fun h => absurd h (by decide), fun _ => tg_mem 546 (by decide +kernel) rfl, fun _ => tg_mem 547 (by decide +kernel) rfl, fun h => absurd h (by decide)⟩
theorem cl_48 : ClOk (44, 6, 39, 62, 0) := ⟨.inl (tg_mem 597 (by decide +kernel) rfl), tg_mem 600 (by decide +kernel) rfl, tg_mem 58 (by decide +kernel) rfl, by decide +kernel, fun h => absurd h (by decide), fun _ => tg_mem 599 (by decide +kernel) rfl, fun _ => tg_mem 10 (by decide +kernel) rfl, fun h => absurd h (by decide)⟩
theorem cl_49 : ClOk (44, 6, 42, 65, 1) := ⟨.inl (tg_mem 613 (by decide +kernel) rfl), tg_mem 616 (by decide +kernel) rfl, tg_mem 58 (by decide +kernel) rfl, by decide +kernel, fun h => absurd h (by decide), fun _ => tg_mem 615 (by decide +kernel) rfl, fun _ => tg_mem 14 (by decide +kernel) rfl, fun h => absurd h (by decide)⟩
theorem cl_50 : ClOk (44, 6, 46, 63, 0) := ⟨.inl (tg_mem 601 (by decide +kernel) rfl), tg_mem 604 (by decide +kernel) rfl, tg_mem 58 (by decide +kernel) rfl, by decide +kernel, fun h => absurd h (by decide), fun _ => tg_mem 603 (by decide +kernel) rfl, fun _ => tg_mem 11 (by decide +kernel) rfl, fun h => absurd h (by decide)⟩
theorem cl_51 : ClOk (44, 6, 50, 64, 1) := ⟨.inl (tg_mem 605 (by decide +kernel) rfl), tg_mem 608 (by decide +kernel) rfl, tg_mem 58 (by decide +kernel) rfl, by decide +kernel, fun h => absurd h (by decide), fun _ => tg_mem 607 (by decide +kernel) rfl, fun _ => tg_mem 12 (by decide +kernel) rfl, fun h => absurd h (by decide)⟩
theorem cl_52 : ClOk (44, 6, 54, 66, 2) := ⟨.inl (tg_mem 609 (by decide +kernel) rfl), tg_mem 612 (by decide +kernel) rfl, tg_mem 58 (by decide +kernel) rfl, by decide +kernel, fun h => absurd h (by decide), fun _ => tg_mem 611 (by decide +kernel) rfl, fun _ => tg_mem 13 (by decide +kernel) rfl, fun h => absurd h (by decide)⟩
theorem cl_53 : ClOk (44, 7, 18, 71, 3) := ⟨.inl (tg_mem 90 (by decide +kernel) rfl), tg_mem 93 (by decide +kernel) rfl, tg_mem 53 (by decide +kernel) rfl, by decide +kernel, fun h => absurd h (by decide), fun _ => tg_mem 91 (by decide +kernel) rfl, fun _ => tg_mem 92 (by decide +kernel) rfl, fun h => absurd h (by decide)⟩
theorem cl_54 : ClOk (46, 7, 28, 101, 3) := ⟨.inr ⟨"WalkFrames", nw_mem 413 (by decide +kernel) rfl⟩, tg_mem 315 (by decide +kernel) rfl, tg_mem 50 (by decide +kernel) rfl, by decide +kernel, fun _ => tg_mem 314 (by decide +kernel) rfl, fun h => absurd rfl h, fun h => absurd h (by decide), fun h => absurd h (by decide)⟩
theorem cl_55 : ClOk (45, 8, 9, 37, 0) := ⟨.inl (tg_mem 72 (by decide +kernel) rfl), tg_mem 74 (by decide +kernel) rfl, tg_mem 51 (by decide +kernel) rfl, by decide +kernel, fun h => absurd h (by decide), fun _ => tg_mem 73 (by decide +kernel) rfl, fun h => absurd h (by decide), fun _ => rfl⟩
theorem cl_56 : ClOk (45, 8, 18, 9, 0) := ⟨.inl (tg_mem 224 (by decide +kernel) rfl), tg_mem 226 (by decide +kernel) rfl, tg_mem 57 (by decide +kernel) rfl, by decide +kernel, fun h => absurd h (by decide), fun _ => tg_mem 225 (by decide +kernel) rfl, fun h => absurd h (by decide), fun _ => rfl⟩
theorem cl_57 : ClOk (45, 8, 25, 58, 0) := ⟨.inr ⟨"WalkFrames", nw_mem 241 (by decide +kernel) rfl⟩, tg_mem 243 (by decide +kernel) rfl, tg_mem 58 (by decide +kernel) rfl, by decide +kernel, fun h => absurd h (by decide), fun _ => tg_mem 242 (by decide +kernel) rfl, fun h => absurd h (by decide), fun _ => rfl⟩
theorem cl_58 : ClOk (45, 8, 32, 41, 0) := ⟨.inl (tg_mem 277 (by decide +kernel) rfl), tg_mem 80 (by decide +kernel) rfl, tg_mem 52 (by decide +kernel) rfl, by decide +kernel, fun h => absurd h (by decide), fun _ => tg_mem 79 (by decide +kernel) rfl, fun h => absurd h (by decide), fun _ => rfl⟩
theorem cl_59 : ClOk (45, 8, 39, 33, 0) := ⟨.inr ⟨"WalkFrames", nw_mem 280 (by decide +kernel) rfl⟩, tg_mem 282 (by decide +kernel) rfl, tg_mem 59 (by decide +kernel) rfl, by decide +kernel, fun h => absurd h (by decide), fun _ => tg_mem 281 (by decide +kernel) rfl, fun h => absurd h (by decide), fun _ => rfl⟩
theorem cl_60 : ClOk (46, 8, 44, 101, 3) := ⟨.inl (tg_mem 313 (by decide +kernel) rfl), tg_mem 315 (by decide +kernel) rfl, tg_mem 50 (by decide +kernel) rfl, by decide +kernel, fun _ => tg_mem 314 (by decide +kernel) rfl, fun h => absurd rfl h, fun h => absurd h (by decide), fun h => absurd h (by decide)⟩
theorem cl_61 : ClOk (44, 8, 61, 10, 1) := ⟨.inl (tg_mem 316 (by decide +kernel) rfl), tg_mem 319 (by decide +kernel) rfl, tg_mem 57 (by decide +kernel) rfl, by decide +kernel, fun h => absurd h (by decide), fun _ => tg_mem 317 (by decide +kernel) rfl, fun _ => tg_mem 318 (by decide +kernel) rfl, fun h => absurd h (by decide)⟩
theorem cl_62 : ClOk (44, 8, 68, 16, 3) := ⟨.inl (tg_mem 350 (by decide +kernel) rfl), tg_mem 353 (by decide +kernel) rfl, tg_mem 55 (by decide +kernel) rfl, by decide +kernel, fun h => absurd h (by decide), fun _ => tg_mem 351 (by decide +kernel) rfl, fun _ => tg_mem 352 (by decide +kernel) rfl, fun h => absurd h (by decide)⟩
theorem cl_63 : ClOk (44, 8, 72, 49, 1) := ⟨.inl (tg_mem 358 (by decide +kernel) rfl), tg_mem 361 (by decide +kernel) rfl, tg_mem 52 (by decide +kernel) rfl, by decide +kernel, fun h => absurd h (by decide), fun _ => tg_mem 359 (by decide +kernel) rfl, fun _ => tg_mem 360 (by decide +kernel) rfl, fun h => absurd h (by decide)⟩
theorem cl_64 : ClOk (44, 8, 76, 22, 1) := ⟨.inl (tg_mem 438 (by decide +kernel) rfl), tg_mem 441 (by decide +kernel) rfl, tg_mem 55 (by decide +kernel) rfl, by decide +kernel, fun h => absurd h (by decide), fun _ => tg_mem 439 (by decide +kernel) rfl, fun _ => tg_mem 440 (by decide +kernel) rfl, fun h => absurd h (by decide)⟩
theorem cl_65 : ClOk (46, 8, 80, 102, 1) := ⟨.inl (tg_mem 446 (by decide +kernel) rfl), tg_mem 376 (by decide +kernel) rfl, tg_mem 50 (by decide +kernel) rfl, by decide +kernel, fun _ => tg_mem 375 (by decide +kernel) rfl, fun h => absurd rfl h, fun h => absurd h (by decide), fun h => absurd h (by decide)⟩
theorem cl_66 : ClOk (44, 8, 88, 71, 3) := ⟨.inl (tg_mem 447 (by decide +kernel) rfl), tg_mem 93 (by decide +kernel) rfl, tg_mem 53 (by decide +kernel) rfl, by decide +kernel, fun h => absurd h (by decide), fun _ => tg_mem 91 (by decide +kernel) rfl, fun _ => tg_mem 92 (by decide +kernel) rfl, fun h => absurd h (by decide)⟩
theorem cl_67 : ClOk (44, 8, 93, 72, 0) := ⟨.inl (tg_mem 448 (by decide +kernel) rfl), tg_mem 451 (by decide +kernel) rfl, tg_mem 53 (by decide +kernel) rfl, by decide +kernel, fun h => absurd h (by decide), fun _ => tg_mem 449 (by decide +kernel) rfl, fun _ => tg_mem 450 (by decide +kernel) rfl, fun h => absurd h (by decide)⟩
theorem cl_68 : ClOk (46, 8, 97, 105, 1) := ⟨.inl (tg_mem 456 (by decide +kernel) rfl), tg_mem 458 (by decide +kernel) rfl, tg_mem 50 (by decide +kernel) rfl, by decide +kernel, fun _ => tg_mem 457 (by decide +kernel) rfl, fun h => absurd rfl h, fun h => absurd h (by decide), fun h => absurd h (by decide)⟩
theorem cl_69 : ClOk (46, 8, 100, 106, 1) := ⟨.inl (tg_mem 459 (by decide +kernel) rfl), tg_mem 461 (by decide +kernel) rfl, tg_mem 50 (by decide +kernel) rfl, by decide +kernel, fun _ => tg_mem 460 (by decide +kernel) rfl, fun h => absurd rfl h, fun h => absurd h (by decide), fun h => absurd h (by decide)⟩
theorem cl_70 : ClOk (44, 8, 103, 43, 1) := ⟨.inl (tg_mem 462 (by decide +kernel) rfl), tg_mem 465 (by decide +kernel) rfl, tg_mem 52 (by decide +kernel) rfl, by decide +kernel, fun h => absurd h (by decide), fun _ => tg_mem 463 (by decide +kernel) rfl, fun _ => tg_mem 464 (by decide +kernel) rfl, fun h => absurd h (by decide)⟩
theorem cl_71 : ClOk (44, 8, 106, 44, 2) := ⟨.inl (tg_mem 466 (by decide +kernel) rfl), tg_mem 469 (by decide +kernel) rfl, tg_mem 52 (by decide +kernel) rfl, by decide +kernel, fun h => absurd h (by decide), fun _ => tg_mem 467 (by decide +kernel) rfl, fun _ => tg_mem 468 (by decide +kernel) rfl, fun h => absurd h (by decide)⟩
theorem cl_72 : ClOk (44, 8, 114, 2, 1) := ⟨.inl (tg_mem 474 (by decide +kernel) rfl), tg_mem 477 (by decide +kernel) rfl, tg_mem 56 (by decide +kernel) rfl, by decide +kernel, fun h => absurd h (by decide), fun _ => tg_mem 475 (by decide +kernel) rfl, fun _ => tg_mem 476 (by decide +kernel) rfl, fun h => absurd h (by decide)⟩
theorem cl_73 : ClOk (46, 8, 127, 103, 1) := ⟨.inl (tg_mem 482 (by decide +kernel) rfl), tg_mem 484 (by decide +kernel) rfl, tg_mem 50 (by decide +kernel) rfl, by decide +kernel, fun _ => tg_mem 483 (by decide +kernel) rfl, fun h => absurd rfl h, fun h => absurd h (by decide), fun h => absurd h (by decide)⟩
theorem cl_74 : ClOk (44, 8, 130, 53, 1) := ⟨.inl (tg_mem 485 (by decide +kernel) rfl), tg_mem 488 (by decide +kernel) rfl, tg_mem 52 (by decide +kernel) rfl, by decide +kernel, fun h => absurd h (by decide), fun _ => tg_mem 486 (by decide +kernel) rfl, fun _ => tg_mem 487 (by decide +kernel) rfl, fun h => absurd h (by decide)⟩
theorem cl_75 : ClOk (44, 8, 133, 54, 2) := ⟨.inl (tg_mem 489 (by decide +kernel) rfl), tg_mem 492 (by decide +kernel) rfl, tg_mem 52 (by decide +kernel) rfl, by decide +kernel, fun h => absurd h (by decide), fun _ => tg_mem 490 (by decide +kernel) rfl, fun _ => tg_mem 491 (by decide +kernel) rfl, fun h => absurd h (by decide)⟩
theorem cl_76 : ClOk (44, 8, 137, 55, 2) := ⟨.inl (tg_mem 514 (by decide +kernel) rfl), tg_mem 517 (by decide +kernel) rfl, tg_mem 52 (by decide +kernel) rfl, by decide +kernel, fun h => absurd h (by decide), fun _ => tg_mem 515 (by decide +kernel) rfl, fun _ => tg_mem 516 (by decide +kernel) rfl, fun h => absurd h (by decide)⟩
theorem cl_77 : ClOk (46, 8, 140, 104, 1) := ⟨.inl (tg_mem 553 (by decide +kernel) rfl), tg_mem 555 (by decide +kernel) rfl, tg_mem 50 (by decide +kernel) rfl, by decide +kernel, fun _ => tg_mem 554 (by decide +kernel) rfl, fun h => absurd rfl h, fun h => absurd h (by decide), fun h => absurd h (by decide)⟩
theorem cl_78 : ClOk (44, 8, 143, 39, 1) := ⟨.inl (tg_mem 556 (by decide +kernel) rfl), tg_mem 559 (by decide +kernel) rfl, tg_mem 51 (by decide +kernel) rfl, by decide +kernel, fun h => absurd h (by decide), fun _ => tg_mem 557 (by decide +kernel) rfl, fun _ => tg_mem 558 (by decide +kernel) rfl, fun h => absurd h (by decide)⟩
theorem cl_79 : ClOk (44, 8, 154, 42, 1) := ⟨.inl (tg_mem 564 (by decide +kernel) rfl), tg_mem 331 (by decide +kernel) rfl, tg_mem 52 (by decide +kernel) rfl, by decide +kernel, fun h => absurd h (by decide), fun _ => tg_mem 329 (by decide +kernel) rfl, fun _ => tg_mem 330 (by decide +kernel) rfl, fun h => absurd h (by decide)⟩
theorem cl_80 : ClOk (44, 8, 161, 12, 1) := ⟨.inl (tg_mem 569 (by decide +kernel) rfl), tg_mem 572 (by decide +kernel) rfl, tg_mem 57 (by decide +kernel) rfl, by decide +kernel, fun h => absurd h (by decide), fun _ => tg_mem 570 (by decide +kernel) rfl, fun _ => tg_mem 571 (by decide +kernel) rfl, fun h => absurd h (by decide)⟩
theorem cl_81 : ClOk (44, 8, 164, 59, 0) := ⟨.inl (tg_mem 577 (by decide +kernel) rfl), tg_mem 580 (by decide +kernel) rfl, tg_mem 58 (by decide +kernel) rfl, by decide +kernel, fun h => absurd h (by decide), fun _ => tg_mem 578 (by decide +kernel) rfl, fun _ => tg_mem 579 (by decide +kernel) rfl, fun h => absurd h (by decide)⟩
theorem cl_82 : ClOk (44, 8, 168, 60, 1) := ⟨.inl (tg_mem 581 (by decide +kernel) rfl), tg_mem 584 (by decide +kernel) rfl, tg_mem 58 (by decide +kernel) rfl, by decide +kernel, fun h => absurd h (by decide), fun _ => tg_mem 582 (by decide +kernel) rfl, fun _ => tg_mem 583 (by decide +kernel) rfl, fun h => absurd h (by decide)⟩
theorem cl_83 : ClOk (44, 8, 174, 61, 0) := ⟨.inl (tg_mem 593 (by decide +kernel) rfl), tg_mem 596 (by decide +kernel) rfl, tg_mem 58 (by decide +kernel) rfl, by decide +kernel, fun h => absurd h (by decide), fun _ => tg_mem 594 (by decide +kernel) rfl, fun _ => tg_mem 595 (by decide +kernel) rfl, fun h => absurd h (by decide)⟩
theorem cl_84 : ClOk (44, 8, 177, 67, 0) := ⟨.inl (tg_mem 617 (by decide +kernel) rfl), tg_mem 620 (by decide +kernel) rfl, tg_mem 58 (by decide +kernel) rfl, by decide +kernel, fun h => absurd h (by decide), fun _ => tg_mem 618 (by decide +kernel) rfl, fun _ => tg_mem 619 (by decide +kernel) rfl, fun h => absurd h (by decide)⟩
theorem cl_85 : ClOk (44, 8, 189, 3, 0) := ⟨.inl (tg_mem 625 (by decide +kernel) rfl), tg_mem 628 (by decide +kernel) rfl, tg_mem 56 (by decide +kernel) rfl, by decide +kernel, fun h => absurd h (by decide), fun _ => tg_mem 626 (by decide +kernel) rfl, fun _ => tg_mem 627 (by decide +kernel) rfl, fun h => absurd h (by decide)⟩
theorem cl_86 : ClOk (44, 8, 192, 47, 0) := ⟨.inl (tg_mem 629 (by decide +kernel) rfl), tg_mem 632 (by decide +kernel) rfl, tg_mem 52 (by decide +kernel) rfl, by decide +kernel, fun h => absurd h (by decide), fun _ => tg_mem 630 (by decide +kernel) rfl, fun _ => tg_mem 631 (by decide +kernel) rfl, fun h => absurd h (by decide)⟩
theorem cl_87 : ClOk (44, 8, 195, 25, 0) := ⟨.inl (tg_mem 633 (by decide +kernel) rfl), tg_mem 636 (by decide +kernel) rfl, tg_mem 55 (by decide +kernel) rfl, by decide +kernel, fun h => absurd h (by decide), fun _ => tg_mem 634 (by decide +kernel) rfl, fun _ => tg_mem 635 (by decide +kernel) rfl, fun h => absurd h (by decide)⟩
theorem cl_88 : ClOk (44, 8, 198, 4, 0) := ⟨.inl (tg_mem 637 (by decide +kernel) rfl), tg_mem 640 (by decide +kernel) rfl, tg_mem 56 (by decide +kernel) rfl, by decide +kernel, fun h => absurd h (by decide), fun _ => tg_mem 638 (by decide +kernel) rfl, fun _ => tg_mem 639 (by decide +kernel) rfl, fun h => absurd h (by decide)⟩
theorem cl_89 : ClOk (44, 8, 210, 40, 0) := ⟨.inl (tg_mem 641 (by decide +kernel) rfl), tg_mem 644 (by decide +kernel) rfl, tg_mem 51 (by decide +kernel) rfl, by decide +kernel, fun h => absurd h (by decide), fun _ => tg_mem 642 (by decide +kernel) rfl, fun _ => tg_mem 643 (by decide +kernel) rfl, fun h => absurd h (by decide)⟩
theorem cl_90 : ClOk (44, 8, 213, 15, 1) := ⟨.inl (tg_mem 649 (by decide +kernel) rfl), tg_mem 373 (by decide +kernel) rfl, tg_mem 55 (by decide +kernel) rfl, by decide +kernel, fun h => absurd h (by decide), fun _ => tg_mem 371 (by decide +kernel) rfl, fun _ => tg_mem 372 (by decide +kernel) rfl, fun h => absurd h (by decide)⟩
theorem cl_91 : ClOk (44, 8, 237, 45, 1) := ⟨.inl (tg_mem 650 (by decide +kernel) rfl), tg_mem 407 (by decide +kernel) rfl, tg_mem 52 (by decide +kernel) rfl, by decide +kernel, fun h => absurd h (by decide), fun _ => tg_mem 405 (by decide +kernel) rfl, fun _ => tg_mem 406 (by decide +kernel) rfl, fun h => absurd h (by decide)⟩
theorem cl_92 : ClOk (44, 8, 246, 46, 1) := ⟨.inl (tg_mem 655 (by decide +kernel) rfl), tg_mem 417 (by decide +kernel) rfl, tg_mem 52 (by decide +kernel) rfl, by decide +kernel, fun h => absurd h (by decide), fun _ => tg_mem 415 (by decide +kernel) rfl, fun _ => tg_mem 416 (by decide +kernel) rfl, fun h => absurd h (by decide)⟩
theorem cl_93 : ClOk (44, 8, 249, 24, 1) := ⟨.inl (tg_mem 656 (by decide +kernel) rfl), tg_mem 659 (by decide +kernel) rfl, tg_mem 55 (by decide +kernel) rfl, by decide +kernel, fun h => absurd h (by decide), fun _ => tg_mem 657 (by decide +kernel) rfl, fun _ => tg_mem 658 (by decide +kernel) rfl, fun h => absurd h (by decide)⟩
theorem cl_94 : ClOk (44, 8, 252, 23, 1) := ⟨.inl (tg_mem 664 (by decide +kernel) rfl), tg_mem 667 (by decide +kernel) rfl, tg_mem 55 (by decide +kernel) rfl, by decide +kernel, fun h => absurd h (by decide), fun _ => tg_mem 665 (by decide +kernel) rfl, fun _ => tg_mem 666 (by decide +kernel) rfl, fun h => absurd h (by decide)⟩
theorem cl_95 : ClOk (44, 8, 258, 5, 2) := ⟨.inl (tg_mem 672 (by decide +kernel) rfl), tg_mem 529 (by decide +kernel) rfl, tg_mem 56 (by decide +kernel) rfl, by decide +kernel, fun h => absurd h (by decide), fun _ => tg_mem 527 (by decide +kernel) rfl, fun _ => tg_mem 528 (by decide +kernel) rfl, fun h => absurd h (by decide)⟩
theorem cl_96 : ClOk (44, 8, 262, 70, 1) := ⟨.inl (tg_mem 677 (by decide +kernel) rfl), tg_mem 412 (by decide +kernel) rfl, tg_mem 53 (by decide +kernel) rfl, by decide +kernel, fun h => absurd h (by decide), fun _ => tg_mem 410 (by decide +kernel) rfl, fun _ => tg_mem 411 (by decide +kernel) rfl, fun h => absurd h (by decide)⟩
theorem cl_97 : ClOk (44, 8, 263, 73, 1) := ⟨.inl (tg_mem 678 (by decide +kernel) rfl), tg_mem 681 (by decide +kernel) rfl, tg_mem 53 (by decide +kernel) rfl, by decide +kernel, fun h => absurd h (by decide), fun _ => tg_mem 679 (by decide +kernel) rfl, fun _ => tg_mem 680 (by decide +kernel) rfl, fun h => absurd h (by decide)⟩
theorem cl_98 : ClOk (44, 8, 266, 74, 1) := ⟨.inl (tg_mem 682 (by decide +kernel) rfl), tg_mem 685 (by decide +kernel) rfl, tg_mem 53 (by decide +kernel) rfl, by decide +kernel, fun h => absurd h (by decide), fun _ => tg_mem 683 (by decide +kernel) rfl, fun _ => tg_mem 684 (by decide +kernel) rfl, fun h => absurd h (by decide)⟩
theorem cl_99 : ClOk (44, 8, 269, 27, 1) := ⟨.inl (tg_mem 690 (by decide +kernel) rfl), tg_mem 380 (by decide +kernel) rfl, tg_mem 55 (by decide +kernel) rfl, by decide +kernel, fun h => absurd h (by decide), fun _ => tg_mem 378 (by decide +kernel) rfl, fun _ => tg_mem 379 (by decide +kernel) rfl, fun h => absurd h (by decide)⟩
theorem cl_100 : ClOk (44, 8, 273, 36, 1) := ⟨.inl (tg_mem 691 (by decide +kernel) rfl), tg_mem 395 (by decide +kernel) rfl, tg_mem 59 (by decide +kernel) rfl, by decide +kernel, fun h => absurd h (by decide), fun _ => tg_mem 393 (by decide +kernel) rfl, fun _ => tg_mem 394 (by decide +kernel) rfl, fun h => absurd h (by decide)⟩
theorem cl_101 : ClOk (44, 8, 276, 29, 3) := ⟨.inl (tg_mem 696 (by decide +kernel) rfl), tg_mem 496 (by decide +kernel) rfl, tg_mem 55 (by decide +kernel) rfl, by decide +kernel, fun h => absurd h (by decide), fun _ => tg_mem 494 (by decide +kernel) rfl, fun _ => tg_mem 495 (by decide +kernel) rfl, fun h => absurd h (by decide)⟩
theorem cl_102 : ClOk (44, 8, 280, 48, 0) := ⟨.inl (tg_mem 701 (by decide +kernel) rfl), tg_mem 704 (by decide +kernel) rfl, tg_mem 52 (by decide +kernel) rfl, by decide +kernel, fun h => absurd h (by decide), fun _ => tg_mem 702 (by decide +kernel) rfl, fun _ => tg_mem 703 (by decide +kernel) rfl, fun h => absurd h (by decide)⟩
theorem cl_103 : ClOk (44, 8, 283, 8, 1) := ⟨.inl (tg_mem 714 (by decide +kernel) rfl), tg_mem 717 (by decide +kernel) rfl, tg_mem 56 (by decide +kernel) rfl, by decide +kernel, fun h => absurd h (by decide), fun _ => tg_mem 715 (by decide +kernel) rfl, fun _ => tg_mem 716 (by decide +kernel) rfl, fun h => absurd h (by decide)⟩
theorem cl_104 : ClOk (44, 9, 23, 109, 3) := ⟨.inl (tg_mem 761 (by decide +kernel) rfl), tg_mem 764 (by decide +kernel) rfl, tg_mem 60 (by decide +kernel) rfl, by decide +kernel, fun h => absurd h (by decide), fun _ => tg_mem 763 (by decide +kernel) rfl, fun _ => tg_mem 16 (by decide +kernel) rfl, fun h => absurd h (by decide)⟩
theorem cl_105 : ClOk (44, 9, 27, 112, 3) := ⟨.inl (tg_mem 765 (by decide +kernel) rfl), tg_mem 768 (by decide +kernel) rfl, tg_mem 60 (by decide +kernel) rfl, by decide +kernel, fun h => absurd h (by decide), fun _ => tg_mem 767 (by decide +kernel) rfl, fun _ => tg_mem 17 (by decide +kernel) rfl, fun h => absurd h (by decide)⟩
theorem cl_106 : ClOk (44, 9, 30, 111, 2) := ⟨.inl (tg_mem 781 (by decide +kernel) rfl), tg_mem 784 (by decide +kernel) rfl, tg_mem 60 (by decide +kernel) rfl, by decide +kernel, fun h => absurd h (by decide), fun _ => tg_mem 783 (by decide +kernel) rfl, fun _ => tg_mem 20 (by decide +kernel) rfl, fun h => absurd h (by decide)⟩
theorem cl_107 : ClOk (46, 9, 34, 108, 3) := ⟨.inl (tg_mem 754 (by decide +kernel) rfl), tg_mem 756 (by decide +kernel) rfl, tg_mem 60 (by decide +kernel) rfl, by decide +kernel, fun _ => tg_mem 755 (by decide +kernel) rfl, fun h => absurd rfl h, fun h => absurd h (by decide), fun h => absurd h (by decide)⟩
theorem cl_108 : ClOk (44, 9, 38, 117, 3) := ⟨.inl (tg_mem 809 (by decide +kernel) rfl), tg_mem 812 (by decide +kernel) rfl, tg_mem 60 (by decide +kernel) rfl, by decide +kernel, fun h => absurd h (by decide), fun _ => tg_mem 811 (by decide +kernel) rfl, fun _ => tg_mem 27 (by decide +kernel) rfl, fun h => absurd h (by decide)⟩
theorem cl_109 : ClOk (44, 9, 41, 118, 2) := ⟨.inl (tg_mem 805 (by decide +kernel) rfl), tg_mem 808 (by decide +kernel) rfl, tg_mem 60 (by decide +kernel) rfl, by decide +kernel, fun h => absurd h (by decide), fun _ => tg_mem 807 (by decide +kernel) rfl, fun _ => tg_mem 26 (by decide +kernel) rfl, fun h => absurd h (by decide)⟩
theorem cl_110 : ClOk (44, 9, 44, 122, 1) := ⟨.inl (tg_mem 789 (by decide +kernel) rfl), tg_mem 792 (by decide +kernel) rfl, tg_mem 60 (by decide +kernel) rfl, by decide +kernel, fun h => absurd h (by decide), fun _ => tg_mem 791 (by decide +kernel) rfl, fun _ => tg_mem 22 (by decide +kernel) rfl, fun h => absurd h (by decide)⟩
theorem cl_111 : ClOk (44, 9, 48, 110, 0) := ⟨.inl (tg_mem 757 (by decide +kernel) rfl), tg_mem 760 (by decide +kernel) rfl, tg_mem 60 (by decide +kernel) rfl, by decide +kernel, fun h => absurd h (by decide), fun _ => tg_mem 759 (by decide +kernel) rfl, fun _ => tg_mem 15 (by decide +kernel) rfl, fun h => absurd h (by decide)⟩
theorem cl_112 : ClOk (44, 9, 51, 113, 3) := ⟨.inl (tg_mem 769 (by decide +kernel) rfl), tg_mem 772 (by decide +kernel) rfl, tg_mem 60 (by decide +kernel) rfl, by decide +kernel, fun h => absurd h (by decide), fun _ => tg_mem 771 (by decide +kernel) rfl, fun _ => tg_mem 18 (by decide +kernel) rfl, fun h => absurd h (by decide)⟩
theorem cl_113 : ClOk (44, 9, 54, 120, 1) := ⟨.inl (tg_mem 801 (by decide +kernel) rfl), tg_mem 804 (by decide +kernel) rfl, tg_mem 60 (by decide +kernel) rfl, by decide +kernel, fun h => absurd h (by decide), fun _ => tg_mem 803 (by decide +kernel) rfl, fun _ => tg_mem 25 (by decide +kernel) rfl, fun h => absurd h (by decide)⟩
theorem cl_114 : ClOk (44, 9, 57, 114, 1) := ⟨.inl (tg_mem 797 (by decide +kernel) rfl), tg_mem 800 (by decide +kernel) rfl, tg_mem 60 (by decide +kernel) rfl, by decide +kernel, fun h => absurd h (by decide), fun _ => tg_mem 799 (by decide +kernel) rfl, fun _ => tg_mem 24 (by decide +kernel) rfl, fun h => absurd h (by decide)⟩
theorem cl_115 : ClOk (44, 9, 60, 125, 1) := ⟨.inl (tg_mem 813 (by decide +kernel) rfl), tg_mem 816 (by decide +kernel) rfl, tg_mem 60 (by decide +kernel) rfl, by decide +kernel, fun h => absurd h (by decide), fun _ => tg_mem 815 (by decide +kernel) rfl, fun _ => tg_mem 28 (by decide +kernel) rfl, fun h => absurd h (by decide)⟩
theorem cl_116 : ClOk (44, 9, 63, 126, 0) := ⟨.inl (tg_mem 817 (by decide +kernel) rfl), tg_mem 820 (by decide +kernel) rfl, tg_mem 60 (by decide +kernel) rfl, by decide +kernel, fun h => absurd h (by decide), fun _ => tg_mem 819 (by decide +kernel) rfl, fun _ => tg_mem 29 (by decide +kernel) rfl, fun h => absurd h (by decide)⟩
theorem cl_117 : ClOk (44, 9, 67, 123, 0) := ⟨.inl (tg_mem 785 (by decide +kernel) rfl), tg_mem 788 (by decide +kernel) rfl, tg_mem 60 (by decide +kernel) rfl, by decide +kernel, fun h => absurd h (by decide), fun _ => tg_mem 787 (by decide +kernel) rfl, fun _ => tg_mem 21 (by decide +kernel) rfl, fun h => absurd h (by decide)⟩
theorem cl_118 : ClOk (44, 9, 70, 127, 1) := ⟨.inl (tg_mem 793 (by decide +kernel) rfl), tg_mem 796 (by decide +kernel) rfl, tg_mem 60 (by decide +kernel) rfl, by decide +kernel, fun h => absurd h (by decide), fun _ => tg_mem 795 (by decide +kernel) rfl, fun _ => tg_mem 23 (by decide +kernel) rfl, fun h => absurd h (by decide)⟩
theorem cl_119 : ClOk (44, 9, 74, 119, 1) := ⟨.inl (tg_mem 821 (by decide +kernel) rfl), tg_mem 824 (by decide +kernel) rfl, tg_mem 60 (by decide +kernel) rfl, by decide +kernel, fun h => absurd h (by decide), fun _ => tg_mem 823 (by decide +kernel) rfl, fun _ => tg_mem 30 (by decide +kernel) rfl, fun h => absurd h (by decide)⟩
theorem cl_120 : ClOk (44, 9, 77, 128, 0) := ⟨.inl (tg_mem 777 (by decide +kernel) rfl), tg_mem 780 (by decide +kernel) rfl, tg_mem 60 (by decide +kernel) rfl, by decide +kernel, fun h => absurd h (by decide), fun _ => tg_mem 779 (by decide +kernel) rfl, fun _ => tg_mem 19 (by decide +kernel) rfl, fun h => absurd h (by decide)⟩
theorem cl_121 : ClOk (46, 9, 80, 115, 1) := ⟨.inl (tg_mem 829 (by decide +kernel) rfl), tg_mem 831 (by decide +kernel) rfl, tg_mem 60 (by decide +kernel) rfl, by decide +kernel, fun _ => tg_mem 830 (by decide +kernel) rfl, fun h => absurd rfl h, fun h => absurd h (by decide), fun h => absurd h (by decide)⟩
theorem cl_122 : ClOk (44, 9, 84, 131, 3) := ⟨.inl (tg_mem 832 (by decide +kernel) rfl), tg_mem 835 (by decide +kernel) rfl, tg_mem 60 (by decide +kernel) rfl, by decide +kernel, fun h => absurd h (by decide), fun _ => tg_mem 834 (by decide +kernel) rfl, fun _ => tg_mem 31 (by decide +kernel) rfl, fun h => absurd h (by decide)⟩
theorem cl_123 : ClOk (44, 9, 87, 130, 0) := ⟨.inl (tg_mem 836 (by decide +kernel) rfl), tg_mem 839 (by decide +kernel) rfl, tg_mem 60 (by decide +kernel) rfl, by decide +kernel, fun h => absurd h (by decide), fun _ => tg_mem 838 (by decide +kernel) rfl, fun _ => tg_mem 32 (by decide +kernel) rfl, fun h => absurd h (by decide)⟩
theorem cl_124 : ClOk (46, 9, 90, 133, 1) := ⟨.inl (tg_mem 844 (by decide +kernel) rfl), tg_mem 846 (by decide +kernel) rfl, tg_mem 60 (by decide +kernel) rfl, by decide +kernel, fun _ => tg_mem 845 (by decide +kernel) rfl, fun h => absurd rfl h, fun h => absurd h (by decide), fun h => absurd h (by decide)⟩
theorem cl_125 : ClOk (46, 9, 93, 116, 1) := ⟨.inl (tg_mem 851 (by decide +kernel) rfl), tg_mem 853 (by decide +kernel) rfl, tg_mem 60 (by decide +kernel) rfl, by decide +kernel, fun _ => tg_mem 852 (by decide +kernel) rfl, fun h => absurd rfl h, fun h => absurd h (by decide), fun h => absurd h (by decide)⟩
theorem cl_126 : ClOk (44, 9, 96, 135, 1) := ⟨.inl (tg_mem 854 (by decide +kernel) rfl), tg_mem 857 (by decide +kernel) rfl, tg_mem 60 (by decide +kernel) rfl, by decide +kernel, fun h => absurd h (by decide), fun _ => tg_mem 856 (by decide +kernel) rfl, fun _ => tg_mem 33 (by decide +kernel) rfl, fun h => absurd h (by decide)⟩
theorem cl_127 : ClOk (44, 9, 99, 121, 2) := ⟨.inl (tg_mem 870 (by decide +kernel) rfl), tg_mem 873 (by decide +kernel) rfl, tg_mem 60 (by decide +kernel) rfl, by decide +kernel, fun h => absurd h (by decide), fun _ => tg_mem 872 (by decide +kernel) rfl, fun _ => tg_mem 36 (by decide +kernel) rfl, fun h => absurd h (by decide)⟩
theorem cl_128 : ClOk (44, 9, 102, 137, 1) := ⟨.inl (tg_mem 862 (by decide +kernel) rfl), tg_mem 865 (by decide +kernel) rfl, tg_mem 60 (by decide +kernel) rfl, by decide +kernel, fun h => absurd h (by decide), fun _ => tg_mem 864 (by decide +kernel) rfl, fun _ => tg_mem 34 (by decide +kernel) rfl, fun h => absurd h (by decide)⟩
theorem cl_129 : ClOk (44, 9, 105, 138, 1) := ⟨.inl (tg_mem 866 (by decide +kernel) rfl), tg_mem 869 (by decide +kernel) rfl, tg_mem 60 (by decide +kernel) rfl, by decide +kernel, fun h => absurd h (by decide), fun _ => tg_mem 868 (by decide +kernel) rfl, fun _ => tg_mem 35 (by decide +kernel) rfl, fun h => absurd h (by decide)⟩
theorem cl_130 : ClOk (44, 9, 108, 140, 2) := ⟨.inl (tg_mem 886 (by decide +kernel) rfl), tg_mem 889 (by decide +kernel) rfl, tg_mem 60 (by decide +kernel) rfl, by decide +kernel, fun h => absurd h (by decide), fun _ => tg_mem 888 (by decide +kernel) rfl, fun _ => tg_mem 39 (by decide +kernel) rfl, fun h => absurd h (by decide)⟩
theorem cl_131 : ClOk (44, 9, 112, 141, 1) := ⟨.inl (tg_mem 882 (by decide +kernel) rfl), tg_mem 885 (by decide +kernel) rfl, tg_mem 60 (by decide +kernel) rfl, by decide +kernel, fun h => absurd h (by decide), fun _ => tg_mem 884 (by decide +kernel) rfl, fun _ => tg_mem 38 (by decide +kernel) rfl, fun h => absurd h (by decide)⟩
theorem cl_132 : ClOk (44, 9, 115, 142, 1) := ⟨.inl (tg_mem 878 (by decide +kernel) rfl), tg_mem 881 (by decide +kernel) rfl, tg_mem 60 (by decide +kernel) rfl, by decide +kernel, fun h => absurd h (by decide), fun _ => tg_mem 880 (by decide +kernel) rfl, fun _ => tg_mem 37 (by decide +kernel) rfl, fun h => absurd h (by decide)⟩
theorem cl_133 : ClOk (44, 9, 124, 149, 1) := ⟨.inl (tg_mem 922 (by decide +kernel) rfl), tg_mem 925 (by decide +kernel) rfl, tg_mem 60 (by decide +kernel) rfl, by decide +kernel, fun h => absurd h (by decide), fun _ => tg_mem 924 (by decide +kernel) rfl, fun _ => tg_mem 42 (by decide +kernel) rfl, fun h => absurd h (by decide)⟩
theorem cl_134 : ClOk (44, 9, 130, 151, 0) := ⟨.inl (tg_mem 918 (by decide +kernel) rfl), tg_mem 921 (by decide +kernel) rfl, tg_mem 60 (by decide +kernel) rfl, by decide +kernel, fun h => absurd h (by decide), fun _ => tg_mem 920 (by decide +kernel) rfl, fun _ => tg_mem 41 (by decide +kernel) rfl, fun h => absurd h (by decide)⟩
theorem cl_135 : ClOk (44, 9, 134, 150, 1) := ⟨.inl (tg_mem 926 (by decide +kernel) rfl), tg_mem 929 (by decide +kernel) rfl, tg_mem 60 (by decide +kernel) rfl, by decide +kernel, fun h => absurd h (by decide), fun _ => tg_mem 928 (by decide +kernel) rfl, fun _ => tg_mem 43 (by decide +kernel) rfl, fun h => absurd h (by decide)⟩
theorem cl_136 : ClOk (44, 9, 137, 152, 1) := ⟨.inl (tg_mem 914 (by decide +kernel) rfl), tg_mem 917 (by decide +kernel) rfl, tg_mem 60 (by decide +kernel) rfl, by decide +kernel, fun h => absurd h (by decide), fun _ => tg_mem 916 (by decide +kernel) rfl, fun _ => tg_mem 40 (by decide +kernel) rfl, fun h => absurd h (by decide)⟩
theorem cl_137 : ClOk (44, 9, 140, 155, 0) := ⟨.inl (tg_mem 934 (by decide +kernel) rfl), tg_mem 937 (by decide +kernel) rfl, tg_mem 60 (by decide +kernel) rfl, by decide +kernel, fun h => absurd h (by decide), fun _ => tg_mem 936 (by decide +kernel) rfl, fun _ => tg_mem 44 (by decide +kernel) rfl, fun h => absurd h (by decide)⟩
theorem cl_138 : ClOk (44, 9, 143, 154, 0) := ⟨.inl (tg_mem 938 (by decide +kernel) rfl), tg_mem 941 (by decide +kernel) rfl, tg_mem 60 (by decide +kernel) rfl, by decide +kernel, fun h => absurd h (by decide), fun _ => tg_mem 940 (by decide +kernel) rfl, fun _ => tg_mem 45 (by decide +kernel) rfl, fun h => absurd h (by decide)⟩
theorem cl_139 : ClOk (44, 9, 146, 158, 1) := ⟨.inl (tg_mem 950 (by decide +kernel) rfl), tg_mem 953 (by decide +kernel) rfl, tg_mem 60 (by decide +kernel) rfl, by decide +kernel, fun h => absurd h (by decide), fun _ => tg_mem 952 (by decide +kernel) rfl, fun _ => tg_mem 46 (by decide +kernel) rfl, fun h => absurd h (by decide)⟩
theorem cl_140 : ClOk (44, 9, 149, 165, 0) := ⟨.inl (tg_mem 978 (by decide +kernel) rfl), tg_mem 981 (by decide +kernel) rfl, tg_mem 60 (by decide +kernel) rfl, by decide +kernel, fun h => absurd h (by decide), fun _ => tg_mem 980 (by decide +kernel) rfl, fun _ => tg_mem 47 (by decide +kernel) rfl, fun h => absurd h (by decide)⟩
theorem cl_141 : ClOk (44, 9, 152, 166, 0) := ⟨.inl (tg_mem 982 (by decide +kernel) rfl), tg_mem 985 (by decide +kernel) rfl, tg_mem 60 (by decide +kernel) rfl, by decide +kernel, fun h => absurd h (by decide), fun _ => tg_mem 984 (by decide +kernel) rfl, fun _ => tg_mem 48 (by decide +kernel) rfl, fun h => absurd h (by decide)⟩
theorem cl_142 : ClOk (45, 10, 9, 75, 0) := ⟨.inl (tg_mem 64 (by decide +kernel) rfl), tg_mem 66 (by decide +kernel) rfl, tg_mem 50 (by decide +kernel) rfl, by decide +kernel, fun h => absurd h (by decide), fun _ => tg_mem 65 (by decide +kernel) rfl, fun h => absurd h (by decide), fun _ => rfl⟩
theorem cl_143 : ClOk (45, 10, 12, 107, 0) := ⟨.inl (tg_mem 724 (by decide +kernel) rfl), tg_mem 726 (by decide +kernel) rfl, tg_mem 60 (by decide +kernel) rfl, by decide +kernel, fun h => absurd h (by decide), fun _ => tg_mem 725 (by decide +kernel) rfl, fun h => absurd h (by decide), fun _ => rfl⟩
theorem cl_144 : ClOk (44, 10, 13, 76, 3) := ⟨.inl (tg_mem 309 (by decide +kernel) rfl), tg_mem 312 (by decide +kernel) rfl, tg_mem 50 (by decide +kernel) rfl, by decide +kernel, fun h => absurd h (by decide), fun _ => tg_mem 310 (by decide +kernel) rfl, fun _ => tg_mem 311 (by decide +kernel) rfl, fun h => absurd h (by decide)⟩
theorem cl_145 : ClOk (44, 10, 17, 124, 3) := ⟨.inl (tg_mem 750 (by decide +kernel) rfl), tg_mem 753 (by decide +kernel) rfl, tg_mem 60 (by decide +kernel) rfl, by decide +kernel, fun h => absurd h (by decide), fun _ => tg_mem 751 (by decide +kernel) rfl, fun _ => tg_mem 752 (by decide +kernel) rfl, fun h => absurd h (by decide)⟩
theorem cl_146 : ClOk (44, 10, 18, 77, 0) := ⟨.inl (tg_mem 354 (by decide +kernel) rfl), tg_mem 357 (by decide +kernel) rfl, tg_mem 50 (by decide +kernel) rfl, by decide +kernel, fun h => absurd h (by decide), fun _ => tg_mem 355 (by decide +kernel) rfl, fun _ => tg_mem 356 (by decide +kernel) rfl, fun h => absurd h (by decide)⟩
theorem cl_147 : ClOk (44, 10, 22, 129, 0) := ⟨.inl (tg_mem 773 (by decide +kernel) rfl), tg_mem 776 (by decide +kernel) rfl, tg_mem 60 (by decide +kernel) rfl, by decide +kernel, fun h => absurd h (by decide), fun _ => tg_mem 774 (by decide +kernel) rfl, fun _ => tg_mem 775 (by decide +kernel) rfl, fun h => absurd h (by decide)⟩
theorem cl_148 : ClOk (44, 10, 23, 78, 3) := ⟨.inl (tg_mem 442 (by decide +kernel) rfl), tg_mem 445 (by decide +kernel) rfl, tg_mem 50 (by decide +kernel) rfl, by decide +kernel, fun h => absurd h (by decide), fun _ => tg_mem 443 (by decide +kernel) rfl, fun _ => tg_mem 444 (by decide +kernel) rfl, fun h => absurd h (by decide)⟩
theorem cl_149 : ClOk (44, 10, 26, 132, 3) := ⟨.inl (tg_mem 825 (by decide +kernel) rfl), tg_mem 828 (by decide +kernel) rfl, tg_mem 60 (by decide +kernel) rfl, by decide +kernel, fun h => absurd h (by decide), fun _ => tg_mem 826 (by decide +kernel) rfl, fun _ => tg_mem 827 (by decide +kernel) rfl, fun h => absurd h (by decide)⟩
theorem cl_150 : ClOk (44, 10, 27, 79, 2) := ⟨.inl (tg_mem 452 (by decide +kernel) rfl), tg_mem 455 (by decide +kernel) rfl, tg_mem 50 (by decide +kernel) rfl, by decide +kernel, fun h => absurd h (by decide), fun _ => tg_mem 453 (by decide +kernel) rfl, fun _ => tg_mem 454 (by decide +kernel) rfl, fun h => absurd h (by decide)⟩
theorem cl_151 : ClOk (44, 10, 31, 134, 2) := ⟨.inl (tg_mem 840 (by decide +kernel) rfl), tg_mem 843 (by decide +kernel) rfl, tg_mem 60 (by decide +kernel) rfl, by decide +kernel, fun h => absurd h (by decide), fun _ => tg_mem 841 (by decide +kernel) rfl, fun _ => tg_mem 842 (by decide +kernel) rfl, fun h => absurd h (by decide)⟩
theorem cl_152 : ClOk (44, 10, 32, 80, 2) := ⟨.inl (tg_mem 470 (by decide +kernel) rfl), tg_mem 473 (by decide +kernel) rfl, tg_mem 50 (by decide +kernel) rfl, by decide +kernel, fun h => absurd h (by decide), fun _ => tg_mem 471 (by decide +kernel) rfl, fun _ => tg_mem 472 (by decide +kernel) rfl, fun h => absurd h (by decide)⟩
theorem cl_153 : ClOk (44, 10, 35, 136, 2) := ⟨.inl (tg_mem 847 (by decide +kernel) rfl), tg_mem 850 (by decide +kernel) rfl, tg_mem 60 (by decide +kernel) rfl, by decide +kernel, fun h => absurd h (by decide), fun _ => tg_mem 848 (by decide +kernel) rfl, fun _ => tg_mem 849 (by decide +kernel) rfl, fun h => absurd h (by decide)⟩
theorem cl_154 : ClOk (44, 10, 36, 81, 1) := ⟨.inl (tg_mem 478 (by decide +kernel) rfl), tg_mem 481 (by decide +kernel) rfl, tg_mem 50 (by decide +kernel) rfl, by decide +kernel, fun h => absurd h (by decide), fun _ => tg_mem 479 (by decide +kernel) rfl, fun _ => tg_mem 480 (by decide +kernel) rfl, fun h => absurd h (by decide)⟩
theorem cl_155 : ClOk (44, 10, 40, 139, 1) := ⟨.inl (tg_mem 858 (by decide +kernel) rfl), tg_mem 861 (by decide +kernel) rfl, tg_mem 60 (by decide +kernel) rfl, by decide +kernel, fun h => absurd h (by decide), fun _ => tg_mem 859 (by decide +kernel) rfl, fun _ => tg_mem 860 (by decide +kernel) rfl, fun h => absurd h (by decide)⟩
theorem cl_156 : ClOk (44, 10, 41, 82, 1) := ⟨.inl (tg_mem 510 (by decide +kernel) rfl), tg_mem 513 (by decide +kernel) rfl, tg_mem 50 (by decide +kernel) rfl, by decide +kernel, fun h => absurd h (by decide), fun _ => tg_mem 511 (by decide +kernel) rfl, fun _ => tg_mem 512 (by decide +kernel) rfl, fun h => absurd h (by decide)⟩
theorem cl_157 : ClOk (44, 10, 44, 143, 1) := ⟨.inl (tg_mem 874 (by decide +kernel) rfl), tg_mem 877 (by decide +kernel) rfl, tg_mem 60 (by decide +kernel) rfl, by decide +kernel, fun h => absurd h (by decide), fun _ => tg_mem 875 (by decide +kernel) rfl, fun _ => tg_mem 876 (by decide +kernel) rfl, fun h => absurd h (by decide)⟩
theorem cl_158 : ClOk (44, 10, 45, 83, 1) := ⟨.inl (tg_mem 549 (by decide +kernel) rfl), tg_mem 552 (by decide +kernel) rfl, tg_mem 50 (by decide +kernel) rfl, by decide +kernel, fun h => absurd h (by decide), fun _ => tg_mem 550 (by decide +kernel) rfl, fun _ => tg_mem 551 (by decide +kernel) rfl, fun h => absurd h (by decide)⟩
theorem cl_159 : ClOk (44, 10, 48, 144, 1) := ⟨.inl (tg_mem 890 (by decide +kernel) rfl), tg_mem 893 (by decide +kernel) rfl, tg_mem 60 (by decide +kernel) rfl, by decide +kernel, fun h => absurd h (by decide), fun _ => tg_mem 891 (by decide +kernel) rfl, fun _ => tg_mem 892 (by decide +kernel) rfl, fun h => absurd h (by decide)⟩
theorem cl_160 : ClOk (44, 10, 49, 84, 1) := ⟨.inl (tg_mem 560 (by decide +kernel) rfl), tg_mem 563 (by decide +kernel) rfl, tg_mem 50 (by decide +kernel) rfl, by decide +kernel, fun h => absurd h (by decide), fun _ => tg_mem 561 (by decide +kernel) rfl, fun _ => tg_mem 562 (by decide +kernel) rfl, fun h => absurd h (by decide)⟩
theorem cl_161 : ClOk (44, 10, 52, 145, 1) := ⟨.inl (tg_mem 894 (by decide +kernel) rfl), tg_mem 897 (by decide +kernel) rfl, tg_mem 60 (by decide +kernel) rfl, by decide +kernel, fun h => absurd h (by decide), fun _ => tg_mem 895 (by decide +kernel) rfl, fun _ => tg_mem 896 (by decide +kernel) rfl, fun h => absurd h (by decide)⟩
theorem cl_162 : ClOk (44, 10, 53, 85, 0) := ⟨.inl (tg_mem 565 (by decide +kernel) rfl), tg_mem 568 (by decide +kernel) rfl, tg_mem 50 (by decide +kernel) rfl, by decide +kernel, fun h => absurd h (by decide), fun _ => tg_mem 566 (by decide +kernel) rfl, fun _ => tg_mem 567 (by decide +kernel) rfl, fun h => absurd h (by decide)⟩
theorem cl_163 : ClOk (44, 10, 56, 146, 0) := ⟨.inl (tg_mem 898 (by decide +kernel) rfl), tg_mem 901 (by decide +kernel) rfl, tg_mem 60 (by decide +kernel) rfl, by decide +kernel, fun h => absurd h (by decide), fun _ => tg_mem 899 (by decide +kernel) rfl, fun _ => tg_mem 900 (by decide +kernel) rfl, fun h => absurd h (by decide)⟩
theorem cl_164 : ClOk (44, 10, 57, 86, 1) := ⟨.inl (tg_mem 573 (by decide +kernel) rfl), tg_mem 576 (by decide +kernel) rfl, tg_mem 50 (by decide +kernel) rfl, by decide +kernel, fun h => absurd h (by decide), fun _ => tg_mem 574 (by decide +kernel) rfl, fun _ => tg_mem 575 (by decide +kernel) rfl, fun h => absurd h (by decide)⟩
theorem cl_165 : ClOk (44, 10, 60, 147, 1) := ⟨.inl (tg_mem 902 (by decide +kernel) rfl), tg_mem 905 (by decide +kernel) rfl, tg_mem 60 (by decide +kernel) rfl, by decide +kernel, fun h => absurd h (by decide), fun _ => tg_mem 903 (by decide +kernel) rfl, fun _ => tg_mem 904 (by decide +kernel) rfl, fun h => absurd h (by decide)⟩
theorem cl_166 : ClOk (44, 10, 61, 87, 0) := ⟨.inl (tg_mem 585 (by decide +kernel) rfl), tg_mem 588 (by decide +kernel) rfl, tg_mem 50 (by decide +kernel) rfl, by decide +kernel, fun h => absurd h (by decide), fun _ => tg_mem 586 (by decide +kernel) rfl, fun _ => tg_mem 587 (by decide +kernel) rfl, fun h => absurd h (by decide)⟩
theorem cl_167 : ClOk (44, 10, 64, 148, 0) := ⟨.inl (tg_mem 906 (by decide +kernel) rfl), tg_mem 909 (by decide +kernel) rfl, tg_mem 60 (by decide +kernel) rfl, by decide +kernel, fun h => absurd h (by decide), fun _ => tg_mem 907 (by decide +kernel) rfl, fun _ => tg_mem 908 (by decide +kernel) rfl, fun h => absurd h (by decide)⟩
theorem cl_168 : ClOk (44, 10, 65, 88, 0) := ⟨.inl (tg_mem 589 (by decide +kernel) rfl), tg_mem 592 (by decide +kernel) rfl, tg_mem 50 (by decide +kernel) rfl, by decide +kernel, fun h => absurd h (by decide), fun _ => tg_mem 590 (by decide +kernel) rfl, fun _ => tg_mem 591 (by decide +kernel) rfl, fun h => absurd h (by decide)⟩
theorem cl_169 : ClOk (44, 10, 68, 153, 0) := ⟨.inl (tg_mem 910 (by decide +kernel) rfl), tg_mem 913 (by decide +kernel) rfl, tg_mem 60 (by decide +kernel) rfl, by decide +kernel, fun h => absurd h (by decide), fun _ => tg_mem 911 (by decide +kernel) rfl, fun _ => tg_mem 912 (by decide +kernel) rfl, fun h => absurd h (by decide)⟩
theorem cl_170 : ClOk (44, 10, 69, 89, 1) := ⟨.inl (tg_mem 621 (by decide +kernel) rfl), tg_mem 624 (by decide +kernel) rfl, tg_mem 50 (by decide +kernel) rfl, by decide +kernel, fun h => absurd h (by decide), fun _ => tg_mem 622 (by decide +kernel) rfl, fun _ => tg_mem 623 (by decide +kernel) rfl, fun h => absurd h (by decide)⟩
theorem cl_171 : ClOk (44, 10, 72, 156, 1) := ⟨.inl (tg_mem 930 (by decide +kernel) rfl), tg_mem 933 (by decide +kernel) rfl, tg_mem 60 (by decide +kernel) rfl, by decide +kernel, fun h => absurd h (by decide), fun _ => tg_mem 931 (by decide +kernel) rfl, fun _ => tg_mem 932 (by decide +kernel) rfl, fun h => absurd h (by decide)⟩
theorem cl_172 : ClOk (44, 10, 73, 90, 2) := ⟨.inl (tg_mem 645 (by decide +kernel) rfl), tg_mem 648 (by decide +kernel) rfl, tg_mem 50 (by decide +kernel) rfl, by decide +kernel, fun h => absurd h (by decide), fun _ => tg_mem 646 (by decide +kernel) rfl, fun _ => tg_mem 647 (by decide +kernel) rfl, fun h => absurd h (by decide)⟩
theorem cl_173 : ClOk (44, 10, 76, 157, 2) := ⟨.inl (tg_mem 942 (by decide +kernel) rfl), tg_mem 945 (by decide +kernel) rfl, tg_mem 60 (by decide +kernel) rfl, by decide +kernel, fun h => absurd h (by decide), fun _ => tg_mem 943 (by decide +kernel) rfl, fun _ => tg_mem 944 (by decide +kernel) rfl, fun h => absurd h (by decide)⟩
theorem cl_174 : ClOk (44, 10, 77, 91, 2) := ⟨.inl (tg_mem 651 (by decide +kernel) rfl), tg_mem 654 (by decide +kernel) rfl, tg_mem 50 (by decide +kernel) rfl, by decide +kernel, fun h => absurd h (by decide), fun _ => tg_mem 652 (by decide +kernel) rfl, fun _ => tg_mem 653 (by decide +kernel) rfl, fun h => absurd h (by decide)⟩
theorem cl_175 : ClOk (44, 10, 80, 159, 2) := ⟨.inl (tg_mem 946 (by decide +kernel) rfl), tg_mem 949 (by decide +kernel) rfl, tg_mem 60 (by decide +kernel) rfl, by decide +kernel, fun h => absurd h (by decide), fun _ => tg_mem 947 (by decide +kernel) rfl, fun _ => tg_mem 948 (by decide +kernel) rfl, fun h => absurd h (by decide)⟩
theorem cl_176 : ClOk (44, 10, 81, 92, 2) := ⟨.inl (tg_mem 660 (by decide +kernel) rfl), tg_mem 663 (by decide +kernel) rfl, tg_mem 50 (by decide +kernel) rfl, by decide +kernel, fun h => absurd h (by decide), fun _ => tg_mem 661 (by decide +kernel) rfl, fun _ => tg_mem 662 (by decide +kernel) rfl, fun h => absurd h (by decide)⟩
theorem cl_177 : ClOk (44, 10, 84, 160, 2) := ⟨.inl (tg_mem 954 (by decide +kernel) rfl), tg_mem 957 (by decide +kernel) rfl, tg_mem 60 (by decide +kernel) rfl, by decide +kernel, fun h => absurd h (by decide), fun _ => tg_mem 955 (by decide +kernel) rfl, fun _ => tg_mem 956 (by decide +kernel) rfl, fun h => absurd h (by decide)⟩
theorem cl_178 : ClOk (44, 10, 85, 93, 2) := ⟨.inl (tg_mem 668 (by decide +kernel) rfl), tg_mem 671 (by decide +kernel) rfl, tg_mem 50 (by decide +kernel) rfl, by decide +kernel, fun h => absurd h (by decide), fun _ => tg_mem 669 (by decide +kernel) rfl, fun _ => tg_mem 670 (by decide +kernel) rfl, fun h => absurd h (by decide)⟩
theorem cl_179 : ClOk (44, 10, 88, 161, 2) := ⟨.inl (tg_mem 958 (by decide +kernel) rfl), tg_mem 961 (by decide +kernel) rfl, tg_mem 60 (by decide +kernel) rfl, by decide +kernel, fun h => absurd h (by decide), fun _ => tg_mem 959 (by decide +kernel) rfl, fun _ => tg_mem 960 (by decide +kernel) rfl, fun h => absurd h (by decide)⟩
theorem cl_180 : ClOk (44, 10, 89, 94, 2) := ⟨.inl (tg_mem 673 (by decide +kernel) rfl), tg_mem 676 (by decide +kernel) rfl, tg_mem 50 (by decide +kernel) rfl, by decide +kernel, fun h => absurd h (by decide), fun _ => tg_mem 674 (by decide +kernel) rfl, fun _ => tg_mem 675 (by decide +kernel) rfl, fun h => absurd h (by decide)⟩
theorem cl_181 : ClOk (44, 10, 92, 162, 2) := ⟨.inl (tg_mem 962 (by decide +kernel) rfl), tg_mem 965 (by decide +kernel) rfl, tg_mem 60 (by decide +kernel) rfl, by decide +kernel, fun h => absurd h (by decide), fun _ => tg_mem 963 (by decide +kernel) rfl, fun _ => tg_mem 964 (by decide +kernel) rfl, fun h => absurd h (by decide)⟩
theorem cl_182 : ClOk (44, 10, 93, 95, 1) := ⟨.inl (tg_mem 686 (by decide +kernel) rfl), tg_mem 689 (by decide +kernel) rfl, tg_mem 50 (by decide +kernel) rfl, by decide +kernel, fun h => absurd h (by decide), fun _ => tg_mem 687 (by decide +kernel) rfl, fun _ => tg_mem 688 (by decide +kernel) rfl, fun h => absurd h (by decide)⟩
theorem cl_183 : ClOk (44, 10, 96, 163, 1) := ⟨.inl (tg_mem 966 (by decide +kernel) rfl), tg_mem 969 (by decide +kernel) rfl, tg_mem 60 (by decide +kernel) rfl, by decide +kernel, fun h => absurd h (by decide), fun _ => tg_mem 967 (by decide +kernel) rfl, fun _ => tg_mem 968 (by decide +kernel) rfl, fun h => absurd h (by decide)⟩
theorem cl_184 : ClOk (44, 10, 97, 96, 2) := ⟨.inl (tg_mem 692 (by decide +kernel) rfl), tg_mem 695 (by decide +kernel) rfl, tg_mem 50 (by decide +kernel) rfl, by decide +kernel, fun h => absurd h (by decide), fun _ => tg_mem 693 (by decide +kernel) rfl, fun _ => tg_mem 694 (by decide +kernel) rfl, fun h => absurd h (by decide)⟩
theorem cl_185 : ClOk (44, 10, 100, 164, 2) := ⟨.inl (tg_mem 970 (by decide +kernel) rfl), tg_mem 973 (by decide +kernel) rfl, tg_mem 60 (by decide +kernel) rfl, by decide +kernel, fun h => absurd h (by decide), fun _ => tg_mem 971 (by decide +kernel) rfl, fun _ => tg_mem 972 (by decide +kernel) rfl, fun h => absurd h (by decide)⟩
theorem cl_186 : ClOk (44, 10, 101, 97, 0) := ⟨.inl (tg_mem 697 (by decide +kernel) rfl), tg_mem 700 (by decide +kernel) rfl, tg_mem 50 (by decide +kernel) rfl, by decide +kernel, fun h => absurd h (by decide), fun _ => tg_mem 698 (by decide +kernel) rfl, fun _ => tg_mem 699 (by decide +kernel) rfl, fun h => absurd h (by decide)⟩
theorem cl_187 : ClOk (44, 10, 104, 167, 0) := ⟨.inl (tg_mem 974 (by decide +kernel) rfl), tg_mem 977 (by decide +kernel) rfl, tg_mem 60 (by decide +kernel) rfl, by decide +kernel, fun h => absurd h (by decide), fun _ => tg_mem 975 (by decide +kernel) rfl, fun _ => tg_mem 976 (by decide +kernel) rfl, fun h => absurd h (by decide)⟩
theorem cl_188 : ClOk (44, 10, 105, 98, 1) := ⟨.inl (tg_mem 706 (by decide +kernel) rfl), tg_mem 709 (by decide +kernel) rfl, tg_mem 50 (by decide +kernel) rfl, by decide +kernel, fun h => absurd h (by decide), fun _ => tg_mem 707 (by decide +kernel) rfl, fun _ => tg_mem 708 (by decide +kernel) rfl, fun h => absurd h (by decide)⟩
theorem cl_189 : ClOk (44, 10, 108, 168, 1) := ⟨.inl (tg_mem 986 (by decide +kernel) rfl), tg_mem 989 (by decide +kernel) rfl, tg_mem 60 (by decide +kernel) rfl, by decide +kernel, fun h => absurd h (by decide), fun _ => tg_mem 987 (by decide +kernel) rfl, fun _ => tg_mem 988 (by decide +kernel) rfl, fun h => absurd h (by decide)⟩
theorem cl_190 : ClOk (44, 10, 109, 99, 1) := ⟨.inl (tg_mem 710 (by decide +kernel) rfl), tg_mem 713 (by decide +kernel) rfl, tg_mem 50 (by decide +kernel) rfl, by decide +kernel, fun h => absurd h (by decide), fun _ => tg_mem 711 (by decide +kernel) rfl, fun _ => tg_mem 712 (by decide +kernel) rfl, fun h => absurd h (by decide)⟩
theorem cl_191 : ClOk (44, 10, 112, 169, 1) := ⟨.inl (tg_mem 990 (by decide +kernel) rfl), tg_mem 993 (by decide +kernel) rfl, tg_mem 60 (by decide +kernel) rfl, by decide +kernel, fun h => absurd h (by decide), fun _ => tg_mem 991 (by decide +kernel) rfl, fun _ => tg_mem 992 (by decide +kernel) rfl, fun h => absurd h (by decide)⟩
theorem cl_192 : ClOk (44, 10, 113, 100, 1) := ⟨.inl (tg_mem 718 (by decide +kernel) rfl), tg_mem 721 (by decide +kernel) rfl, tg_mem 50 (by decide +kernel) rfl, by decide +kernel, fun h => absurd h (by decide), fun _ => tg_mem 719 (by decide +kernel) rfl, fun _ => tg_mem 720 (by decide +kernel) rfl, fun h => absurd h (by decide)⟩
theorem cl_193 : ClOk (44, 10, 116, 170, 1) := ⟨.inl (tg_mem 994 (by decide +kernel) rfl), tg_mem 997 (by decide +kernel) rfl, tg_mem 60 (by decide +kernel) rfl, by decide +kernel, fun h => absurd h (by decide), fun _ => tg_mem 995 (by decide +kernel) rfl, fun _ => tg_mem 996 (by decide +kernel) rfl, fun h => absurd h (by decide)⟩
def clT : List (Nat × Nat × Nat × Nat × Nat) := [(46, 0, 31, 103, 1), (46, 0, 35, 102, 1), (44, 0, 38, 5, 2), (45, 1, 17, 37, 0), (44, 1, 22, 11, 0), (44, 1, 25, 38, 1), (44, 2, 46, 15, 1), (46, 2, 50, 102, 1), (44, 2, 53, 17, 3), (44, 2, 57, 18, 3), (44, 2, 60, 32, 3), (44, 2, 64, 20, 1), (44, 2, 72, 28, 3), (44, 2, 76, 34, 1), (44, 2, 80, 30, 2), (44, 2, 84, 36, 1), (44, 2, 88, 31, 2), (44, 2, 92, 35, 1), (45, 4, 11, 41, 0), (44, 4, 26, 42, 1), (45, 5, 11, 68, 0), (45, 5, 20, 13, 0), (45, 5, 27, 0, 0), (44, 5, 46, 69, 1), (44, 5, 50, 14, 1), (44, 5, 53, 1, 1), (46, 5, 65, 102, 1), (44, 5, 69, 15, 1), (44, 5, 75, 70, 1), (44, 5, 97, 45, 1), (44, 5, 98, 22, 1), (44, 5, 101, 21, 0), (44, 5, 104, 27, 1), (44, 5, 116, 36, 1), (44, 5, 119, 50, 1), (44, 5, 122, 51, 1), (44, 5, 125, 17, 3), (44, 5, 129, 46, 1), (44, 5, 132, 20, 1), (44, 5, 135, 26, 1), (44, 5, 138, 52, 0), (44, 5, 149, 29, 3), (44, 5, 153, 56, 2), (44, 5, 157, 6, 2), (44, 5, 161, 19, 2), (44, 5, 165, 18, 3), (44, 5, 168, 57, 2), (44, 5, 171, 7, 2), (44, 6, 39, 62, 0), (44, 6, 42, 65, 1), (44, 6, 46, 63, 0), (44, 6, 50, 64, 1), (44, 6, 54, 66, 2), (44, 7, 18, 71, 3), (46, 7, 28, 101, 3), (45, 8, 9, 37, 0), (45, 8, 18, 9, 0), (45, 8, 25, 58, 0), (45, 8, 32, 41, 0), (45, 8, 39, 33, 0), (46, 8, 44, 101, 3), (44, 8, 61, 10, 1), (44, 8, 68, 16, 3), (44, 8, 72, 49, 1), (44, 8, 76, 22, 1), (46, 8, 80, 102, 1), (44, 8, 88, 71, 3), (44, 8, 93, 72, 0), (46, 8, 97, 105, 1), (46, 8, 100, 106, 1), (44, 8, 103, 43, 1), (44, 8, 106, 44, 2), (44, 8, 114, 2, 1), (46, 8, 127, 103, 1), (44, 8, 130, 53, 1), (44, 8, 133, 54, 2), (44, 8, 137, 55, 2), (46, 8, 140, 104, 1), (44, 8, 143, 39, 1), (44, 8, 154, 42, 1), (44, 8, 161, 12, 1), (44, 8, 164, 59, 0), (44, 8, 168, 60, 1), (44, 8, 174, 61, 0), (44, 8, 177, 67, 0), (44, 8, 189, 3, 0), (44, 8, 192, 47, 0), (44, 8, 195, 25, 0), (44, 8, 198, 4, 0), (44, 8, 210, 40, 0), (44, 8, 213, 15, 1), (44, 8, 237, 45, 1), (44, 8, 246, 46, 1), (44, 8, 249, 24, 1), (44, 8, 252, 23, 1), (44, 8, 258, 5, 2), (44, 8, 262, 70, 1), (44, 8, 263, 73, 1), (44, 8, 266, 74, 1), (44, 8, 269, 27, 1), (44, 8, 273, 36, 1), (44, 8, 276, 29, 3), (44, 8, 280, 48, 0), (44, 8, 283, 8, 1), (44, 9, 23, 109, 3), (44, 9, 27, 112, 3), (44, 9, 30, 111, 2), (46, 9, 34, 108, 3), (44, 9, 38, 117, 3), (44, 9, 41, 118, 2), (44, 9, 44, 122, 1), (44, 9, 48, 110, 0), (44, 9, 51, 113, 3), (44, 9, 54, 120, 1), (44, 9, 57, 114, 1), (44, 9, 60, 125, 1), (44, 9, 63, 126, 0), (44, 9, 67, 123, 0), (44, 9, 70, 127, 1), (44, 9, 74, 119, 1), (44, 9, 77, 128, 0), (46, 9, 80, 115, 1), (44, 9, 84, 131, 3), (44, 9, 87, 130, 0), (46, 9, 90, 133, 1), (46, 9, 93, 116, 1), (44, 9, 96, 135, 1), (44, 9, 99, 121, 2), (44, 9, 102, 137, 1), (44, 9, 105, 138, 1), (44, 9, 108, 140, 2), (44, 9, 112, 141, 1), (44, 9, 115, 142, 1), (44, 9, 124, 149, 1), (44, 9, 130, 151, 0), (44, 9, 134, 150, 1), (44, 9, 137, 152, 1), (44, 9, 140, 155, 0), (44, 9, 143, 154, 0), (44, 9, 146, 158, 1), (44, 9, 149, 165, 0), (44, 9, 152, 166, 0), (45, 10, 9, 75, 0), (45, 10, 12, 107, 0), (44, 10, 13, 76, 3), (44, 10, 17, 124, 3), (44, 10, 18, 77, 0), (44, 10, 22, 129, 0), (44, 10, 23, 78, 3), (44, 10, 26, 132, 3), (44, 10, 27, 79, 2), (44, 10, 31, 134, 2), (44, 10, 32, 80, 2), (44, 10, 35, 136, 2), (44, 10, 36, 81, 1), (44, 10, 40, 139, 1), (44, 10, 41, 82, 1), (44, 10, 44, 143, 1), (44, 10, 45, 83, 1), (44, 10, 48, 144, 1), (44, 10, 49, 84, 1), (44, 10, 52, 145, 1), (44, 10, 53, 85, 0), (44, 10, 56, 146, 0), (44, 10, 57, 86, 1), (44, 10, 60, 147, 1), (44, 10, 61, 87, 0), (44, 10, 64, 148, 0), (44, 10, 65, 88, 0), (44, 10, 68, 153, 0), (44, 10, 69, 89, 1), (44, 10, 72, 156, 1), (44, 10, 73, 90, 2), (44, 10, 76, 157, 2), (44, 10, 77, 91, 2), (44, 10, 80, 159, 2), (44, 10, 81, 92, 2), (44, 10, 84, 160, 2), (44, 10, 85, 93, 2), (44, 10, 88, 161, 2), (44, 10, 89, 94, 2), (44, 10, 92, 162, 2), (44, 10, 93, 95, 1), (44, 10, 96, 163, 1), (44, 10, 97, 96, 2), (44, 10, 100, 164, 2), (44, 10, 101, 97, 0), (44, 10, 104, 167, 0), (44, 10, 105, 98, 1), (44, 10, 108, 168, 1), (44, 10, 109, 99, 1), (44, 10, 112, 169, 1), (44, 10, 113, 100, 1), (44, 10, 116, 170, 1)]
set_option maxRecDepth 10000 in
theorem clT_ok : ∀ r ∈ clT, ClOk r := List.forall_mem_cons.mpr ⟨cl_0, List.forall_mem_cons.mpr ⟨cl_1, List.forall_mem_cons.mpr ⟨cl_2, List.forall_mem_cons.mpr ⟨cl_3, List.forall_mem_cons.mpr ⟨cl_4, List.forall_mem_cons.mpr ⟨cl_5, List.forall_mem_cons.mpr ⟨cl_6, List.forall_mem_cons.mpr ⟨cl_7, List.forall_mem_cons.mpr ⟨cl_8, List.forall_mem_cons.mpr ⟨cl_9, List.forall_mem_cons.mpr ⟨cl_10, List.forall_mem_cons.mpr ⟨cl_11, List.forall_mem_cons.mpr ⟨cl_12, List.forall_mem_cons.mpr ⟨cl_13, List.forall_mem_cons.mpr ⟨cl_14, List.forall_mem_cons.mpr ⟨cl_15, List.forall_mem_cons.mpr ⟨cl_16, List.forall_mem_cons.mpr ⟨cl_17, List.forall_mem_cons.mpr ⟨cl_18, List.forall_mem_cons.mpr ⟨cl_19, List.forall_mem_cons.mpr ⟨cl_20, List.forall_mem_cons.mpr ⟨cl_21, List.forall_mem_cons.mpr ⟨cl_22, List.forall_mem_cons.mpr ⟨cl_23, List.forall_mem_cons.mpr ⟨cl_24, List.forall_mem_cons.mpr ⟨cl_25, List.forall_mem_cons.mpr ⟨cl_26, List.forall_mem_cons.mpr ⟨cl_27, List.forall_mem_cons.mpr ⟨cl_28, List.forall_mem_cons.mpr ⟨cl_29, List.forall_mem_cons.mpr ⟨cl_30, List.forall_mem_cons.mpr ⟨cl_31, List.forall_mem_cons.mpr ⟨cl_32, List.forall_mem_cons.mpr ⟨cl_33, List.forall_mem_cons.mpr ⟨cl_34, List.forall_mem_cons.mpr ⟨cl_35, List.forall_mem_cons.mpr ⟨cl_36, List.forall_mem_cons.mpr ⟨cl_37, List.forall_mem_cons.mpr ⟨cl_38, List.forall_mem_cons.mpr ⟨cl_39, List.forall_mem_cons.mpr ⟨cl_40, List.forall_mem_cons.mpr ⟨cl_41, List.forall_mem_cons.mpr ⟨cl_42, List.forall_mem_cons.mpr ⟨cl_43, List.forall_mem_cons.mpr ⟨cl_44, List.forall_mem_cons.mpr ⟨cl_45, List.forall_mem_cons.mpr ⟨cl_46, List.forall_mem_cons.mpr ⟨cl_47, List.forall_mem_cons.mpr ⟨cl_48, List.forall_mem_cons.mpr ⟨cl_49, List.forall_mem_cons.mpr ⟨cl_50, List.forall_mem_cons.mpr ⟨cl_51, List.forall_mem_cons.mpr ⟨cl_52, List.forall_mem_cons.mpr ⟨cl_53, List.forall_mem_cons.mpr ⟨cl_54, List.forall_mem_cons.mpr ⟨cl_55, List.forall_mem_cons.mpr ⟨cl_56, List.forall_mem_cons.mpr ⟨cl_57, List.forall_mem_cons.mpr ⟨cl_58, List.forall_mem_cons.mpr ⟨cl_59, List.forall_mem_cons.mpr ⟨cl_60, List.forall_mem_cons.mpr ⟨cl_61, List.forall_mem_cons.mpr ⟨cl_62, List.forall_mem_cons.mpr ⟨cl_63, List.forall_mem_cons.mpr ⟨cl_64, List.forall_mem_cons.mpr ⟨cl_65, List.forall_mem_cons.mpr ⟨cl_66, List.forall_mem_cons.mpr ⟨cl_67, List.forall_mem_cons.mpr ⟨cl_68, List.forall_mem_cons.mpr ⟨cl_69, List.forall_mem_cons.mpr ⟨cl_70, List.forall_mem_cons.mpr ⟨cl_71, List.forall_mem_cons.mpr ⟨cl_72, List.forall_mem_cons.mpr ⟨cl_73, List.forall_mem_cons.mpr ⟨cl_74, List.forall_mem_cons.mpr ⟨cl_75, List.forall_mem_cons.mpr ⟨cl_76, List.forall_mem_cons.mpr ⟨cl_77, List.forall_mem_cons.mpr ⟨cl_78, List.forall_mem_cons.mpr ⟨cl_79, List.forall_mem_cons.mpr ⟨cl_80, List.forall_mem_cons.mpr ⟨cl_81, List.forall_mem_cons.mpr ⟨cl_82, List.forall_mem_cons.mpr ⟨cl_83, List.forall_mem_cons.mpr ⟨cl_84, List.forall_mem_cons.mpr ⟨cl_85, List.forall_mem_cons.mpr ⟨cl_86, List.forall_mem_cons.mpr ⟨cl_87, List.forall_mem_cons.mpr ⟨cl_88, List.forall_mem_cons.mpr ⟨cl_89, List.forall_mem_cons.mpr ⟨cl_90, List.forall_mem_cons.mpr ⟨cl_91, List.forall_mem_cons.mpr ⟨cl_92, List.forall_mem_cons.mpr ⟨cl_93, List.forall_mem_cons.mpr ⟨cl_94, List.forall_mem_cons.mpr ⟨cl_95, List.forall_mem_cons.mpr ⟨cl_96, List.forall_mem_cons.mpr ⟨cl_97, List.forall_mem_cons.mpr ⟨cl_98, List.forall_mem_cons.mpr ⟨cl_99, List.forall_mem_cons.mpr ⟨cl_100, List.forall_mem_cons.mpr ⟨cl_101, List.forall_mem_cons.mpr ⟨cl_102, List.forall_mem_cons.mpr ⟨cl_103, List.forall_mem_cons.mpr ⟨cl_104, List.forall_mem_cons.mpr ⟨cl_105, List.forall_mem_cons.mpr ⟨cl_106, List.forall_mem_cons.mpr ⟨cl_107, List.forall_mem_cons.mpr ⟨cl_108, List.forall_mem_cons.mpr ⟨cl_109, List.forall_mem_cons.mpr ⟨cl_110, List.forall_mem_cons.mpr ⟨cl_111, List.forall_mem_cons.mpr ⟨cl_112, List.forall_mem_cons.mpr ⟨cl_113, List.forall_mem_cons.mpr ⟨cl_114, List.forall_mem_cons.mpr ⟨cl_115, List.forall_mem_cons.mpr ⟨cl_116, List.forall_mem_cons.mpr ⟨cl_117, List.forall_mem_cons.mpr ⟨cl_118, List.forall_mem_cons.mpr ⟨cl_119, List.forall_mem_cons.mpr ⟨cl_120, List.forall_mem_cons.mpr ⟨cl_121, List.forall_mem_cons.mpr ⟨cl_122, List.forall_mem_cons.mpr ⟨cl_123, List.forall_mem_cons.mpr ⟨cl_124, List.forall_mem_cons.mpr ⟨cl_125, List.forall_mem_cons.mpr ⟨cl_126, List.forall_mem_cons.mpr ⟨cl_127, List.forall_mem_cons.mpr ⟨cl_128, List.forall_mem_cons.mpr ⟨cl_129, List.forall_mem_cons.mpr ⟨cl_130, List.forall_mem_cons.mpr ⟨cl_131, List.forall_mem_cons.mpr ⟨cl_132, List.forall_mem_cons.mpr ⟨cl_133, List.forall_mem_cons.mpr ⟨cl_134, List.forall_mem_cons.mpr ⟨cl_135, List.forall_mem_cons.mpr ⟨cl_136, List.forall_mem_cons.mpr ⟨cl_137, List.forall_mem_cons.mpr ⟨cl_138, List.forall_mem_cons.mpr ⟨cl_139, List.forall_mem_cons.mpr ⟨cl_140, List.forall_mem_cons.mpr ⟨cl_141, List.forall_mem_cons.mpr ⟨cl_142, List.forall_mem_cons.mpr ⟨cl_143, List.forall_mem_cons.mpr ⟨cl_144, List.forall_mem_cons.mpr ⟨cl_145, List.forall_mem_cons.mpr ⟨cl_146, List.forall_mem_cons.mpr ⟨cl_147, List.forall_mem_cons.mpr ⟨cl_148, List.forall_mem_cons.mpr ⟨cl_149, List.forall_mem_cons.mpr ⟨cl_150, List.forall_mem_cons.mpr ⟨cl_151, List.forall_mem_cons.mpr ⟨cl_152, List.forall_mem_cons.mpr ⟨cl_153, List.forall_mem_cons.mpr ⟨cl_154, List.forall_mem_cons.mpr ⟨cl_155, List.forall_mem_cons.mpr ⟨cl_156, List.forall_mem_cons.mpr ⟨cl_157, List.forall_mem_cons.mpr ⟨cl_158, List.forall_mem_cons.mpr ⟨cl_159, List.forall_mem_cons.mpr ⟨cl_160, List.forall_mem_cons.mpr ⟨cl_161, List.forall_mem_cons.mpr ⟨cl_162, List.forall_mem_cons.mpr ⟨cl_163, List.forall_mem_cons.mpr ⟨cl_164, List.forall_mem_cons.mpr ⟨cl_165, List.forall_mem_cons.mpr ⟨cl_166, List.forall_mem_cons.mpr ⟨cl_167, List.forall_mem_cons.mpr ⟨cl_168, List.forall_mem_cons.mpr ⟨cl_169, List.forall_mem_cons.mpr ⟨cl_170, List.forall_mem_cons.mpr ⟨cl_171, List.forall_mem_cons.mpr ⟨cl_172, List.forall_mem_cons.mpr ⟨cl_173, List.forall_mem_cons.mpr ⟨cl_174, List.forall_mem_cons.mpr ⟨cl_175, List.forall_mem_cons.mpr ⟨cl_176, List.forall_mem_cons.mpr ⟨cl_177, List.forall_mem_cons.mpr ⟨cl_178, List.forall_mem_cons.mpr ⟨cl_179, List.forall_mem_cons.mpr ⟨cl_180, List.forall_mem_cons.mpr ⟨cl_181, List.forall_mem_cons.mpr ⟨cl_182, List.forall_mem_cons.mpr ⟨cl_183, List.forall_mem_cons.mpr ⟨cl_184, List.forall_mem_cons.mpr ⟨cl_185, List.forall_mem_cons.mpr ⟨cl_186, List.forall_mem_cons.mpr ⟨cl_187, List.forall_mem_cons.mpr ⟨cl_188, List.forall_mem_cons.mpr ⟨cl_189, List.forall_mem_cons.mpr ⟨cl_190, List.forall_mem_cons.mpr ⟨cl_191, List.forall_mem_cons.mpr ⟨cl_192, List.forall_mem_cons.mpr ⟨cl_193, fun _ h => absurd h List.not_mem_nil⟩⟩⟩⟩⟩⟩⟩⟩⟩⟩⟩⟩⟩⟩⟩⟩⟩⟩⟩⟩⟩⟩⟩⟩⟩⟩⟩⟩⟩⟩⟩⟩⟩⟩⟩⟩⟩⟩⟩⟩⟩⟩⟩⟩⟩⟩⟩⟩⟩⟩⟩⟩⟩⟩⟩⟩⟩⟩⟩⟩⟩⟩⟩⟩⟩⟩⟩⟩⟩⟩⟩⟩⟩⟩⟩⟩⟩⟩⟩⟩⟩⟩⟩⟩⟩⟩⟩⟩⟩⟩⟩⟩⟩⟩⟩⟩⟩⟩⟩⟩⟩⟩⟩⟩⟩⟩⟩⟩⟩⟩⟩⟩⟩⟩⟩⟩⟩⟩⟩⟩⟩⟩⟩⟩⟩⟩⟩⟩⟩⟩⟩⟩⟩⟩⟩⟩⟩⟩⟩⟩⟩⟩⟩⟩⟩⟩⟩⟩⟩⟩⟩⟩⟩⟩⟩⟩⟩⟩⟩⟩⟩⟩⟩⟩⟩⟩⟩⟩⟩⟩⟩⟩⟩⟩⟩⟩⟩⟩⟩⟩⟩⟩⟩⟩⟩⟩⟩⟩⟩⟩⟩⟩⟩⟩
/-- links of Object's constructor (51), Math.max (52), Math.min (53), System.arraycopy (54): (kind, own class, place) -/
def MxOk (r : Nat × Nat × Nat) : Prop := (r.1 = 51 → Cond.methodLink (nmC r.2.1) r.2.2 Lib.objectInit ∈ Tg) ∧ (r.1 = 52 → Cond.methodLink (nmC r.2.1) r.2.2 Lib.Math.max.name ∈ Tg) ∧ (r.1 = 53 → Cond.methodLink (nmC r.2.1) r.2.2 Lib.Math.min.name ∈ Tg) ∧ (r.1 = 54 → Cond.methodLink (nmC r.2.1) r.2.2 arraycopyName ∈ Tg)
theorem mx_0 : MxOk (51, 0, 3) := ⟨fun _ => tg_mem 155 (by decide +kernel) rfl, fun h => absurd h (by decide), fun h => absurd h (by decide), fun h => absurd h (by decide)⟩
theorem mx_1 : MxOk (51, 1, 3) := ⟨fun _ => tg_mem 227 (by decide +kernel) rfl, fun h => absurd h (by decide), fun h => absurd h (by decide), fun h => absurd h (by decide)⟩
theorem mx_2 : MxOk (51, 2, 3) := ⟨fun _ => tg_mem 107 (by decide +kernel) rfl, fun h => absurd h (by decide), fun h => absurd h (by decide), fun h => absurd h (by decide)⟩
theorem mx_3 : MxOk (51, 3, 3) := ⟨fun _ => tg_mem 283 (by decide +kernel) rfl, fun h => absurd h (by decide), fun h => absurd h (by decide), fun h => absurd h (by decide)⟩
theorem mx_4 : MxOk (51, 4, 3) := ⟨fun _ => tg_mem 75 (by decide +kernel) rfl, fun h => absurd h (by decide), fun h => absurd h (by decide), fun h => absurd h (by decide)⟩
theorem mx_5 : MxOk (51, 5, 3) := ⟨fun _ => tg_mem 81 (by decide +kernel) rfl, fun h => absurd h (by decide), fun h => absurd h (by decide), fun h => absurd h (by decide)⟩
theorem mx_6 : MxOk (51, 6, 5) := ⟨fun _ => tg_mem 244 (by decide +kernel) rfl, fun h => absurd h (by decide), fun h => absurd h (by decide), fun h => absurd h (by decide)⟩
theorem mx_7 : MxOk (51, 7, 3) := ⟨fun _ => tg_mem 87 (by decide +kernel) rfl, fun h => absurd h (by decide), fun h => absurd h (by decide), fun h => absurd h (by decide)⟩
theorem mx_8 : MxOk (51, 8, 1) := ⟨fun _ => tg_mem 67 (by decide +kernel) rfl, fun h => absurd h (by decide), fun h => absurd h (by decide), fun h => absurd h (by decide)⟩
theorem mx_9 : MxOk (51, 9, 1) := ⟨fun _ => tg_mem 727 (by decide +kernel) rfl, fun h => absurd h (by decide), fun h => absurd h (by decide), fun h => absurd h (by decide)⟩
theorem mx_10 : MxOk (52, 5, 82) := ⟨fun h => absurd h (by decide), fun _ => tg_mem 419 (by decide +kernel) rfl, fun h => absurd h (by decide), fun h => absurd h (by decide)⟩
theorem mx_11 : MxOk (52, 7, 32) := ⟨fun h => absurd h (by decide), fun _ => tg_mem 94 (by decide +kernel) rfl, fun h => absurd h (by decide), fun h => absurd h (by decide)⟩
theorem mx_12 : MxOk (53, 5, 113) := ⟨fun h => absurd h (by decide), fun h => absurd h (by decide), fun _ => tg_mem 389 (by decide +kernel) rfl, fun h => absurd h (by decide)⟩
theorem mx_13 : MxOk (54, 0, 25) := ⟨fun h => absurd h (by decide), fun h => absurd h (by decide), fun h => absurd h (by decide), fun _ => tg_mem 348 (by decide +kernel) rfl⟩
theorem mx_14 : MxOk (54, 2, 36) := ⟨fun h => absurd h (by decide), fun h => absurd h (by decide), fun h => absurd h (by decide), fun _ => tg_mem 343 (by decide +kernel) rfl⟩
theorem mx_15 : MxOk (54, 5, 56) := ⟨fun h => absurd h (by decide), fun h => absurd h (by decide), fun h => absurd h (by decide), fun _ => tg_mem 349 (by decide +kernel) rfl⟩
theorem mx_16 : MxOk (54, 7, 22) := ⟨fun h => absurd h (by decide), fun h => absurd h (by decide), fun h => absurd h (by decide), fun _ => tg_mem 336 (by decide +kernel) rfl⟩
def mxT : List (Nat × Nat × Nat) := [(51, 0, 3), (51, 1, 3), (51, 2, 3), (51, 3, 3), (51, 4, 3), (51, 5, 3), (51, 6, 5), (51, 7, 3), (51, 8, 1), (51, 9, 1), (52, 5, 82), (52, 7, 32), (53, 5, 113), (54, 0, 25), (54, 2, 36), (54, 5, 56), (54, 7, 22)]
theorem mxT_ok : ∀ r ∈ mxT, MxOk r := List.forall_mem_cons.mpr ⟨mx_0, List.forall_mem_cons.mpr ⟨mx_1, List.forall_mem_cons.mpr ⟨mx_2, List.forall_mem_cons.mpr ⟨mx_3, List.forall_mem_cons.mpr ⟨mx_4, List.forall_mem_cons.mpr ⟨mx_5, List.forall_mem_cons.mpr ⟨mx_6, List.forall_mem_cons.mpr ⟨mx_7, List.forall_mem_cons.mpr ⟨mx_8, List.forall_mem_cons.mpr ⟨mx_9, List.forall_mem_cons.mpr ⟨mx_10, List.forall_mem_cons.mpr ⟨mx_11, List.forall_mem_cons.mpr ⟨mx_12, List.forall_mem_cons.mpr ⟨mx_13, List.forall_mem_cons.mpr ⟨mx_14, List.forall_mem_cons.mpr ⟨mx_15, List.forall_mem_cons.mpr ⟨mx_16, fun _ h => absurd h List.not_mem_nil⟩⟩⟩⟩⟩⟩⟩⟩⟩⟩⟩⟩⟩⟩⟩⟩⟩
theorem oi_inst : Cond.instanceMethod Lib.objectInit ∈ Tg := tg_mem 68 (by decide +kernel) rfl
theorem oi_code : Cond.code Lib.objectInit ⟨#[0xb1]⟩ 1 none ∈ Tg := tg_mem 69 (by decide +kernel) rfl
theorem mx_stat : Cond.static Lib.Math.max.name ∈ Tg := tg_mem 95 (by decide +kernel) rfl
theorem mx_code : Cond.code Lib.Math.max.name Lib.Math.max.code 2 (some .int) ∈ Tg := tg_mem 96 (by decide +kernel) rfl
theorem mn_stat : Cond.static Lib.Math.min.name ∈ Tg := tg_mem 390 (by decide +kernel) rfl
theorem mn_code : Cond.code Lib.Math.min.name Lib.Math.min.code 2 (some .int) ∈ Tg := tg_mem 391 (by decide +kernel) rfl
theorem mt_ini : Cond.initialized "java/lang/Math" ∈ Tg := tg_mem 54 (by decide +kernel) rfl
theorem sy_ini : Cond.initialized "java/lang/System" ∈ Tg := tg_mem 61 (by decide +kernel) rfl
theorem ac_stat : Cond.static arraycopyName ∈ Tg := tg_mem 337 (by decide +kernel) rfl
theorem ac_nat : Cond.native arraycopyName ∈ Tg := tg_mem 338 (by decide +kernel) rfl
end
section
/-! A small machine over the kit's worlds: a method's instructions as a table, one judgement E from a place in it, one rule an instruction. -/
section MA
abbrev OpT : Type := Nat × Nat × Nat × Int32 × Nat × Nat
/-- a value: a number, or a pointer (i, k): part k of object i; (a, 99) the cell a itself, (_, 98) null -/
abbrev V0 : Type := Int32 ⊕ (Nat × Nat)
/-- a method: its number, name, bytes, locals, answer, frames and words below, number of its class, instructions -/
abbrev JT : Type := Nat × MethodName × ByteArray × Nat × Option FieldType × Nat × Nat × Nat × List (Nat × OpT)
def jn (J : JT) : Nat := J.1
def jy (J : JT) : MethodName := J.2.1
def jb (J : JT) : ByteArray := J.2.2.1
def jm (J : JT) : Nat := J.2.2.2.1
def jr (J : JT) : Option FieldType := J.2.2.2.2.1
def jf (J : JT) : Nat := J.2.2.2.2.2.1
def jo (J : JT) : Nat := J.2.2.2.2.2.2.1
def jc (J : JT) : Nat := J.2.2.2.2.2.2.2.1
def jt (J : JT) : List (Nat × OpT) := J.2.2.2.2.2.2.2.2
def lk : List (Nat × OpT) → Nat → OpT
  | [], _ => (0, 0, 0, 0, 0, 0)
  | q :: t, pc => bif Nat.beq q.1 pc then q.2 else lk t pc
def okD (b : ByteArray) (pc nx : Nat) (i : Instr) (n : Nat) : Bool := decide (decode b pc = .ok (i, n)) && decide (nx = pc + n)
def okB (b : ByteArray) (pc nx : Nat) (tg : Nat) (i : Int → Instr) : Bool := decide (decode b pc = .ok (i ((tg : Int) - (pc : Int)), 3)) && decide (nx = pc + 3)
def okOp (cn mL : Nat) (b : ByteArray) (pc : Nat) (q : OpT) : Bool := match q with
  | (1, _, _, v, nx, _) => okD b pc nx (.iconst v.toInt) 1 || (okD b pc nx (.bipush v.toInt) 2 && decide ((Int8.ofInt v.toInt).toInt32 = v)) || (okD b pc nx (.sipush v.toInt) 3 && decide ((Int16.ofInt v.toInt).toInt32 = v))
  | (2, a, _, _, nx, _) => okD b pc nx (.iload a) 2 || (decide (a < 4) && okD b pc nx (.iload_n (Fin.ofNat 4 a)) 1)
  | (3, a, _, _, nx, _) => okD b pc nx (.aload a) 2 || (decide (a < 4) && okD b pc nx (.aload_n (Fin.ofNat 4 a)) 1)
  | (4, a, _, _, nx, _) => decide (a < mL) && (okD b pc nx (.istore a) 2 || (decide (a < 4) && okD b pc nx (.istore_n (Fin.ofNat 4 a)) 1))
  | (5, a, _, _, nx, _) => decide (a < mL) && (decide (a < 4) && okD b pc nx (.astore_n (Fin.ofNat 4 a)) 1)
  | (6, _, _, _, nx, _) => okD b pc nx .iadd 1
  | (7, _, _, _, nx, _) => okD b pc nx .isub 1
  | (8, _, _, _, nx, _) => okD b pc nx .imul 1
  | (9, _, _, _, nx, _) => okD b pc nx .idiv 1
  | (10, _, _, _, nx, _) => okD b pc nx .iand 1
  | (11, _, _, _, nx, _) => okD b pc nx .i2c 1
  | (12, a, _, v, nx, _) => decide (a < mL) && okD b pc nx (.iinc a v.toInt) 3
  | (13, _, _, _, nx, _) => decide (decode b pc = .ok (.goto ((nx : Int) - (pc : Int)), 3))
  | (14, _, _, _, nx, tg) => okB b pc nx tg (.ifCond .eq)
  | (15, _, _, _, nx, tg) => okB b pc nx tg (.ifCond .ne)
  | (16, _, _, _, nx, tg) => okB b pc nx tg (.ifCond .lt)
  | (17, _, _, _, nx, tg) => okB b pc nx tg (.ifCond .ge)
  | (18, _, _, _, nx, tg) => okB b pc nx tg (.ifCond .gt)
  | (19, _, _, _, nx, tg) => okB b pc nx tg (.ifCond .le)
  | (20, _, _, _, nx, tg) => okB b pc nx tg (.if_icmp .eq)
  | (21, _, _, _, nx, tg) => okB b pc nx tg (.if_icmp .ne)
  | (22, _, _, _, nx, tg) => okB b pc nx tg (.if_icmp .lt)
  | (23, _, _, _, nx, tg) => okB b pc nx tg (.if_icmp .ge)
  | (24, _, _, _, nx, tg) => okB b pc nx tg (.if_icmp .gt)
  | (25, _, _, _, nx, tg) => okB b pc nx tg (.if_icmp .le)
  | (26, _, _, _, nx, _) => okD b pc nx .dup 1
  | (27, _, _, _, nx, _) => okD b pc nx .dup2 1
  | (28, _, _, _, nx, _) => okD b pc nx .pop 1
  | (30, a, t, _, nx, idx) => okD b pc nx (.getfield idx) 3 && decide ((cn, idx, t, a) ∈ flT)
  | (31, a, t, _, nx, idx) => okD b pc nx (.putfield idx) 3 && decide ((cn, idx, t, a) ∈ flT)
  | (32, _, _, _, nx, _) => okD b pc nx .iaload 1
  | (33, _, _, _, nx, _) => okD b pc nx .baload 1
  | (34, _, _, _, nx, _) => okD b pc nx .caload 1
  | (35, _, _, _, nx, _) => okD b pc nx .aaload 1
  | (36, _, _, _, nx, _) => okD b pc nx .iastore 1
  | (37, _, _, _, nx, _) => okD b pc nx .bastore 1
  | (38, _, _, _, nx, _) => okD b pc nx .castore 1
  | (39, _, _, _, nx, _) => okD b pc nx .aastore 1
  | (40, _, _, _, nx, _) => okD b pc nx .arraylength 1
  | (41, _, _, _, _, _) => decide (decode b pc = .ok (.ireturn, 1))
  | (42, _, _, _, _, _) => decide (decode b pc = .ok (.return_, 1))
  | (44, n, j, _, nx, idx) => okD b pc nx (.invokevirtual idx) 3 && decide ((44, cn, idx, j, n) ∈ clT)
  | (45, n, j, _, nx, idx) => okD b pc nx (.invokespecial idx) 3 && decide ((45, cn, idx, j, n) ∈ clT)
  | (46, n, j, _, nx, idx) => okD b pc nx (.invokestatic idx) 3 && decide ((46, cn, idx, j, n) ∈ clT)
  | (51, _, _, _, nx, idx) => okD b pc nx (.invokespecial idx) 3 && decide ((51, cn, idx) ∈ mxT)
  | (52, _, _, _, nx, idx) => okD b pc nx (.invokestatic idx) 3 && decide ((52, cn, idx) ∈ mxT)
  | (53, _, _, _, nx, idx) => okD b pc nx (.invokestatic idx) 3 && decide ((53, cn, idx) ∈ mxT)
  | (54, _, _, _, nx, idx) => okD b pc nx (.invokestatic idx) 3 && decide ((54, cn, idx) ∈ mxT)
  | _ => true
/-- the table says what the bytes say, and the method is the one of its number -/
def e_T (J : JT) : Prop := (jt J).all (fun q => okOp (jc J) (jm J) (jb J) q.1 q.2) = true ∧ (nmC (jc J) = (jy J).cls) ∧ mN (jn J) = (jy J, jb J, jm J, jr J) ∧ plainName (jy J).cls = true
theorem lk_ok {P : Nat → OpT → Bool} : ∀ (l : List (Nat × OpT)) (pc : Nat) (q : OpT), l.all (fun q => P q.1 q.2) = true → lk l pc = q → q.1 ≠ 0 → P pc q = true
  | [], pc, q, _, h, h0 => by
    subst h
    exact absurd rfl h0
  | x :: t, pc, q, ha, h, h0 => by
    simp only [List.all_cons, Bool.and_eq_true] at ha
    by_cases hx : x.1 = pc
    · have : lk (x :: t) pc = x.2 := by simp [lk, hx]
      rw [this] at h
      subst h
      rw [← hx]
      exact ha.1
    · have : lk (x :: t) pc = lk t pc := by
        have hb : Nat.beq x.1 pc = false := by
          cases hbq : Nat.beq x.1 pc with
          | false => rfl
          | true => exact absurd (Nat.eq_of_beq_eq_true hbq) hx
        simp [lk, hb]
      rw [this] at h
      exact lk_ok t pc q ha.2 h h0
theorem e_op {J : JT} (hT : e_T J) {pc o a b : Nat} {v : Int32} {nx tg : Nat} (h : lk (jt J) pc = (o, a, b, v, nx, tg)) (h0 : o ≠ 0) : okOp (jc J) (jm J) (jb J) pc (o, a, b, v, nx, tg) = true := lk_ok (P := fun x y => okOp (jc J) (jm J) (jb J) x y) _ _ _ hT.1 h h0
theorem okD_d {b : ByteArray} {pc nx : Nat} {i : Instr} {n : Nat} (h : okD b pc nx i n = true) : decode b pc = .ok (i, n) ∧ nx = pc + n := by
  simp only [okD, Bool.and_eq_true, decide_eq_true_eq] at h
  exact h
theorem okB_d {b : ByteArray} {pc nx tg : Nat} {i : Int → Instr} (h : okB b pc nx tg i = true) : decode b pc = .ok (i ((tg : Int) - (pc : Int)), 3) ∧ nx = pc + 3 := by
  simp only [okB, Bool.and_eq_true, decide_eq_true_eq] at h
  exact h
/-- the launch, the places of classes and fields, the classes of arrays, the first cell that may change, the addresses of parts -/
abbrev EE : Type := Launch × va_G × (Nat → ClassId) × Nat × (Nat → Nat → Nat)
def e_tys (ε : EE) : List (ClassId × FieldType) := [(ε.2.2.1 0, .int), (ε.2.2.1 1, .boolean), (ε.2.2.1 2, .char), (ε.2.2.1 3, .object RX5), (ε.2.2.1 4, .object RX4)]
def e_A (ε : EE) : Nat → Prop := fun q => ε.2.2.2.1 ≤ q
def e_vm (ε : EE) (v : V0) : Value := match v with
  | .inl x => .int x
  | .inr (i, k) => bif Nat.beq k 98 then .null else bif Nat.beq k 99 then .ref i else .ref (ε.2.2.2.2 i k)
theorem e_vm_cat (ε : EE) (v : V0) : (e_vm ε v).category = 1 := by
  rcases v with x | ⟨i, k⟩
  · rfl
  · simp only [e_vm]
    cases Nat.beq k 98 <;> cases Nat.beq k 99 <;> rfl
def e_ws (J : JT) : List Cond := Cond.code (jy J) (jb J) (jm J) (jr J) :: Tg
def e_rm (J : JT) (mc ms : Nat) : Room := { frames := jf J, cells := mc, slots := ms, locals := jo J }
/-- what holds of the classes at a state -/
def e_K (ε : EE) (U : State) : Prop := va_K ε.2.1 vwCl (e_tys ε) U ∧ ∀ w ∈ Nw, va_Nw w U
def e_W (ε : EE) (ws : va_W) (U : State) : Prop := va_P ε.2.1 vwCl ws U.heap ∧ va_D (e_A ε) ws
def e_Pc (ε : EE) (As : List V0) (ws : va_W) : Array Value → State → Prop := va_Pc (As.map (e_vm ε)) (fun U => ε.2.2.2.1 ≤ U.heap.size ∧ e_K ε U ∧ e_W ε ws U)
def e_Qc (ε : EE) (J : JT) (Q : Option Int32 → va_W → Prop) : Array Value → State → Outcome → State → Prop := match jr J with
  | none => va_Qv (Q none) (fun u t => e_W ε u t) (e_A ε)
  | some _ => va_Qi (fun r u => Q (some r) u) (fun u t => e_W ε u t) (e_A ε)
/-- a method's contract: from a world, with arguments, at most mc cells of ms slots more -/
def e_Ct (ε : EE) (J : JT) (mc ms : Nat) (As : List V0) (ws : va_W) (Q : Option Int32 → va_W → Prop) : Prop := Met ε.1 (jy J) (e_ws J) (e_rm J mc ms) (e_Pc ε As ws) (e_Qc ε J Q) mc ms (e_A ε)
def e_ll (ε : EE) : Nat → List (Option V0) → List (Nat × Value)
  | _, [] => []
  | k, none :: t => e_ll ε (k + 1) t
  | k, some v :: t => (k, e_vm ε v) :: e_ll ε (k + 1) t
theorem e_ll_mem (ε : EE) : ∀ (ls : List (Option V0)) (k : Nat) (q : Nat × Value), q ∈ e_ll ε k ls ↔ ∃ (j : Nat) (v : V0), q.1 = k + j ∧ ls[j]? = some (some v) ∧ q.2 = e_vm ε v
  | [], k, q => by simp [e_ll]
  | none :: t, k, q => by
    rw [e_ll, e_ll_mem ε t (k + 1) q]
    constructor
    · rintro ⟨j, v, h1, h2, h3⟩
      exact ⟨j + 1, v, by omega, by simpa using h2, h3⟩
    · rintro ⟨j, v, h1, h2, h3⟩
      cases j with
      | zero => simp at h2
      | succ j => exact ⟨j, v, by omega, by simpa using h2, h3⟩
  | some w :: t, k, q => by
    rw [e_ll, List.mem_cons, e_ll_mem ε t (k + 1) q]
    constructor
    · rintro (h | ⟨j, v, h1, h2, h3⟩)
      · exact ⟨0, w, by rw [h]; rfl, by simp, by rw [h]⟩
      · exact ⟨j + 1, v, by omega, by simpa using h2, h3⟩
    · rintro ⟨j, v, h1, h2, h3⟩
      cases j with
      | zero =>
        simp at h2
        subst h2
        exact Or.inl (by rcases q with ⟨a, b⟩; simp only [] at h1 h3; rw [h1, h3]; rfl)
      | succ j => exact Or.inr ⟨j, v, by omega, by simpa using h2, h3⟩
def e_L (ε : EE) (J : JT) (ls : List (Option V0)) (lsA : Array Slot) : Prop := lv_has lsA (jm J) (e_ll ε 0 ls)
/-- what holds all through a method's body -/
def e_C (ε : EE) (J : JT) (mc ms : Nat) (p : Program) (R : Room) (s : State) (m : MethodId) (args : Array Value) (meth : Method) (c : Code) : Prop :=
  p.tables.exec = Jvm.exec ∧ c.code = jb J ∧ meth.sig.returnType = jr J ∧ c.maxLocals = jm J ∧ s.vm.findClass (jy J).cls = some m.cls ∧ (∀ w ∈ Tg, w.before args s = true) ∧ meth.locks = false ∧ e_K ε s ∧ ε.2.2.2.1 ≤ s.heap.size ∧ R = e_rm J mc ms ∧ meth.name = (jy J).name
def E (ε : EE) (J : JT) (mc ms cells slots pc : Nat) (ls : List (Option V0)) (st : List V0) (ws : va_W) (Q : Option Int32 → va_W → Prop) : Prop :=
  e_T J → ∀ (p : Program) (e : Env) (R : Room) (s : State) (m : MethodId) (args : Array Value) (below : List Frame) (meth : Method) (c : Code) (H : Heap) (locs : List Loc) (lsA : Array Slot),
    e_C ε J mc ms p R s m args meth c → va_P ε.2.1 vwCl ws H → va_D (e_A ε) ws → va_S (e_A ε) s.heap H locs → e_L ε J ls lsA →
    W p ε.1 e R s m args below meth c H locs cells slots (MQ below (e_Qc ε J Q) args s mc ms (e_A ε)) (F0 m pc lsA (st.map (e_vm ε)))
end MA
end
section
/-! The rules of E. -/
section MB
variable {ε : EE} {J : JT} {mc ms cells slots pc : Nat} {ls : List (Option V0)} {st : List V0} {ws : va_W} {Q : Option Int32 → va_W → Prop}
theorem e_load {lsA : Array Slot} (hl : e_L ε J ls lsA) {a : Nat} {v : V0} (h : ls[a]? = some (some v)) : lsA[a]? = some (.val (e_vm ε v)) :=
  hl.2.2 (a, e_vm ε v) ((e_ll_mem ε ls 0 _).2 ⟨a, v, by simp, h, rfl⟩)
theorem e_store {lsA : Array Slot} {a : Nat} {v : V0} (h : lv_has lsA (jm J) ((a, e_vm ε v) :: (e_ll ε 0 ls).filter (fun q => !(q.1 == a) && !(q.1 + 1 == a && q.2.category == 2)))) : e_L ε J (ls.set a (some v)) lsA := by
  refine ⟨h.1, h.2.1, fun q hq => ?_⟩
  obtain ⟨j, w, h1, h2, h3⟩ := (e_ll_mem ε _ 0 q).1 hq
  rw [Nat.zero_add] at h1
  refine h.2.2 q ?_
  by_cases hj : a = j
  · subst hj
    have hlt : a < ls.length := by
      rcases Nat.lt_or_ge a ls.length with z | z
      · exact z
      · rw [List.getElem?_eq_none (by simpa using z)] at h2
        cases h2
    rw [List.getElem?_set_self hlt] at h2
    cases h2
    exact List.mem_cons.2 (Or.inl (by rcases q with ⟨x, y⟩; simp only [] at h1 h3; rw [h1, h3]))
  · rw [List.getElem?_set_ne hj] at h2
    refine List.mem_cons.2 (Or.inr (List.mem_filter.2 ⟨(e_ll_mem ε ls 0 q).2 ⟨j, w, by omega, h2, h3⟩, ?_⟩))
    have h5 : (q.1 == a) = false := by
      rw [h1]
      simpa using fun z => hj z.symm
    have h6 : (q.2.category == 2) = false := by
      rw [h3, e_vm_cat]
      rfl
    simp [h5, h6]
theorem e_ptr {i k : Nat} (h : Nat.beq k 98 = false) : ∃ a, e_vm ε (.inr (i, k)) = .ref a := by
  cases h9 : Nat.beq k 99 with
  | true => exact ⟨i, by simp [e_vm, h, h9]⟩
  | false => exact ⟨ε.2.2.2.2 i k, by simp [e_vm, h, h9]⟩
theorem e_fin {a : Nat} (h : a < 4) : ((Fin.ofNat 4 a : Fin 4) : Nat) = a := by
  show a % 4 = a
  omega
theorem e_ofInt (v : Int32) : Int32.ofInt v.toInt = v := by simp
/-- the instructions that touch neither the heap nor another method -/
def stp (o a : Nat) (v : Int32) (ls : List (Option V0)) (st : List V0) : Option (List (Option V0) × List V0) := match o with
  | 1 => some (ls, .inl v :: st)
  | 2 => match ls[a]? with
    | some (some (.inl x)) => some (ls, .inl x :: st)
    | _ => none
  | 3 => match ls[a]? with
    | some (some (.inr (i, k))) => bif Nat.beq k 98 then none else some (ls, .inr (i, k) :: st)
    | _ => none
  | 4 => match st with
    | .inl x :: t => some (ls.set a (some (.inl x)), t)
    | _ => none
  | 5 => match st with
    | .inr (i, k) :: t => bif Nat.beq k 98 then none else some (ls.set a (some (.inr (i, k))), t)
    | _ => none
  | 6 => match st with
    | .inl y :: .inl x :: t => some (ls, .inl (x + y) :: t)
    | _ => none
  | 7 => match st with
    | .inl y :: .inl x :: t => some (ls, .inl (x - y) :: t)
    | _ => none
  | 8 => match st with
    | .inl y :: .inl x :: t => some (ls, .inl (x * y) :: t)
    | _ => none
  | 10 => match st with
    | .inl y :: .inl x :: t => some (ls, .inl (x &&& y) :: t)
    | _ => none
  | 11 => match st with
    | .inl x :: t => some (ls, .inl ((x.toUInt32 % 65536).toInt32) :: t)
    | _ => none
  | 12 => match ls[a]? with
    | some (some (.inl x)) => some (ls.set a (some (.inl (x + v))), st)
    | _ => none
  | 13 => some (ls, st)
  | 26 => match st with
    | x :: t => some (ls, x :: x :: t)
    | _ => none
  | 27 => match st with
    | y :: x :: t => some (ls, y :: x :: y :: x :: t)
    | _ => none
  | 28 => match st with
    | _ :: t => some (ls, t)
    | _ => none
  | _ => none
set_option maxHeartbeats 4000000 in
theorem e_step {o a b nx tg : Nat} {v : Int32} {ls' : List (Option V0)} {st' : List V0} (h : lk (jt J) pc = (o, a, b, v, nx, tg)) (hs : stp o a v ls st = some (ls', st')) (k : E ε J mc ms cells slots nx ls' st' ws Q) : E ε J mc ms cells slots pc ls st ws Q := by
  intro hT p e R s m args below meth c H locs lsA C hP hD hS hl
  have h0 : o ≠ 0 := by
    intro z
    subst z
    cases hs
  have hok := e_op hT h h0
  have K := fun (lsB : Array Slot) (hl : e_L ε J ls' lsB) => k hT p e R s m args below meth c H locs lsB C hP hD hS hl
  obtain ⟨hx, hb, -⟩ := C
  unfold stp at hs
  split at hs
  · cases hs
    simp only [okOp, Bool.or_eq_true, Bool.and_eq_true, decide_eq_true_eq] at hok
    rcases hok with (hok | ⟨hok, hv⟩) | ⟨hok, hv⟩
    · obtain ⟨hd, rfl⟩ := okD_d hok
      exact lv_iconst hx hb hd (e_ofInt _) (K lsA hl)
    · obtain ⟨hd, rfl⟩ := okD_d hok
      exact lv_bipush hx hb hd hv (K lsA hl)
    · obtain ⟨hd, rfl⟩ := okD_d hok
      exact lv_sipush hx hb hd hv (K lsA hl)
  · split at hs
    · rename_i x hg
      cases hs
      simp only [okOp, Bool.or_eq_true, Bool.and_eq_true, decide_eq_true_eq] at hok
      rcases hok with hok | ⟨h4, hok⟩
      · obtain ⟨hd, rfl⟩ := okD_d hok
        exact lv_iload hx hb hd (e_load hl hg) (K lsA hl)
      · obtain ⟨hd, rfl⟩ := okD_d hok
        exact lv_iload_n hx hb hd (e_fin h4) (e_load hl hg) (K lsA hl)
    · cases hs
  · split at hs
    · rename_i i k1 hg
      cases hb98 : Nat.beq k1 98 with
      | true => rw [hb98] at hs; cases hs
      | false =>
        rw [hb98] at hs
        cases hs
        obtain ⟨ar, har⟩ := e_ptr (ε := ε) (i := i) hb98
        have hg2 := e_load hl hg
        rw [har] at hg2
        simp only [okOp, Bool.or_eq_true, Bool.and_eq_true, decide_eq_true_eq] at hok
        rcases hok with hok | ⟨h4, hok⟩
        · obtain ⟨hd, rfl⟩ := okD_d hok
          refine lv_aload hx hb hd hg2 ?_
          have KK := K lsA hl
          rw [List.map_cons, har] at KK
          exact KK
        · obtain ⟨hd, rfl⟩ := okD_d hok
          refine lv_aload_n hx hb hd (e_fin h4) hg2 ?_
          have KK := K lsA hl
          rw [List.map_cons, har] at KK
          exact KK
    · cases hs
  · split at hs
    · cases hs
      simp only [okOp, Bool.or_eq_true, Bool.and_eq_true, decide_eq_true_eq] at hok
      obtain ⟨hm, hok | ⟨h4, hok⟩⟩ := hok
      · obtain ⟨hd, rfl⟩ := okD_d hok
        exact lv_istore hx hb hd hl hm rfl (fun lsB hB => K lsB (e_store hB))
      · obtain ⟨hd, rfl⟩ := okD_d hok
        exact lv_istore_n hx hb hd (e_fin h4) hl hm rfl (fun lsB hB => K lsB (e_store hB))
    · cases hs
  · split at hs
    · rename_i i k1 t
      cases hb98 : Nat.beq k1 98 with
      | true => rw [hb98] at hs; cases hs
      | false =>
        rw [hb98] at hs
        cases hs
        obtain ⟨ar, har⟩ := e_ptr (ε := ε) (i := i) hb98
        simp only [okOp, Bool.or_eq_true, Bool.and_eq_true, decide_eq_true_eq] at hok
        obtain ⟨hm, h4, hok⟩ := hok
        obtain ⟨hd, rfl⟩ := okD_d hok
        rw [List.map_cons, har]
        exact lv_astore_n hx hb hd (e_fin h4) hl hm rfl (fun lsB hB => K lsB (e_store (by rw [har]; exact hB)))
    · cases hs
  · split at hs
    · cases hs
      obtain ⟨hd, rfl⟩ := okD_d hok
      exact lv_iadd hx hb hd (K lsA hl)
    · cases hs
  · split at hs
    · cases hs
      obtain ⟨hd, rfl⟩ := okD_d hok
      exact lv_isub hx hb hd (K lsA hl)
    · cases hs
  · split at hs
    · cases hs
      obtain ⟨hd, rfl⟩ := okD_d hok
      exact lv_imul hx hb hd (K lsA hl)
    · cases hs
  · split at hs
    · cases hs
      obtain ⟨hd, rfl⟩ := okD_d hok
      exact lv_iand hx hb hd (K lsA hl)
    · cases hs
  · split at hs
    · cases hs
      obtain ⟨hd, rfl⟩ := okD_d hok
      exact lv_i2c hx hb hd rfl (K lsA hl)
    · cases hs
  · split at hs
    · rename_i x hg
      cases hs
      simp only [okOp, Bool.and_eq_true, decide_eq_true_eq] at hok
      obtain ⟨hm, hok⟩ := hok
      obtain ⟨hd, rfl⟩ := okD_d hok
      obtain ⟨j9, hj9⟩ := List.getElem?_of_mem ((e_ll_mem ε ls 0 (a, .int x)).2 ⟨a, .inl x, by simp, hg, rfl⟩)
      exact lv_iinc hx hb hd hl hj9 (by rw [e_ofInt]) hm rfl (fun lsB hB => K lsB (e_store hB))
    · cases hs
  · cases hs
    simp only [okOp, decide_eq_true_eq] at hok
    exact lv_goto hx hb hok (by omega) (K lsA hl)
  · split at hs
    · cases hs
      obtain ⟨hd, rfl⟩ := okD_d hok
      exact lv_dup hx hb hd (e_vm_cat ε _) (K lsA hl)
    · cases hs
  · split at hs
    · cases hs
      obtain ⟨hd, rfl⟩ := okD_d hok
      exact lv_dup2_11 hx hb hd (e_vm_cat ε _) (e_vm_cat ε _) (K lsA hl)
    · cases hs
  · split at hs
    · cases hs
      obtain ⟨hd, rfl⟩ := okD_d hok
      exact lv_pop hx hb hd (e_vm_cat ε _) (K lsA hl)
    · cases hs
  · cases hs
theorem e_div {a b nx tg : Nat} {v x y : Int32} {t : List V0} (h : lk (jt J) pc = (9, a, b, v, nx, tg)) (hy : ¬ y = 0) (k : E ε J mc ms cells slots nx ls (.inl (x / y) :: t) ws Q) : E ε J mc ms cells slots pc ls (.inl y :: .inl x :: t) ws Q := by
  intro hT p e R s m args below meth c H locs lsA C hP hD hS hl
  have hok := e_op hT h (by decide)
  have K := k hT p e R s m args below meth c H locs lsA C hP hD hS hl
  obtain ⟨hx, hb, -⟩ := C
  obtain ⟨hd, rfl⟩ := okD_d hok
  exact lv_idiv hx hb hd hy K
/-- branches: on one number against 0, on two numbers -/
def cnd (o : Nat) (st : List V0) : Option (Prop × List V0) := match o with
  | 14 => match st with
    | .inl x :: t => some (x = 0, t)
    | _ => none
  | 15 => match st with
    | .inl x :: t => some (¬ x = 0, t)
    | _ => none
  | 16 => match st with
    | .inl x :: t => some (x < 0, t)
    | _ => none
  | 17 => match st with
    | .inl x :: t => some (0 ≤ x, t)
    | _ => none
  | 18 => match st with
    | .inl x :: t => some (0 < x, t)
    | _ => none
  | 19 => match st with
    | .inl x :: t => some (x ≤ 0, t)
    | _ => none
  | 20 => match st with
    | .inl y :: .inl x :: t => some (x = y, t)
    | _ => none
  | 21 => match st with
    | .inl y :: .inl x :: t => some (¬ x = y, t)
    | _ => none
  | 22 => match st with
    | .inl y :: .inl x :: t => some (x < y, t)
    | _ => none
  | 23 => match st with
    | .inl y :: .inl x :: t => some (y ≤ x, t)
    | _ => none
  | 24 => match st with
    | .inl y :: .inl x :: t => some (y < x, t)
    | _ => none
  | 25 => match st with
    | .inl y :: .inl x :: t => some (x ≤ y, t)
    | _ => none
  | _ => none
set_option maxHeartbeats 4000000 in
theorem e_if {o a b nx tg : Nat} {v : Int32} {P : Prop} {st' : List V0} (h : lk (jt J) pc = (o, a, b, v, nx, tg)) (hs : cnd o st = some (P, st')) (kt : P → E ε J mc ms cells slots tg ls st' ws Q) (kf : ¬ P → E ε J mc ms cells slots nx ls st' ws Q) : E ε J mc ms cells slots pc ls st ws Q := by
  intro hT p e R s m args below meth c H locs lsA C hP hD hS hl
  have h0 : o ≠ 0 := by
    intro z
    subst z
    cases hs
  have hok := e_op hT h h0
  have KT := fun z => kt z hT p e R s m args below meth c H locs lsA C hP hD hS hl
  have KF := fun z => kf z hT p e R s m args below meth c H locs lsA C hP hD hS hl
  obtain ⟨hx, hb, -⟩ := C
  have ht : (pc : Int) + ((tg : Int) - (pc : Int)) = (tg : Int) := by omega
  unfold cnd at hs
  split at hs
  · split at hs
    · cases hs
      obtain ⟨hd, rfl⟩ := okB_d hok
      exact lv_if_eq hx hb hd ht KT KF
    · cases hs
  · split at hs
    · cases hs
      obtain ⟨hd, rfl⟩ := okB_d hok
      exact lv_if_ne hx hb hd ht KT (fun z => KF (fun w => w z))
    · cases hs
  · split at hs
    · cases hs
      obtain ⟨hd, rfl⟩ := okB_d hok
      exact lv_if_lt hx hb hd ht KT KF
    · cases hs
  · split at hs
    · cases hs
      obtain ⟨hd, rfl⟩ := okB_d hok
      exact lv_if_ge hx hb hd ht KT KF
    · cases hs
  · split at hs
    · cases hs
      obtain ⟨hd, rfl⟩ := okB_d hok
      exact lv_if_gt hx hb hd ht KT KF
    · cases hs
  · split at hs
    · cases hs
      obtain ⟨hd, rfl⟩ := okB_d hok
      exact lv_if_le hx hb hd ht KT KF
    · cases hs
  · split at hs
    · cases hs
      obtain ⟨hd, rfl⟩ := okB_d hok
      exact lv_icmp_eq hx hb hd ht KT KF
    · cases hs
  · split at hs
    · cases hs
      obtain ⟨hd, rfl⟩ := okB_d hok
      exact lv_icmp_ne hx hb hd ht KT (fun z => KF (fun w => w z))
    · cases hs
  · split at hs
    · cases hs
      obtain ⟨hd, rfl⟩ := okB_d hok
      exact lv_icmp_lt hx hb hd ht KT KF
    · cases hs
  · split at hs
    · cases hs
      obtain ⟨hd, rfl⟩ := okB_d hok
      exact lv_icmp_ge hx hb hd ht KT KF
    · cases hs
  · split at hs
    · cases hs
      obtain ⟨hd, rfl⟩ := okB_d hok
      exact lv_icmp_gt hx hb hd ht KT KF
    · cases hs
  · split at hs
    · cases hs
      obtain ⟨hd, rfl⟩ := okB_d hok
      exact lv_icmp_le hx hb hd ht KT KF
    · cases hs
  · cases hs
end MB
end
section
/-! The rules of E: fields, arrays, ends, calls. -/
section MC
variable {ε : EE} {J : JT} {mc ms cells slots pc : Nat} {ls : List (Option V0)} {st : List V0} {ws : va_W} {Q : Option Int32 → va_W → Prop}
def nfC (t : Nat) : Nat := match t with
  | 0 => 4 | 1 => 2 | 2 => 9 | 3 => 2 | 4 => 3 | 5 => 8 | 6 => 8 | 7 => 1 | 8 => 5 | _ => 7
def tyC (t : Nat) : Nat → FieldType := match t with
  | 0 => tyX0 | 1 => tyX1 | 2 => tyX2 | 3 => tyX3 | 4 => tyX4 | 5 => tyX5 | 6 => tyX6 | 7 => tyX7 | 8 => tyX8 | _ => tyX9
theorem co_10 {P : Nat → Prop} (h0 : P 0) (h1 : P 1) (h2 : P 2) (h3 : P 3) (h4 : P 4) (h5 : P 5) (h6 : P 6) (h7 : P 7) (h8 : P 8) (h9 : P 9) {t : Nat} (ht : t < 10) : P t := by
  rcases (show t = 0 ∨ t = 1 ∨ t = 2 ∨ t = 3 ∨ t = 4 ∨ t = 5 ∨ t = 6 ∨ t = 7 ∨ t = 8 ∨ t = 9 by omega) with h | h | h | h | h | h | h | h | h | h <;> subst h <;> assumption
theorem vw_at {t : Nat} (ht : t < 10) : vwCl[t]? = some (nmC t, tbC t, nfC t) ∧ (∀ w ∈ u_ws (nmC t) (tbC t) (nfC t), w ∈ Tg) ∧ (∀ k, k < nfC t → parseFieldDescriptor (tbC t k).2.2.1 = some (tyC t k)) ∧ (∀ a, a < nfC t → ∀ b, b < nfC t → a ≠ b → (tbC t a).2.1 ≠ (tbC t b).2.1) :=
  co_10 (P := fun t => vwCl[t]? = some (nmC t, tbC t, nfC t) ∧ (∀ w ∈ u_ws (nmC t) (tbC t) (nfC t), w ∈ Tg) ∧ (∀ k, k < nfC t → parseFieldDescriptor (tbC t k).2.2.1 = some (tyC t k)) ∧ (∀ a, a < nfC t → ∀ b, b < nfC t → a ≠ b → (tbC t a).2.1 ≠ (tbC t b).2.1))
    ⟨rfl, tgX0, tyX0_ok, nmX0⟩ ⟨rfl, tgX1, tyX1_ok, nmX1⟩ ⟨rfl, tgX2, tyX2_ok, nmX2⟩ ⟨rfl, tgX3, tyX3_ok, nmX3⟩ ⟨rfl, tgX4, tyX4_ok, nmX4⟩ ⟨rfl, tgX5, tyX5_ok, nmX5⟩ ⟨rfl, tgX6, tyX6_ok, nmX6⟩ ⟨rfl, tgX7, tyX7_ok, nmX7⟩ ⟨rfl, tgX8, tyX8_ok, nmX8⟩ ⟨rfl, tgX9, tyX9_ok, nmX9⟩ ht
theorem flT_k : ∀ r ∈ flT, r.2.2.2 < nfC r.2.2.1 ∧ r.2.2.1 < 10 ∧ (tbC r.2.2.1 r.2.2.2).1 = nmC r.2.2.1 := by decide +kernel
theorem e_own {s : State} {m : MethodId} (hT : e_T J) (h : s.vm.findClass (jy J).cls = some m.cls) : s.vm.findClass (nmC (jc J)) = some m.cls := by rw [hT.2.1]; exact h
theorem e_get {kf t nx idx q0 a0 : Nat} {v : Int32} {pp : Nat × Nat} {fs : List Value} {w : V0} (h : lk (jt J) pc = (30, kf, t, v, nx, idx)) (hpt : e_vm ε (.inr pp) = .ref a0) (hp : ws[q0]? = some (a0, .inr (t, fs))) (hv : fs[kf]? = some (e_vm ε w)) (k : E ε J mc ms cells slots nx ls (w :: st) ws Q) : E ε J mc ms cells slots pc ls (.inr pp :: st) ws Q := by
  intro hT p e R s m args below meth c H locs lsA C hP hD hS hl
  have hok := e_op hT h (by decide)
  have K := k hT p e R s m args below meth c H locs lsA C hP hD hS hl
  obtain ⟨hx, hb, hr, hml, hown, hts, hlk, hK, hB0, hR, hnm⟩ := C
  have hown := e_own hT hown
  simp only [okOp, Bool.and_eq_true, decide_eq_true_eq] at hok
  obtain ⟨hok, hmem⟩ := hok
  obtain ⟨hd, rfl⟩ := okD_d hok
  obtain ⟨hk, ht, hsm⟩ := flT_k _ hmem
  obtain ⟨v1, v2, v3, v4⟩ := vw_at ht
  rw [List.map_cons, hpt]
  rcases flT_ok _ hmem with hf | ⟨host, hf⟩
  · exact va_get hx hb hts v2 hown hK.1 hP q0 hp v1 kf hk (hts _ hf) (fun x h9 => by rw [← hsm]; exact h9) hv hd K
  · exact va_getN hx hb hts v2 hown hK.1 hP q0 hp v1 kf hk (va_Nw.use rfl (hK.2 _ hf)) (fun x h9 => by rw [← hsm]; exact h9) hv hd K
theorem e_put {kf t nx idx q0 a0 : Nat} {v : Int32} {pp : Nat × Nat} {fs : List Value} {w : V0} (h : lk (jt J) pc = (31, kf, t, v, nx, idx)) (hpt : e_vm ε (.inr pp) = .ref a0) (hp : ws[q0]? = some (a0, .inr (t, fs))) (hfin : (tbC t kf).2.2.2 = false) (hn : narrow (tyC t kf) (e_vm ε w) = e_vm ε w) (hfit : fits (tyC t kf) (e_vm ε w) = true) (hl0 : kf < fs.length) (k : E ε J mc ms cells slots nx ls st (ws.set q0 (a0, .inr (t, fs.set kf (e_vm ε w)))) Q) : E ε J mc ms cells slots pc ls (w :: .inr pp :: st) ws Q := by
  intro hT p e R s m args below meth c H locs lsA C hP hD hS hl
  have hok := e_op hT h (by decide)
  have K := fun H locs hP hD hS => k hT p e R s m args below meth c H locs lsA C hP hD hS hl
  obtain ⟨hx, hb, hr, hml, hown, hts, hlk, hK, hB0, hR, hnm⟩ := C
  have hown := e_own hT hown
  simp only [okOp, Bool.and_eq_true, decide_eq_true_eq] at hok
  obtain ⟨hok, hmem⟩ := hok
  obtain ⟨hd, rfl⟩ := okD_d hok
  obtain ⟨hk, ht, hsm⟩ := flT_k _ hmem
  obtain ⟨v1, v2, v3, v4⟩ := vw_at ht
  rw [List.map_cons, List.map_cons, hpt]
  rcases flT_ok _ hmem with hf | ⟨host, hf⟩
  · exact va_put hx hb hts v2 (tyC t) v3 v4 hown hK.1 hP hD hS q0 hp v1 kf hk (hts _ hf) (fun x h9 => by rw [← hsm]; exact h9) hfin (v3 kf hk) hn hfit hl0 hd K
  · exact va_putN hx hb hts v2 (tyC t) v3 v4 hown hK.1 hP hD hS q0 hp v1 kf hk (va_Nw.use rfl (hK.2 _ hf)) (fun x h9 => by rw [← hsm]; exact h9) hfin (v3 kf hk) hn hfit hl0 hd K
theorem e_iald {o a b nx q0 a0 n j : Nat} {v : Int32} {pp : Nat × Nat} {f : Nat → Int32} (h : lk (jt J) pc = (32, a, b, v, nx, o)) (hpt : e_vm ε (.inr pp) = .ref a0) (hp : ws[q0]? = some (a0, .inl (ε.2.2.1 0, n, .inl f))) (hj : j < n) (hn : n < 2 ^ 31) (k : E ε J mc ms cells slots nx ls (.inl (f j) :: st) ws Q) : E ε J mc ms cells slots pc ls (.inl (nI j) :: .inr pp :: st) ws Q := by
  intro hT p e R s m args below meth c H locs lsA C hP hD hS hl
  have hok := e_op hT h (by decide)
  have K := k hT p e R s m args below meth c H locs lsA C hP hD hS hl
  obtain ⟨hx, hb, hr, hml, hown, hts, hlk, hK, hB0, hR, hnm⟩ := C
  obtain ⟨hd, rfl⟩ := okD_d hok
  rw [List.map_cons, List.map_cons, hpt]
  refine va_iald hx hb hK.1 hP q0 0 hp rfl (vp_in_nI hj hn) hd ?_
  rw [nI_clamp (Nat.lt_trans hj hn)]
  exact K
theorem e_zald {o a b nx q0 a0 n j : Nat} {v : Int32} {pp : Nat × Nat} {f : Nat → Int32} (h : lk (jt J) pc = (33, a, b, v, nx, o)) (hpt : e_vm ε (.inr pp) = .ref a0) (hp : ws[q0]? = some (a0, .inl (ε.2.2.1 1, n, .inl f))) (hj : j < n) (hn : n < 2 ^ 31) (k : E ε J mc ms cells slots nx ls (.inl (f j) :: st) ws Q) : E ε J mc ms cells slots pc ls (.inl (nI j) :: .inr pp :: st) ws Q := by
  intro hT p e R s m args below meth c H locs lsA C hP hD hS hl
  have hok := e_op hT h (by decide)
  have K := k hT p e R s m args below meth c H locs lsA C hP hD hS hl
  obtain ⟨hx, hb, hr, hml, hown, hts, hlk, hK, hB0, hR, hnm⟩ := C
  obtain ⟨hd, rfl⟩ := okD_d hok
  rw [List.map_cons, List.map_cons, hpt]
  refine va_zald hx hb hK.1 hP q0 1 hp rfl (vp_in_nI hj hn) hd ?_
  rw [nI_clamp (Nat.lt_trans hj hn)]
  exact K
theorem e_cald {o a b nx q0 a0 n j : Nat} {v : Int32} {pp : Nat × Nat} {f : Nat → Int32} (h : lk (jt J) pc = (34, a, b, v, nx, o)) (hpt : e_vm ε (.inr pp) = .ref a0) (hp : ws[q0]? = some (a0, .inl (ε.2.2.1 2, n, .inl f))) (hj : j < n) (hn : n < 2 ^ 31) (k : E ε J mc ms cells slots nx ls (.inl (f j) :: st) ws Q) : E ε J mc ms cells slots pc ls (.inl (nI j) :: .inr pp :: st) ws Q := by
  intro hT p e R s m args below meth c H locs lsA C hP hD hS hl
  have hok := e_op hT h (by decide)
  have K := k hT p e R s m args below meth c H locs lsA C hP hD hS hl
  obtain ⟨hx, hb, hr, hml, hown, hts, hlk, hK, hB0, hR, hnm⟩ := C
  obtain ⟨hd, rfl⟩ := okD_d hok
  rw [List.map_cons, List.map_cons, hpt]
  refine va_cald hx hb hK.1 hP q0 2 hp rfl (vp_in_nI hj hn) hd ?_
  rw [nI_clamp (Nat.lt_trans hj hn)]
  exact K
theorem e_aald {o a b nx q0 a0 n j t0 aj : Nat} {v : Int32} {pp p2 : Nat × Nat} {C0 : String} {cA : ClassId} {f : Nat → Option Nat} (h : lk (jt J) pc = (35, a, b, v, nx, o)) (hpt : e_vm ε (.inr pp) = .ref a0) (hp : ws[q0]? = some (a0, .inl (cA, n, .inr (.inr (.inr (.inr f)))))) (ht : (e_tys ε)[t0]? = some (cA, .object C0)) (hj : j < n) (hn : n < 2 ^ 31) (hf : f j = some aj) (hpt2 : e_vm ε (.inr p2) = .ref aj) (k : E ε J mc ms cells slots nx ls (.inr p2 :: st) ws Q) : E ε J mc ms cells slots pc ls (.inl (nI j) :: .inr pp :: st) ws Q := by
  intro hT p e R s m args below meth c H locs lsA C hP hD hS hl
  have hok := e_op hT h (by decide)
  have K := k hT p e R s m args below meth c H locs lsA C hP hD hS hl
  obtain ⟨hx, hb, hr, hml, hown, hts, hlk, hK, hB0, hR, hnm⟩ := C
  obtain ⟨hd, rfl⟩ := okD_d hok
  rw [List.map_cons, List.map_cons, hpt]
  refine va_aldq hx hb hK.1 hP q0 t0 hp ht (vp_in_nI hj hn) hd ?_
  rw [nI_clamp (Nat.lt_trans hj hn), hf]
  rw [List.map_cons, hpt2] at K
  exact K
theorem e_iast {o a b nx q0 a0 n j : Nat} {v x : Int32} {pp : Nat × Nat} {f : Nat → Int32} (h : lk (jt J) pc = (36, a, b, v, nx, o)) (hpt : e_vm ε (.inr pp) = .ref a0) (hp : ws[q0]? = some (a0, .inl (ε.2.2.1 0, n, .inl f))) (hj : j < n) (hn : n < 2 ^ 31) (k : E ε J mc ms cells slots nx ls st (ws.set q0 (a0, .inl (ε.2.2.1 0, n, .inl (upd f j x)))) Q) : E ε J mc ms cells slots pc ls (.inl x :: .inl (nI j) :: .inr pp :: st) ws Q := by
  intro hT p e R s m args below meth c H locs lsA C hP hD hS hl
  have hok := e_op hT h (by decide)
  have K := fun H locs hP hD hS => k hT p e R s m args below meth c H locs lsA C hP hD hS hl
  obtain ⟨hx, hb, hr, hml, hown, hts, hlk, hK, hB0, hR, hnm⟩ := C
  obtain ⟨hd, rfl⟩ := okD_d hok
  rw [List.map_cons, List.map_cons, List.map_cons, hpt]
  refine va_iast hx hb hK.1 hP hD hS q0 0 hp rfl (vp_in_nI hj hn) hd ?_
  rw [nI_clamp (Nat.lt_trans hj hn)]
  exact K
theorem e_zast {o a b nx q0 a0 n j : Nat} {v x : Int32} {pp : Nat × Nat} {f : Nat → Int32} (h : lk (jt J) pc = (37, a, b, v, nx, o)) (hpt : e_vm ε (.inr pp) = .ref a0) (hp : ws[q0]? = some (a0, .inl (ε.2.2.1 1, n, .inl f))) (hj : j < n) (hn : n < 2 ^ 31) (hv : vp_nar .boolean x = x) (k : E ε J mc ms cells slots nx ls st (ws.set q0 (a0, .inl (ε.2.2.1 1, n, .inl (upd f j x)))) Q) : E ε J mc ms cells slots pc ls (.inl x :: .inl (nI j) :: .inr pp :: st) ws Q := by
  intro hT p e R s m args below meth c H locs lsA C hP hD hS hl
  have hok := e_op hT h (by decide)
  have K := fun H locs hP hD hS => k hT p e R s m args below meth c H locs lsA C hP hD hS hl
  obtain ⟨hx, hb, hr, hml, hown, hts, hlk, hK, hB0, hR, hnm⟩ := C
  obtain ⟨hd, rfl⟩ := okD_d hok
  rw [List.map_cons, List.map_cons, List.map_cons, hpt]
  refine va_zast hx hb hK.1 hP hD hS q0 1 hp rfl (vp_in_nI hj hn) hd ?_
  rw [nI_clamp (Nat.lt_trans hj hn), hv]
  exact K
theorem e_cast {o a b nx q0 a0 n j : Nat} {v x : Int32} {pp : Nat × Nat} {f : Nat → Int32} (h : lk (jt J) pc = (38, a, b, v, nx, o)) (hpt : e_vm ε (.inr pp) = .ref a0) (hp : ws[q0]? = some (a0, .inl (ε.2.2.1 2, n, .inl f))) (hj : j < n) (hn : n < 2 ^ 31) (hv : vp_nar .char x = x) (k : E ε J mc ms cells slots nx ls st (ws.set q0 (a0, .inl (ε.2.2.1 2, n, .inl (upd f j x)))) Q) : E ε J mc ms cells slots pc ls (.inl x :: .inl (nI j) :: .inr pp :: st) ws Q := by
  intro hT p e R s m args below meth c H locs lsA C hP hD hS hl
  have hok := e_op hT h (by decide)
  have K := fun H locs hP hD hS => k hT p e R s m args below meth c H locs lsA C hP hD hS hl
  obtain ⟨hx, hb, hr, hml, hown, hts, hlk, hK, hB0, hR, hnm⟩ := C
  obtain ⟨hd, rfl⟩ := okD_d hok
  rw [List.map_cons, List.map_cons, List.map_cons, hpt]
  refine va_cast hx hb hK.1 hP hD hS q0 2 hp rfl (vp_in_nI hj hn) hd ?_
  rw [nI_clamp (Nat.lt_trans hj hn), hv]
  exact K
theorem e_aast {o a b nx q0 a0 n j t0 qk ci aj : Nat} {v : Int32} {pp p2 : Nat × Nat} {cA : ClassId} {r : vw_C} {vs : List Value} {f : Nat → Option Nat} (h : lk (jt J) pc = (39, a, b, v, nx, o)) (hpt : e_vm ε (.inr pp) = .ref a0) (hp : ws[q0]? = some (a0, .inl (cA, n, .inr (.inr (.inr (.inr f)))))) (ht : (e_tys ε)[t0]? = some (cA, .object r.1)) (hpt2 : e_vm ε (.inr p2) = .ref aj) (hv : ws[qk]? = some (aj, .inr (ci, vs))) (hc : vwCl[ci]? = some r) (hj : j < n) (hn : n < 2 ^ 31) (k : E ε J mc ms cells slots nx ls st (ws.set q0 (a0, .inl (cA, n, .inr (.inr (.inr (.inr (va_up f j (some aj)))))))) Q) : E ε J mc ms cells slots pc ls (.inr p2 :: .inl (nI j) :: .inr pp :: st) ws Q := by
  intro hT p e R s m args below meth c H locs lsA C hP hD hS hl
  have hok := e_op hT h (by decide)
  have K := fun H locs hP hD hS => k hT p e R s m args below meth c H locs lsA C hP hD hS hl
  obtain ⟨hx, hb, hr, hml, hown, hts, hlk, hK, hB0, hR, hnm⟩ := C
  obtain ⟨hd, rfl⟩ := okD_d hok
  rw [List.map_cons, List.map_cons, List.map_cons, hpt, hpt2]
  refine va_astq hx hb hK.1 hP hD hS q0 t0 qk ci hp ht hv hc (vp_in_nI hj hn) hd ?_
  rw [nI_clamp (Nat.lt_trans hj hn)]
  exact K
theorem e_alen {o a b nx q0 a0 t0 : Nat} {v : Int32} {pp : Nat × Nat} {cA : ClassId} {x : vp_A} {ty : FieldType} (h : lk (jt J) pc = (40, a, b, v, nx, o)) (hpt : e_vm ε (.inr pp) = .ref a0) (hp : ws[q0]? = some (a0, .inl (cA, x))) (ht : (e_tys ε)[t0]? = some (cA, ty)) (k : E ε J mc ms cells slots nx ls (.inl (nI x.1) :: st) ws Q) : E ε J mc ms cells slots pc ls (.inr pp :: st) ws Q := by
  intro hT p e R s m args below meth c H locs lsA C hP hD hS hl
  have hok := e_op hT h (by decide)
  have K := k hT p e R s m args below meth c H locs lsA C hP hD hS hl
  obtain ⟨hx, hb, hr, hml, hown, hts, hlk, hK, hB0, hR, hnm⟩ := C
  obtain ⟨hd, rfl⟩ := okD_d hok
  rw [List.map_cons, hpt]
  exact va_alen hx hb hK.1 hP q0 t0 hp ht rfl hd K
theorem e_Qc_some {ty : FieldType} (h : jr J = some ty) : e_Qc ε J Q = va_Qi (fun r u => Q (some r) u) (fun u t => e_W ε u t) (e_A ε) := by unfold e_Qc; rw [h]
theorem e_Qc_none (h : jr J = none) : e_Qc ε J Q = va_Qv (Q none) (fun u t => e_W ε u t) (e_A ε) := by unfold e_Qc; rw [h]
theorem e_iret {o a b nx : Nat} {v x : Int32} (h : lk (jt J) pc = (41, a, b, v, nx, o)) (hr : jr J = some .int) (hc : cells ≤ mc) (hs : slots ≤ ms) (hQ : Q (some x) ws) : E ε J mc ms cells slots pc ls [.inl x] ws Q := by
  intro hT p e R s m args below meth c H locs lsA C hP hD hS hl
  have hok := e_op hT h (by decide)
  obtain ⟨hx, hb, hrt, hml, hown, hts, hlk, hK, hB0, hR, hnm⟩ := C
  simp only [okOp, decide_eq_true_eq] at hok
  refine W.widen hc hs ?_
  refine W.iret (v := x) hx hb (by rw [hrt, hr]) (fun t ht hW => ?_) hS.2.2 hok hlk
  rw [e_Qc_some hr]
  exact ⟨⟨x, ws, rfl, hQ, by rw [ht]; exact hP, hD⟩, hS.F ht⟩
theorem e_zret {o a b nx : Nat} {v x : Int32} (h : lk (jt J) pc = (41, a, b, v, nx, o)) (hr : jr J = some .boolean) (hc : cells ≤ mc) (hs : slots ≤ ms) (hv : vp_nar .boolean x = x) (hQ : Q (some x) ws) : E ε J mc ms cells slots pc ls [.inl x] ws Q := by
  intro hT p e R s m args below meth c H locs lsA C hP hD hS hl
  have hok := e_op hT h (by decide)
  obtain ⟨hx, hb, hrt, hml, hown, hts, hlk, hK, hB0, hR, hnm⟩ := C
  simp only [okOp, decide_eq_true_eq] at hok
  refine W.widen hc hs ?_
  refine W.zret (v := x) hx hb (by rw [hrt, hr]) (by
    have : narrow .boolean (.int x) = .int (vp_nar .boolean x) := by simp [vp_nar, narrow]
    rw [this, hv]) (fun t ht hW => ?_) hS.2.2 hok hlk
  rw [e_Qc_some hr]
  exact ⟨⟨x, ws, rfl, hQ, by rw [ht]; exact hP, hD⟩, hS.F ht⟩
theorem e_vret {o a b nx : Nat} {v : Int32} (h : lk (jt J) pc = (42, a, b, v, nx, o)) (hr : jr J = none) (hc : cells ≤ mc) (hs : slots ≤ ms) (hQ : Q none ws) : E ε J mc ms cells slots pc ls [] ws Q := by
  intro hT p e R s m args below meth c H locs lsA C hP hD hS hl
  have hok := e_op hT h (by decide)
  obtain ⟨hx, hb, hrt, hml, hown, hts, hlk, hK, hB0, hR, hnm⟩ := C
  simp only [okOp, decide_eq_true_eq] at hok
  refine W.widen hc hs ?_
  refine W.vret hx hb (by rw [hrt, hr]) (fun t ht hW => ?_) hS.2.2 hok hlk
  rw [e_Qc_none hr]
  exact ⟨⟨ws, rfl, hQ, by rw [ht]; exact hP, hD⟩, hS.F ht⟩
end MC
end
section
/-! The rules of E: a method's contract out of E, and calls. -/
section MD
variable {ε : EE} {J : JT} {mc ms cells slots pc : Nat} {ls : List (Option V0)} {st : List V0} {ws : va_W} {Q : Option Int32 → va_W → Prop}
def e_in (As : List V0) (n : Nat) : List (Option V0) := As.map some ++ List.replicate (n - As.length) none
theorem e_ll_none (ε : EE) : ∀ (n k : Nat), e_ll ε k (List.replicate n none) = []
  | 0, k => rfl
  | n + 1, k => by rw [List.replicate_succ, e_ll, e_ll_none ε n (k + 1)]
theorem e_ll_in (ε : EE) (n : Nat) : ∀ (As : List V0) (k : Nat), e_ll ε k (As.map some ++ List.replicate n none) = lv_args k (As.map (e_vm ε))
  | [], k => by rw [List.map_nil, List.nil_append, e_ll_none]; rfl
  | v :: t, k => by
    rw [List.map_cons, List.cons_append, e_ll, e_ll_in ε n t (k + 1), List.map_cons, lv_args, if_neg (by rw [e_vm_cat]; decide)]
theorem e_sl_len (ε : EE) : ∀ (As : List V0), (lg_sl (As.map (e_vm ε))).length = As.length
  | [] => rfl
  | v :: t => by
    have h := e_sl_len ε t
    unfold lg_sl at h ⊢
    rw [List.map_cons, List.flatMap_cons, if_neg (by rw [e_vm_cat]; decide), List.length_append, h]
    simp
    omega
theorem e_K.moved {s U : State} (hW : s.WarmedH U.vm) (h : e_K ε s) : e_K ε U := ⟨va_K.moved hW.alike h.1, fun w hw => nw_warm hW hw (h.2 w hw)⟩
theorem e_K.same {s U : State} (hv : s.vm = U.vm) (h : e_K ε s) : e_K ε U := ⟨va_K.moved (by rw [hv]; exact Vm.Alike.refl _) h.1, fun w hw => va_Nw.same (nw_tab hw) hv (h.2 w hw)⟩
set_option maxHeartbeats 4000000 in
theorem e_met {As : List V0} (hT : e_T J) (hlen : As.length ≤ jm J) (hE : E ε J mc ms 0 0 0 (e_in As (jm J)) [] ws Q) : e_Ct ε J mc ms As ws Q := by
  refine Met.ofW (cc := jb J) (maxL := jm J) (ret := jr J) hT.2.2.2 rfl ?_
  intro p e s m args below meth c s₁ B hml hv
  obtain ⟨rfl, hB0, hK, hP, hD⟩ := hv
  have hts := atoms_spec (ws := e_ws J) B.pre
  have hl := lv_entry (As.map (e_vm ε)) (n := jm J) (by rw [e_sl_len]; exact hlen)
  have hC : e_C ε J mc ms p (headSpec (e_ws J) (e_rm J mc ms)).room s m (As.map (e_vm ε)).toArray meth c := ⟨B.exec, B.bytes, B.returns, hml, findClass_of_methodNamed B.named, fun w hw => hts w (List.mem_cons_of_mem _ hw), B.notSynchronized, hK, hB0, rfl, (name_of_methodNamed B.named B.method).1⟩
  rw [lg_entry_eq]
  refine hE hT p e _ s m _ below meth c s.heap [] _ hC hP hD va_S.rf ?_
  unfold e_L e_in
  rw [e_ll_in]
  exact hl
theorem e_blind {As : List V0} : FrameBlind (e_Pc ε As ws) := fun a U g mk q => by
  obtain ⟨h1, h2, h3, h4, h5⟩ := q
  exact ⟨h1, h2, e_K.same (s := U) (U := U.calling g mk a) rfl h3, h4, h5⟩
def e_link (J J' : JT) (kind n idx : Nat) : Prop := ((Cond.methodLink (jy J).cls idx (jy J') ∈ Tg) ∨ (∃ host, Cond.methodLinkNest (jy J).cls idx (jy J') host ∈ Nw)) ∧ (Cond.code (jy J') (jb J') (jm J') (jr J') ∈ Tg) ∧ (Cond.initialized (jy J').cls ∈ Tg) ∧ ((jy J').cls ≠ "java/lang/invoke/MethodHandle" ∧ (jy J').cls ≠ "java/lang/invoke/VarHandle" ∧ (parseMethodDescriptor (jy J').desc).map (fun d => d.parameters.length) = some n) ∧ (kind = 46 → Cond.static (jy J') ∈ Tg) ∧ (kind ≠ 46 → Cond.instanceMethod (jy J') ∈ Tg) ∧ (kind = 44 → Cond.selects (jy J').cls (jy J') (jy J') ∈ Tg) ∧ (kind = 45 → (jy J').name = "<init>")
theorem e_link_of {J' : JT} (hT : e_T J) (hT' : mN (jn J') = (jy J', jb J', jm J', jr J')) {kind n idx : Nat} (h : (kind, jc J, idx, jn J', n) ∈ clT) : e_link J J' kind n idx := by
  have h1 := clT_ok _ h
  unfold ClOk at h1
  simp only [hT'] at h1
  rw [hT.2.1] at h1
  exact h1
theorem e_good {J' : JT} (h : Cond.code (jy J') (jb J') (jm J') (jr J') ∈ Tg) : GoodIn Tg (e_ws J') := by
  intro w hw
  rcases List.mem_cons.1 hw with rfl | hw
  · exact tg_good _ h
  · exact tg_good _ hw
set_option maxHeartbeats 4000000 in
/-- invokevirtual, an answer that is a number -/
theorem e_callVi {J' : JT} {n idx nx a0 q0 ci mc' ms' : Nat} {v : Int32} {As rest : List V0} {pp : Nat × Nat} {fs : List Value} {Qc : Option Int32 → va_W → Prop} {ty : FieldType} (h : lk (jt J) pc = (44, n, jn J', v, nx, idx)) (hT' : mN (jn J') = (jy J', jb J', jm J', jr J')) (hr : jr J' = some ty) (hrm : jf J' + 1 ≤ jf J ∧ 8 + (jm J' + 11) + jo J' ≤ jo J) (hn : As.length = n) (hst : st = As.reverse ++ .inr pp :: rest) (hrest : rest.length ≤ 8) (hpt : e_vm ε (.inr pp) = .ref a0) (hp : ws[q0]? = some (a0, .inr (ci, fs))) (hci : ci < 10) (hcn : nmC ci = (jy J').cls) (hC : e_Ct ε J' mc' ms' (.inr pp :: As) ws Qc) (hcc : cells + mc' ≤ mc ∧ slots + ms' ≤ ms)
    (k : ∀ r ws', Qc (some r) ws' → E ε J mc ms (cells + mc') (slots + ms') nx ls (.inl r :: rest) ws' Q) : E ε J mc ms cells slots pc ls st ws Q := by
  intro hT p e R s m args below meth c H locs lsA C hP hD hS hl
  have hok := e_op hT h (by decide)
  have K := fun r ws' z H locs hP hD hS => k r ws' z hT p e R s m args below meth c H locs lsA C hP hD hS hl
  obtain ⟨hx, hb, hrt, hml, hown, hts, hlk, hK, hB0, hR, hnm⟩ := C
  simp only [okOp, Bool.and_eq_true, decide_eq_true_eq] at hok
  obtain ⟨hok, hmem⟩ := hok
  obtain ⟨hd, rfl⟩ := okD_d hok
  obtain ⟨hlink, hcode, hini, hcl, -, hinst, hsel, -⟩ := e_link_of hT hT' hmem
  have hinst := hinst (by decide)
  have hsel := hsel rfl
  have hM : Met ε.1 (jy J') (e_ws J') (e_rm J' mc' ms') (e_Pc ε (.inr pp :: As) ws) (va_Qi (fun r u => Qc (some r) u) (fun u t => e_W ε u t) (e_A ε)) mc' ms' (e_A ε) := by
    have := hC
    unfold e_Ct at this
    rw [e_Qc_some hr] at this
    exact this
  have hrecv := va_recv hK.1 hP (vw_at hci).1 hp
  have hPre : PreV s H (jy J').cls a0 (e_Pc ε (.inr pp :: As) ws) (As.map (e_vm ε)) := by
    refine ⟨e_blind, ?_, fun U hU hW => ⟨?_, ?_, e_K.moved hW hK, ?_, hD⟩⟩
    · rw [← hcn]; exact hrecv
    · rw [List.map_cons, hpt]
    · rw [hU]; exact Nat.le_trans hB0 hS.1
    · rw [hU]; exact hP
  have hsz : (F0 m pc lsA (st.map (e_vm ε))).locals.size = jm J := hl.1
  have hstk : (F0 m pc lsA (st.map (e_vm ε))).stack = (As.map (e_vm ε)).reverse ++ .ref a0 :: rest.map (e_vm ε) := by
    show st.map (e_vm ε) = _
    rw [hst, List.map_append, List.map_cons, hpt, List.map_reverse]
  have hW8 : 2 * (F0 m pc lsA (st.map (e_vm ε))).monitorRoom + ((rest.map (e_vm ε)).map fun v => v.category).sum ≤ 8 := by
    refine lv_room ?_
    have : ((rest.map (e_vm ε)).map fun v => v.category) = List.replicate rest.length 1 := by
      rw [List.map_map]
      refine List.eq_replicate_iff.2 ⟨by simp, fun b hb => ?_⟩
      obtain ⟨x, -, rfl⟩ := List.mem_map.1 hb
      exact e_vm_cat ε x
    rw [this, List.sum_replicate_nat]
    omega
  have hcells : cells + mc' ≤ R.cells ∧ slots + ms' ≤ R.slots := by rw [hR]; exact hcc
  have hRm : (e_rm J' mc' ms').frames + 1 ≤ R.frames ∧ 8 + (jm J' + 11) + (e_rm J' mc' ms').locals ≤ R.locals := by rw [hR]; exact hrm
  have hlen : (As.map (e_vm ε)).length = n := by rw [List.length_map]; exact hn
  have S : CallFix p m c (jb J) (jm J) s args Tg (jy J).cls := ⟨hx, hb, hml, hown, hts⟩
  have fin : va_Run p ε.1 e R s m args below meth c H locs cells slots mc' ms' (F0 m pc lsA (st.map (e_vm ε))) (rest.map (e_vm ε)) (va_Qi (fun r u => Qc (some r) u) (fun u t => e_W ε u t) (e_A ε) (Value.ref a0 :: As.map (e_vm ε)).toArray) (e_A ε) := by
    rcases hlink with hlink | ⟨host, hlink⟩
    · exact va_runV (As := As.map (e_vm ε)) (rest := rest.map (e_vm ε)) S hM ⟨callB_of (ws' := Tg) n hts (e_good hcode) rfl rfl rfl (hts _ hini) (hts _ hlink) hcl hRm, hts _ hinst, hts _ hsel⟩ hPre rfl hlen hsz hstk hW8 hd hcells
    · exact va_runVN (As := As.map (e_vm ε)) (rest := rest.map (e_vm ε)) S hM ⟨va_cnB (ws' := Tg) n hts (e_good hcode) rfl rfl rfl (hK.2 _ hlink) (hts _ hini) hcl hRm, hts _ hinst, hts _ hsel⟩ hPre rfl hlen hsz hstk hW8 hd hcells
  refine va_calli fin hS (fun q _ h => h) (fun q h => h) (fun r u t H1 locs1 ht hvm hw hB hz1 hk1 hS1 => ?_)
  obtain ⟨hP1, hD1⟩ := hB
  rw [ht] at hP1
  exact K r u hw H1 locs1 hP1 hD1 hS1
set_option maxHeartbeats 4000000 in
/-- invokevirtual, no answer -/
theorem e_callVv {J' : JT} {n idx nx a0 q0 ci mc' ms' : Nat} {v : Int32} {As rest : List V0} {pp : Nat × Nat} {fs : List Value} {Qc : Option Int32 → va_W → Prop} (h : lk (jt J) pc = (44, n, jn J', v, nx, idx)) (hT' : mN (jn J') = (jy J', jb J', jm J', jr J')) (hr : jr J' = none) (hrm : jf J' + 1 ≤ jf J ∧ 8 + (jm J' + 11) + jo J' ≤ jo J) (hn : As.length = n) (hst : st = As.reverse ++ .inr pp :: rest) (hrest : rest.length ≤ 8) (hpt : e_vm ε (.inr pp) = .ref a0) (hp : ws[q0]? = some (a0, .inr (ci, fs))) (hci : ci < 10) (hcn : nmC ci = (jy J').cls) (hC : e_Ct ε J' mc' ms' (.inr pp :: As) ws Qc) (hcc : cells + mc' ≤ mc ∧ slots + ms' ≤ ms)
    (k : ∀ ws', Qc none ws' → E ε J mc ms (cells + mc') (slots + ms') nx ls rest ws' Q) : E ε J mc ms cells slots pc ls st ws Q := by
  intro hT p e R s m args below meth c H locs lsA C hP hD hS hl
  have hok := e_op hT h (by decide)
  have K := fun ws' z H locs hP hD hS => k ws' z hT p e R s m args below meth c H locs lsA C hP hD hS hl
  obtain ⟨hx, hb, hrt, hml, hown, hts, hlk, hK, hB0, hR, hnm⟩ := C
  simp only [okOp, Bool.and_eq_true, decide_eq_true_eq] at hok
  obtain ⟨hok, hmem⟩ := hok
  obtain ⟨hd, rfl⟩ := okD_d hok
  obtain ⟨hlink, hcode, hini, hcl, -, hinst, hsel, -⟩ := e_link_of hT hT' hmem
  have hinst := hinst (by decide)
  have hsel := hsel rfl
  have hM : Met ε.1 (jy J') (e_ws J') (e_rm J' mc' ms') (e_Pc ε (.inr pp :: As) ws) (va_Qv (Qc none) (fun u t => e_W ε u t) (e_A ε)) mc' ms' (e_A ε) := by
    have := hC
    unfold e_Ct at this
    rw [e_Qc_none hr] at this
    exact this
  have hrecv := va_recv hK.1 hP (vw_at hci).1 hp
  have hPre : PreV s H (jy J').cls a0 (e_Pc ε (.inr pp :: As) ws) (As.map (e_vm ε)) := by
    refine ⟨e_blind, ?_, fun U hU hW => ⟨?_, ?_, e_K.moved hW hK, ?_, hD⟩⟩
    · rw [← hcn]; exact hrecv
    · rw [List.map_cons, hpt]
    · rw [hU]; exact Nat.le_trans hB0 hS.1
    · rw [hU]; exact hP
  have hsz : (F0 m pc lsA (st.map (e_vm ε))).locals.size = jm J := hl.1
  have hstk : (F0 m pc lsA (st.map (e_vm ε))).stack = (As.map (e_vm ε)).reverse ++ .ref a0 :: rest.map (e_vm ε) := by
    show st.map (e_vm ε) = _
    rw [hst, List.map_append, List.map_cons, hpt, List.map_reverse]
  have hW8 : 2 * (F0 m pc lsA (st.map (e_vm ε))).monitorRoom + ((rest.map (e_vm ε)).map fun v => v.category).sum ≤ 8 := by
    refine lv_room ?_
    have : ((rest.map (e_vm ε)).map fun v => v.category) = List.replicate rest.length 1 := by
      rw [List.map_map]
      refine List.eq_replicate_iff.2 ⟨by simp, fun b hb => ?_⟩
      obtain ⟨x, -, rfl⟩ := List.mem_map.1 hb
      exact e_vm_cat ε x
    rw [this, List.sum_replicate_nat]
    omega
  have hcells : cells + mc' ≤ R.cells ∧ slots + ms' ≤ R.slots := by rw [hR]; exact hcc
  have hRm : (e_rm J' mc' ms').frames + 1 ≤ R.frames ∧ 8 + (jm J' + 11) + (e_rm J' mc' ms').locals ≤ R.locals := by rw [hR]; exact hrm
  have hlen : (As.map (e_vm ε)).length = n := by rw [List.length_map]; exact hn
  have S : CallFix p m c (jb J) (jm J) s args Tg (jy J).cls := ⟨hx, hb, hml, hown, hts⟩
  have fin : va_Run p ε.1 e R s m args below meth c H locs cells slots mc' ms' (F0 m pc lsA (st.map (e_vm ε))) (rest.map (e_vm ε)) (va_Qv (Qc none) (fun u t => e_W ε u t) (e_A ε) (Value.ref a0 :: As.map (e_vm ε)).toArray) (e_A ε) := by
    rcases hlink with hlink | ⟨host, hlink⟩
    · exact va_runV (As := As.map (e_vm ε)) (rest := rest.map (e_vm ε)) S hM ⟨callB_of (ws' := Tg) n hts (e_good hcode) rfl rfl rfl (hts _ hini) (hts _ hlink) hcl hRm, hts _ hinst, hts _ hsel⟩ hPre rfl hlen hsz hstk hW8 hd hcells
    · exact va_runVN (As := As.map (e_vm ε)) (rest := rest.map (e_vm ε)) S hM ⟨va_cnB (ws' := Tg) n hts (e_good hcode) rfl rfl rfl (hK.2 _ hlink) (hts _ hini) hcl hRm, hts _ hinst, hts _ hsel⟩ hPre rfl hlen hsz hstk hW8 hd hcells
  refine va_callv fin hS (fun q _ h => h) (fun q h => h) (fun u t H1 locs1 ht hvm hw hB hz1 hk1 hS1 => ?_)
  obtain ⟨hP1, hD1⟩ := hB
  rw [ht] at hP1
  exact K u hw H1 locs1 hP1 hD1 hS1
set_option maxHeartbeats 4000000 in
/-- invokestatic, an answer that is a number -/
theorem e_callSi {J' : JT} {n idx nx mc' ms' : Nat} {v : Int32} {As rest : List V0} {Qc : Option Int32 → va_W → Prop} {ty : FieldType} (h : lk (jt J) pc = (46, n, jn J', v, nx, idx)) (hT' : mN (jn J') = (jy J', jb J', jm J', jr J')) (hr : jr J' = some ty) (hrm : jf J' + 1 ≤ jf J ∧ 8 + (jm J' + 11) + jo J' ≤ jo J) (hn : As.length = n) (hst : st = As.reverse ++ rest) (hrest : rest.length ≤ 8) (hC : e_Ct ε J' mc' ms' As ws Qc) (hcc : cells + mc' ≤ mc ∧ slots + ms' ≤ ms)
    (k : ∀ r ws', Qc (some r) ws' → E ε J mc ms (cells + mc') (slots + ms') nx ls (.inl r :: rest) ws' Q) : E ε J mc ms cells slots pc ls st ws Q := by
  intro hT p e R s m args below meth c H locs lsA C hP hD hS hl
  have hok := e_op hT h (by decide)
  have K := fun r ws' z H locs hP hD hS => k r ws' z hT p e R s m args below meth c H locs lsA C hP hD hS hl
  obtain ⟨hx, hb, hrt, hml, hown, hts, hlk, hK, hB0, hR, hnm⟩ := C
  simp only [okOp, Bool.and_eq_true, decide_eq_true_eq] at hok
  obtain ⟨hok, hmem⟩ := hok
  obtain ⟨hd, rfl⟩ := okD_d hok
  obtain ⟨hlink, hcode, hini, hcl, hstat, -, -, -⟩ := e_link_of hT hT' hmem
  have hstat := hstat rfl
  have hM : Met ε.1 (jy J') (e_ws J') (e_rm J' mc' ms') (e_Pc ε As ws) (va_Qi (fun r u => Qc (some r) u) (fun u t => e_W ε u t) (e_A ε)) mc' ms' (e_A ε) := by
    have := hC
    unfold e_Ct at this
    rw [e_Qc_some hr] at this
    exact this
  have hPre : PreS s H (e_Pc ε As ws) (As.map (e_vm ε)) := by
    refine ⟨e_blind, fun U hU hW => ⟨rfl, ?_, e_K.moved hW hK, ?_, hD⟩⟩
    · rw [hU]; exact Nat.le_trans hB0 hS.1
    · rw [hU]; exact hP
  have hsz : (F0 m pc lsA (st.map (e_vm ε))).locals.size = jm J := hl.1
  have hstk : (F0 m pc lsA (st.map (e_vm ε))).stack = (As.map (e_vm ε)).reverse ++ rest.map (e_vm ε) := by
    show st.map (e_vm ε) = _
    rw [hst, List.map_append, List.map_reverse]
  have hW8 : 2 * (F0 m pc lsA (st.map (e_vm ε))).monitorRoom + ((rest.map (e_vm ε)).map fun v => v.category).sum ≤ 8 := by
    refine lv_room ?_
    have : ((rest.map (e_vm ε)).map fun v => v.category) = List.replicate rest.length 1 := by
      rw [List.map_map]
      refine List.eq_replicate_iff.2 ⟨by simp, fun b hb => ?_⟩
      obtain ⟨x, -, rfl⟩ := List.mem_map.1 hb
      exact e_vm_cat ε x
    rw [this, List.sum_replicate_nat]
    omega
  have hcells : cells + mc' ≤ R.cells ∧ slots + ms' ≤ R.slots := by rw [hR]; exact hcc
  have hRm : (e_rm J' mc' ms').frames + 1 ≤ R.frames ∧ 8 + (jm J' + 11) + (e_rm J' mc' ms').locals ≤ R.locals := by rw [hR]; exact hrm
  have hlen : (As.map (e_vm ε)).length = n := by rw [List.length_map]; exact hn
  have S : CallFix p m c (jb J) (jm J) s args Tg (jy J).cls := ⟨hx, hb, hml, hown, hts⟩
  have fin : va_Run p ε.1 e R s m args below meth c H locs cells slots mc' ms' (F0 m pc lsA (st.map (e_vm ε))) (rest.map (e_vm ε)) (va_Qi (fun r u => Qc (some r) u) (fun u t => e_W ε u t) (e_A ε) (As.map (e_vm ε)).toArray) (e_A ε) := by
    rcases hlink with hlink | ⟨host, hlink⟩
    · exact va_runS (As := As.map (e_vm ε)) (rest := rest.map (e_vm ε)) S hM ⟨callB_of (ws' := Tg) n hts (e_good hcode) rfl rfl rfl (hts _ hini) (hts _ hlink) hcl hRm, hts _ hstat⟩ hPre rfl hlen hsz hstk hW8 hd hcells
    · exact va_runSN (As := As.map (e_vm ε)) (rest := rest.map (e_vm ε)) S hM ⟨va_cnB (ws' := Tg) n hts (e_good hcode) rfl rfl rfl (hK.2 _ hlink) (hts _ hini) hcl hRm, hts _ hstat, trivial⟩ hPre rfl hlen hsz hstk hW8 hd hcells
  refine va_calli fin hS (fun q _ h => h) (fun q h => h) (fun r u t H1 locs1 ht hvm hw hB hz1 hk1 hS1 => ?_)
  obtain ⟨hP1, hD1⟩ := hB
  rw [ht] at hP1
  exact K r u hw H1 locs1 hP1 hD1 hS1
theorem e_W8 {rest : List V0} (hrest : rest.length ≤ 8) : ((rest.map (e_vm ε)).map fun v => v.category).sum ≤ 8 := by
  have : ((rest.map (e_vm ε)).map fun v => v.category) = List.replicate rest.length 1 := by
    rw [List.map_map]
    refine List.eq_replicate_iff.2 ⟨by simp, fun b hb => ?_⟩
    obtain ⟨x, -, rfl⟩ := List.mem_map.1 hb
    exact e_vm_cat ε x
  rw [this, List.sum_replicate_nat]
  omega
theorem e_max {a b nx idx : Nat} {v x y : Int32} {rest : List V0} (h : lk (jt J) pc = (52, a, b, v, nx, idx)) (hrm : 1 ≤ jf J ∧ 21 ≤ jo J) (hcc : cells ≤ mc ∧ slots ≤ ms) (hrest : rest.length ≤ 8) (k : E ε J mc ms cells slots nx ls (.inl (if x < y then y else x) :: rest) ws Q) : E ε J mc ms cells slots pc ls (.inl y :: .inl x :: rest) ws Q := by
  intro hT p e R s m args below meth c H locs lsA C hP hD hS hl
  have hok := e_op hT h (by decide)
  have K := k hT p e R s m args below meth c H locs lsA C hP hD hS hl
  obtain ⟨hx, hb, hrt, hml, hown, hts, hlk, hK, hB0, hR, hnm⟩ := C
  simp only [okOp, Bool.and_eq_true, decide_eq_true_eq] at hok
  obtain ⟨hok, hmem⟩ := hok
  obtain ⟨hd, rfl⟩ := okD_d hok
  have hlink := (mxT_ok _ hmem).2.1 rfl
  refine va_mmax hx hb (by rw [hml]; exact hl.1.symm) (e_own hT hown) (hts _ hlink) (hts _ mx_stat) (hts _ mt_ini) (hts _ mx_code) (by rw [hR]; exact hrm.1) ?_ (by rw [hR]; exact hcc.1) (by rw [hR]; exact hcc.2) hd K
  rw [hR]
  have := e_W8 (ε := ε) hrest
  exact Nat.le_trans (Nat.add_le_add_right this 13) hrm.2
theorem e_min {a b nx idx : Nat} {v x y : Int32} {rest : List V0} (h : lk (jt J) pc = (53, a, b, v, nx, idx)) (hrm : 1 ≤ jf J ∧ 21 ≤ jo J) (hcc : cells ≤ mc ∧ slots ≤ ms) (hrest : rest.length ≤ 8) (k : E ε J mc ms cells slots nx ls (.inl (if y < x then y else x) :: rest) ws Q) : E ε J mc ms cells slots pc ls (.inl y :: .inl x :: rest) ws Q := by
  intro hT p e R s m args below meth c H locs lsA C hP hD hS hl
  have hok := e_op hT h (by decide)
  have K := k hT p e R s m args below meth c H locs lsA C hP hD hS hl
  obtain ⟨hx, hb, hrt, hml, hown, hts, hlk, hK, hB0, hR, hnm⟩ := C
  simp only [okOp, Bool.and_eq_true, decide_eq_true_eq] at hok
  obtain ⟨hok, hmem⟩ := hok
  obtain ⟨hd, rfl⟩ := okD_d hok
  have hlink := (mxT_ok _ hmem).2.2.1 rfl
  refine va_mmin hx hb (by rw [hml]; exact hl.1.symm) (e_own hT hown) (hts _ hlink) (hts _ mn_stat) (hts _ mt_ini) (hts _ mn_code) (by rw [hR]; exact hrm.1) ?_ (by rw [hR]; exact hcc.1) (by rw [hR]; exact hcc.2) hd K
  rw [hR]
  have := e_W8 (ε := ε) hrest
  exact Nat.le_trans (Nat.add_le_add_right this 13) hrm.2
/-- System.arraycopy of numbers: t0 0 (int) or 1 (boolean), n places from nI sp to nI dp -/
theorem e_copy {a b nx idx q0 q1 t0 a0 a1 n0 n1 sp dp n : Nat} {v : Int32} {pp p2 : Nat × Nat} {cA : ClassId} {f g : Nat → Int32} {ty : FieldType} {rest : List V0} (h : lk (jt J) pc = (54, a, b, v, nx, idx)) (hpt : e_vm ε (.inr pp) = .ref a0) (hpt2 : e_vm ε (.inr p2) = .ref a1) (hp0 : ws[q0]? = some (a0, .inl (cA, n0, .inl f))) (hp1 : ws[q1]? = some (a1, .inl (cA, n1, .inl g))) (ht : (e_tys ε)[t0]? = some (cA, ty)) (hprim : refKind ty = false) (h4 : sp + n ≤ n0) (h5 : dp + n ≤ n1) (hb0 : n0 < 2 ^ 31) (hb1 : n1 < 2 ^ 31) (hfit : ∀ i, i < n → fits ty (.int (f (sp + i))) = true) (hrm : 1 ≤ jf J ∧ 30 ≤ jo J) (hrest : rest.length ≤ 8)
    (k : E ε J mc ms cells slots nx ls rest (ws.set q1 (a1, .inl (cA, n1, .inl (va_cpy f g sp dp n)))) Q) : E ε J mc ms cells slots pc ls (.inl (nI n) :: .inl (nI dp) :: .inr p2 :: .inl (nI sp) :: .inr pp :: rest) ws Q := by
  intro hT p e R s m args below meth c H locs lsA C hP hD hS hl
  have hok := e_op hT h (by decide)
  have K := fun H locs hP hD hS => k hT p e R s m args below meth c H locs lsA C hP hD hS hl
  obtain ⟨hx, hb, hrt, hml, hown, hts, hlk, hK, hB0, hR, hnm⟩ := C
  simp only [okOp, Bool.and_eq_true, decide_eq_true_eq] at hok
  obtain ⟨hok, hmem⟩ := hok
  obtain ⟨hd, rfl⟩ := okD_d hok
  have hlink := (mxT_ok _ hmem).2.2.2 rfl
  have es : (nI sp).toNatClampNeg = sp := nI_clamp (by omega)
  have ed : (nI dp).toNatClampNeg = dp := nI_clamp (by omega)
  have en : (nI n).toNatClampNeg = n := nI_clamp (by omega)
  rw [List.map_cons, List.map_cons, List.map_cons, List.map_cons, List.map_cons, hpt, hpt2]
  refine va_copyi hx hb (by rw [hml]; exact hl.1.symm) (e_own hT hown) (hts _ hlink) (hts _ ac_nat) (hts _ ac_stat) (hts _ sy_ini) hK.1 hP hD hS q0 q1 t0 t0 hp0 hp1 ht ht hprim (nI_pos (by omega)) (nI_pos (by omega)) (nI_pos (by omega)) (by rw [es, en]; exact h4) (by rw [ed, en]; exact h5) (fun i hi => by rw [en] at hi; rw [es]; exact hfit i hi) (by rw [hR]; exact hrm.1) ?_ hd ?_
  · rw [hR]
    have := e_W8 (ε := ε) hrest
    have h7 : nativeFrameWords "java/lang/System" "arraycopy" 5 = 7 := by decide +kernel
    rw [h7]
    exact Nat.le_trans (Nat.add_le_add_right this 18) (Nat.le_trans (by omega) hrm.2)
  · rw [es, ed, en]
    exact K
end MD
end
section
/-! The world of this claim as numbers: G i k s is place s of part k of object i. Parts: 0..17 an office (i < 19: now 0, its slots 1, 2; moment j: 3j, 3j+1, 3j+2; trial 18): 0 Office, 1 Ranges, 2 its row, 3 Letters, 4..11 its rows, 12 Carriers, 13..16 its rows, 17 holes; 20..22 a moment (i < 6); 30 WalkFrames, 31 History, 32 its row, 33 RangeText, 34..37 its rows, 40 Line, 41 its row; 50 the reference, 51 row, 52 text, 53 order. -/
section ME
abbrev GG : Type := Nat → Nat → Nat → Int32
def objV (i kk : Nat) (g : Nat → Int32) : Option (Nat × List V0) := match kk with
  | 0 => some (5, [.inr (i, 1), .inr (i, 3), .inr (i, 12), .inr (i, 17), .inl (g 4), .inl (g 5), .inl (g 6), .inl (g 7)])
  | 1 => some (7, [.inr (i, 2)])
  | 3 => some (2, [.inr (i, 4), .inr (i, 5), .inr (i, 6), .inr (i, 7), .inr (i, 8), .inr (i, 9), .inr (i, 10), .inr (i, 11), .inl (g 8)])
  | 12 => some (0, [.inr (i, 13), .inr (i, 14), .inr (i, 15), .inr (i, 16)])
  | 20 => some (4, [.inr (3 * i, 0), .inr (i, 21), .inr (i, 22)])
  | 30 => some (8, [.inr (0, 20), .inr (0, 31), .inr (0, 33), .inr (18, 0), .inr (0, 40)])
  | 31 => some (1, [.inr (0, 32), .inl (g 1)])
  | 33 => some (6, [.inr (0, 34), .inl (g 1), .inr (0, 35), .inr (0, 36), .inr (0, 37), .inl (g 5), .inl (g 6), .inl (g 7)])
  | 40 => some (3, [.inr (0, 41), .inl (g 1)])
  | 50 => some (9, [.inr (0, 51), .inl (g 1), .inr (0, 52), .inl (g 3), .inl (g 4), .inl (g 5), .inr (0, 53)])
  | _ => none
/-- rows of numbers: the kind (0 int, 1 boolean, 2 char) and the length -/
def arrI (kk : Nat) : Option (Nat × Nat) := match kk with
  | 2 => some (0, 100)
  | 4 => some (0, 120) | 5 => some (0, 120) | 6 => some (0, 120) | 7 => some (0, 120) | 8 => some (0, 120) | 9 => some (0, 120) | 10 => some (0, 120)
  | 11 => some (0, 8) | 13 => some (0, 6) | 14 => some (1, 6) | 15 => some (0, 6) | 16 => some (0, 48) | 17 => some (0, 8)
  | 22 => some (1, 2) | 34 => some (2, 80) | 35 => some (0, 14) | 36 => some (0, 14) | 37 => some (0, 14) | 41 => some (0, 120)
  | 51 => some (0, 21497) | 52 => some (0, 80) | 53 => some (0, 120)
  | _ => none
def cellE (ε : EE) (i kk : Nat) (g : Nat → Int32) : va_E := match objV i kk g with
  | some (t, fs) => .inr (t, fs.map (e_vm ε))
  | none => match arrI kk with
    | some (t, n) => .inl (ε.2.2.1 t, n, .inl g)
    | none => if kk = 21 then .inl (ε.2.2.1 3, 2, .inr (.inr (.inr (.inr (fun s => some (ε.2.2.2.2 (3 * i + 1 + s) 0)))))) else .inl (ε.2.2.1 4, 5, .inr (.inr (.inr (.inr (fun s => some (ε.2.2.2.2 (g s).toNatClampNeg 20))))))
def lim (kk : Nat) : Nat := if kk < 18 then 19 else match kk with
  | 20 => 6 | 21 => 6 | 22 => 6
  | 30 => 1 | 31 => 1 | 32 => 1 | 33 => 1 | 34 => 1 | 35 => 1 | 36 => 1 | 37 => 1 | 40 => 1 | 41 => 1 | 50 => 1 | 51 => 1 | 52 => 1 | 53 => 1
  | _ => 0
def vals : List (Nat × Nat) := (List.range 19).flatMap (fun i => (List.range 18).map (fun k => (i, k))) ++ ((List.range 6).flatMap (fun j => [(j, 20), (j, 21), (j, 22)]) ++ [(0, 30), (0, 31), (0, 32), (0, 33), (0, 34), (0, 35), (0, 36), (0, 37), (0, 40), (0, 41), (0, 50), (0, 51), (0, 52), (0, 53)])
theorem lim_le {i kk : Nat} (h : i < lim kk) : kk < 54 ∧ i < 19 := by
  unfold lim at h
  split at h
  · omega
  · split at h <;> omega
set_option maxRecDepth 100000 in
theorem vals_inb : (List.range 54).all (fun kk => (List.range 19).all (fun i => !(decide (i < lim kk)) || decide ((i, kk) ∈ vals))) = true := by decide +kernel
theorem vals_in (kk : Nat) (h1 : kk < 54) (i : Nat) (h2 : i < 19) (h : i < lim kk) : (i, kk) ∈ vals := by
  have h3 := List.all_eq_true.mp (List.all_eq_true.mp vals_inb kk (List.mem_range.2 h1)) i (List.mem_range.2 h2)
  rw [Bool.or_eq_true] at h3
  rcases h3 with h3 | h3
  · simp [h] at h3
  · exact of_decide_eq_true h3
set_option maxRecDepth 100000 in
theorem vals_nd : vals.Nodup := by decide +kernel
def wd (ε : EE) (G : GG) : va_W := vals.map (fun q => (ε.2.2.2.2 q.1 q.2, cellE ε q.1 q.2 (G q.1 q.2)))
theorem wd_at (ε : EE) (G : GG) {i kk : Nat} (h : i < lim kk) : ∃ q0 : Nat, vals[q0]? = some (i, kk) ∧ (wd ε G)[q0]? = some (ε.2.2.2.2 i kk, cellE ε i kk (G i kk)) := by
  obtain ⟨h1, h2⟩ := lim_le h
  obtain ⟨q0, hq⟩ := List.getElem?_of_mem (vals_in kk h1 i h2 h)
  exact ⟨q0, hq, by unfold wd; rw [List.getElem?_map, hq]; rfl⟩
def setA (G : GG) (i kk : Nat) (g : Nat → Int32) : GG := fun i' kk' => if i' = i ∧ kk' = kk then g else G i' kk'
def wr (G : GG) (i kk j : Nat) (x : Int32) : GG := setA G i kk (upd (G i kk) j x)
theorem setA_s (G : GG) (i kk : Nat) (g : Nat → Int32) : setA G i kk g i kk = g := by simp [setA]
theorem setA_k (G : GG) (i kk i' kk' : Nat) (g : Nat → Int32) (h : kk' ≠ kk) : setA G i kk g i' kk' = G i' kk' := by simp [setA, h]
theorem setA_i (G : GG) (i kk i' kk' : Nat) (g : Nat → Int32) (h : i' ≠ i) : setA G i kk g i' kk' = G i' kk' := by simp [setA, h]
theorem wd_set_aux {β : Type} (F : Nat × Nat → (Nat → Int32) → β) (G : GG) {i kk : Nat} (g : Nat → Int32) : ∀ (vs : List (Nat × Nat)) (q0 : Nat), vs.Nodup → vs[q0]? = some (i, kk) → (vs.map (fun q => F q (G q.1 q.2))).set q0 (F (i, kk) g) = vs.map (fun q => F q (setA G i kk g q.1 q.2))
  | [], q0, _, h => by simp at h
  | x :: t, 0, hn, h => by
    have hx : x = (i, kk) := by simpa using h
    subst hx
    have hnt : (i, kk) ∉ t := (List.nodup_cons.1 hn).1
    rw [List.map_cons, List.map_cons, List.set_cons_zero, setA_s]
    congr 1
    apply List.map_congr_left
    intro q hq
    have hne : ¬ (q.1 = i ∧ q.2 = kk) := by
      intro ⟨z1, z2⟩
      have hq2 : q = (i, kk) := by rcases q with ⟨a, b⟩; simp only [] at z1 z2; rw [z1, z2]
      exact hnt (hq2 ▸ hq)
    simp [setA, hne]
  | x :: t, q0 + 1, hn, h => by
    have ht : t[q0]? = some (i, kk) := by simpa using h
    have hnt := List.nodup_cons.1 hn
    have hne : ¬ (x.1 = i ∧ x.2 = kk) := by
      intro ⟨z1, z2⟩
      have hx : x = (i, kk) := by rcases x with ⟨a, b⟩; simp only [] at z1 z2; rw [z1, z2]
      exact hnt.1 (hx ▸ List.mem_of_getElem? ht)
    rw [List.map_cons, List.map_cons, List.set_cons_succ, wd_set_aux F G g t q0 hnt.2 ht]
    congr 1
    simp [setA, hne]
theorem wd_set (ε : EE) (G : GG) {i kk q0 : Nat} (g : Nat → Int32) (h : vals[q0]? = some (i, kk)) : (wd ε G).set q0 (ε.2.2.2.2 i kk, cellE ε i kk g) = wd ε (setA G i kk g) :=
  wd_set_aux (fun q g => (ε.2.2.2.2 q.1 q.2, cellE ε q.1 q.2 g)) G g vals q0 vals_nd h
theorem e_vm_val (ε : EE) {i kk : Nat} (h : i < lim kk) : e_vm ε (.inr (i, kk)) = .ref (ε.2.2.2.2 i kk) := by
  have h1 := (lim_le h).1
  have a : Nat.beq kk 98 = false := by
    cases hb : Nat.beq kk 98 with
    | false => rfl
    | true => have := Nat.eq_of_beq_eq_true hb; omega
  have b : Nat.beq kk 99 = false := by
    cases hb : Nat.beq kk 99 with
    | false => rfl
    | true => have := Nat.eq_of_beq_eq_true hb; omega
  simp [e_vm, a, b]
theorem cellE_obj (ε : EE) {i kk t : Nat} {g : Nat → Int32} {fs : List V0} (h : objV i kk g = some (t, fs)) : cellE ε i kk g = .inr (t, fs.map (e_vm ε)) := by unfold cellE; rw [h]
theorem arrI_obj {kk t n : Nat} (h : arrI kk = some (t, n)) (i : Nat) (g : Nat → Int32) : objV i kk g = none ∧ n < 2 ^ 31 := by
  unfold arrI at h
  split at h <;> first | (cases h; done) | (cases h; exact ⟨rfl, by decide⟩)
theorem cellE_arr (ε : EE) {i kk t n : Nat} {g : Nat → Int32} (h : arrI kk = some (t, n)) : cellE ε i kk g = .inl (ε.2.2.1 t, n, .inl g) := by
  unfold cellE
  rw [(arrI_obj h i g).1, h]
end ME
section MF
variable {ε : EE} {J : JT} {pc : Nat} {ls : List (Option V0)} {st : List V0} {G : GG} {Q : Option Int32 → GG → Prop}
def E2 (ε : EE) (J : JT) (pc : Nat) (ls : List (Option V0)) (st : List V0) (G : GG) (Q : Option Int32 → GG → Prop) : Prop := E ε J 0 0 0 0 pc ls st (wd ε G) (fun v ws' => ∃ G', ws' = wd ε G' ∧ Q v G')
def C2 (ε : EE) (J : JT) (As : List V0) (G : GG) (Q : Option Int32 → GG → Prop) : Prop := e_Ct ε J 0 0 As (wd ε G) (fun v ws' => ∃ G', ws' = wd ε G' ∧ Q v G')
theorem C2.of {As : List V0} {ls : List (Option V0)} (hT : e_T J) (hls : e_in As (jm J) = ls) (hlen : Nat.ble As.length (jm J) = true) (h : E2 ε J 0 ls [] G Q) : C2 ε J As G Q := by
  subst hls
  exact e_met hT (Nat.le_of_ble_eq_true hlen) h
theorem e2_step {o a b nx tg : Nat} {v : Int32} {ls' : List (Option V0)} {st' : List V0} (h : lk (jt J) pc = (o, a, b, v, nx, tg)) (hs : stp o a v ls st = some (ls', st')) (k : E2 ε J nx ls' st' G Q) : E2 ε J pc ls st G Q := e_step h hs k
theorem e2_div {a b nx tg : Nat} {v x y : Int32} {t : List V0} (h : lk (jt J) pc = (9, a, b, v, nx, tg)) (hy : ¬ y = 0) (k : E2 ε J nx ls (.inl (x / y) :: t) G Q) : E2 ε J pc ls (.inl y :: .inl x :: t) G Q := e_div h hy k
theorem e2_if {o a b nx tg : Nat} {v : Int32} {P : Prop} {st' : List V0} (h : lk (jt J) pc = (o, a, b, v, nx, tg)) (hs : cnd o st = some (P, st')) (kt : P → E2 ε J tg ls st' G Q) (kf : ¬ P → E2 ε J nx ls st' G Q) : E2 ε J pc ls st G Q := e_if h hs kt kf
theorem e2_get {kf t nx idx i kk : Nat} {v : Int32} {fs : List V0} {w : V0} (h : lk (jt J) pc = (30, kf, t, v, nx, idx)) (hv : i < lim kk) (ho : objV i kk (G i kk) = some (t, fs)) (hw : fs[kf]? = some w) (k : E2 ε J nx ls (w :: st) G Q) : E2 ε J pc ls (.inr (i, kk) :: st) G Q := by
  obtain ⟨q0, h1, h2⟩ := wd_at ε G hv
  rw [cellE_obj ε ho] at h2
  exact e_get h (e_vm_val ε hv) h2 (by rw [List.getElem?_map, hw]; rfl) k
theorem e2_put {kf t nx idx i kk : Nat} {v x : Int32} {fs : List V0} (h : lk (jt J) pc = (31, kf, t, v, nx, idx)) (hv : i < lim kk) (ho : objV i kk (G i kk) = some (t, fs)) (ho2 : objV i kk (upd (G i kk) kf x) = some (t, fs.set kf (.inl x))) (hfin : (tbC t kf).2.2.2 = false) (hty : tyC t kf = .int) (hl0 : Nat.ble (kf + 1) fs.length = true) (k : E2 ε J nx ls st (wr G i kk kf x) Q) : E2 ε J pc ls (.inl x :: .inr (i, kk) :: st) G Q := by
  obtain ⟨q0, h1, h2⟩ := wd_at ε G hv
  rw [cellE_obj ε ho] at h2
  refine e_put h (e_vm_val ε hv) h2 hfin (by rw [hty]; rfl) (by rw [hty]; rfl) (by rw [List.length_map]; exact Nat.le_of_ble_eq_true hl0) ?_
  have h5 := wd_set ε G (upd (G i kk) kf x) h1
  rw [cellE_obj ε ho2, List.map_set] at h5
  rw [h5]
  exact k
theorem e2_putz {kf t nx idx i kk : Nat} {v x : Int32} {fs : List V0} (h : lk (jt J) pc = (31, kf, t, v, nx, idx)) (hv : i < lim kk) (ho : objV i kk (G i kk) = some (t, fs)) (ho2 : objV i kk (upd (G i kk) kf x) = some (t, fs.set kf (.inl x))) (hfin : (tbC t kf).2.2.2 = false) (hty : tyC t kf = .boolean) (hx : x = 0 ∨ x = 1) (hl0 : Nat.ble (kf + 1) fs.length = true) (k : E2 ε J nx ls st (wr G i kk kf x) Q) : E2 ε J pc ls (.inl x :: .inr (i, kk) :: st) G Q := by
  obtain ⟨q0, h1, h2⟩ := wd_at ε G hv
  rw [cellE_obj ε ho] at h2
  refine e_put h (e_vm_val ε hv) h2 hfin (by rw [hty]; rcases hx with rfl | rfl <;> rfl) (by rw [hty]; rcases hx with rfl | rfl <;> rfl) (by rw [List.length_map]; exact Nat.le_of_ble_eq_true hl0) ?_
  have h5 := wd_set ε G (upd (G i kk) kf x) h1
  rw [cellE_obj ε ho2, List.map_set] at h5
  rw [h5]
  exact k
theorem e2_iald {o a b nx i kk n : Nat} {v x : Int32} (j : Nat) (h : lk (jt J) pc = (32, a, b, v, nx, o)) (hx : x = nI j) (hv : i < lim kk) (ha : arrI kk = some (0, n)) (hj : j < n) (k : E2 ε J nx ls (.inl (G i kk j) :: st) G Q) : E2 ε J pc ls (.inl x :: .inr (i, kk) :: st) G Q := by
  subst hx
  obtain ⟨q0, h1, h2⟩ := wd_at ε G hv
  rw [cellE_arr ε ha] at h2
  exact e_iald h (e_vm_val ε hv) h2 hj (arrI_obj ha 0 (fun _ => 0)).2 k
theorem e2_zald {o a b nx i kk n : Nat} {v x : Int32} (j : Nat) (h : lk (jt J) pc = (33, a, b, v, nx, o)) (hx : x = nI j) (hv : i < lim kk) (ha : arrI kk = some (1, n)) (hj : j < n) (k : E2 ε J nx ls (.inl (G i kk j) :: st) G Q) : E2 ε J pc ls (.inl x :: .inr (i, kk) :: st) G Q := by
  subst hx
  obtain ⟨q0, h1, h2⟩ := wd_at ε G hv
  rw [cellE_arr ε ha] at h2
  exact e_zald h (e_vm_val ε hv) h2 hj (arrI_obj ha 0 (fun _ => 0)).2 k
theorem e2_cald {o a b nx i kk n : Nat} {v x : Int32} (j : Nat) (h : lk (jt J) pc = (34, a, b, v, nx, o)) (hx : x = nI j) (hv : i < lim kk) (ha : arrI kk = some (2, n)) (hj : j < n) (k : E2 ε J nx ls (.inl (G i kk j) :: st) G Q) : E2 ε J pc ls (.inl x :: .inr (i, kk) :: st) G Q := by
  subst hx
  obtain ⟨q0, h1, h2⟩ := wd_at ε G hv
  rw [cellE_arr ε ha] at h2
  exact e_cald h (e_vm_val ε hv) h2 hj (arrI_obj ha 0 (fun _ => 0)).2 k
theorem e2_iast {o a b nx i kk n : Nat} {v x y : Int32} (j : Nat) (h : lk (jt J) pc = (36, a, b, v, nx, o)) (hx : x = nI j) (hv : i < lim kk) (ha : arrI kk = some (0, n)) (hj : j < n) (k : E2 ε J nx ls st (wr G i kk j y) Q) : E2 ε J pc ls (.inl y :: .inl x :: .inr (i, kk) :: st) G Q := by
  subst hx
  obtain ⟨q0, h1, h2⟩ := wd_at ε G hv
  rw [cellE_arr ε ha] at h2
  refine e_iast h (e_vm_val ε hv) h2 hj (arrI_obj ha 0 (fun _ => 0)).2 ?_
  have h5 := wd_set ε G (upd (G i kk) j y) h1
  rw [cellE_arr ε ha] at h5
  rw [h5]
  exact k
theorem e2_zast {o a b nx i kk n : Nat} {v x y : Int32} (j : Nat) (h : lk (jt J) pc = (37, a, b, v, nx, o)) (hx : x = nI j) (hv : i < lim kk) (ha : arrI kk = some (1, n)) (hj : j < n) (hy : y = 0 ∨ y = 1) (k : E2 ε J nx ls st (wr G i kk j y) Q) : E2 ε J pc ls (.inl y :: .inl x :: .inr (i, kk) :: st) G Q := by
  subst hx
  obtain ⟨q0, h1, h2⟩ := wd_at ε G hv
  rw [cellE_arr ε ha] at h2
  refine e_zast h (e_vm_val ε hv) h2 hj (arrI_obj ha 0 (fun _ => 0)).2 (by rcases hy with rfl | rfl <;> rfl) ?_
  have h5 := wd_set ε G (upd (G i kk) j y) h1
  rw [cellE_arr ε ha] at h5
  rw [h5]
  exact k
theorem e2_cast {o a b nx i kk n : Nat} {v x y : Int32} (j : Nat) (h : lk (jt J) pc = (38, a, b, v, nx, o)) (hx : x = nI j) (hv : i < lim kk) (ha : arrI kk = some (2, n)) (hj : j < n) (hy : vp_nar .char y = y) (k : E2 ε J nx ls st (wr G i kk j y) Q) : E2 ε J pc ls (.inl y :: .inl x :: .inr (i, kk) :: st) G Q := by
  subst hx
  obtain ⟨q0, h1, h2⟩ := wd_at ε G hv
  rw [cellE_arr ε ha] at h2
  refine e_cast h (e_vm_val ε hv) h2 hj (arrI_obj ha 0 (fun _ => 0)).2 hy ?_
  have h5 := wd_set ε G (upd (G i kk) j y) h1
  rw [cellE_arr ε ha] at h5
  rw [h5]
  exact k
/-- a moment's slots: the office of slot j -/
theorem e2_aald21 {o a b nx i : Nat} {v x : Int32} (j : Nat) (h : lk (jt J) pc = (35, a, b, v, nx, o)) (hx : x = nI j) (hv : i < 6) (hj : j < 2) (k : E2 ε J nx ls (.inr (3 * i + 1 + j, 0) :: st) G Q) : E2 ε J pc ls (.inl x :: .inr (i, 21) :: st) G Q := by
  subst hx
  obtain ⟨q0, h1, h2⟩ := wd_at ε G (i := i) (kk := 21) hv
  exact e_aald (t0 := 3) h (e_vm_val ε (i := i) (kk := 21) hv) h2 rfl hj (by decide) rfl (e_vm_val ε (i := 3 * i + 1 + j) (kk := 0) (by show _ < 19; omega)) k
/-- the history's row: the moment at place j -/
theorem e2_aald32 {o a b nx m : Nat} {v x : Int32} (j : Nat) (h : lk (jt J) pc = (35, a, b, v, nx, o)) (hx : x = nI j) (hj : j < 5) (hm : G 0 32 j = nI m) (hm6 : m < 6) (k : E2 ε J nx ls (.inr (m, 20) :: st) G Q) : E2 ε J pc ls (.inl x :: .inr (0, 32) :: st) G Q := by
  subst hx
  obtain ⟨q0, h1, h2⟩ := wd_at ε G (i := 0) (kk := 32) (by decide)
  exact e_aald (t0 := 4) (aj := ε.2.2.2.2 m 20) h (e_vm_val ε (i := 0) (kk := 32) (by decide)) h2 rfl hj (by decide) (by simp only [hm]; rw [nI_clamp (by omega)]) (e_vm_val ε (i := m) (kk := 20) hm6) k
theorem e2_aast32 {o a b nx m : Nat} {v x : Int32} (j : Nat) (h : lk (jt J) pc = (39, a, b, v, nx, o)) (hx : x = nI j) (hj : j < 5) (hm6 : m < 6) (k : E2 ε J nx ls st (wr G 0 32 j (nI m)) Q) : E2 ε J pc ls (.inr (m, 20) :: .inl x :: .inr (0, 32) :: st) G Q := by
  subst hx
  obtain ⟨q0, h1, h2⟩ := wd_at ε G (i := 0) (kk := 32) (by decide)
  obtain ⟨q1, g1, g2⟩ := wd_at ε G (i := m) (kk := 20) hm6
  rw [cellE_obj ε (i := m) (kk := 20) rfl] at g2
  refine e_aast (t0 := 4) (aj := ε.2.2.2.2 m 20) h (e_vm_val ε (i := 0) (kk := 32) (by decide)) h2 rfl (e_vm_val ε (i := m) (kk := 20) hm6) g2 rfl hj (by decide) ?_
  have h5 := wd_set ε G (upd (G 0 32) j (nI m)) h1
  have h6 : cellE ε 0 32 (upd (G 0 32) j (nI m)) = .inl (ε.2.2.1 4, 5, .inr (.inr (.inr (.inr (va_up (fun s => some (ε.2.2.2.2 (G 0 32 s).toNatClampNeg 20)) j (some (ε.2.2.2.2 m 20))))))) := by
    have : (fun s => some (ε.2.2.2.2 (upd (G 0 32) j (nI m) s).toNatClampNeg 20)) = va_up (fun s => some (ε.2.2.2.2 (G 0 32 s).toNatClampNeg 20)) j (some (ε.2.2.2.2 m 20)) := by
      funext s
      by_cases hs : s = j
      · simp [upd, va_up, hs, nI_clamp (show m < 2 ^ 31 by omega)]
      · simp [upd, va_up, hs]
    rw [← this]
    rfl
  rw [h6] at h5
  rw [h5]
  exact k
theorem e2_alen {o a b nx i kk t n : Nat} {v : Int32} (h : lk (jt J) pc = (40, a, b, v, nx, o)) (hv : i < lim kk) (ha : arrI kk = some (t, n)) (ht : t < 3) (k : E2 ε J nx ls (.inl (nI n) :: st) G Q) : E2 ε J pc ls (.inr (i, kk) :: st) G Q := by
  obtain ⟨q0, h1, h2⟩ := wd_at ε G hv
  rw [cellE_arr ε ha] at h2
  rcases (show t = 0 ∨ t = 1 ∨ t = 2 by omega) with rfl | rfl | rfl
  · exact e_alen (t0 := 0) h (e_vm_val ε hv) h2 rfl k
  · exact e_alen (t0 := 1) h (e_vm_val ε hv) h2 rfl k
  · exact e_alen (t0 := 2) h (e_vm_val ε hv) h2 rfl k
theorem e2_iret {o a b nx : Nat} {v x : Int32} (h : lk (jt J) pc = (41, a, b, v, nx, o)) (hr : jr J = some .int) (hQ : Q (some x) G) : E2 ε J pc ls [.inl x] G Q := e_iret h hr (Nat.le_refl _) (Nat.le_refl _) ⟨G, rfl, hQ⟩
theorem e2_zret {o a b nx : Nat} {v x : Int32} (h : lk (jt J) pc = (41, a, b, v, nx, o)) (hr : jr J = some .boolean) (hv : vp_nar .boolean x = x) (hQ : Q (some x) G) : E2 ε J pc ls [.inl x] G Q := e_zret h hr (Nat.le_refl _) (Nat.le_refl _) hv ⟨G, rfl, hQ⟩
theorem e2_vret {o a b nx : Nat} {v : Int32} (h : lk (jt J) pc = (42, a, b, v, nx, o)) (hr : jr J = none) (hQ : Q none G) : E2 ε J pc ls [] G Q := e_vret h hr (Nat.le_refl _) (Nat.le_refl _) ⟨G, rfl, hQ⟩
/-- the callee is the method of its number, its frames and words fit -/
def e_fit (J J' : JT) : Prop := mN (jn J') = (jy J', jb J', jm J', jr J') ∧ Nat.ble (jf J' + 1) (jf J) = true ∧ Nat.ble (19 + jm J' + jo J') (jo J) = true
theorem e_fit.rm {J J' : JT} (h : e_fit J J') : jf J' + 1 ≤ jf J ∧ 8 + (jm J' + 11) + jo J' ≤ jo J := by
  have h1 := Nat.le_of_ble_eq_true h.2.1
  have h2 := Nat.le_of_ble_eq_true h.2.2
  omega
theorem e2_callVi {J' : JT} {n idx nx i kk ci : Nat} {v : Int32} {As rest : List V0} {fs : List V0} {Qc : Option Int32 → GG → Prop} {ty : FieldType} (h : lk (jt J) pc = (44, n, jn J', v, nx, idx)) (hT : e_fit J J') (hr : jr J' = some ty) (hn : As.length = n) (hst : st = As.reverse ++ .inr (i, kk) :: rest) (hrest : Nat.ble rest.length 8 = true) (hv : i < lim kk) (ho : objV i kk (G i kk) = some (ci, fs)) (hci : Nat.ble ci 9 = true) (hcn : nmC ci = (jy J').cls) (hC : C2 ε J' (.inr (i, kk) :: As) G Qc)
    (k : ∀ r G', Qc (some r) G' → E2 ε J nx ls (.inl r :: rest) G' Q) : E2 ε J pc ls st G Q := by
  obtain ⟨q0, h1, h2⟩ := wd_at ε G hv
  rw [cellE_obj ε ho] at h2
  refine e_callVi (cells := 0) (slots := 0) (mc' := 0) (ms' := 0) h hT.1 hr hT.rm hn hst (Nat.le_of_ble_eq_true hrest) (e_vm_val ε hv) h2 (Nat.lt_succ_of_le (Nat.le_of_ble_eq_true hci)) hcn hC ⟨Nat.le_refl _, Nat.le_refl _⟩ (fun r ws' z => ?_)
  obtain ⟨G', rfl, hq⟩ := z
  exact k r G' hq
theorem e2_callVv {J' : JT} {n idx nx i kk ci : Nat} {v : Int32} {As rest : List V0} {fs : List V0} {Qc : Option Int32 → GG → Prop} (h : lk (jt J) pc = (44, n, jn J', v, nx, idx)) (hT : e_fit J J') (hr : jr J' = none) (hn : As.length = n) (hst : st = As.reverse ++ .inr (i, kk) :: rest) (hrest : Nat.ble rest.length 8 = true) (hv : i < lim kk) (ho : objV i kk (G i kk) = some (ci, fs)) (hci : Nat.ble ci 9 = true) (hcn : nmC ci = (jy J').cls) (hC : C2 ε J' (.inr (i, kk) :: As) G Qc)
    (k : ∀ G', Qc none G' → E2 ε J nx ls rest G' Q) : E2 ε J pc ls st G Q := by
  obtain ⟨q0, h1, h2⟩ := wd_at ε G hv
  rw [cellE_obj ε ho] at h2
  refine e_callVv (cells := 0) (slots := 0) (mc' := 0) (ms' := 0) h hT.1 hr hT.rm hn hst (Nat.le_of_ble_eq_true hrest) (e_vm_val ε hv) h2 (Nat.lt_succ_of_le (Nat.le_of_ble_eq_true hci)) hcn hC ⟨Nat.le_refl _, Nat.le_refl _⟩ (fun ws' z => ?_)
  obtain ⟨G', rfl, hq⟩ := z
  exact k G' hq
theorem e2_callSi {J' : JT} {n idx nx : Nat} {v : Int32} {As rest : List V0} {Qc : Option Int32 → GG → Prop} {ty : FieldType} (h : lk (jt J) pc = (46, n, jn J', v, nx, idx)) (hT : e_fit J J') (hr : jr J' = some ty) (hn : As.length = n) (hst : st = As.reverse ++ rest) (hrest : Nat.ble rest.length 8 = true) (hC : C2 ε J' As G Qc)
    (k : ∀ r G', Qc (some r) G' → E2 ε J nx ls (.inl r :: rest) G' Q) : E2 ε J pc ls st G Q := by
  refine e_callSi (cells := 0) (slots := 0) (mc' := 0) (ms' := 0) h hT.1 hr hT.rm hn hst (Nat.le_of_ble_eq_true hrest) hC ⟨Nat.le_refl _, Nat.le_refl _⟩ (fun r ws' z => ?_)
  obtain ⟨G', rfl, hq⟩ := z
  exact k r G' hq
theorem e2_max {a b nx idx : Nat} {v x y : Int32} {rest : List V0} (h : lk (jt J) pc = (52, a, b, v, nx, idx)) (hrm : (Nat.ble 1 (jf J) && Nat.ble 21 (jo J)) = true) (hrest : Nat.ble rest.length 8 = true) (k : E2 ε J nx ls (.inl (if x < y then y else x) :: rest) G Q) : E2 ε J pc ls (.inl y :: .inl x :: rest) G Q := by
  rw [Bool.and_eq_true] at hrm
  exact e_max h ⟨Nat.le_of_ble_eq_true hrm.1, Nat.le_of_ble_eq_true hrm.2⟩ ⟨Nat.le_refl _, Nat.le_refl _⟩ (Nat.le_of_ble_eq_true hrest) k
theorem e2_min {a b nx idx : Nat} {v x y : Int32} {rest : List V0} (h : lk (jt J) pc = (53, a, b, v, nx, idx)) (hrm : (Nat.ble 1 (jf J) && Nat.ble 21 (jo J)) = true) (hrest : Nat.ble rest.length 8 = true) (k : E2 ε J nx ls (.inl (if y < x then y else x) :: rest) G Q) : E2 ε J pc ls (.inl y :: .inl x :: rest) G Q := by
  rw [Bool.and_eq_true] at hrm
  exact e_min h ⟨Nat.le_of_ble_eq_true hrm.1, Nat.le_of_ble_eq_true hrm.2⟩ ⟨Nat.le_refl _, Nat.le_refl _⟩ (Nat.le_of_ble_eq_true hrest) k
/-- System.arraycopy of the first n places of a row of ints -/
theorem e2_copy {a b nx idx i kk i2 n0 n1 : Nat} {v : Int32} {rest : List V0} (n : Nat) (h : lk (jt J) pc = (54, a, b, v, nx, idx)) (hv : i < lim kk) (hv2 : i2 < lim kk) (ha : arrI kk = some (0, n0)) (hn : n ≤ n0) (hrm : (Nat.ble 1 (jf J) && Nat.ble 30 (jo J)) = true) (hrest : Nat.ble rest.length 8 = true)
    (k : E2 ε J nx ls rest (setA G i2 kk (fun s => if s < n then G i kk s else G i2 kk s)) Q) : E2 ε J pc ls (.inl (nI n) :: .inl (nI 0) :: .inr (i2, kk) :: .inl (nI 0) :: .inr (i, kk) :: rest) G Q := by
  rw [Bool.and_eq_true] at hrm
  obtain ⟨q0, h1, h2⟩ := wd_at ε G hv
  obtain ⟨q1, g1, g2⟩ := wd_at ε G hv2
  rw [cellE_arr ε ha] at h2 g2
  have hb := (arrI_obj ha 0 (fun _ => 0)).2
  refine e_copy (t0 := 0) (ty := .int) h (e_vm_val ε hv) (e_vm_val ε hv2) h2 g2 rfl rfl (by omega) (by omega) hb hb (fun _ _ => rfl) ⟨Nat.le_of_ble_eq_true hrm.1, Nat.le_of_ble_eq_true hrm.2⟩ (Nat.le_of_ble_eq_true hrest) ?_
  have h5 := wd_set ε G (fun s => if s < n then G i kk s else G i2 kk s) g1
  rw [cellE_arr ε ha] at h5
  have h6 : va_cpy (G i kk) (G i2 kk) 0 0 n = fun s => if s < n then G i kk s else G i2 kk s := by
    funext s
    simp [va_cpy]
  rw [h6, h5]
  exact k
theorem e2_copyz {a b nx idx i kk i2 n0 n1 : Nat} {v : Int32} {rest : List V0} (n : Nat) (h : lk (jt J) pc = (54, a, b, v, nx, idx)) (hv : i < lim kk) (hv2 : i2 < lim kk) (ha : arrI kk = some (1, n0)) (hn : n ≤ n0) (hz : ∀ s, s < n → G i kk s = 0 ∨ G i kk s = 1) (hrm : (Nat.ble 1 (jf J) && Nat.ble 30 (jo J)) = true) (hrest : Nat.ble rest.length 8 = true)
    (k : E2 ε J nx ls rest (setA G i2 kk (fun s => if s < n then G i kk s else G i2 kk s)) Q) : E2 ε J pc ls (.inl (nI n) :: .inl (nI 0) :: .inr (i2, kk) :: .inl (nI 0) :: .inr (i, kk) :: rest) G Q := by
  rw [Bool.and_eq_true] at hrm
  obtain ⟨q0, h1, h2⟩ := wd_at ε G hv
  obtain ⟨q1, g1, g2⟩ := wd_at ε G hv2
  rw [cellE_arr ε ha] at h2 g2
  have hb := (arrI_obj ha 0 (fun _ => 0)).2
  refine e_copy (t0 := 1) (ty := .boolean) h (e_vm_val ε hv) (e_vm_val ε hv2) h2 g2 rfl rfl (by omega) (by omega) hb hb (fun s hs => by
    rw [Nat.zero_add]
    rcases hz s hs with z | z <;> rw [z] <;> rfl) ⟨Nat.le_of_ble_eq_true hrm.1, Nat.le_of_ble_eq_true hrm.2⟩ (Nat.le_of_ble_eq_true hrest) ?_
  have h5 := wd_set ε G (fun s => if s < n then G i kk s else G i2 kk s) g1
  rw [cellE_arr ε ha] at h5
  have h6 : va_cpy (G i kk) (G i2 kk) 0 0 n = fun s => if s < n then G i kk s else G i2 kk s := by
    funext s
    simp [va_cpy]
  rw [h6, h5]
  exact k
end MF
end
section
/-! printed by a program: the methods' instructions as tables, and that they are what the bytes say -/
def tX0_init : List (Nat × OpT) := [(0, 3, 0, 0, 0, 1, 0), (1, 51, 0, 0, 0, 4, 3), (4, 3, 0, 0, 0, 5, 0), (5, 1, 0, 0, nI 6, 7, 0), (7, 48, 0, 0, 0, 9, 0), (9, 31, 0, 0, 0, 12, 9), (12, 3, 0, 0, 0, 13, 0), (13, 1, 0, 0, nI 6, 15, 0), (15, 48, 0, 0, 0, 17, 0), (17, 31, 1, 0, 0, 20, 15), (20, 3, 0, 0, 0, 21, 0), (21, 1, 0, 0, nI 6, 23, 0), (23, 48, 0, 0, 0, 25, 0), (25, 31, 2, 0, 0, 28, 19), (28, 3, 0, 0, 0, 29, 0), (29, 1, 0, 0, nI 48, 31, 0), (31, 48, 0, 0, 0, 33, 0), (33, 31, 3, 0, 0, 36, 22), (36, 1, 0, 0, nI 0, 37, 0), (37, 4, 1, 0, 0, 38, 0), (38, 2, 1, 0, 0, 39, 0), (39, 1, 0, 0, nI 6, 41, 0), (41, 23, 0, 0, 0, 44, 58), (44, 3, 0, 0, 0, 45, 0), (45, 30, 0, 0, 0, 48, 9), (48, 2, 1, 0, 0, 49, 0), (49, 1, 0, 0, -9, 51, 0), (51, 36, 0, 0, 0, 52, 0), (52, 12, 1, 0, nI 1, 55, 0), (55, 13, 0, 0, 0, 38, 0), (58, 42, 0, 0, 0, 59, 0)]
def jX0_init : JT := (0, yX0_init, cX0_init, 2, none, 1, 20, 0, tX0_init)
theorem okX0_init : e_T jX0_init := ⟨by decide +kernel, rfl, rfl, by decide +kernel⟩
def tX0_copyFrom : List (Nat × OpT) := [(0, 3, 1, 0, 0, 1, 0), (1, 30, 0, 0, 0, 4, 9), (4, 1, 0, 0, nI 0, 5, 0), (5, 3, 0, 0, 0, 6, 0), (6, 30, 0, 0, 0, 9, 9), (9, 1, 0, 0, nI 0, 10, 0), (10, 1, 0, 0, nI 6, 12, 0), (12, 54, 0, 0, 0, 15, 25), (15, 3, 1, 0, 0, 16, 0), (16, 30, 1, 0, 0, 19, 15), (19, 1, 0, 0, nI 0, 20, 0), (20, 3, 0, 0, 0, 21, 0), (21, 30, 1, 0, 0, 24, 15), (24, 1, 0, 0, nI 0, 25, 0), (25, 1, 0, 0, nI 6, 27, 0), (27, 54, 0, 0, 0, 30, 25), (30, 3, 1, 0, 0, 31, 0), (31, 30, 2, 0, 0, 34, 19), (34, 1, 0, 0, nI 0, 35, 0), (35, 3, 0, 0, 0, 36, 0), (36, 30, 2, 0, 0, 39, 19), (39, 1, 0, 0, nI 0, 40, 0), (40, 1, 0, 0, nI 6, 42, 0), (42, 54, 0, 0, 0, 45, 25), (45, 3, 1, 0, 0, 46, 0), (46, 30, 3, 0, 0, 49, 22), (49, 1, 0, 0, nI 0, 50, 0), (50, 3, 0, 0, 0, 51, 0), (51, 30, 3, 0, 0, 54, 22), (54, 1, 0, 0, nI 0, 55, 0), (55, 1, 0, 0, nI 48, 57, 0), (57, 54, 0, 0, 0, 60, 25), (60, 42, 0, 0, 0, 61, 0)]
def jX0_copyFrom : JT := (1, yX0_copyFrom, cX0_copyFrom, 2, none, 1, 30, 0, tX0_copyFrom)
theorem okX0_copyFrom : e_T jX0_copyFrom := ⟨by decide +kernel, rfl, rfl, by decide +kernel⟩
def tX0_ofWalk : List (Nat × OpT) := [(0, 1, 0, 0, nI 0, 1, 0), (1, 4, 2, 0, 0, 2, 0), (2, 2, 2, 0, 0, 3, 0), (3, 1, 0, 0, nI 6, 5, 0), (5, 23, 0, 0, 0, 8, 26), (8, 3, 0, 0, 0, 9, 0), (9, 30, 0, 0, 0, 12, 9), (12, 2, 2, 0, 0, 13, 0), (13, 32, 0, 0, 0, 14, 0), (14, 2, 1, 0, 0, 15, 0), (15, 21, 0, 0, 0, 18, 20), (18, 2, 2, 0, 0, 19, 0), (19, 41, 0, 0, 0, 20, 0), (20, 12, 2, 0, nI 1, 23, 0), (23, 13, 0, 0, 0, 2, 0), (26, 1, 0, 0, -9, 28, 0), (28, 41, 0, 0, 0, 29, 0)]
def jX0_ofWalk : JT := (2, yX0_ofWalk, cX0_ofWalk, 3, (some .int), 0, 0, 0, tX0_ofWalk)
theorem okX0_ofWalk : e_T jX0_ofWalk := ⟨by decide +kernel, rfl, rfl, by decide +kernel⟩
def tX0_countOut : List (Nat × OpT) := [(0, 1, 0, 0, nI 0, 1, 0), (1, 4, 1, 0, 0, 2, 0), (2, 1, 0, 0, nI 0, 3, 0), (3, 4, 2, 0, 0, 4, 0), (4, 2, 2, 0, 0, 5, 0), (5, 1, 0, 0, nI 6, 7, 0), (7, 23, 0, 0, 0, 10, 28), (10, 3, 0, 0, 0, 11, 0), (11, 30, 1, 0, 0, 14, 15), (14, 2, 2, 0, 0, 15, 0), (15, 33, 0, 0, 0, 16, 0), (16, 14, 0, 0, 0, 19, 22), (19, 12, 1, 0, nI 1, 22, 0), (22, 12, 2, 0, nI 1, 25, 0), (25, 13, 0, 0, 0, 4, 0), (28, 2, 1, 0, 0, 29, 0), (29, 41, 0, 0, 0, 30, 0)]
def jX0_countOut : JT := (3, yX0_countOut, cX0_countOut, 3, (some .int), 0, 0, 0, tX0_countOut)
theorem okX0_countOut : e_T jX0_countOut := ⟨by decide +kernel, rfl, rfl, by decide +kernel⟩
def tX0_countRounds : List (Nat × OpT) := [(0, 1, 0, 0, nI 0, 1, 0), (1, 4, 1, 0, 0, 2, 0), (2, 1, 0, 0, nI 0, 3, 0), (3, 4, 2, 0, 0, 4, 0), (4, 2, 2, 0, 0, 5, 0), (5, 3, 0, 0, 0, 6, 0), (6, 30, 3, 0, 0, 9, 22), (9, 40, 0, 0, 0, 10, 0), (10, 23, 0, 0, 0, 13, 28), (13, 2, 1, 0, 0, 14, 0), (14, 3, 0, 0, 0, 15, 0), (15, 30, 3, 0, 0, 18, 22), (18, 2, 2, 0, 0, 19, 0), (19, 32, 0, 0, 0, 20, 0), (20, 6, 0, 0, 0, 21, 0), (21, 4, 1, 0, 0, 22, 0), (22, 12, 2, 0, nI 1, 25, 0), (25, 13, 0, 0, 0, 4, 0), (28, 2, 1, 0, 0, 29, 0), (29, 41, 0, 0, 0, 30, 0)]
def jX0_countRounds : JT := (4, yX0_countRounds, cX0_countRounds, 3, (some .int), 0, 0, 0, tX0_countRounds)
theorem okX0_countRounds : e_T jX0_countRounds := ⟨by decide +kernel, rfl, rfl, by decide +kernel⟩
def tX0_roundsOn : List (Nat × OpT) := [(0, 2, 1, 0, 0, 1, 0), (1, 46, 1, 103, 0, 4, 31), (4, 14, 0, 0, 0, 7, 28), (7, 2, 2, 0, 0, 8, 0), (8, 46, 1, 102, 0, 11, 35), (11, 14, 0, 0, 0, 14, 28), (14, 3, 0, 0, 0, 15, 0), (15, 30, 3, 0, 0, 18, 22), (18, 2, 1, 0, 0, 19, 0), (19, 1, 0, 0, nI 8, 21, 0), (21, 8, 0, 0, 0, 22, 0), (22, 2, 2, 0, 0, 23, 0), (23, 6, 0, 0, 0, 24, 0), (24, 32, 0, 0, 0, 25, 0), (25, 13, 0, 0, 0, 29, 0), (28, 1, 0, 0, nI 0, 29, 0), (29, 41, 0, 0, 0, 30, 0)]
def jX0_roundsOn : JT := (5, yX0_roundsOn, cX0_roundsOn, 3, (some .int), 1, 20, 0, tX0_roundsOn)
theorem okX0_roundsOn : e_T jX0_roundsOn := ⟨by decide +kernel, rfl, rfl, by decide +kernel⟩
def tX0_knows : List (Nat × OpT) := [(0, 3, 0, 0, 0, 1, 0), (1, 2, 1, 0, 0, 2, 0), (2, 2, 2, 0, 0, 3, 0), (3, 44, 2, 5, 0, 6, 38), (6, 1, 0, 0, nI 2, 7, 0), (7, 22, 0, 0, 0, 10, 14), (10, 1, 0, 0, nI 1, 11, 0), (11, 13, 0, 0, 0, 15, 0), (14, 1, 0, 0, nI 0, 15, 0), (15, 41, 0, 0, 0, 16, 0)]
def jX0_knows : JT := (6, yX0_knows, cX0_knows, 3, (some .boolean), 2, 42, 0, tX0_knows)
theorem okX0_knows : e_T jX0_knows := ⟨by decide +kernel, rfl, rfl, by decide +kernel⟩
def tX0_endRound : List (Nat × OpT) := [(0, 2, 1, 0, 0, 1, 0), (1, 46, 1, 103, 0, 4, 31), (4, 14, 0, 0, 0, 7, 56), (7, 3, 0, 0, 0, 8, 0), (8, 30, 0, 0, 0, 11, 9), (11, 2, 1, 0, 0, 12, 0), (12, 32, 0, 0, 0, 13, 0), (13, 46, 1, 102, 0, 16, 35), (16, 14, 0, 0, 0, 19, 56), (19, 3, 0, 0, 0, 20, 0), (20, 30, 1, 0, 0, 23, 15), (23, 2, 1, 0, 0, 24, 0), (24, 1, 0, 0, nI 0, 25, 0), (25, 37, 0, 0, 0, 26, 0), (26, 3, 0, 0, 0, 27, 0), (27, 30, 2, 0, 0, 30, 19), (30, 2, 1, 0, 0, 31, 0), (31, 27, 0, 0, 0, 32, 0), (32, 32, 0, 0, 0, 33, 0), (33, 2, 2, 0, 0, 34, 0), (34, 6, 0, 0, 0, 35, 0), (35, 36, 0, 0, 0, 36, 0), (36, 3, 0, 0, 0, 37, 0), (37, 30, 3, 0, 0, 40, 22), (40, 2, 1, 0, 0, 41, 0), (41, 1, 0, 0, nI 8, 43, 0), (43, 8, 0, 0, 0, 44, 0), (44, 3, 0, 0, 0, 45, 0), (45, 30, 0, 0, 0, 48, 9), (48, 2, 1, 0, 0, 49, 0), (49, 32, 0, 0, 0, 50, 0), (50, 6, 0, 0, 0, 51, 0), (51, 27, 0, 0, 0, 52, 0), (52, 32, 0, 0, 0, 53, 0), (53, 1, 0, 0, nI 1, 54, 0), (54, 6, 0, 0, 0, 55, 0), (55, 36, 0, 0, 0, 56, 0), (56, 42, 0, 0, 0, 57, 0)]
def jX0_endRound : JT := (7, yX0_endRound, cX0_endRound, 3, none, 1, 20, 0, tX0_endRound)
theorem okX0_endRound : e_T jX0_endRound := ⟨by decide +kernel, rfl, rfl, by decide +kernel⟩
def tX0_bestWithoutWalk : List (Nat × OpT) := [(0, 1, 0, 0, -9, 2, 0), (2, 4, 2, 0, 0, 3, 0), (3, 1, 0, 0, nI 0, 4, 0), (4, 4, 3, 0, 0, 5, 0), (5, 2, 3, 0, 0, 6, 0), (6, 1, 0, 0, nI 6, 8, 0), (8, 23, 0, 0, 0, 11, 51), (11, 3, 0, 0, 0, 12, 0), (12, 30, 0, 0, 0, 15, 9), (15, 2, 3, 0, 0, 16, 0), (16, 32, 0, 0, 0, 17, 0), (17, 1, 0, 0, -9, 19, 0), (19, 21, 0, 0, 0, 22, 45), (22, 2, 2, 0, 0, 23, 0), (23, 1, 0, 0, -9, 25, 0), (25, 20, 0, 0, 0, 28, 43), (28, 3, 0, 0, 0, 29, 0), (29, 2, 3, 0, 0, 30, 0), (30, 2, 1, 0, 0, 31, 0), (31, 44, 2, 5, 0, 34, 38), (34, 3, 0, 0, 0, 35, 0), (35, 2, 2, 0, 0, 36, 0), (36, 2, 1, 0, 0, 37, 0), (37, 44, 2, 5, 0, 40, 38), (40, 25, 0, 0, 0, 43, 45), (43, 2, 3, 0, 0, 44, 0), (44, 4, 2, 0, 0, 45, 0), (45, 12, 3, 0, nI 1, 48, 0), (48, 13, 0, 0, 0, 5, 0), (51, 2, 2, 0, 0, 52, 0), (52, 41, 0, 0, 0, 53, 0)]
def jX0_bestWithoutWalk : JT := (8, yX0_bestWithoutWalk, cX0_bestWithoutWalk, 4, (some .int), 2, 42, 0, tX0_bestWithoutWalk)
theorem okX0_bestWithoutWalk : e_T jX0_bestWithoutWalk := ⟨by decide +kernel, rfl, rfl, by decide +kernel⟩
def tX1_init : List (Nat × OpT) := [(0, 3, 0, 0, 0, 1, 0), (1, 51, 0, 0, 0, 4, 3), (4, 3, 0, 0, 0, 5, 0), (5, 1, 0, 0, nI 5, 6, 0), (6, 49, 0, 0, 0, 9, 9), (9, 31, 0, 1, 0, 12, 11), (12, 1, 0, 0, nI 0, 13, 0), (13, 4, 1, 0, 0, 14, 0), (14, 2, 1, 0, 0, 15, 0), (15, 1, 0, 0, nI 5, 16, 0), (16, 23, 0, 0, 0, 19, 38), (19, 3, 0, 0, 0, 20, 0), (20, 30, 0, 1, 0, 23, 11), (23, 2, 1, 0, 0, 24, 0), (24, 47, 0, 0, 0, 27, 9), (27, 26, 0, 0, 0, 28, 0), (28, 45, 0, 37, 0, 31, 17), (31, 39, 0, 0, 0, 32, 0), (32, 12, 1, 0, nI 1, 35, 0), (35, 13, 0, 0, 0, 14, 0), (38, 42, 0, 0, 0, 39, 0)]
def jX1_init : JT := (9, yX1_init, cX1_init, 2, none, 5, 108, 1, tX1_init)
theorem okX1_init : e_T jX1_init := ⟨by decide +kernel, rfl, rfl, by decide +kernel⟩
def tX1_remember : List (Nat × OpT) := [(0, 3, 0, 0, 0, 1, 0), (1, 30, 1, 1, 0, 4, 18), (4, 1, 0, 0, nI 5, 5, 0), (5, 22, 0, 0, 0, 8, 12), (8, 3, 0, 0, 0, 9, 0), (9, 44, 0, 11, 0, 12, 22), (12, 3, 0, 0, 0, 13, 0), (13, 30, 0, 1, 0, 16, 11), (16, 3, 0, 0, 0, 17, 0), (17, 30, 1, 1, 0, 20, 18), (20, 35, 0, 0, 0, 21, 0), (21, 3, 1, 0, 0, 22, 0), (22, 44, 1, 38, 0, 25, 25), (25, 3, 0, 0, 0, 26, 0), (26, 26, 0, 0, 0, 27, 0), (27, 30, 1, 1, 0, 30, 18), (30, 1, 0, 0, nI 1, 31, 0), (31, 6, 0, 0, 0, 32, 0), (32, 31, 1, 1, 0, 35, 18), (35, 42, 0, 0, 0, 36, 0)]
def jX1_remember : JT := (10, yX1_remember, cX1_remember, 2, none, 4, 94, 1, tX1_remember)
theorem okX1_remember : e_T jX1_remember := ⟨by decide +kernel, rfl, rfl, by decide +kernel⟩
def tX1_dropOldest : List (Nat × OpT) := [(0, 3, 0, 0, 0, 1, 0), (1, 30, 0, 1, 0, 4, 11), (4, 1, 0, 0, nI 0, 5, 0), (5, 35, 0, 0, 0, 6, 0), (6, 5, 1, 0, 0, 7, 0), (7, 1, 0, 0, nI 1, 8, 0), (8, 4, 2, 0, 0, 9, 0), (9, 2, 2, 0, 0, 10, 0), (10, 1, 0, 0, nI 5, 11, 0), (11, 23, 0, 0, 0, 14, 34), (14, 3, 0, 0, 0, 15, 0), (15, 30, 0, 1, 0, 18, 11), (18, 2, 2, 0, 0, 19, 0), (19, 1, 0, 0, nI 1, 20, 0), (20, 7, 0, 0, 0, 21, 0), (21, 3, 0, 0, 0, 22, 0), (22, 30, 0, 1, 0, 25, 11), (25, 2, 2, 0, 0, 26, 0), (26, 35, 0, 0, 0, 27, 0), (27, 39, 0, 0, 0, 28, 0), (28, 12, 2, 0, nI 1, 31, 0), (31, 13, 0, 0, 0, 9, 0), (34, 3, 0, 0, 0, 35, 0), (35, 30, 0, 1, 0, 38, 11), (38, 1, 0, 0, nI 4, 39, 0), (39, 3, 1, 0, 0, 40, 0), (40, 39, 0, 0, 0, 41, 0), (41, 3, 0, 0, 0, 42, 0), (42, 26, 0, 0, 0, 43, 0), (43, 30, 1, 1, 0, 46, 18), (46, 1, 0, 0, nI 1, 47, 0), (47, 7, 0, 0, 0, 48, 0), (48, 31, 1, 1, 0, 51, 18), (51, 42, 0, 0, 0, 52, 0)]
def jX1_dropOldest : JT := (11, yX1_dropOldest, cX1_dropOldest, 3, none, 0, 0, 1, tX1_dropOldest)
theorem okX1_dropOldest : e_T jX1_dropOldest := ⟨by decide +kernel, rfl, rfl, by decide +kernel⟩
def tX1_giveBack : List (Nat × OpT) := [(0, 3, 0, 0, 0, 1, 0), (1, 30, 1, 1, 0, 4, 18), (4, 19, 0, 0, 0, 7, 30), (7, 3, 0, 0, 0, 8, 0), (8, 26, 0, 0, 0, 9, 0), (9, 30, 1, 1, 0, 12, 18), (12, 1, 0, 0, nI 1, 13, 0), (13, 7, 0, 0, 0, 14, 0), (14, 31, 1, 1, 0, 17, 18), (17, 3, 1, 0, 0, 18, 0), (18, 3, 0, 0, 0, 19, 0), (19, 30, 0, 1, 0, 22, 11), (22, 3, 0, 0, 0, 23, 0), (23, 30, 1, 1, 0, 26, 18), (26, 35, 0, 0, 0, 27, 0), (27, 44, 1, 38, 0, 30, 25), (30, 42, 0, 0, 0, 31, 0)]
def jX1_giveBack : JT := (12, yX1_giveBack, cX1_giveBack, 2, none, 4, 94, 1, tX1_giveBack)
theorem okX1_giveBack : e_T jX1_giveBack := ⟨by decide +kernel, rfl, rfl, by decide +kernel⟩
def tX2_init : List (Nat × OpT) := [(0, 3, 0, 0, 0, 1, 0), (1, 51, 0, 0, 0, 4, 3), (4, 3, 0, 0, 0, 5, 0), (5, 1, 0, 0, nI 120, 7, 0), (7, 48, 0, 0, 0, 9, 0), (9, 31, 0, 2, 0, 12, 9), (12, 3, 0, 0, 0, 13, 0), (13, 1, 0, 0, nI 120, 15, 0), (15, 48, 0, 0, 0, 17, 0), (17, 31, 1, 2, 0, 20, 15), (20, 3, 0, 0, 0, 21, 0), (21, 1, 0, 0, nI 120, 23, 0), (23, 48, 0, 0, 0, 25, 0), (25, 31, 2, 2, 0, 28, 18), (28, 3, 0, 0, 0, 29, 0), (29, 1, 0, 0, nI 120, 31, 0), (31, 48, 0, 0, 0, 33, 0), (33, 31, 3, 2, 0, 36, 21), (36, 3, 0, 0, 0, 37, 0), (37, 1, 0, 0, nI 120, 39, 0), (39, 48, 0, 0, 0, 41, 0), (41, 31, 4, 2, 0, 44, 24), (44, 3, 0, 0, 0, 45, 0), (45, 1, 0, 0, nI 120, 47, 0), (47, 48, 0, 0, 0, 49, 0), (49, 31, 5, 2, 0, 52, 27), (52, 3, 0, 0, 0, 53, 0), (53, 1, 0, 0, nI 120, 55, 0), (55, 48, 0, 0, 0, 57, 0), (57, 31, 6, 2, 0, 60, 30), (60, 3, 0, 0, 0, 61, 0), (61, 1, 0, 0, nI 8, 63, 0), (63, 48, 0, 0, 0, 65, 0), (65, 31, 7, 2, 0, 68, 33), (68, 42, 0, 0, 0, 69, 0)]
def jX2_init : JT := (13, yX2_init, cX2_init, 1, none, 1, 20, 2, tX2_init)
theorem okX2_init : e_T jX2_init := ⟨by decide +kernel, rfl, rfl, by decide +kernel⟩
def tX2_copyFrom : List (Nat × OpT) := [(0, 3, 1, 0, 0, 1, 0), (1, 30, 0, 2, 0, 4, 9), (4, 1, 0, 0, nI 0, 5, 0), (5, 3, 0, 0, 0, 6, 0), (6, 30, 0, 2, 0, 9, 9), (9, 1, 0, 0, nI 0, 10, 0), (10, 1, 0, 0, nI 120, 12, 0), (12, 54, 0, 0, 0, 15, 36), (15, 3, 1, 0, 0, 16, 0), (16, 30, 1, 2, 0, 19, 15), (19, 1, 0, 0, nI 0, 20, 0), (20, 3, 0, 0, 0, 21, 0), (21, 30, 1, 2, 0, 24, 15), (24, 1, 0, 0, nI 0, 25, 0), (25, 1, 0, 0, nI 120, 27, 0), (27, 54, 0, 0, 0, 30, 36), (30, 3, 1, 0, 0, 31, 0), (31, 30, 2, 2, 0, 34, 18), (34, 1, 0, 0, nI 0, 35, 0), (35, 3, 0, 0, 0, 36, 0), (36, 30, 2, 2, 0, 39, 18), (39, 1, 0, 0, nI 0, 40, 0), (40, 1, 0, 0, nI 120, 42, 0), (42, 54, 0, 0, 0, 45, 36), (45, 3, 1, 0, 0, 46, 0), (46, 30, 3, 2, 0, 49, 21), (49, 1, 0, 0, nI 0, 50, 0), (50, 3, 0, 0, 0, 51, 0), (51, 30, 3, 2, 0, 54, 21), (54, 1, 0, 0, nI 0, 55, 0), (55, 1, 0, 0, nI 120, 57, 0), (57, 54, 0, 0, 0, 60, 36), (60, 3, 1, 0, 0, 61, 0), (61, 30, 4, 2, 0, 64, 24), (64, 1, 0, 0, nI 0, 65, 0), (65, 3, 0, 0, 0, 66, 0), (66, 30, 4, 2, 0, 69, 24), (69, 1, 0, 0, nI 0, 70, 0), (70, 1, 0, 0, nI 120, 72, 0), (72, 54, 0, 0, 0, 75, 36), (75, 3, 1, 0, 0, 76, 0), (76, 30, 5, 2, 0, 79, 27), (79, 1, 0, 0, nI 0, 80, 0), (80, 3, 0, 0, 0, 81, 0), (81, 30, 5, 2, 0, 84, 27), (84, 1, 0, 0, nI 0, 85, 0), (85, 1, 0, 0, nI 120, 87, 0), (87, 54, 0, 0, 0, 90, 36), (90, 3, 1, 0, 0, 91, 0), (91, 30, 6, 2, 0, 94, 30), (94, 1, 0, 0, nI 0, 95, 0), (95, 3, 0, 0, 0, 96, 0), (96, 30, 6, 2, 0, 99, 30), (99, 1, 0, 0, nI 0, 100, 0), (100, 1, 0, 0, nI 120, 102, 0), (102, 54, 0, 0, 0, 105, 36), (105, 3, 1, 0, 0, 106, 0), (106, 30, 7, 2, 0, 109, 33), (109, 1, 0, 0, nI 0, 110, 0), (110, 3, 0, 0, 0, 111, 0), (111, 30, 7, 2, 0, 114, 33), (114, 1, 0, 0, nI 0, 115, 0), (115, 1, 0, 0, nI 8, 117, 0), (117, 54, 0, 0, 0, 120, 36), (120, 3, 0, 0, 0, 121, 0), (121, 3, 1, 0, 0, 122, 0), (122, 30, 8, 2, 0, 125, 42), (125, 31, 8, 2, 0, 128, 42), (128, 42, 0, 0, 0, 129, 0)]
def jX2_copyFrom : JT := (14, yX2_copyFrom, cX2_copyFrom, 2, none, 1, 30, 2, tX2_copyFrom)
theorem okX2_copyFrom : e_T jX2_copyFrom := ⟨by decide +kernel, rfl, rfl, by decide +kernel⟩
def tX2_has : List (Nat × OpT) := [(0, 2, 1, 0, 0, 1, 0), (1, 16, 0, 0, 0, 4, 16), (4, 2, 1, 0, 0, 5, 0), (5, 3, 0, 0, 0, 6, 0), (6, 30, 8, 2, 0, 9, 42), (9, 23, 0, 0, 0, 12, 16), (12, 1, 0, 0, nI 1, 13, 0), (13, 13, 0, 0, 0, 17, 0), (16, 1, 0, 0, nI 0, 17, 0), (17, 41, 0, 0, 0, 18, 0)]
def jX2_has : JT := (15, yX2_has, cX2_has, 2, (some .boolean), 0, 0, 2, tX2_has)
theorem okX2_has : e_T jX2_has := ⟨by decide +kernel, rfl, rfl, by decide +kernel⟩
def tX2_add : List (Nat × OpT) := [(0, 3, 0, 0, 0, 1, 0), (1, 30, 8, 2, 0, 4, 42), (4, 1, 0, 0, nI 120, 6, 0), (6, 23, 0, 0, 0, 9, 91), (9, 3, 0, 0, 0, 10, 0), (10, 30, 0, 2, 0, 13, 9), (13, 3, 0, 0, 0, 14, 0), (14, 30, 8, 2, 0, 17, 42), (17, 2, 1, 0, 0, 18, 0), (18, 36, 0, 0, 0, 19, 0), (19, 3, 0, 0, 0, 20, 0), (20, 30, 1, 2, 0, 23, 15), (23, 3, 0, 0, 0, 24, 0), (24, 30, 8, 2, 0, 27, 42), (27, 2, 2, 0, 0, 28, 0), (28, 36, 0, 0, 0, 29, 0), (29, 3, 0, 0, 0, 30, 0), (30, 30, 2, 2, 0, 33, 18), (33, 3, 0, 0, 0, 34, 0), (34, 30, 8, 2, 0, 37, 42), (37, 1, 0, 0, nI 0, 38, 0), (38, 36, 0, 0, 0, 39, 0), (39, 3, 0, 0, 0, 40, 0), (40, 30, 3, 2, 0, 43, 21), (43, 3, 0, 0, 0, 44, 0), (44, 30, 8, 2, 0, 47, 42), (47, 1, 0, 0, nI 0, 48, 0), (48, 36, 0, 0, 0, 49, 0), (49, 3, 0, 0, 0, 50, 0), (50, 30, 4, 2, 0, 53, 24), (53, 3, 0, 0, 0, 54, 0), (54, 30, 8, 2, 0, 57, 42), (57, 1, 0, 0, -9, 59, 0), (59, 36, 0, 0, 0, 60, 0), (60, 3, 0, 0, 0, 61, 0), (61, 30, 5, 2, 0, 64, 27), (64, 3, 0, 0, 0, 65, 0), (65, 30, 8, 2, 0, 68, 42), (68, 2, 3, 0, 0, 69, 0), (69, 36, 0, 0, 0, 70, 0), (70, 3, 0, 0, 0, 71, 0), (71, 30, 6, 2, 0, 74, 30), (74, 3, 0, 0, 0, 75, 0), (75, 30, 8, 2, 0, 78, 42), (78, 1, 0, 0, -9, 80, 0), (80, 36, 0, 0, 0, 81, 0), (81, 3, 0, 0, 0, 82, 0), (82, 26, 0, 0, 0, 83, 0), (83, 30, 8, 2, 0, 86, 42), (86, 1, 0, 0, nI 1, 87, 0), (87, 6, 0, 0, 0, 88, 0), (88, 31, 8, 2, 0, 91, 42), (91, 42, 0, 0, 0, 92, 0)]
def jX2_add : JT := (16, yX2_add, cX2_add, 4, none, 0, 0, 2, tX2_add)
theorem okX2_add : e_T jX2_add := ⟨by decide +kernel, rfl, rfl, by decide +kernel⟩
def tX2_moveTo : List (Nat × OpT) := [(0, 3, 0, 0, 0, 1, 0), (1, 2, 1, 0, 0, 2, 0), (2, 44, 1, 15, 0, 5, 46), (5, 15, 0, 0, 0, 8, 9), (8, 42, 0, 0, 0, 9, 0), (9, 3, 0, 0, 0, 10, 0), (10, 30, 3, 2, 0, 13, 21), (13, 2, 1, 0, 0, 14, 0), (14, 32, 0, 0, 0, 15, 0), (15, 1, 0, 0, nI 1, 16, 0), (16, 21, 0, 0, 0, 19, 46), (19, 3, 0, 0, 0, 20, 0), (20, 30, 4, 2, 0, 23, 24), (23, 2, 1, 0, 0, 24, 0), (24, 32, 0, 0, 0, 25, 0), (25, 46, 1, 102, 0, 28, 50), (28, 14, 0, 0, 0, 31, 46), (31, 3, 0, 0, 0, 32, 0), (32, 30, 7, 2, 0, 35, 33), (35, 3, 0, 0, 0, 36, 0), (36, 30, 4, 2, 0, 39, 24), (39, 2, 1, 0, 0, 40, 0), (40, 32, 0, 0, 0, 41, 0), (41, 27, 0, 0, 0, 42, 0), (42, 32, 0, 0, 0, 43, 0), (43, 1, 0, 0, nI 1, 44, 0), (44, 7, 0, 0, 0, 45, 0), (45, 36, 0, 0, 0, 46, 0), (46, 3, 0, 0, 0, 47, 0), (47, 30, 3, 2, 0, 50, 21), (50, 2, 1, 0, 0, 51, 0), (51, 2, 2, 0, 0, 52, 0), (52, 36, 0, 0, 0, 53, 0), (53, 3, 0, 0, 0, 54, 0), (54, 30, 4, 2, 0, 57, 24), (57, 2, 1, 0, 0, 58, 0), (58, 2, 3, 0, 0, 59, 0), (59, 36, 0, 0, 0, 60, 0), (60, 2, 2, 0, 0, 61, 0), (61, 1, 0, 0, nI 1, 62, 0), (62, 21, 0, 0, 0, 65, 82), (65, 2, 3, 0, 0, 66, 0), (66, 46, 1, 102, 0, 69, 50), (69, 14, 0, 0, 0, 72, 82), (72, 3, 0, 0, 0, 73, 0), (73, 30, 7, 2, 0, 76, 33), (76, 2, 3, 0, 0, 77, 0), (77, 27, 0, 0, 0, 78, 0), (78, 32, 0, 0, 0, 79, 0), (79, 1, 0, 0, nI 1, 80, 0), (80, 6, 0, 0, 0, 81, 0), (81, 36, 0, 0, 0, 82, 0), (82, 42, 0, 0, 0, 83, 0)]
def jX2_moveTo : JT := (17, yX2_moveTo, cX2_moveTo, 4, none, 1, 21, 2, tX2_moveTo)
theorem okX2_moveTo : e_T jX2_moveTo := ⟨by decide +kernel, rfl, rfl, by decide +kernel⟩
def tX2_finish : List (Nat × OpT) := [(0, 3, 0, 0, 0, 1, 0), (1, 2, 1, 0, 0, 2, 0), (2, 44, 1, 15, 0, 5, 46), (5, 14, 0, 0, 0, 8, 23), (8, 3, 0, 0, 0, 9, 0), (9, 2, 1, 0, 0, 10, 0), (10, 2, 2, 0, 0, 11, 0), (11, 1, 0, 0, -9, 13, 0), (13, 44, 3, 17, 0, 16, 53), (16, 3, 0, 0, 0, 17, 0), (17, 30, 6, 2, 0, 20, 30), (20, 2, 1, 0, 0, 21, 0), (21, 2, 3, 0, 0, 22, 0), (22, 36, 0, 0, 0, 23, 0), (23, 42, 0, 0, 0, 24, 0)]
def jX2_finish : JT := (18, yX2_finish, cX2_finish, 4, none, 2, 44, 2, tX2_finish)
theorem okX2_finish : e_T jX2_finish := ⟨by decide +kernel, rfl, rfl, by decide +kernel⟩
def tX2_misroute : List (Nat × OpT) := [(0, 3, 0, 0, 0, 1, 0), (1, 2, 1, 0, 0, 2, 0), (2, 44, 1, 15, 0, 5, 46), (5, 15, 0, 0, 0, 8, 9), (8, 42, 0, 0, 0, 9, 0), (9, 3, 0, 0, 0, 10, 0), (10, 30, 2, 2, 0, 13, 18), (13, 2, 1, 0, 0, 14, 0), (14, 27, 0, 0, 0, 15, 0), (15, 32, 0, 0, 0, 16, 0), (16, 1, 0, 0, nI 1, 17, 0), (17, 6, 0, 0, 0, 18, 0), (18, 36, 0, 0, 0, 19, 0), (19, 3, 0, 0, 0, 20, 0), (20, 30, 2, 2, 0, 23, 18), (23, 2, 1, 0, 0, 24, 0), (24, 32, 0, 0, 0, 25, 0), (25, 1, 0, 0, nI 3, 26, 0), (26, 22, 0, 0, 0, 29, 39), (29, 3, 0, 0, 0, 30, 0), (30, 2, 1, 0, 0, 31, 0), (31, 1, 0, 0, nI 5, 32, 0), (32, 2, 2, 0, 0, 33, 0), (33, 44, 3, 18, 0, 36, 57), (36, 13, 0, 0, 0, 47, 0), (39, 3, 0, 0, 0, 40, 0), (40, 2, 1, 0, 0, 41, 0), (41, 1, 0, 0, nI 0, 42, 0), (42, 1, 0, 0, -9, 44, 0), (44, 44, 3, 17, 0, 47, 53), (47, 42, 0, 0, 0, 48, 0)]
def jX2_misroute : JT := (19, yX2_misroute, cX2_misroute, 3, none, 3, 67, 2, tX2_misroute)
theorem okX2_misroute : e_T jX2_misroute := ⟨by decide +kernel, rfl, rfl, by decide +kernel⟩
def tX2_isFirstClass : List (Nat × OpT) := [(0, 3, 0, 0, 0, 1, 0), (1, 2, 1, 0, 0, 2, 0), (2, 44, 1, 15, 0, 5, 46), (5, 14, 0, 0, 0, 8, 22), (8, 3, 0, 0, 0, 9, 0), (9, 30, 1, 2, 0, 12, 15), (12, 2, 1, 0, 0, 13, 0), (13, 32, 0, 0, 0, 14, 0), (14, 1, 0, 0, nI 1, 15, 0), (15, 21, 0, 0, 0, 18, 22), (18, 1, 0, 0, nI 1, 19, 0), (19, 13, 0, 0, 0, 23, 0), (22, 1, 0, 0, nI 0, 23, 0), (23, 41, 0, 0, 0, 24, 0)]
def jX2_isFirstClass : JT := (20, yX2_isFirstClass, cX2_isFirstClass, 2, (some .boolean), 1, 21, 2, tX2_isFirstClass)
theorem okX2_isFirstClass : e_T jX2_isFirstClass := ⟨by decide +kernel, rfl, rfl, by decide +kernel⟩
def tX2_emptyOverflow : List (Nat × OpT) := [(0, 1, 0, 0, nI 0, 1, 0), (1, 4, 1, 0, 0, 2, 0), (2, 2, 1, 0, 0, 3, 0), (3, 3, 0, 0, 0, 4, 0), (4, 30, 8, 2, 0, 7, 42), (7, 23, 0, 0, 0, 10, 34), (10, 3, 0, 0, 0, 11, 0), (11, 30, 3, 2, 0, 14, 21), (14, 2, 1, 0, 0, 15, 0), (15, 32, 0, 0, 0, 16, 0), (16, 1, 0, 0, nI 2, 17, 0), (17, 21, 0, 0, 0, 20, 28), (20, 3, 0, 0, 0, 21, 0), (21, 2, 1, 0, 0, 22, 0), (22, 1, 0, 0, nI 0, 23, 0), (23, 1, 0, 0, -9, 25, 0), (25, 44, 3, 17, 0, 28, 53), (28, 12, 1, 0, nI 1, 31, 0), (31, 13, 0, 0, 0, 2, 0), (34, 42, 0, 0, 0, 35, 0)]
def jX2_emptyOverflow : JT := (21, yX2_emptyOverflow, cX2_emptyOverflow, 2, none, 2, 44, 2, tX2_emptyOverflow)
theorem okX2_emptyOverflow : e_T jX2_emptyOverflow := ⟨by decide +kernel, rfl, rfl, by decide +kernel⟩
def tX2_countIn : List (Nat × OpT) := [(0, 1, 0, 0, nI 0, 1, 0), (1, 4, 2, 0, 0, 2, 0), (2, 1, 0, 0, nI 0, 3, 0), (3, 4, 3, 0, 0, 4, 0), (4, 2, 3, 0, 0, 5, 0), (5, 3, 0, 0, 0, 6, 0), (6, 30, 8, 2, 0, 9, 42), (9, 23, 0, 0, 0, 12, 31), (12, 3, 0, 0, 0, 13, 0), (13, 30, 3, 2, 0, 16, 21), (16, 2, 3, 0, 0, 17, 0), (17, 32, 0, 0, 0, 18, 0), (18, 2, 1, 0, 0, 19, 0), (19, 21, 0, 0, 0, 22, 25), (22, 12, 2, 0, nI 1, 25, 0), (25, 12, 3, 0, nI 1, 28, 0), (28, 13, 0, 0, 0, 4, 0), (31, 2, 2, 0, 0, 32, 0), (32, 41, 0, 0, 0, 33, 0)]
def jX2_countIn : JT := (22, yX2_countIn, cX2_countIn, 4, (some .int), 0, 0, 2, tX2_countIn)
theorem okX2_countIn : e_T jX2_countIn := ⟨by decide +kernel, rfl, rfl, by decide +kernel⟩
def tX2_countInHand : List (Nat × OpT) := [(0, 1, 0, 0, nI 0, 1, 0), (1, 4, 2, 0, 0, 2, 0), (2, 1, 0, 0, nI 0, 3, 0), (3, 4, 3, 0, 0, 4, 0), (4, 2, 3, 0, 0, 5, 0), (5, 3, 0, 0, 0, 6, 0), (6, 30, 8, 2, 0, 9, 42), (9, 23, 0, 0, 0, 12, 31), (12, 3, 0, 0, 0, 13, 0), (13, 2, 3, 0, 0, 14, 0), (14, 1, 0, 0, nI 3, 15, 0), (15, 2, 1, 0, 0, 16, 0), (16, 44, 3, 32, 0, 19, 60), (19, 14, 0, 0, 0, 22, 25), (22, 12, 2, 0, nI 1, 25, 0), (25, 12, 3, 0, nI 1, 28, 0), (28, 13, 0, 0, 0, 4, 0), (31, 2, 2, 0, 0, 32, 0), (32, 41, 0, 0, 0, 33, 0)]
def jX2_countInHand : JT := (23, yX2_countInHand, cX2_countInHand, 4, (some .int), 2, 44, 2, tX2_countInHand)
theorem okX2_countInHand : e_T jX2_countInHand := ⟨by decide +kernel, rfl, rfl, by decide +kernel⟩
def tX2_countFirstClass : List (Nat × OpT) := [(0, 1, 0, 0, nI 0, 1, 0), (1, 4, 2, 0, 0, 2, 0), (2, 1, 0, 0, nI 0, 3, 0), (3, 4, 3, 0, 0, 4, 0), (4, 2, 3, 0, 0, 5, 0), (5, 3, 0, 0, 0, 6, 0), (6, 30, 8, 2, 0, 9, 42), (9, 23, 0, 0, 0, 12, 39), (12, 3, 0, 0, 0, 13, 0), (13, 2, 3, 0, 0, 14, 0), (14, 1, 0, 0, nI 1, 15, 0), (15, 2, 1, 0, 0, 16, 0), (16, 44, 3, 32, 0, 19, 60), (19, 14, 0, 0, 0, 22, 33), (22, 3, 0, 0, 0, 23, 0), (23, 2, 3, 0, 0, 24, 0), (24, 44, 1, 20, 0, 27, 64), (27, 14, 0, 0, 0, 30, 33), (30, 12, 2, 0, nI 1, 33, 0), (33, 12, 3, 0, nI 1, 36, 0), (36, 13, 0, 0, 0, 4, 0), (39, 2, 2, 0, 0, 40, 0), (40, 41, 0, 0, 0, 41, 0)]
def jX2_countFirstClass : JT := (24, yX2_countFirstClass, cX2_countFirstClass, 4, (some .int), 2, 44, 2, tX2_countFirstClass)
theorem okX2_countFirstClass : e_T jX2_countFirstClass := ⟨by decide +kernel, rfl, rfl, by decide +kernel⟩
def tX2_countMisroutes : List (Nat × OpT) := [(0, 1, 0, 0, nI 0, 1, 0), (1, 4, 1, 0, 0, 2, 0), (2, 1, 0, 0, nI 0, 3, 0), (3, 4, 2, 0, 0, 4, 0), (4, 2, 2, 0, 0, 5, 0), (5, 3, 0, 0, 0, 6, 0), (6, 30, 8, 2, 0, 9, 42), (9, 23, 0, 0, 0, 12, 27), (12, 2, 1, 0, 0, 13, 0), (13, 3, 0, 0, 0, 14, 0), (14, 30, 2, 2, 0, 17, 18), (17, 2, 2, 0, 0, 18, 0), (18, 32, 0, 0, 0, 19, 0), (19, 6, 0, 0, 0, 20, 0), (20, 4, 1, 0, 0, 21, 0), (21, 12, 2, 0, nI 1, 24, 0), (24, 13, 0, 0, 0, 4, 0), (27, 2, 1, 0, 0, 28, 0), (28, 41, 0, 0, 0, 29, 0)]
def jX2_countMisroutes : JT := (25, yX2_countMisroutes, cX2_countMisroutes, 3, (some .int), 0, 0, 2, tX2_countMisroutes)
theorem okX2_countMisroutes : e_T jX2_countMisroutes := ⟨by decide +kernel, rfl, rfl, by decide +kernel⟩
def tX2_displaceSecondClass : List (Nat × OpT) := [(0, 3, 0, 0, 0, 1, 0), (1, 30, 8, 2, 0, 4, 42), (4, 1, 0, 0, nI 1, 5, 0), (5, 7, 0, 0, 0, 6, 0), (6, 4, 2, 0, 0, 7, 0), (7, 2, 2, 0, 0, 8, 0), (8, 16, 0, 0, 0, 11, 45), (11, 3, 0, 0, 0, 12, 0), (12, 2, 2, 0, 0, 13, 0), (13, 1, 0, 0, nI 1, 14, 0), (14, 2, 1, 0, 0, 15, 0), (15, 44, 3, 32, 0, 18, 60), (18, 14, 0, 0, 0, 21, 39), (21, 3, 0, 0, 0, 22, 0), (22, 2, 2, 0, 0, 23, 0), (23, 44, 1, 20, 0, 26, 64), (26, 15, 0, 0, 0, 29, 39), (29, 3, 0, 0, 0, 30, 0), (30, 2, 2, 0, 0, 31, 0), (31, 1, 0, 0, nI 2, 32, 0), (32, 1, 0, 0, -9, 34, 0), (34, 44, 3, 17, 0, 37, 53), (37, 1, 0, 0, nI 1, 38, 0), (38, 41, 0, 0, 0, 39, 0), (39, 12, 2, 0, -1, 42, 0), (42, 13, 0, 0, 0, 7, 0), (45, 1, 0, 0, nI 0, 46, 0), (46, 41, 0, 0, 0, 47, 0)]
def jX2_displaceSecondClass : JT := (26, yX2_displaceSecondClass, cX2_displaceSecondClass, 3, (some .boolean), 2, 44, 2, tX2_displaceSecondClass)
theorem okX2_displaceSecondClass : e_T jX2_displaceSecondClass := ⟨by decide +kernel, rfl, rfl, by decide +kernel⟩
def tX2_listBag : List (Nat × OpT) := [(0, 3, 1, 0, 0, 1, 0), (1, 1, 0, 0, nI 0, 2, 0), (2, 31, 1, 3, 0, 5, 67), (5, 1, 0, 0, nI 1, 6, 0), (6, 4, 2, 0, 0, 7, 0), (7, 2, 2, 0, 0, 8, 0), (8, 16, 0, 0, 0, 11, 36), (11, 1, 0, 0, nI 2, 12, 0), (12, 4, 3, 0, 0, 13, 0), (13, 2, 3, 0, 0, 14, 0), (14, 16, 0, 0, 0, 17, 30), (17, 3, 0, 0, 0, 18, 0), (18, 2, 2, 0, 0, 19, 0), (19, 2, 3, 0, 0, 20, 0), (20, 3, 1, 0, 0, 21, 0), (21, 44, 3, 28, 0, 24, 72), (24, 12, 3, 0, -1, 27, 0), (27, 13, 0, 0, 0, 13, 0), (30, 12, 2, 0, -1, 33, 0), (33, 13, 0, 0, 0, 7, 0), (36, 42, 0, 0, 0, 37, 0)]
def jX2_listBag : JT := (27, yX2_listBag, cX2_listBag, 4, none, 2, 45, 2, tX2_listBag)
theorem okX2_listBag : e_T jX2_listBag := ⟨by decide +kernel, rfl, rfl, by decide +kernel⟩
def tX2_addFromBag : List (Nat × OpT) := [(0, 1, 0, 0, nI 0, 1, 0), (1, 4, 4, 0, 0, 3, 0), (3, 2, 4, 0, 0, 5, 0), (5, 3, 0, 0, 0, 6, 0), (6, 30, 8, 2, 0, 9, 42), (9, 23, 0, 0, 0, 12, 56), (12, 3, 0, 0, 0, 13, 0), (13, 30, 3, 2, 0, 16, 21), (16, 2, 4, 0, 0, 18, 0), (18, 32, 0, 0, 0, 19, 0), (19, 15, 0, 0, 0, 22, 50), (22, 3, 0, 0, 0, 23, 0), (23, 30, 1, 2, 0, 26, 15), (26, 2, 4, 0, 0, 28, 0), (28, 32, 0, 0, 0, 29, 0), (29, 2, 1, 0, 0, 30, 0), (30, 21, 0, 0, 0, 33, 50), (33, 3, 0, 0, 0, 34, 0), (34, 30, 2, 2, 0, 37, 18), (37, 2, 4, 0, 0, 39, 0), (39, 32, 0, 0, 0, 40, 0), (40, 2, 2, 0, 0, 41, 0), (41, 21, 0, 0, 0, 44, 50), (44, 3, 3, 0, 0, 45, 0), (45, 2, 4, 0, 0, 47, 0), (47, 44, 1, 34, 0, 50, 76), (50, 12, 4, 0, nI 1, 53, 0), (53, 13, 0, 0, 0, 3, 0), (56, 42, 0, 0, 0, 57, 0)]
def jX2_addFromBag : JT := (28, yX2_addFromBag, cX2_addFromBag, 5, none, 1, 21, 2, tX2_addFromBag)
theorem okX2_addFromBag : e_T jX2_addFromBag := ⟨by decide +kernel, rfl, rfl, by decide +kernel⟩
def tX2_listByCode : List (Nat × OpT) := [(0, 3, 3, 0, 0, 1, 0), (1, 1, 0, 0, nI 0, 2, 0), (2, 31, 1, 3, 0, 5, 67), (5, 1, 0, 0, nI 0, 6, 0), (6, 4, 4, 0, 0, 8, 0), (8, 2, 4, 0, 0, 10, 0), (10, 3, 0, 0, 0, 11, 0), (11, 30, 8, 2, 0, 14, 42), (14, 23, 0, 0, 0, 17, 41), (17, 3, 0, 0, 0, 18, 0), (18, 2, 4, 0, 0, 20, 0), (20, 2, 1, 0, 0, 21, 0), (21, 2, 2, 0, 0, 22, 0), (22, 44, 3, 32, 0, 25, 60), (25, 14, 0, 0, 0, 28, 35), (28, 3, 0, 0, 0, 29, 0), (29, 2, 4, 0, 0, 31, 0), (31, 3, 3, 0, 0, 32, 0), (32, 44, 2, 30, 0, 35, 80), (35, 12, 4, 0, nI 1, 38, 0), (38, 13, 0, 0, 0, 8, 0), (41, 42, 0, 0, 0, 42, 0)]
def jX2_listByCode : JT := (29, yX2_listByCode, cX2_listByCode, 5, none, 3, 66, 2, tX2_listByCode)
theorem okX2_listByCode : e_T jX2_listByCode := ⟨by decide +kernel, rfl, rfl, by decide +kernel⟩
def tX2_insertByCode : List (Nat × OpT) := [(0, 3, 2, 0, 0, 1, 0), (1, 2, 1, 0, 0, 2, 0), (2, 44, 1, 34, 0, 5, 76), (5, 3, 2, 0, 0, 6, 0), (6, 30, 1, 3, 0, 9, 67), (9, 1, 0, 0, nI 1, 10, 0), (10, 7, 0, 0, 0, 11, 0), (11, 4, 3, 0, 0, 12, 0), (12, 2, 3, 0, 0, 13, 0), (13, 19, 0, 0, 0, 16, 42), (16, 3, 0, 0, 0, 17, 0), (17, 3, 2, 0, 0, 18, 0), (18, 2, 3, 0, 0, 19, 0), (19, 1, 0, 0, nI 1, 20, 0), (20, 7, 0, 0, 0, 21, 0), (21, 44, 1, 36, 0, 24, 84), (24, 2, 1, 0, 0, 25, 0), (25, 44, 2, 31, 0, 28, 88), (28, 14, 0, 0, 0, 31, 42), (31, 3, 2, 0, 0, 32, 0), (32, 2, 3, 0, 0, 33, 0), (33, 44, 1, 35, 0, 36, 92), (36, 12, 3, 0, -1, 39, 0), (39, 13, 0, 0, 0, 12, 0), (42, 42, 0, 0, 0, 43, 0)]
def jX2_insertByCode : JT := (30, yX2_insertByCode, cX2_insertByCode, 4, none, 2, 43, 2, tX2_insertByCode)
theorem okX2_insertByCode : e_T jX2_insertByCode := ⟨by decide +kernel, rfl, rfl, by decide +kernel⟩
def tX2_hasGreaterCode : List (Nat × OpT) := [(0, 3, 0, 0, 0, 1, 0), (1, 2, 1, 0, 0, 2, 0), (2, 44, 1, 15, 0, 5, 46), (5, 14, 0, 0, 0, 8, 35), (8, 3, 0, 0, 0, 9, 0), (9, 2, 2, 0, 0, 10, 0), (10, 44, 1, 15, 0, 13, 46), (13, 14, 0, 0, 0, 16, 35), (16, 3, 0, 0, 0, 17, 0), (17, 30, 0, 2, 0, 20, 9), (20, 2, 1, 0, 0, 21, 0), (21, 32, 0, 0, 0, 22, 0), (22, 3, 0, 0, 0, 23, 0), (23, 30, 0, 2, 0, 26, 9), (26, 2, 2, 0, 0, 27, 0), (27, 32, 0, 0, 0, 28, 0), (28, 25, 0, 0, 0, 31, 35), (31, 1, 0, 0, nI 1, 32, 0), (32, 13, 0, 0, 0, 36, 0), (35, 1, 0, 0, nI 0, 36, 0), (36, 41, 0, 0, 0, 37, 0)]
def jX2_hasGreaterCode : JT := (31, yX2_hasGreaterCode, cX2_hasGreaterCode, 3, (some .boolean), 1, 21, 2, tX2_hasGreaterCode)
theorem okX2_hasGreaterCode : e_T jX2_hasGreaterCode := ⟨by decide +kernel, rfl, rfl, by decide +kernel⟩
def tX2_isAt : List (Nat × OpT) := [(0, 3, 0, 0, 0, 1, 0), (1, 2, 1, 0, 0, 2, 0), (2, 44, 1, 15, 0, 5, 46), (5, 14, 0, 0, 0, 8, 32), (8, 3, 0, 0, 0, 9, 0), (9, 30, 3, 2, 0, 12, 21), (12, 2, 1, 0, 0, 13, 0), (13, 32, 0, 0, 0, 14, 0), (14, 2, 2, 0, 0, 15, 0), (15, 21, 0, 0, 0, 18, 32), (18, 3, 0, 0, 0, 19, 0), (19, 30, 4, 2, 0, 22, 24), (22, 2, 1, 0, 0, 23, 0), (23, 32, 0, 0, 0, 24, 0), (24, 2, 3, 0, 0, 25, 0), (25, 21, 0, 0, 0, 28, 32), (28, 1, 0, 0, nI 1, 29, 0), (29, 13, 0, 0, 0, 33, 0), (32, 1, 0, 0, nI 0, 33, 0), (33, 41, 0, 0, 0, 34, 0)]
def jX2_isAt : JT := (32, yX2_isAt, cX2_isAt, 4, (some .boolean), 1, 21, 2, tX2_isAt)
theorem okX2_isAt : e_T jX2_isAt := ⟨by decide +kernel, rfl, rfl, by decide +kernel⟩
def tX3_init : List (Nat × OpT) := [(0, 3, 0, 0, 0, 1, 0), (1, 51, 0, 0, 0, 4, 3), (4, 3, 0, 0, 0, 5, 0), (5, 1, 0, 0, nI 120, 7, 0), (7, 48, 0, 0, 0, 9, 0), (9, 31, 0, 3, 0, 12, 9), (12, 42, 0, 0, 0, 13, 0)]
def jX3_init : JT := (33, yX3_init, cX3_init, 1, none, 1, 20, 3, tX3_init)
theorem okX3_init : e_T jX3_init := ⟨by decide +kernel, rfl, rfl, by decide +kernel⟩
def tX3_addLast : List (Nat × OpT) := [(0, 3, 0, 0, 0, 1, 0), (1, 30, 1, 3, 0, 4, 15), (4, 3, 0, 0, 0, 5, 0), (5, 30, 0, 3, 0, 8, 9), (8, 40, 0, 0, 0, 9, 0), (9, 23, 0, 0, 0, 12, 32), (12, 3, 0, 0, 0, 13, 0), (13, 30, 0, 3, 0, 16, 9), (16, 3, 0, 0, 0, 17, 0), (17, 30, 1, 3, 0, 20, 15), (20, 2, 1, 0, 0, 21, 0), (21, 36, 0, 0, 0, 22, 0), (22, 3, 0, 0, 0, 23, 0), (23, 26, 0, 0, 0, 24, 0), (24, 30, 1, 3, 0, 27, 15), (27, 1, 0, 0, nI 1, 28, 0), (28, 6, 0, 0, 0, 29, 0), (29, 31, 1, 3, 0, 32, 15), (32, 42, 0, 0, 0, 33, 0)]
def jX3_addLast : JT := (34, yX3_addLast, cX3_addLast, 2, none, 0, 0, 3, tX3_addLast)
theorem okX3_addLast : e_T jX3_addLast := ⟨by decide +kernel, rfl, rfl, by decide +kernel⟩
def tX3_swapWithPrevious : List (Nat × OpT) := [(0, 2, 1, 0, 0, 1, 0), (1, 19, 0, 0, 0, 4, 42), (4, 2, 1, 0, 0, 5, 0), (5, 3, 0, 0, 0, 6, 0), (6, 30, 1, 3, 0, 9, 15), (9, 23, 0, 0, 0, 12, 42), (12, 3, 0, 0, 0, 13, 0), (13, 30, 0, 3, 0, 16, 9), (16, 2, 1, 0, 0, 17, 0), (17, 32, 0, 0, 0, 18, 0), (18, 4, 2, 0, 0, 19, 0), (19, 3, 0, 0, 0, 20, 0), (20, 30, 0, 3, 0, 23, 9), (23, 2, 1, 0, 0, 24, 0), (24, 3, 0, 0, 0, 25, 0), (25, 30, 0, 3, 0, 28, 9), (28, 2, 1, 0, 0, 29, 0), (29, 1, 0, 0, nI 1, 30, 0), (30, 7, 0, 0, 0, 31, 0), (31, 32, 0, 0, 0, 32, 0), (32, 36, 0, 0, 0, 33, 0), (33, 3, 0, 0, 0, 34, 0), (34, 30, 0, 3, 0, 37, 9), (37, 2, 1, 0, 0, 38, 0), (38, 1, 0, 0, nI 1, 39, 0), (39, 7, 0, 0, 0, 40, 0), (40, 2, 2, 0, 0, 41, 0), (41, 36, 0, 0, 0, 42, 0), (42, 42, 0, 0, 0, 43, 0)]
def jX3_swapWithPrevious : JT := (35, yX3_swapWithPrevious, cX3_swapWithPrevious, 3, none, 0, 0, 3, tX3_swapWithPrevious)
theorem okX3_swapWithPrevious : e_T jX3_swapWithPrevious := ⟨by decide +kernel, rfl, rfl, by decide +kernel⟩
def tX3_letterAt : List (Nat × OpT) := [(0, 2, 1, 0, 0, 1, 0), (1, 16, 0, 0, 0, 4, 21), (4, 2, 1, 0, 0, 5, 0), (5, 3, 0, 0, 0, 6, 0), (6, 30, 1, 3, 0, 9, 15), (9, 23, 0, 0, 0, 12, 21), (12, 3, 0, 0, 0, 13, 0), (13, 30, 0, 3, 0, 16, 9), (16, 2, 1, 0, 0, 17, 0), (17, 32, 0, 0, 0, 18, 0), (18, 13, 0, 0, 0, 23, 0), (21, 1, 0, 0, -9, 23, 0), (23, 41, 0, 0, 0, 24, 0)]
def jX3_letterAt : JT := (36, yX3_letterAt, cX3_letterAt, 2, (some .int), 0, 0, 3, tX3_letterAt)
theorem okX3_letterAt : e_T jX3_letterAt := ⟨by decide +kernel, rfl, rfl, by decide +kernel⟩
def tX4_init : List (Nat × OpT) := [(0, 3, 0, 0, 0, 1, 0), (1, 51, 0, 0, 0, 4, 3), (4, 3, 0, 0, 0, 5, 0), (5, 47, 0, 0, 0, 8, 9), (8, 26, 0, 0, 0, 9, 0), (9, 45, 0, 41, 0, 12, 11), (12, 31, 0, 4, 0, 15, 12), (15, 3, 0, 0, 0, 16, 0), (16, 1, 0, 0, nI 2, 17, 0), (17, 49, 0, 0, 0, 20, 9), (20, 31, 1, 4, 0, 23, 18), (23, 3, 0, 0, 0, 24, 0), (24, 1, 0, 0, nI 2, 25, 0), (25, 48, 0, 0, 0, 27, 0), (27, 31, 2, 4, 0, 30, 22), (30, 1, 0, 0, nI 0, 31, 0), (31, 4, 1, 0, 0, 32, 0), (32, 2, 1, 0, 0, 33, 0), (33, 1, 0, 0, nI 2, 34, 0), (34, 23, 0, 0, 0, 37, 56), (37, 3, 0, 0, 0, 38, 0), (38, 30, 1, 4, 0, 41, 18), (41, 2, 1, 0, 0, 42, 0), (42, 47, 0, 0, 0, 45, 9), (45, 26, 0, 0, 0, 46, 0), (46, 45, 0, 41, 0, 49, 11), (49, 39, 0, 0, 0, 50, 0), (50, 12, 1, 0, nI 1, 53, 0), (53, 13, 0, 0, 0, 32, 0), (56, 42, 0, 0, 0, 57, 0)]
def jX4_init : JT := (37, yX4_init, cX4_init, 2, none, 4, 87, 4, tX4_init)
theorem okX4_init : e_T jX4_init := ⟨by decide +kernel, rfl, rfl, by decide +kernel⟩
def tX4_copyFrom : List (Nat × OpT) := [(0, 3, 0, 0, 0, 1, 0), (1, 30, 0, 4, 0, 4, 12), (4, 3, 1, 0, 0, 5, 0), (5, 30, 0, 4, 0, 8, 12), (8, 44, 1, 42, 0, 11, 26), (11, 1, 0, 0, nI 0, 12, 0), (12, 4, 2, 0, 0, 13, 0), (13, 2, 2, 0, 0, 14, 0), (14, 1, 0, 0, nI 2, 15, 0), (15, 23, 0, 0, 0, 18, 60), (18, 3, 0, 0, 0, 19, 0), (19, 30, 2, 4, 0, 22, 22), (22, 2, 2, 0, 0, 23, 0), (23, 3, 1, 0, 0, 24, 0), (24, 30, 2, 4, 0, 27, 22), (27, 2, 2, 0, 0, 28, 0), (28, 33, 0, 0, 0, 29, 0), (29, 37, 0, 0, 0, 30, 0), (30, 3, 0, 0, 0, 31, 0), (31, 30, 2, 4, 0, 34, 22), (34, 2, 2, 0, 0, 35, 0), (35, 33, 0, 0, 0, 36, 0), (36, 14, 0, 0, 0, 39, 54), (39, 3, 0, 0, 0, 40, 0), (40, 30, 1, 4, 0, 43, 18), (43, 2, 2, 0, 0, 44, 0), (44, 35, 0, 0, 0, 45, 0), (45, 3, 1, 0, 0, 46, 0), (46, 30, 1, 4, 0, 49, 18), (49, 2, 2, 0, 0, 50, 0), (50, 35, 0, 0, 0, 51, 0), (51, 44, 1, 42, 0, 54, 26), (54, 12, 2, 0, nI 1, 57, 0), (57, 13, 0, 0, 0, 13, 0), (60, 42, 0, 0, 0, 61, 0)]
def jX4_copyFrom : JT := (38, yX4_copyFrom, cX4_copyFrom, 3, none, 3, 72, 4, tX4_copyFrom)
theorem okX4_copyFrom : e_T jX4_copyFrom := ⟨by decide +kernel, rfl, rfl, by decide +kernel⟩
def tX4_fillSlot : List (Nat × OpT) := [(0, 3, 0, 0, 0, 1, 0), (1, 30, 1, 4, 0, 4, 18), (4, 2, 1, 0, 0, 5, 0), (5, 35, 0, 0, 0, 6, 0), (6, 3, 0, 0, 0, 7, 0), (7, 30, 0, 4, 0, 10, 12), (10, 44, 1, 42, 0, 13, 26), (13, 3, 0, 0, 0, 14, 0), (14, 30, 2, 4, 0, 17, 22), (17, 2, 1, 0, 0, 18, 0), (18, 1, 0, 0, nI 1, 19, 0), (19, 37, 0, 0, 0, 20, 0), (20, 42, 0, 0, 0, 21, 0)]
def jX4_fillSlot : JT := (39, yX4_fillSlot, cX4_fillSlot, 2, none, 3, 72, 4, tX4_fillSlot)
theorem okX4_fillSlot : e_T jX4_fillSlot := ⟨by decide +kernel, rfl, rfl, by decide +kernel⟩
def tX4_countSnapshots : List (Nat × OpT) := [(0, 1, 0, 0, nI 0, 1, 0), (1, 4, 1, 0, 0, 2, 0), (2, 1, 0, 0, nI 0, 3, 0), (3, 4, 2, 0, 0, 4, 0), (4, 2, 2, 0, 0, 5, 0), (5, 1, 0, 0, nI 2, 6, 0), (6, 23, 0, 0, 0, 9, 27), (9, 3, 0, 0, 0, 10, 0), (10, 30, 2, 4, 0, 13, 22), (13, 2, 2, 0, 0, 14, 0), (14, 33, 0, 0, 0, 15, 0), (15, 14, 0, 0, 0, 18, 21), (18, 12, 1, 0, nI 1, 21, 0), (21, 12, 2, 0, nI 1, 24, 0), (24, 13, 0, 0, 0, 4, 0), (27, 2, 1, 0, 0, 28, 0), (28, 41, 0, 0, 0, 29, 0)]
def jX4_countSnapshots : JT := (40, yX4_countSnapshots, cX4_countSnapshots, 3, (some .int), 0, 0, 4, tX4_countSnapshots)
theorem okX4_countSnapshots : e_T jX4_countSnapshots := ⟨by decide +kernel, rfl, rfl, by decide +kernel⟩
def tX5_init : List (Nat × OpT) := [(0, 3, 0, 0, 0, 1, 0), (1, 51, 0, 0, 0, 4, 3), (4, 3, 0, 0, 0, 5, 0), (5, 47, 0, 0, 0, 8, 9), (8, 26, 0, 0, 0, 9, 0), (9, 45, 0, 68, 0, 12, 11), (12, 31, 0, 5, 0, 15, 12), (15, 3, 0, 0, 0, 16, 0), (16, 47, 0, 0, 0, 19, 18), (19, 26, 0, 0, 0, 20, 0), (20, 45, 0, 13, 0, 23, 20), (23, 31, 1, 5, 0, 26, 21), (26, 3, 0, 0, 0, 27, 0), (27, 47, 0, 0, 0, 30, 25), (30, 26, 0, 0, 0, 31, 0), (31, 45, 0, 0, 0, 34, 27), (34, 31, 2, 5, 0, 37, 28), (37, 3, 0, 0, 0, 38, 0), (38, 1, 0, 0, nI 8, 40, 0), (40, 48, 0, 0, 0, 42, 0), (42, 31, 3, 5, 0, 45, 32), (45, 3, 0, 0, 0, 46, 0), (46, 1, 0, 0, nI 0, 47, 0), (47, 31, 5, 5, 0, 50, 36), (50, 3, 0, 0, 0, 51, 0), (51, 1, 0, 0, nI 10, 53, 0), (53, 31, 6, 5, 0, 56, 40), (56, 3, 0, 0, 0, 57, 0), (57, 1, 0, 0, nI 8, 59, 0), (59, 31, 7, 5, 0, 62, 43), (62, 1, 0, 0, nI 0, 63, 0), (63, 4, 1, 0, 0, 64, 0), (64, 2, 1, 0, 0, 65, 0), (65, 1, 0, 0, nI 8, 67, 0), (67, 23, 0, 0, 0, 70, 84), (70, 3, 0, 0, 0, 71, 0), (71, 30, 3, 5, 0, 74, 32), (74, 2, 1, 0, 0, 75, 0), (75, 1, 0, 0, nI 6, 77, 0), (77, 36, 0, 0, 0, 78, 0), (78, 12, 1, 0, nI 1, 81, 0), (81, 13, 0, 0, 0, 64, 0), (84, 42, 0, 0, 0, 85, 0)]
def jX5_init : JT := (41, yX5_init, cX5_init, 2, none, 3, 66, 5, tX5_init)
theorem okX5_init : e_T jX5_init := ⟨by decide +kernel, rfl, rfl, by decide +kernel⟩
def tX5_copyFrom : List (Nat × OpT) := [(0, 3, 0, 0, 0, 1, 0), (1, 30, 0, 5, 0, 4, 12), (4, 3, 1, 0, 0, 5, 0), (5, 30, 0, 5, 0, 8, 12), (8, 44, 1, 69, 0, 11, 46), (11, 3, 0, 0, 0, 12, 0), (12, 30, 1, 5, 0, 15, 21), (15, 3, 1, 0, 0, 16, 0), (16, 30, 1, 5, 0, 19, 21), (19, 44, 1, 14, 0, 22, 50), (22, 3, 0, 0, 0, 23, 0), (23, 30, 2, 5, 0, 26, 28), (26, 3, 1, 0, 0, 27, 0), (27, 30, 2, 5, 0, 30, 28), (30, 44, 1, 1, 0, 33, 53), (33, 3, 1, 0, 0, 34, 0), (34, 30, 3, 5, 0, 37, 32), (37, 1, 0, 0, nI 0, 38, 0), (38, 3, 0, 0, 0, 39, 0), (39, 30, 3, 5, 0, 42, 32), (42, 1, 0, 0, nI 0, 43, 0), (43, 1, 0, 0, nI 8, 45, 0), (45, 54, 0, 0, 0, 48, 56), (48, 3, 0, 0, 0, 49, 0), (49, 3, 1, 0, 0, 50, 0), (50, 30, 4, 5, 0, 53, 62), (53, 31, 4, 5, 0, 56, 62), (56, 3, 0, 0, 0, 57, 0), (57, 3, 1, 0, 0, 58, 0), (58, 30, 5, 5, 0, 61, 36), (61, 31, 5, 5, 0, 64, 36), (64, 3, 0, 0, 0, 65, 0), (65, 3, 1, 0, 0, 66, 0), (66, 30, 6, 5, 0, 69, 40), (69, 31, 6, 5, 0, 72, 40), (72, 3, 0, 0, 0, 73, 0), (73, 3, 1, 0, 0, 74, 0), (74, 30, 7, 5, 0, 77, 43), (77, 31, 7, 5, 0, 80, 43), (80, 42, 0, 0, 0, 81, 0)]
def jX5_copyFrom : JT := (42, yX5_copyFrom, cX5_copyFrom, 2, none, 2, 51, 5, tX5_copyFrom)
theorem okX5_copyFrom : e_T jX5_copyFrom := ⟨by decide +kernel, rfl, rfl, by decide +kernel⟩
def tX5_number : List (Nat × OpT) := [(0, 2, 1, 0, 0, 1, 0), (1, 43, 0, 0, 0, 28, 0), (28, 3, 0, 0, 0, 29, 0), (29, 30, 5, 5, 0, 32, 36), (32, 41, 0, 0, 0, 33, 0), (33, 3, 0, 0, 0, 34, 0), (34, 30, 6, 5, 0, 37, 40), (37, 41, 0, 0, 0, 38, 0), (38, 3, 0, 0, 0, 39, 0), (39, 30, 7, 5, 0, 42, 43), (42, 41, 0, 0, 0, 43, 0), (43, 2, 1, 0, 0, 44, 0), (44, 46, 1, 102, 0, 47, 65), (47, 14, 0, 0, 0, 50, 59), (50, 3, 0, 0, 0, 51, 0), (51, 30, 3, 5, 0, 54, 32), (54, 2, 1, 0, 0, 55, 0), (55, 32, 0, 0, 0, 56, 0), (56, 13, 0, 0, 0, 61, 0), (59, 1, 0, 0, -9, 61, 0), (61, 41, 0, 0, 0, 62, 0)]
def jX5_number : JT := (43, yX5_number, cX5_number, 2, (some .int), 1, 20, 5, tX5_number)
theorem okX5_number : e_T jX5_number := ⟨by decide +kernel, rfl, rfl, by decide +kernel⟩
def tX5_changeNumber : List (Nat × OpT) := [(0, 2, 1, 0, 0, 1, 0), (1, 43, 0, 0, 0, 28, 0), (28, 3, 0, 0, 0, 29, 0), (29, 2, 2, 0, 0, 30, 0), (30, 31, 5, 5, 0, 33, 36), (33, 13, 0, 0, 0, 66, 0), (36, 3, 0, 0, 0, 37, 0), (37, 2, 2, 0, 0, 38, 0), (38, 31, 6, 5, 0, 41, 40), (41, 13, 0, 0, 0, 66, 0), (44, 3, 0, 0, 0, 45, 0), (45, 2, 2, 0, 0, 46, 0), (46, 31, 7, 5, 0, 49, 43), (49, 13, 0, 0, 0, 66, 0), (52, 2, 1, 0, 0, 53, 0), (53, 46, 1, 102, 0, 56, 65), (56, 14, 0, 0, 0, 59, 66), (59, 3, 0, 0, 0, 60, 0), (60, 30, 3, 5, 0, 63, 32), (63, 2, 1, 0, 0, 64, 0), (64, 2, 2, 0, 0, 65, 0), (65, 36, 0, 0, 0, 66, 0), (66, 42, 0, 0, 0, 67, 0)]
def jX5_changeNumber : JT := (44, yX5_changeNumber, cX5_changeNumber, 3, none, 1, 20, 5, tX5_changeNumber)
theorem okX5_changeNumber : e_T jX5_changeNumber := ⟨by decide +kernel, rfl, rfl, by decide +kernel⟩
def tX5_walkOf : List (Nat × OpT) := [(0, 3, 0, 0, 0, 1, 0), (1, 30, 1, 5, 0, 4, 21), (4, 2, 1, 0, 0, 5, 0), (5, 44, 1, 15, 0, 8, 69), (8, 14, 0, 0, 0, 11, 30), (11, 3, 0, 0, 0, 12, 0), (12, 30, 0, 5, 0, 15, 12), (15, 3, 0, 0, 0, 16, 0), (16, 30, 1, 5, 0, 19, 21), (19, 30, 0, 2, 0, 22, 72), (22, 2, 1, 0, 0, 23, 0), (23, 32, 0, 0, 0, 24, 0), (24, 44, 1, 70, 0, 27, 75), (27, 13, 0, 0, 0, 32, 0), (30, 1, 0, 0, -9, 32, 0), (32, 41, 0, 0, 0, 33, 0)]
def jX5_walkOf : JT := (45, yX5_walkOf, cX5_walkOf, 2, (some .int), 2, 43, 5, tX5_walkOf)
theorem okX5_walkOf : e_T jX5_walkOf := ⟨by decide +kernel, rfl, rfl, by decide +kernel⟩
def tX5_freeHoles : List (Nat × OpT) := [(0, 2, 1, 0, 0, 1, 0), (1, 46, 1, 102, 0, 4, 65), (4, 14, 0, 0, 0, 7, 30), (7, 3, 0, 0, 0, 8, 0), (8, 30, 3, 5, 0, 11, 32), (11, 2, 1, 0, 0, 12, 0), (12, 32, 0, 0, 0, 13, 0), (13, 3, 0, 0, 0, 14, 0), (14, 30, 1, 5, 0, 17, 21), (17, 30, 7, 2, 0, 20, 79), (20, 2, 1, 0, 0, 21, 0), (21, 32, 0, 0, 0, 22, 0), (22, 7, 0, 0, 0, 23, 0), (23, 1, 0, 0, nI 0, 24, 0), (24, 52, 0, 0, 0, 27, 82), (27, 13, 0, 0, 0, 31, 0), (30, 1, 0, 0, nI 0, 31, 0), (31, 41, 0, 0, 0, 32, 0)]
def jX5_freeHoles : JT := (46, yX5_freeHoles, cX5_freeHoles, 2, (some .int), 1, 21, 5, tX5_freeHoles)
theorem okX5_freeHoles : e_T jX5_freeHoles := ⟨by decide +kernel, rfl, rfl, by decide +kernel⟩
def tX5_countStrayLetters : List (Nat × OpT) := [(0, 1, 0, 0, nI 0, 1, 0), (1, 4, 1, 0, 0, 2, 0), (2, 1, 0, 0, nI 0, 3, 0), (3, 4, 2, 0, 0, 4, 0), (4, 2, 2, 0, 0, 5, 0), (5, 3, 0, 0, 0, 6, 0), (6, 30, 1, 5, 0, 9, 21), (9, 30, 8, 2, 0, 12, 88), (12, 23, 0, 0, 0, 15, 54), (15, 3, 0, 0, 0, 16, 0), (16, 30, 1, 5, 0, 19, 21), (19, 30, 3, 2, 0, 22, 91), (22, 2, 2, 0, 0, 23, 0), (23, 32, 0, 0, 0, 24, 0), (24, 1, 0, 0, nI 1, 25, 0), (25, 21, 0, 0, 0, 28, 48), (28, 3, 0, 0, 0, 29, 0), (29, 30, 1, 5, 0, 32, 21), (32, 30, 4, 2, 0, 35, 94), (35, 2, 2, 0, 0, 36, 0), (36, 32, 0, 0, 0, 37, 0), (37, 3, 0, 0, 0, 38, 0), (38, 2, 2, 0, 0, 39, 0), (39, 44, 1, 45, 0, 42, 97), (42, 20, 0, 0, 0, 45, 48), (45, 12, 1, 0, nI 1, 48, 0), (48, 12, 2, 0, nI 1, 51, 0), (51, 13, 0, 0, 0, 4, 0), (54, 2, 1, 0, 0, 55, 0), (55, 41, 0, 0, 0, 56, 0)]
def jX5_countStrayLetters : JT := (47, yX5_countStrayLetters, cX5_countStrayLetters, 3, (some .int), 3, 64, 5, tX5_countStrayLetters)
theorem okX5_countStrayLetters : e_T jX5_countStrayLetters := ⟨by decide +kernel, rfl, rfl, by decide +kernel⟩
def tX5_isCleared : List (Nat × OpT) := [(0, 3, 0, 0, 0, 1, 0), (1, 30, 1, 5, 0, 4, 21), (4, 1, 0, 0, nI 0, 5, 0), (5, 44, 1, 22, 0, 8, 98), (8, 15, 0, 0, 0, 11, 26), (11, 3, 0, 0, 0, 12, 0), (12, 30, 1, 5, 0, 15, 21), (15, 1, 0, 0, nI 2, 16, 0), (16, 44, 1, 22, 0, 19, 98), (19, 15, 0, 0, 0, 22, 26), (22, 1, 0, 0, nI 1, 23, 0), (23, 13, 0, 0, 0, 27, 0), (26, 1, 0, 0, nI 0, 27, 0), (27, 41, 0, 0, 0, 28, 0)]
def jX5_isCleared : JT := (48, yX5_isCleared, cX5_isCleared, 1, (some .boolean), 1, 23, 5, tX5_isCleared)
theorem okX5_isCleared : e_T jX5_isCleared := ⟨by decide +kernel, rfl, rfl, by decide +kernel⟩
def tX5_passHour : List (Nat × OpT) := [(0, 3, 0, 0, 0, 1, 0), (1, 26, 0, 0, 0, 2, 0), (2, 30, 4, 5, 0, 5, 62), (5, 1, 0, 0, nI 1, 6, 0), (6, 6, 0, 0, 0, 7, 0), (7, 31, 4, 5, 0, 10, 62), (10, 3, 0, 0, 0, 11, 0), (11, 30, 1, 5, 0, 14, 21), (14, 44, 0, 21, 0, 17, 101), (17, 3, 0, 0, 0, 18, 0), (18, 30, 1, 5, 0, 21, 21), (21, 3, 1, 0, 0, 22, 0), (22, 44, 1, 27, 0, 25, 104), (25, 3, 0, 0, 0, 26, 0), (26, 30, 6, 5, 0, 29, 40), (29, 3, 1, 0, 0, 30, 0), (30, 30, 1, 3, 0, 33, 108), (33, 53, 0, 0, 0, 36, 113), (36, 4, 2, 0, 0, 37, 0), (37, 1, 0, 0, nI 0, 38, 0), (38, 4, 3, 0, 0, 39, 0), (39, 1, 0, 0, nI 0, 40, 0), (40, 4, 4, 0, 0, 42, 0), (42, 2, 4, 0, 0, 44, 0), (44, 2, 2, 0, 0, 45, 0), (45, 23, 0, 0, 0, 48, 70), (48, 3, 0, 0, 0, 49, 0), (49, 3, 1, 0, 0, 50, 0), (50, 2, 4, 0, 0, 52, 0), (52, 44, 1, 36, 0, 55, 116), (55, 44, 1, 50, 0, 58, 119), (58, 14, 0, 0, 0, 61, 64), (61, 12, 3, 0, nI 1, 64, 0), (64, 12, 4, 0, nI 1, 67, 0), (67, 13, 0, 0, 0, 42, 0), (70, 2, 3, 0, 0, 71, 0), (71, 41, 0, 0, 0, 72, 0)]
def jX5_passHour : JT := (49, yX5_passHour, cX5_passHour, 5, (some .int), 5, 110, 5, tX5_passHour)
theorem okX5_passHour : e_T jX5_passHour := ⟨by decide +kernel, rfl, rfl, by decide +kernel⟩
def tX5_sort : List (Nat × OpT) := [(0, 3, 0, 0, 0, 1, 0), (1, 2, 1, 0, 0, 2, 0), (2, 44, 1, 51, 0, 5, 122), (5, 4, 2, 0, 0, 6, 0), (6, 2, 2, 0, 0, 7, 0), (7, 1, 0, 0, -9, 9, 0), (9, 21, 0, 0, 0, 12, 25), (12, 3, 0, 0, 0, 13, 0), (13, 30, 1, 5, 0, 16, 21), (16, 2, 1, 0, 0, 17, 0), (17, 1, 0, 0, nI 2, 18, 0), (18, 1, 0, 0, -9, 20, 0), (20, 44, 3, 17, 0, 23, 125), (23, 1, 0, 0, nI 0, 24, 0), (24, 41, 0, 0, 0, 25, 0), (25, 3, 0, 0, 0, 26, 0), (26, 30, 1, 5, 0, 29, 21), (29, 2, 1, 0, 0, 30, 0), (30, 1, 0, 0, nI 1, 31, 0), (31, 2, 2, 0, 0, 32, 0), (32, 44, 3, 17, 0, 35, 125), (35, 1, 0, 0, nI 1, 36, 0), (36, 41, 0, 0, 0, 37, 0)]
def jX5_sort : JT := (50, yX5_sort, cX5_sort, 3, (some .boolean), 4, 88, 5, tX5_sort)
theorem okX5_sort : e_T jX5_sort := ⟨by decide +kernel, rfl, rfl, by decide +kernel⟩
def tX5_frameFor : List (Nat × OpT) := [(0, 3, 0, 0, 0, 1, 0), (1, 2, 1, 0, 0, 2, 0), (2, 44, 1, 45, 0, 5, 97), (5, 4, 2, 0, 0, 6, 0), (6, 3, 0, 0, 0, 7, 0), (7, 2, 2, 0, 0, 8, 0), (8, 44, 1, 46, 0, 11, 129), (11, 19, 0, 0, 0, 14, 16), (14, 2, 2, 0, 0, 15, 0), (15, 41, 0, 0, 0, 16, 0), (16, 3, 0, 0, 0, 17, 0), (17, 30, 5, 5, 0, 20, 36), (20, 1, 0, 0, nI 1, 21, 0), (21, 21, 0, 0, 0, 24, 53), (24, 3, 0, 0, 0, 25, 0), (25, 30, 1, 5, 0, 28, 21), (28, 2, 1, 0, 0, 29, 0), (29, 44, 1, 20, 0, 32, 132), (32, 14, 0, 0, 0, 35, 53), (35, 3, 0, 0, 0, 36, 0), (36, 30, 1, 5, 0, 39, 21), (39, 2, 2, 0, 0, 40, 0), (40, 44, 1, 26, 0, 43, 135), (43, 14, 0, 0, 0, 46, 50), (46, 2, 2, 0, 0, 47, 0), (47, 13, 0, 0, 0, 52, 0), (50, 1, 0, 0, -9, 52, 0), (52, 41, 0, 0, 0, 53, 0), (53, 3, 0, 0, 0, 54, 0), (54, 30, 5, 5, 0, 57, 36), (57, 1, 0, 0, nI 2, 58, 0), (58, 21, 0, 0, 0, 61, 68), (61, 3, 0, 0, 0, 62, 0), (62, 44, 0, 52, 0, 65, 138), (65, 13, 0, 0, 0, 70, 0), (68, 1, 0, 0, -9, 70, 0), (70, 41, 0, 0, 0, 71, 0)]
def jX5_frameFor : JT := (51, yX5_frameFor, cX5_frameFor, 3, (some .int), 3, 66, 5, tX5_frameFor)
theorem okX5_frameFor : e_T jX5_frameFor := ⟨by decide +kernel, rfl, rfl, by decide +kernel⟩
def tX5_walkWithMostFree : List (Nat × OpT) := [(0, 1, 0, 0, -9, 2, 0), (2, 4, 1, 0, 0, 3, 0), (3, 1, 0, 0, nI 0, 4, 0), (4, 4, 2, 0, 0, 5, 0), (5, 1, 0, 0, nI 0, 6, 0), (6, 4, 3, 0, 0, 7, 0), (7, 2, 3, 0, 0, 8, 0), (8, 1, 0, 0, nI 8, 10, 0), (10, 23, 0, 0, 0, 13, 36), (13, 3, 0, 0, 0, 14, 0), (14, 2, 3, 0, 0, 15, 0), (15, 44, 1, 46, 0, 18, 129), (18, 2, 2, 0, 0, 19, 0), (19, 25, 0, 0, 0, 22, 30), (22, 2, 3, 0, 0, 23, 0), (23, 4, 1, 0, 0, 24, 0), (24, 3, 0, 0, 0, 25, 0), (25, 2, 3, 0, 0, 26, 0), (26, 44, 1, 46, 0, 29, 129), (29, 4, 2, 0, 0, 30, 0), (30, 12, 3, 0, nI 1, 33, 0), (33, 13, 0, 0, 0, 7, 0), (36, 2, 1, 0, 0, 37, 0), (37, 41, 0, 0, 0, 38, 0)]
def jX5_walkWithMostFree : JT := (52, yX5_walkWithMostFree, cX5_walkWithMostFree, 4, (some .int), 2, 42, 5, tX5_walkWithMostFree)
theorem okX5_walkWithMostFree : e_T jX5_walkWithMostFree := ⟨by decide +kernel, rfl, rfl, by decide +kernel⟩
def tX5_canGoOut : List (Nat × OpT) := [(0, 3, 0, 0, 0, 1, 0), (1, 30, 2, 5, 0, 4, 28), (4, 30, 0, 0, 0, 7, 142), (7, 2, 1, 0, 0, 8, 0), (8, 32, 0, 0, 0, 9, 0), (9, 4, 2, 0, 0, 10, 0), (10, 2, 2, 0, 0, 11, 0), (11, 46, 1, 102, 0, 14, 65), (14, 14, 0, 0, 0, 17, 45), (17, 3, 0, 0, 0, 18, 0), (18, 30, 2, 5, 0, 21, 28), (21, 30, 1, 0, 0, 24, 145), (24, 2, 1, 0, 0, 25, 0), (25, 33, 0, 0, 0, 26, 0), (26, 15, 0, 0, 0, 29, 45), (29, 3, 0, 0, 0, 30, 0), (30, 30, 1, 5, 0, 33, 21), (33, 30, 7, 2, 0, 36, 79), (36, 2, 2, 0, 0, 37, 0), (37, 32, 0, 0, 0, 38, 0), (38, 19, 0, 0, 0, 41, 45), (41, 1, 0, 0, nI 1, 42, 0), (42, 13, 0, 0, 0, 46, 0), (45, 1, 0, 0, nI 0, 46, 0), (46, 41, 0, 0, 0, 47, 0)]
def jX5_canGoOut : JT := (53, yX5_canGoOut, cX5_canGoOut, 3, (some .boolean), 1, 20, 5, tX5_canGoOut)
theorem okX5_canGoOut : e_T jX5_canGoOut := ⟨by decide +kernel, rfl, rfl, by decide +kernel⟩
def tX5_sendOut : List (Nat × OpT) := [(0, 3, 0, 0, 0, 1, 0), (1, 30, 1, 5, 0, 4, 21), (4, 1, 0, 0, nI 1, 5, 0), (5, 3, 0, 0, 0, 6, 0), (6, 30, 2, 5, 0, 9, 28), (9, 30, 0, 0, 0, 12, 142), (12, 2, 1, 0, 0, 13, 0), (13, 32, 0, 0, 0, 14, 0), (14, 3, 2, 0, 0, 15, 0), (15, 44, 3, 29, 0, 18, 149), (18, 3, 0, 0, 0, 19, 0), (19, 30, 7, 5, 0, 22, 43), (22, 3, 2, 0, 0, 23, 0), (23, 30, 1, 3, 0, 26, 108), (26, 53, 0, 0, 0, 29, 113), (29, 4, 3, 0, 0, 30, 0), (30, 1, 0, 0, nI 0, 31, 0), (31, 4, 4, 0, 0, 33, 0), (33, 2, 4, 0, 0, 35, 0), (35, 2, 3, 0, 0, 36, 0), (36, 23, 0, 0, 0, 39, 60), (39, 3, 0, 0, 0, 40, 0), (40, 30, 1, 5, 0, 43, 21), (43, 3, 2, 0, 0, 44, 0), (44, 2, 4, 0, 0, 46, 0), (46, 44, 1, 36, 0, 49, 116), (49, 1, 0, 0, nI 3, 50, 0), (50, 2, 1, 0, 0, 51, 0), (51, 44, 3, 17, 0, 54, 125), (54, 12, 4, 0, nI 1, 57, 0), (57, 13, 0, 0, 0, 33, 0), (60, 3, 0, 0, 0, 61, 0), (61, 30, 2, 5, 0, 64, 28), (64, 30, 1, 0, 0, 67, 145), (67, 2, 1, 0, 0, 68, 0), (68, 1, 0, 0, nI 1, 69, 0), (69, 37, 0, 0, 0, 70, 0), (70, 2, 3, 0, 0, 71, 0), (71, 41, 0, 0, 0, 72, 0)]
def jX5_sendOut : JT := (54, yX5_sendOut, cX5_sendOut, 5, (some .int), 4, 90, 5, tX5_sendOut)
theorem okX5_sendOut : e_T jX5_sendOut := ⟨by decide +kernel, rfl, rfl, by decide +kernel⟩
def tX5_bringBack : List (Nat × OpT) := [(0, 3, 0, 0, 0, 1, 0), (1, 30, 2, 5, 0, 4, 28), (4, 30, 0, 0, 0, 7, 142), (7, 2, 1, 0, 0, 8, 0), (8, 32, 0, 0, 0, 9, 0), (9, 4, 3, 0, 0, 10, 0), (10, 3, 0, 0, 0, 11, 0), (11, 30, 1, 5, 0, 14, 21), (14, 1, 0, 0, nI 3, 15, 0), (15, 2, 1, 0, 0, 16, 0), (16, 3, 2, 0, 0, 17, 0), (17, 44, 3, 29, 0, 20, 149), (20, 3, 0, 0, 0, 21, 0), (21, 3, 2, 0, 0, 22, 0), (22, 2, 3, 0, 0, 23, 0), (23, 44, 2, 56, 0, 26, 153), (26, 4, 4, 0, 0, 28, 0), (28, 3, 0, 0, 0, 29, 0), (29, 30, 2, 5, 0, 32, 28), (32, 2, 1, 0, 0, 33, 0), (33, 2, 3, 0, 0, 34, 0), (34, 44, 2, 6, 0, 37, 157), (37, 15, 0, 0, 0, 40, 48), (40, 2, 4, 0, 0, 42, 0), (42, 1, 0, 0, nI 1, 43, 0), (43, 6, 0, 0, 0, 44, 0), (44, 1, 0, 0, nI 2, 45, 0), (45, 9, 0, 0, 0, 46, 0), (46, 4, 4, 0, 0, 48, 0), (48, 2, 4, 0, 0, 50, 0), (50, 4, 5, 0, 0, 52, 0), (52, 1, 0, 0, nI 0, 53, 0), (53, 4, 6, 0, 0, 55, 0), (55, 2, 6, 0, 0, 57, 0), (57, 3, 2, 0, 0, 58, 0), (58, 30, 1, 3, 0, 61, 108), (61, 23, 0, 0, 0, 64, 136), (64, 3, 2, 0, 0, 65, 0), (65, 2, 6, 0, 0, 67, 0), (67, 44, 1, 36, 0, 70, 116), (70, 4, 7, 0, 0, 72, 0), (72, 3, 0, 0, 0, 73, 0), (73, 2, 7, 0, 0, 75, 0), (75, 44, 1, 45, 0, 78, 97), (78, 2, 3, 0, 0, 79, 0), (79, 20, 0, 0, 0, 82, 98), (82, 3, 0, 0, 0, 83, 0), (83, 30, 1, 5, 0, 86, 21), (86, 2, 7, 0, 0, 88, 0), (88, 3, 0, 0, 0, 89, 0), (89, 30, 4, 5, 0, 92, 62), (92, 44, 2, 19, 0, 95, 161), (95, 13, 0, 0, 0, 130, 0), (98, 2, 5, 0, 0, 100, 0), (100, 19, 0, 0, 0, 103, 123), (103, 3, 0, 0, 0, 104, 0), (104, 30, 1, 5, 0, 107, 21), (107, 2, 7, 0, 0, 109, 0), (109, 1, 0, 0, nI 4, 110, 0), (110, 3, 0, 0, 0, 111, 0), (111, 30, 4, 5, 0, 114, 62), (114, 44, 3, 18, 0, 117, 165), (117, 12, 5, 0, -1, 120, 0), (120, 13, 0, 0, 0, 130, 0), (123, 3, 0, 0, 0, 124, 0), (124, 2, 7, 0, 0, 126, 0), (126, 2, 3, 0, 0, 127, 0), (127, 44, 2, 57, 0, 130, 168), (130, 12, 6, 0, nI 1, 133, 0), (133, 13, 0, 0, 0, 55, 0), (136, 3, 0, 0, 0, 137, 0), (137, 30, 2, 5, 0, 140, 28), (140, 2, 1, 0, 0, 141, 0), (141, 2, 4, 0, 0, 143, 0), (143, 44, 2, 7, 0, 146, 171), (146, 2, 4, 0, 0, 148, 0), (148, 41, 0, 0, 0, 149, 0)]
def jX5_bringBack : JT := (55, yX5_bringBack, cX5_bringBack, 8, (some .int), 4, 90, 5, tX5_bringBack)
theorem okX5_bringBack : e_T jX5_bringBack := ⟨by decide +kernel, rfl, rfl, by decide +kernel⟩
def tX5_countBelonging : List (Nat × OpT) := [(0, 1, 0, 0, nI 0, 1, 0), (1, 4, 3, 0, 0, 2, 0), (2, 1, 0, 0, nI 0, 3, 0), (3, 4, 4, 0, 0, 5, 0), (5, 2, 4, 0, 0, 7, 0), (7, 3, 1, 0, 0, 8, 0), (8, 30, 1, 3, 0, 11, 108), (11, 23, 0, 0, 0, 14, 37), (14, 3, 0, 0, 0, 15, 0), (15, 3, 1, 0, 0, 16, 0), (16, 2, 4, 0, 0, 18, 0), (18, 44, 1, 36, 0, 21, 116), (21, 44, 1, 45, 0, 24, 97), (24, 2, 2, 0, 0, 25, 0), (25, 21, 0, 0, 0, 28, 31), (28, 12, 3, 0, nI 1, 31, 0), (31, 12, 4, 0, nI 1, 34, 0), (34, 13, 0, 0, 0, 5, 0), (37, 2, 3, 0, 0, 38, 0), (38, 41, 0, 0, 0, 39, 0)]
def jX5_countBelonging : JT := (56, yX5_countBelonging, cX5_countBelonging, 5, (some .int), 3, 64, 5, tX5_countBelonging)
theorem okX5_countBelonging : e_T jX5_countBelonging := ⟨by decide +kernel, rfl, rfl, by decide +kernel⟩
def tX5_putBack : List (Nat × OpT) := [(0, 3, 0, 0, 0, 1, 0), (1, 2, 2, 0, 0, 2, 0), (2, 44, 1, 46, 0, 5, 129), (5, 19, 0, 0, 0, 8, 21), (8, 3, 0, 0, 0, 9, 0), (9, 30, 1, 5, 0, 12, 21), (12, 2, 1, 0, 0, 13, 0), (13, 1, 0, 0, nI 1, 14, 0), (14, 2, 2, 0, 0, 15, 0), (15, 44, 3, 17, 0, 18, 125), (18, 13, 0, 0, 0, 32, 0), (21, 3, 0, 0, 0, 22, 0), (22, 30, 1, 5, 0, 25, 21), (25, 2, 1, 0, 0, 26, 0), (26, 1, 0, 0, nI 2, 27, 0), (27, 1, 0, 0, -9, 29, 0), (29, 44, 3, 17, 0, 32, 125), (32, 42, 0, 0, 0, 33, 0)]
def jX5_putBack : JT := (57, yX5_putBack, cX5_putBack, 3, none, 2, 44, 5, tX5_putBack)
theorem okX5_putBack : e_T jX5_putBack := ⟨by decide +kernel, rfl, rfl, by decide +kernel⟩
def tX6_init : List (Nat × OpT) := [(0, 3, 0, 0, 0, 1, 0), (1, 51, 0, 0, 0, 4, 5), (4, 3, 0, 0, 0, 5, 0), (5, 1, 0, 0, nI 80, 7, 0), (7, 48, 0, 0, 0, 9, 0), (9, 31, 0, 6, 0, 12, 11), (12, 3, 0, 0, 0, 13, 0), (13, 1, 0, 0, nI 14, 15, 0), (15, 48, 0, 0, 0, 17, 0), (17, 31, 2, 6, 0, 20, 15), (20, 3, 0, 0, 0, 21, 0), (21, 1, 0, 0, nI 14, 23, 0), (23, 48, 0, 0, 0, 25, 0), (25, 31, 3, 6, 0, 28, 19), (28, 3, 0, 0, 0, 29, 0), (29, 1, 0, 0, nI 14, 31, 0), (31, 48, 0, 0, 0, 33, 0), (33, 31, 4, 6, 0, 36, 22), (36, 42, 0, 0, 0, 37, 0)]
def jX6_init : JT := (58, yX6_init, cX6_init, 1, none, 1, 20, 6, tX6_init)
theorem okX6_init : e_T jX6_init := ⟨by decide +kernel, rfl, rfl, by decide +kernel⟩
def tX6_isFull : List (Nat × OpT) := [(0, 3, 0, 0, 0, 1, 0), (1, 30, 1, 6, 0, 4, 25), (4, 1, 0, 0, nI 80, 6, 0), (6, 22, 0, 0, 0, 9, 13), (9, 1, 0, 0, nI 1, 10, 0), (10, 13, 0, 0, 0, 14, 0), (13, 1, 0, 0, nI 0, 14, 0), (14, 41, 0, 0, 0, 15, 0)]
def jX6_isFull : JT := (59, yX6_isFull, cX6_isFull, 1, (some .boolean), 0, 0, 6, tX6_isFull)
theorem okX6_isFull : e_T jX6_isFull := ⟨by decide +kernel, rfl, rfl, by decide +kernel⟩
def tX6_add : List (Nat × OpT) := [(0, 3, 0, 0, 0, 1, 0), (1, 30, 1, 6, 0, 4, 25), (4, 1, 0, 0, nI 80, 6, 0), (6, 23, 0, 0, 0, 9, 29), (9, 3, 0, 0, 0, 10, 0), (10, 30, 0, 6, 0, 13, 11), (13, 3, 0, 0, 0, 14, 0), (14, 30, 1, 6, 0, 17, 25), (17, 2, 1, 0, 0, 18, 0), (18, 38, 0, 0, 0, 19, 0), (19, 3, 0, 0, 0, 20, 0), (20, 26, 0, 0, 0, 21, 0), (21, 30, 1, 6, 0, 24, 25), (24, 1, 0, 0, nI 1, 25, 0), (25, 6, 0, 0, 0, 26, 0), (26, 31, 1, 6, 0, 29, 25), (29, 42, 0, 0, 0, 30, 0)]
def jX6_add : JT := (60, yX6_add, cX6_add, 2, none, 0, 0, 6, tX6_add)
theorem okX6_add : e_T jX6_add := ⟨by decide +kernel, rfl, rfl, by decide +kernel⟩
def tX6_read : List (Nat × OpT) := [(0, 3, 0, 0, 0, 1, 0), (1, 1, 0, 0, nI 0, 2, 0), (2, 31, 6, 6, 0, 5, 29), (5, 3, 0, 0, 0, 6, 0), (6, 1, 0, 0, nI 0, 7, 0), (7, 31, 7, 6, 0, 10, 32), (10, 3, 0, 0, 0, 11, 0), (11, 1, 0, 0, nI 0, 12, 0), (12, 31, 5, 6, 0, 15, 36), (15, 1, 0, 0, nI 0, 16, 0), (16, 4, 1, 0, 0, 17, 0), (17, 2, 1, 0, 0, 18, 0), (18, 1, 0, 0, nI 14, 20, 0), (20, 23, 0, 0, 0, 23, 67), (23, 3, 0, 0, 0, 24, 0), (24, 30, 7, 6, 0, 27, 32), (27, 15, 0, 0, 0, 30, 67), (30, 3, 0, 0, 0, 31, 0), (31, 44, 0, 62, 0, 34, 39), (34, 3, 0, 0, 0, 35, 0), (35, 30, 7, 6, 0, 38, 32), (38, 15, 0, 0, 0, 41, 55), (41, 3, 0, 0, 0, 42, 0), (42, 30, 6, 6, 0, 45, 29), (45, 3, 0, 0, 0, 46, 0), (46, 30, 1, 6, 0, 49, 25), (49, 21, 0, 0, 0, 52, 55), (52, 1, 0, 0, -9, 54, 0), (54, 41, 0, 0, 0, 55, 0), (55, 3, 0, 0, 0, 56, 0), (56, 1, 0, 0, nI 59, 58, 0), (58, 44, 1, 65, 0, 61, 42), (61, 12, 1, 0, nI 1, 64, 0), (64, 13, 0, 0, 0, 17, 0), (67, 3, 0, 0, 0, 68, 0), (68, 30, 6, 6, 0, 71, 29), (71, 41, 0, 0, 0, 72, 0)]
def jX6_read : JT := (61, yX6_read, cX6_read, 2, (some .int), 4, 88, 6, tX6_read)
theorem okX6_read : e_T jX6_read := ⟨by decide +kernel, rfl, rfl, by decide +kernel⟩
def tX6_readRange : List (Nat × OpT) := [(0, 3, 0, 0, 0, 1, 0), (1, 44, 0, 63, 0, 4, 46), (4, 4, 1, 0, 0, 5, 0), (5, 3, 0, 0, 0, 6, 0), (6, 1, 0, 0, nI 45, 8, 0), (8, 44, 1, 65, 0, 11, 42), (11, 3, 0, 0, 0, 12, 0), (12, 44, 0, 63, 0, 15, 46), (15, 4, 2, 0, 0, 16, 0), (16, 3, 0, 0, 0, 17, 0), (17, 1, 0, 0, nI 61, 19, 0), (19, 44, 1, 65, 0, 22, 42), (22, 3, 0, 0, 0, 23, 0), (23, 1, 0, 0, nI 55, 25, 0), (25, 44, 1, 64, 0, 28, 50), (28, 4, 3, 0, 0, 29, 0), (29, 3, 0, 0, 0, 30, 0), (30, 30, 7, 6, 0, 33, 32), (33, 15, 0, 0, 0, 36, 85), (36, 3, 0, 0, 0, 37, 0), (37, 30, 5, 6, 0, 40, 36), (40, 1, 0, 0, nI 14, 42, 0), (42, 23, 0, 0, 0, 45, 85), (45, 3, 0, 0, 0, 46, 0), (46, 30, 2, 6, 0, 49, 15), (49, 3, 0, 0, 0, 50, 0), (50, 30, 5, 6, 0, 53, 36), (53, 2, 1, 0, 0, 54, 0), (54, 36, 0, 0, 0, 55, 0), (55, 3, 0, 0, 0, 56, 0), (56, 30, 3, 6, 0, 59, 19), (59, 3, 0, 0, 0, 60, 0), (60, 30, 5, 6, 0, 63, 36), (63, 2, 2, 0, 0, 64, 0), (64, 36, 0, 0, 0, 65, 0), (65, 3, 0, 0, 0, 66, 0), (66, 30, 4, 6, 0, 69, 22), (69, 3, 0, 0, 0, 70, 0), (70, 30, 5, 6, 0, 73, 36), (73, 2, 3, 0, 0, 74, 0), (74, 36, 0, 0, 0, 75, 0), (75, 3, 0, 0, 0, 76, 0), (76, 26, 0, 0, 0, 77, 0), (77, 30, 5, 6, 0, 80, 36), (80, 1, 0, 0, nI 1, 81, 0), (81, 6, 0, 0, 0, 82, 0), (82, 31, 5, 6, 0, 85, 36), (85, 42, 0, 0, 0, 86, 0)]
def jX6_readRange : JT := (62, yX6_readRange, cX6_readRange, 4, none, 3, 65, 6, tX6_readRange)
theorem okX6_readRange : e_T jX6_readRange := ⟨by decide +kernel, rfl, rfl, by decide +kernel⟩
def tX6_readNumber : List (Nat × OpT) := [(0, 3, 0, 0, 0, 1, 0), (1, 1, 0, 0, nI 57, 3, 0), (3, 44, 1, 64, 0, 6, 50), (6, 4, 1, 0, 0, 7, 0), (7, 2, 1, 0, 0, 8, 0), (8, 14, 0, 0, 0, 11, 34), (11, 3, 0, 0, 0, 12, 0), (12, 1, 0, 0, nI 48, 14, 0), (14, 1, 0, 0, nI 57, 16, 0), (16, 44, 2, 66, 0, 19, 54), (19, 14, 0, 0, 0, 22, 34), (22, 2, 1, 0, 0, 23, 0), (23, 1, 0, 0, nI 10, 25, 0), (25, 8, 0, 0, 0, 26, 0), (26, 3, 0, 0, 0, 27, 0), (27, 1, 0, 0, nI 57, 29, 0), (29, 44, 1, 64, 0, 32, 50), (32, 6, 0, 0, 0, 33, 0), (33, 4, 1, 0, 0, 34, 0), (34, 2, 1, 0, 0, 35, 0), (35, 41, 0, 0, 0, 36, 0)]
def jX6_readNumber : JT := (63, yX6_readNumber, cX6_readNumber, 2, (some .int), 2, 44, 6, tX6_readNumber)
theorem okX6_readNumber : e_T jX6_readNumber := ⟨by decide +kernel, rfl, rfl, by decide +kernel⟩
def tX6_readDigit : List (Nat × OpT) := [(0, 3, 0, 0, 0, 1, 0), (1, 30, 7, 6, 0, 4, 32), (4, 15, 0, 0, 0, 7, 17), (7, 3, 0, 0, 0, 8, 0), (8, 1, 0, 0, nI 48, 10, 0), (10, 2, 1, 0, 0, 11, 0), (11, 44, 2, 66, 0, 14, 54), (14, 15, 0, 0, 0, 17, 24), (17, 3, 0, 0, 0, 18, 0), (18, 1, 0, 0, nI 1, 19, 0), (19, 31, 7, 6, 0, 22, 32), (22, 1, 0, 0, nI 0, 23, 0), (23, 41, 0, 0, 0, 24, 0), (24, 3, 0, 0, 0, 25, 0), (25, 30, 0, 6, 0, 28, 11), (28, 3, 0, 0, 0, 29, 0), (29, 30, 6, 6, 0, 32, 29), (32, 34, 0, 0, 0, 33, 0), (33, 1, 0, 0, nI 48, 35, 0), (35, 7, 0, 0, 0, 36, 0), (36, 4, 2, 0, 0, 37, 0), (37, 3, 0, 0, 0, 38, 0), (38, 26, 0, 0, 0, 39, 0), (39, 30, 6, 6, 0, 42, 29), (42, 1, 0, 0, nI 1, 43, 0), (43, 6, 0, 0, 0, 44, 0), (44, 31, 6, 6, 0, 47, 29), (47, 2, 2, 0, 0, 48, 0), (48, 41, 0, 0, 0, 49, 0)]
def jX6_readDigit : JT := (64, yX6_readDigit, cX6_readDigit, 3, (some .int), 1, 22, 6, tX6_readDigit)
theorem okX6_readDigit : e_T jX6_readDigit := ⟨by decide +kernel, rfl, rfl, by decide +kernel⟩
def tX6_readSign : List (Nat × OpT) := [(0, 3, 0, 0, 0, 1, 0), (1, 30, 7, 6, 0, 4, 32), (4, 15, 0, 0, 0, 7, 16), (7, 3, 0, 0, 0, 8, 0), (8, 2, 1, 0, 0, 9, 0), (9, 2, 1, 0, 0, 10, 0), (10, 44, 2, 66, 0, 13, 54), (13, 15, 0, 0, 0, 16, 24), (16, 3, 0, 0, 0, 17, 0), (17, 1, 0, 0, nI 1, 18, 0), (18, 31, 7, 6, 0, 21, 32), (21, 13, 0, 0, 0, 34, 0), (24, 3, 0, 0, 0, 25, 0), (25, 26, 0, 0, 0, 26, 0), (26, 30, 6, 6, 0, 29, 29), (29, 1, 0, 0, nI 1, 30, 0), (30, 6, 0, 0, 0, 31, 0), (31, 31, 6, 6, 0, 34, 29), (34, 42, 0, 0, 0, 35, 0)]
def jX6_readSign : JT := (65, yX6_readSign, cX6_readSign, 2, none, 1, 22, 6, tX6_readSign)
theorem okX6_readSign : e_T jX6_readSign := ⟨by decide +kernel, rfl, rfl, by decide +kernel⟩
def tX6_isNextIn : List (Nat × OpT) := [(0, 3, 0, 0, 0, 1, 0), (1, 30, 6, 6, 0, 4, 29), (4, 3, 0, 0, 0, 5, 0), (5, 30, 1, 6, 0, 8, 25), (8, 23, 0, 0, 0, 11, 41), (11, 3, 0, 0, 0, 12, 0), (12, 30, 0, 6, 0, 15, 11), (15, 3, 0, 0, 0, 16, 0), (16, 30, 6, 6, 0, 19, 29), (19, 34, 0, 0, 0, 20, 0), (20, 2, 1, 0, 0, 21, 0), (21, 22, 0, 0, 0, 24, 41), (24, 3, 0, 0, 0, 25, 0), (25, 30, 0, 6, 0, 28, 11), (28, 3, 0, 0, 0, 29, 0), (29, 30, 6, 6, 0, 32, 29), (32, 34, 0, 0, 0, 33, 0), (33, 2, 2, 0, 0, 34, 0), (34, 24, 0, 0, 0, 37, 41), (37, 1, 0, 0, nI 1, 38, 0), (38, 13, 0, 0, 0, 42, 0), (41, 1, 0, 0, nI 0, 42, 0), (42, 41, 0, 0, 0, 43, 0)]
def jX6_isNextIn : JT := (66, yX6_isNextIn, cX6_isNextIn, 3, (some .boolean), 0, 0, 6, tX6_isNextIn)
theorem okX6_isNextIn : e_T jX6_isNextIn := ⟨by decide +kernel, rfl, rfl, by decide +kernel⟩
def tX6_hasReversedRange : List (Nat × OpT) := [(0, 1, 0, 0, nI 0, 1, 0), (1, 4, 1, 0, 0, 2, 0), (2, 2, 1, 0, 0, 3, 0), (3, 3, 0, 0, 0, 4, 0), (4, 30, 5, 6, 0, 7, 36), (7, 23, 0, 0, 0, 10, 33), (10, 3, 0, 0, 0, 11, 0), (11, 30, 2, 6, 0, 14, 15), (14, 2, 1, 0, 0, 15, 0), (15, 32, 0, 0, 0, 16, 0), (16, 3, 0, 0, 0, 17, 0), (17, 30, 3, 6, 0, 20, 19), (20, 2, 1, 0, 0, 21, 0), (21, 32, 0, 0, 0, 22, 0), (22, 25, 0, 0, 0, 25, 27), (25, 1, 0, 0, nI 1, 26, 0), (26, 41, 0, 0, 0, 27, 0), (27, 12, 1, 0, nI 1, 30, 0), (30, 13, 0, 0, 0, 2, 0), (33, 1, 0, 0, nI 0, 34, 0), (34, 41, 0, 0, 0, 35, 0)]
def jX6_hasReversedRange : JT := (67, yX6_hasReversedRange, cX6_hasReversedRange, 2, (some .boolean), 0, 0, 6, tX6_hasReversedRange)
theorem okX6_hasReversedRange : e_T jX6_hasReversedRange := ⟨by decide +kernel, rfl, rfl, by decide +kernel⟩
def tX7_init : List (Nat × OpT) := [(0, 3, 0, 0, 0, 1, 0), (1, 51, 0, 0, 0, 4, 3), (4, 3, 0, 0, 0, 5, 0), (5, 1, 0, 0, nI 100, 7, 0), (7, 48, 0, 0, 0, 9, 0), (9, 31, 0, 7, 0, 12, 9), (12, 1, 0, 0, nI 0, 13, 0), (13, 4, 1, 0, 0, 14, 0), (14, 2, 1, 0, 0, 15, 0), (15, 50, 0, 0, 0, 18, 15), (18, 40, 0, 0, 0, 19, 0), (19, 23, 0, 0, 0, 22, 40), (22, 3, 0, 0, 0, 23, 0), (23, 50, 0, 0, 0, 26, 15), (26, 2, 1, 0, 0, 27, 0), (27, 32, 0, 0, 0, 28, 0), (28, 1, 0, 0, nI 99, 30, 0), (30, 2, 1, 0, 0, 31, 0), (31, 44, 3, 71, 0, 34, 18), (34, 12, 1, 0, nI 1, 37, 0), (37, 13, 0, 0, 0, 14, 0), (40, 42, 0, 0, 0, 41, 0)]
def jX7_init : JT := (68, yX7_init, cX7_init, 2, none, 2, 45, 7, tX7_init)
theorem okX7_init : e_T jX7_init := ⟨by decide +kernel, rfl, rfl, by decide +kernel⟩
def tX7_copyFrom : List (Nat × OpT) := [(0, 3, 1, 0, 0, 1, 0), (1, 30, 0, 7, 0, 4, 9), (4, 1, 0, 0, nI 0, 5, 0), (5, 3, 0, 0, 0, 6, 0), (6, 30, 0, 7, 0, 9, 9), (9, 1, 0, 0, nI 0, 10, 0), (10, 1, 0, 0, nI 100, 12, 0), (12, 54, 0, 0, 0, 15, 22), (15, 42, 0, 0, 0, 16, 0)]
def jX7_copyFrom : JT := (69, yX7_copyFrom, cX7_copyFrom, 2, none, 1, 30, 7, tX7_copyFrom)
theorem okX7_copyFrom : e_T jX7_copyFrom := ⟨by decide +kernel, rfl, rfl, by decide +kernel⟩
def tX7_walkOf : List (Nat × OpT) := [(0, 2, 1, 0, 0, 1, 0), (1, 1, 0, 0, nI 0, 2, 0), (2, 1, 0, 0, nI 99, 4, 0), (4, 46, 3, 101, 0, 7, 28), (7, 14, 0, 0, 0, 10, 19), (10, 3, 0, 0, 0, 11, 0), (11, 30, 0, 7, 0, 14, 9), (14, 2, 1, 0, 0, 15, 0), (15, 32, 0, 0, 0, 16, 0), (16, 13, 0, 0, 0, 21, 0), (19, 1, 0, 0, -9, 21, 0), (21, 41, 0, 0, 0, 22, 0)]
def jX7_walkOf : JT := (70, yX7_walkOf, cX7_walkOf, 2, (some .int), 1, 22, 7, tX7_walkOf)
theorem okX7_walkOf : e_T jX7_walkOf := ⟨by decide +kernel, rfl, rfl, by decide +kernel⟩
def tX7_give : List (Nat × OpT) := [(0, 2, 1, 0, 0, 1, 0), (1, 1, 0, 0, nI 0, 2, 0), (2, 52, 0, 0, 0, 5, 32), (5, 4, 4, 0, 0, 7, 0), (7, 2, 4, 0, 0, 9, 0), (9, 2, 2, 0, 0, 10, 0), (10, 24, 0, 0, 0, 13, 34), (13, 2, 4, 0, 0, 15, 0), (15, 1, 0, 0, nI 100, 17, 0), (17, 23, 0, 0, 0, 20, 34), (20, 3, 0, 0, 0, 21, 0), (21, 30, 0, 7, 0, 24, 9), (24, 2, 4, 0, 0, 26, 0), (26, 2, 3, 0, 0, 27, 0), (27, 36, 0, 0, 0, 28, 0), (28, 12, 4, 0, nI 1, 31, 0), (31, 13, 0, 0, 0, 7, 0), (34, 42, 0, 0, 0, 35, 0)]
def jX7_give : JT := (71, yX7_give, cX7_give, 5, none, 1, 21, 7, tX7_give)
theorem okX7_give : e_T jX7_give := ⟨by decide +kernel, rfl, rfl, by decide +kernel⟩
def tX7_countStretches : List (Nat × OpT) := [(0, 1, 0, 0, nI 1, 1, 0), (1, 4, 1, 0, 0, 2, 0), (2, 1, 0, 0, nI 1, 3, 0), (3, 4, 2, 0, 0, 4, 0), (4, 2, 2, 0, 0, 5, 0), (5, 1, 0, 0, nI 100, 7, 0), (7, 23, 0, 0, 0, 10, 36), (10, 3, 0, 0, 0, 11, 0), (11, 30, 0, 7, 0, 14, 9), (14, 2, 2, 0, 0, 15, 0), (15, 32, 0, 0, 0, 16, 0), (16, 3, 0, 0, 0, 17, 0), (17, 30, 0, 7, 0, 20, 9), (20, 2, 2, 0, 0, 21, 0), (21, 1, 0, 0, nI 1, 22, 0), (22, 7, 0, 0, 0, 23, 0), (23, 32, 0, 0, 0, 24, 0), (24, 20, 0, 0, 0, 27, 30), (27, 12, 1, 0, nI 1, 30, 0), (30, 12, 2, 0, nI 1, 33, 0), (33, 13, 0, 0, 0, 4, 0), (36, 2, 1, 0, 0, 37, 0), (37, 41, 0, 0, 0, 38, 0)]
def jX7_countStretches : JT := (72, yX7_countStretches, cX7_countStretches, 3, (some .int), 0, 0, 7, tX7_countStretches)
theorem okX7_countStretches : e_T jX7_countStretches := ⟨by decide +kernel, rfl, rfl, by decide +kernel⟩
def tX7_firstCode : List (Nat × OpT) := [(0, 2, 1, 0, 0, 1, 0), (1, 4, 2, 0, 0, 2, 0), (2, 2, 2, 0, 0, 3, 0), (3, 19, 0, 0, 0, 6, 35), (6, 2, 2, 0, 0, 7, 0), (7, 1, 0, 0, nI 100, 9, 0), (9, 23, 0, 0, 0, 12, 35), (12, 3, 0, 0, 0, 13, 0), (13, 30, 0, 7, 0, 16, 9), (16, 2, 2, 0, 0, 17, 0), (17, 1, 0, 0, nI 1, 18, 0), (18, 7, 0, 0, 0, 19, 0), (19, 32, 0, 0, 0, 20, 0), (20, 3, 0, 0, 0, 21, 0), (21, 30, 0, 7, 0, 24, 9), (24, 2, 2, 0, 0, 25, 0), (25, 32, 0, 0, 0, 26, 0), (26, 21, 0, 0, 0, 29, 35), (29, 12, 2, 0, -1, 32, 0), (32, 13, 0, 0, 0, 2, 0), (35, 2, 2, 0, 0, 36, 0), (36, 41, 0, 0, 0, 37, 0)]
def jX7_firstCode : JT := (73, yX7_firstCode, cX7_firstCode, 3, (some .int), 0, 0, 7, tX7_firstCode)
theorem okX7_firstCode : e_T jX7_firstCode := ⟨by decide +kernel, rfl, rfl, by decide +kernel⟩
def tX7_lastCode : List (Nat × OpT) := [(0, 2, 1, 0, 0, 1, 0), (1, 4, 2, 0, 0, 2, 0), (2, 2, 2, 0, 0, 3, 0), (3, 16, 0, 0, 0, 6, 35), (6, 2, 2, 0, 0, 7, 0), (7, 1, 0, 0, nI 99, 9, 0), (9, 23, 0, 0, 0, 12, 35), (12, 3, 0, 0, 0, 13, 0), (13, 30, 0, 7, 0, 16, 9), (16, 2, 2, 0, 0, 17, 0), (17, 1, 0, 0, nI 1, 18, 0), (18, 6, 0, 0, 0, 19, 0), (19, 32, 0, 0, 0, 20, 0), (20, 3, 0, 0, 0, 21, 0), (21, 30, 0, 7, 0, 24, 9), (24, 2, 2, 0, 0, 25, 0), (25, 32, 0, 0, 0, 26, 0), (26, 21, 0, 0, 0, 29, 35), (29, 12, 2, 0, nI 1, 32, 0), (32, 13, 0, 0, 0, 2, 0), (35, 2, 2, 0, 0, 36, 0), (36, 41, 0, 0, 0, 37, 0)]
def jX7_lastCode : JT := (74, yX7_lastCode, cX7_lastCode, 3, (some .int), 0, 0, 7, tX7_lastCode)
theorem okX7_lastCode : e_T jX7_lastCode := ⟨by decide +kernel, rfl, rfl, by decide +kernel⟩
def tX8_init : List (Nat × OpT) := [(0, 3, 0, 0, 0, 1, 0), (1, 51, 0, 0, 0, 4, 1), (4, 3, 0, 0, 0, 5, 0), (5, 47, 0, 0, 0, 8, 7), (8, 26, 0, 0, 0, 9, 0), (9, 45, 0, 37, 0, 12, 9), (12, 31, 0, 8, 0, 15, 10), (15, 3, 0, 0, 0, 16, 0), (16, 47, 0, 0, 0, 19, 16), (19, 26, 0, 0, 0, 20, 0), (20, 45, 0, 9, 0, 23, 18), (23, 31, 1, 8, 0, 26, 19), (26, 3, 0, 0, 0, 27, 0), (27, 47, 0, 0, 0, 30, 23), (30, 26, 0, 0, 0, 31, 0), (31, 45, 0, 58, 0, 34, 25), (34, 31, 2, 8, 0, 37, 26), (37, 3, 0, 0, 0, 38, 0), (38, 47, 0, 0, 0, 41, 30), (41, 26, 0, 0, 0, 42, 0), (42, 45, 0, 41, 0, 45, 32), (45, 31, 3, 8, 0, 48, 33), (48, 3, 0, 0, 0, 49, 0), (49, 47, 0, 0, 0, 52, 37), (52, 26, 0, 0, 0, 53, 0), (53, 45, 0, 33, 0, 56, 39), (56, 31, 4, 8, 0, 59, 40), (59, 42, 0, 0, 0, 60, 0)]
def jX8_init : JT := (75, yX8_init, cX8_init, 1, none, 6, 129, 8, tX8_init)
theorem okX8_init : e_T jX8_init := ⟨by decide +kernel, rfl, rfl, by decide +kernel⟩
def tX8_post : List (Nat × OpT) := [(0, 2, 1, 0, 0, 1, 0), (1, 1, 0, 0, nI 0, 2, 0), (2, 1, 0, 0, nI 99, 4, 0), (4, 46, 3, 101, 0, 7, 44), (7, 14, 0, 0, 0, 10, 29), (10, 2, 2, 0, 0, 11, 0), (11, 1, 0, 0, nI 0, 12, 0), (12, 1, 0, 0, nI 1, 13, 0), (13, 46, 3, 101, 0, 16, 44), (16, 14, 0, 0, 0, 19, 29), (19, 2, 3, 0, 0, 20, 0), (20, 1, 0, 0, nI 1, 21, 0), (21, 1, 0, 0, nI 20, 23, 0), (23, 46, 3, 101, 0, 26, 44), (26, 15, 0, 0, 0, 29, 31), (29, 1, 0, 0, -1, 30, 0), (30, 41, 0, 0, 0, 31, 0), (31, 3, 0, 0, 0, 32, 0), (32, 30, 0, 8, 0, 35, 10), (35, 30, 0, 4, 0, 38, 48), (38, 30, 1, 5, 0, 41, 51), (41, 30, 8, 2, 0, 44, 55), (44, 4, 4, 0, 0, 46, 0), (46, 2, 4, 0, 0, 48, 0), (48, 2, 3, 0, 0, 49, 0), (49, 6, 0, 0, 0, 50, 0), (50, 1, 0, 0, nI 120, 52, 0), (52, 25, 0, 0, 0, 55, 58), (55, 1, 0, 0, -3, 57, 0), (57, 41, 0, 0, 0, 58, 0), (58, 3, 0, 0, 0, 59, 0), (59, 30, 1, 8, 0, 62, 19), (62, 3, 0, 0, 0, 63, 0), (63, 30, 0, 8, 0, 66, 10), (66, 44, 1, 10, 0, 69, 61), (69, 1, 0, 0, nI 0, 70, 0), (70, 4, 5, 0, 0, 72, 0), (72, 2, 5, 0, 0, 74, 0), (74, 2, 3, 0, 0, 75, 0), (75, 23, 0, 0, 0, 78, 109), (78, 3, 0, 0, 0, 79, 0), (79, 30, 0, 8, 0, 82, 10), (82, 30, 0, 4, 0, 85, 48), (85, 30, 1, 5, 0, 88, 51), (88, 2, 1, 0, 0, 89, 0), (89, 2, 2, 0, 0, 90, 0), (90, 3, 0, 0, 0, 91, 0), (91, 30, 0, 8, 0, 94, 10), (94, 30, 0, 4, 0, 97, 48), (97, 30, 4, 5, 0, 100, 65), (100, 44, 3, 16, 0, 103, 68), (103, 12, 5, 0, nI 1, 106, 0), (106, 13, 0, 0, 0, 72, 0), (109, 2, 4, 0, 0, 111, 0), (111, 41, 0, 0, 0, 112, 0)]
def jX8_post : JT := (76, yX8_post, cX8_post, 6, (some .int), 5, 115, 8, tX8_post)
theorem okX8_post : e_T jX8_post := ⟨by decide +kernel, rfl, rfl, by decide +kernel⟩
def tX8_hour : List (Nat × OpT) := [(0, 3, 0, 0, 0, 1, 0), (1, 30, 0, 8, 0, 4, 10), (4, 30, 0, 4, 0, 7, 48), (7, 30, 4, 5, 0, 10, 65), (10, 1, 0, 0, nI 500, 13, 0), (13, 22, 0, 0, 0, 16, 19), (16, 1, 0, 0, -3, 18, 0), (18, 41, 0, 0, 0, 19, 0), (19, 3, 0, 0, 0, 20, 0), (20, 30, 1, 8, 0, 23, 19), (23, 3, 0, 0, 0, 24, 0), (24, 30, 0, 8, 0, 27, 10), (27, 44, 1, 10, 0, 30, 61), (30, 3, 0, 0, 0, 31, 0), (31, 30, 0, 8, 0, 34, 10), (34, 30, 0, 4, 0, 37, 48), (37, 3, 0, 0, 0, 38, 0), (38, 30, 4, 8, 0, 41, 40), (41, 44, 1, 49, 0, 44, 72), (44, 28, 0, 0, 0, 45, 0), (45, 3, 0, 0, 0, 46, 0), (46, 30, 0, 8, 0, 49, 10), (49, 30, 0, 4, 0, 52, 48), (52, 30, 1, 5, 0, 55, 51), (55, 1, 0, 0, nI 2, 56, 0), (56, 44, 1, 22, 0, 59, 76), (59, 41, 0, 0, 0, 60, 0)]
def jX8_hour : JT := (77, yX8_hour, cX8_hour, 1, (some .int), 6, 134, 8, tX8_hour)
theorem okX8_hour : e_T jX8_hour := ⟨by decide +kernel, rfl, rfl, by decide +kernel⟩
def tX8_setRange : List (Nat × OpT) := [(0, 2, 1, 0, 0, 1, 0), (1, 1, 0, 0, nI 0, 2, 0), (2, 1, 0, 0, nI 99, 4, 0), (4, 46, 3, 101, 0, 7, 44), (7, 14, 0, 0, 0, 10, 27), (10, 2, 2, 0, 0, 11, 0), (11, 2, 1, 0, 0, 12, 0), (12, 1, 0, 0, nI 99, 14, 0), (14, 46, 3, 101, 0, 17, 44), (17, 14, 0, 0, 0, 20, 27), (20, 2, 3, 0, 0, 21, 0), (21, 46, 1, 102, 0, 24, 80), (24, 15, 0, 0, 0, 27, 29), (27, 1, 0, 0, -1, 28, 0), (28, 41, 0, 0, 0, 29, 0), (29, 3, 0, 0, 0, 30, 0), (30, 30, 1, 8, 0, 33, 19), (33, 3, 0, 0, 0, 34, 0), (34, 30, 0, 8, 0, 37, 10), (37, 44, 1, 10, 0, 40, 61), (40, 3, 0, 0, 0, 41, 0), (41, 30, 0, 8, 0, 44, 10), (44, 30, 0, 4, 0, 47, 48), (47, 30, 0, 5, 0, 50, 84), (50, 2, 1, 0, 0, 51, 0), (51, 2, 2, 0, 0, 52, 0), (52, 2, 3, 0, 0, 53, 0), (53, 44, 3, 71, 0, 56, 88), (56, 3, 0, 0, 0, 57, 0), (57, 30, 0, 8, 0, 60, 10), (60, 30, 0, 4, 0, 63, 48), (63, 30, 0, 5, 0, 66, 84), (66, 44, 0, 72, 0, 69, 93), (69, 41, 0, 0, 0, 70, 0)]
def jX8_setRange : JT := (78, yX8_setRange, cX8_setRange, 4, (some .int), 5, 115, 8, tX8_setRange)
theorem okX8_setRange : e_T jX8_setRange := ⟨by decide +kernel, rfl, rfl, by decide +kernel⟩
def tX8_set : List (Nat × OpT) := [(0, 2, 1, 0, 0, 1, 0), (1, 1, 0, 0, nI 0, 2, 0), (2, 1, 0, 0, nI 10, 4, 0), (4, 46, 3, 101, 0, 7, 44), (7, 14, 0, 0, 0, 10, 25), (10, 2, 2, 0, 0, 11, 0), (11, 2, 1, 0, 0, 12, 0), (12, 46, 1, 105, 0, 15, 97), (15, 2, 1, 0, 0, 16, 0), (16, 46, 1, 106, 0, 19, 100), (19, 46, 3, 101, 0, 22, 44), (22, 15, 0, 0, 0, 25, 27), (25, 1, 0, 0, -1, 26, 0), (26, 41, 0, 0, 0, 27, 0), (27, 3, 0, 0, 0, 28, 0), (28, 30, 1, 8, 0, 31, 19), (31, 3, 0, 0, 0, 32, 0), (32, 30, 0, 8, 0, 35, 10), (35, 44, 1, 10, 0, 38, 61), (38, 3, 0, 0, 0, 39, 0), (39, 30, 0, 8, 0, 42, 10), (42, 30, 0, 4, 0, 45, 48), (45, 2, 1, 0, 0, 46, 0), (46, 44, 1, 43, 0, 49, 103), (49, 4, 3, 0, 0, 50, 0), (50, 3, 0, 0, 0, 51, 0), (51, 30, 0, 8, 0, 54, 10), (54, 30, 0, 4, 0, 57, 48), (57, 2, 1, 0, 0, 58, 0), (58, 2, 2, 0, 0, 59, 0), (59, 44, 2, 44, 0, 62, 106), (62, 2, 3, 0, 0, 63, 0), (63, 41, 0, 0, 0, 64, 0)]
def jX8_set : JT := (79, yX8_set, cX8_set, 4, (some .int), 5, 115, 8, tX8_set)
theorem okX8_set : e_T jX8_set := ⟨by decide +kernel, rfl, rfl, by decide +kernel⟩
def tX8_assign : List (Nat × OpT) := [(0, 2, 1, 0, 0, 1, 0), (1, 46, 1, 102, 0, 4, 80), (4, 14, 0, 0, 0, 7, 16), (7, 2, 2, 0, 0, 8, 0), (8, 1, 0, 0, -1, 9, 0), (9, 1, 0, 0, nI 5, 10, 0), (10, 46, 3, 101, 0, 13, 44), (13, 15, 0, 0, 0, 16, 18), (16, 1, 0, 0, -1, 17, 0), (17, 41, 0, 0, 0, 18, 0), (18, 3, 0, 0, 0, 19, 0), (19, 30, 0, 8, 0, 22, 10), (22, 30, 0, 4, 0, 25, 48), (25, 30, 2, 5, 0, 28, 110), (28, 5, 3, 0, 0, 29, 0), (29, 3, 3, 0, 0, 30, 0), (30, 2, 1, 0, 0, 31, 0), (31, 44, 1, 2, 0, 34, 114), (34, 4, 4, 0, 0, 36, 0), (36, 2, 2, 0, 0, 37, 0), (37, 16, 0, 0, 0, 40, 64), (40, 3, 3, 0, 0, 41, 0), (41, 30, 0, 0, 0, 44, 119), (44, 2, 2, 0, 0, 45, 0), (45, 32, 0, 0, 0, 46, 0), (46, 1, 0, 0, -9, 48, 0), (48, 20, 0, 0, 0, 51, 64), (51, 3, 3, 0, 0, 52, 0), (52, 30, 0, 0, 0, 55, 119), (55, 2, 2, 0, 0, 56, 0), (56, 32, 0, 0, 0, 57, 0), (57, 2, 1, 0, 0, 58, 0), (58, 20, 0, 0, 0, 61, 64), (61, 1, 0, 0, -2, 63, 0), (63, 41, 0, 0, 0, 64, 0), (64, 2, 4, 0, 0, 66, 0), (66, 16, 0, 0, 0, 69, 82), (69, 3, 3, 0, 0, 70, 0), (70, 30, 1, 0, 0, 73, 123), (73, 2, 4, 0, 0, 75, 0), (75, 33, 0, 0, 0, 76, 0), (76, 14, 0, 0, 0, 79, 82), (79, 1, 0, 0, -2, 81, 0), (81, 41, 0, 0, 0, 82, 0), (82, 3, 0, 0, 0, 83, 0), (83, 30, 1, 8, 0, 86, 19), (86, 3, 0, 0, 0, 87, 0), (87, 30, 0, 8, 0, 90, 10), (90, 44, 1, 10, 0, 93, 61), (93, 2, 4, 0, 0, 95, 0), (95, 16, 0, 0, 0, 98, 107), (98, 3, 3, 0, 0, 99, 0), (99, 30, 0, 0, 0, 102, 119), (102, 2, 4, 0, 0, 104, 0), (104, 1, 0, 0, -9, 106, 0), (106, 36, 0, 0, 0, 107, 0), (107, 2, 2, 0, 0, 108, 0), (108, 16, 0, 0, 0, 111, 118), (111, 3, 3, 0, 0, 112, 0), (112, 30, 0, 0, 0, 115, 119), (115, 2, 2, 0, 0, 116, 0), (116, 2, 1, 0, 0, 117, 0), (117, 36, 0, 0, 0, 118, 0), (118, 2, 4, 0, 0, 120, 0), (120, 41, 0, 0, 0, 121, 0)]
def jX8_assign : JT := (80, yX8_assign, cX8_assign, 5, (some .int), 5, 115, 8, tX8_assign)
theorem okX8_assign : e_T jX8_assign := ⟨by decide +kernel, rfl, rfl, by decide +kernel⟩
def tX8_goOut : List (Nat × OpT) := [(0, 2, 1, 0, 0, 1, 0), (1, 46, 1, 103, 0, 4, 127), (4, 15, 0, 0, 0, 7, 9), (7, 1, 0, 0, -1, 8, 0), (8, 41, 0, 0, 0, 9, 0), (9, 3, 0, 0, 0, 10, 0), (10, 30, 0, 8, 0, 13, 10), (13, 30, 0, 4, 0, 16, 48), (16, 2, 1, 0, 0, 17, 0), (17, 44, 1, 53, 0, 20, 130), (20, 15, 0, 0, 0, 23, 26), (23, 1, 0, 0, -2, 25, 0), (25, 41, 0, 0, 0, 26, 0), (26, 3, 0, 0, 0, 27, 0), (27, 30, 1, 8, 0, 30, 19), (30, 3, 0, 0, 0, 31, 0), (31, 30, 0, 8, 0, 34, 10), (34, 44, 1, 10, 0, 37, 61), (37, 3, 0, 0, 0, 38, 0), (38, 30, 0, 8, 0, 41, 10), (41, 30, 0, 4, 0, 44, 48), (44, 2, 1, 0, 0, 45, 0), (45, 3, 0, 0, 0, 46, 0), (46, 30, 4, 8, 0, 49, 40), (49, 44, 2, 54, 0, 52, 133), (52, 41, 0, 0, 0, 53, 0)]
def jX8_goOut : JT := (81, yX8_goOut, cX8_goOut, 2, (some .int), 5, 115, 8, tX8_goOut)
theorem okX8_goOut : e_T jX8_goOut := ⟨by decide +kernel, rfl, rfl, by decide +kernel⟩
def tX8_comeBack : List (Nat × OpT) := [(0, 2, 1, 0, 0, 1, 0), (1, 46, 1, 103, 0, 4, 127), (4, 15, 0, 0, 0, 7, 9), (7, 1, 0, 0, -1, 8, 0), (8, 41, 0, 0, 0, 9, 0), (9, 3, 0, 0, 0, 10, 0), (10, 30, 0, 8, 0, 13, 10), (13, 30, 0, 4, 0, 16, 48), (16, 30, 2, 5, 0, 19, 110), (19, 30, 1, 0, 0, 22, 123), (22, 2, 1, 0, 0, 23, 0), (23, 33, 0, 0, 0, 24, 0), (24, 15, 0, 0, 0, 27, 30), (27, 1, 0, 0, -2, 29, 0), (29, 41, 0, 0, 0, 30, 0), (30, 3, 0, 0, 0, 31, 0), (31, 30, 1, 8, 0, 34, 19), (34, 3, 0, 0, 0, 35, 0), (35, 30, 0, 8, 0, 38, 10), (38, 44, 1, 10, 0, 41, 61), (41, 3, 0, 0, 0, 42, 0), (42, 30, 0, 8, 0, 45, 10), (45, 30, 0, 4, 0, 48, 48), (48, 2, 1, 0, 0, 49, 0), (49, 3, 0, 0, 0, 50, 0), (50, 30, 4, 8, 0, 53, 40), (53, 44, 2, 55, 0, 56, 137), (56, 41, 0, 0, 0, 57, 0)]
def jX8_comeBack : JT := (82, yX8_comeBack, cX8_comeBack, 2, (some .int), 5, 117, 8, tX8_comeBack)
theorem okX8_comeBack : e_T jX8_comeBack := ⟨by decide +kernel, rfl, rfl, by decide +kernel⟩
def tX8_take : List (Nat × OpT) := [(0, 2, 1, 0, 0, 1, 0), (1, 46, 1, 104, 0, 4, 140), (4, 15, 0, 0, 0, 7, 9), (7, 1, 0, 0, -1, 8, 0), (8, 41, 0, 0, 0, 9, 0), (9, 3, 0, 0, 0, 10, 0), (10, 30, 1, 8, 0, 13, 19), (13, 3, 0, 0, 0, 14, 0), (14, 30, 0, 8, 0, 17, 10), (17, 44, 1, 10, 0, 20, 61), (20, 3, 0, 0, 0, 21, 0), (21, 30, 0, 8, 0, 24, 10), (24, 2, 1, 0, 0, 25, 0), (25, 44, 1, 39, 0, 28, 143), (28, 3, 0, 0, 0, 29, 0), (29, 30, 0, 8, 0, 32, 10), (32, 30, 0, 4, 0, 35, 48), (35, 30, 4, 5, 0, 38, 65), (38, 41, 0, 0, 0, 39, 0)]
def jX8_take : JT := (83, yX8_take, cX8_take, 2, (some .int), 5, 115, 8, tX8_take)
theorem okX8_take : e_T jX8_take := ⟨by decide +kernel, rfl, rfl, by decide +kernel⟩
def tX8_restore : List (Nat × OpT) := [(0, 2, 1, 0, 0, 1, 0), (1, 46, 1, 104, 0, 4, 140), (4, 15, 0, 0, 0, 7, 9), (7, 1, 0, 0, -1, 8, 0), (8, 41, 0, 0, 0, 9, 0), (9, 3, 0, 0, 0, 10, 0), (10, 30, 0, 8, 0, 13, 10), (13, 30, 2, 4, 0, 16, 147), (16, 2, 1, 0, 0, 17, 0), (17, 33, 0, 0, 0, 18, 0), (18, 15, 0, 0, 0, 21, 24), (21, 1, 0, 0, -2, 23, 0), (23, 41, 0, 0, 0, 24, 0), (24, 3, 0, 0, 0, 25, 0), (25, 30, 1, 8, 0, 28, 19), (28, 3, 0, 0, 0, 29, 0), (29, 30, 0, 8, 0, 32, 10), (32, 44, 1, 10, 0, 35, 61), (35, 3, 0, 0, 0, 36, 0), (36, 30, 0, 8, 0, 39, 10), (39, 30, 0, 4, 0, 42, 48), (42, 3, 0, 0, 0, 43, 0), (43, 30, 0, 8, 0, 46, 10), (46, 30, 1, 4, 0, 49, 150), (49, 2, 1, 0, 0, 50, 0), (50, 35, 0, 0, 0, 51, 0), (51, 44, 1, 42, 0, 54, 154), (54, 3, 0, 0, 0, 55, 0), (55, 30, 0, 8, 0, 58, 10), (58, 30, 0, 4, 0, 61, 48), (61, 30, 4, 5, 0, 64, 65), (64, 41, 0, 0, 0, 65, 0)]
def jX8_restore : JT := (84, yX8_restore, cX8_restore, 2, (some .int), 5, 115, 8, tX8_restore)
theorem okX8_restore : e_T jX8_restore := ⟨by decide +kernel, rfl, rfl, by decide +kernel⟩
def tX8_undo : List (Nat × OpT) := [(0, 3, 0, 0, 0, 1, 0), (1, 30, 1, 8, 0, 4, 19), (4, 30, 1, 1, 0, 7, 158), (7, 15, 0, 0, 0, 10, 13), (10, 1, 0, 0, -2, 12, 0), (12, 41, 0, 0, 0, 13, 0), (13, 3, 0, 0, 0, 14, 0), (14, 30, 1, 8, 0, 17, 19), (17, 3, 0, 0, 0, 18, 0), (18, 30, 0, 8, 0, 21, 10), (21, 44, 1, 12, 0, 24, 161), (24, 3, 0, 0, 0, 25, 0), (25, 30, 1, 8, 0, 28, 19), (28, 30, 1, 1, 0, 31, 158), (31, 41, 0, 0, 0, 32, 0)]
def jX8_undo : JT := (85, yX8_undo, cX8_undo, 1, (some .int), 5, 115, 8, tX8_undo)
theorem okX8_undo : e_T jX8_undo := ⟨by decide +kernel, rfl, rfl, by decide +kernel⟩
def tX8_append : List (Nat × OpT) := [(0, 2, 1, 0, 0, 1, 0), (1, 1, 0, 0, nI 1, 2, 0), (2, 1, 0, 0, nI 255, 5, 0), (5, 46, 3, 101, 0, 8, 44), (8, 15, 0, 0, 0, 11, 13), (11, 1, 0, 0, -1, 12, 0), (12, 41, 0, 0, 0, 13, 0), (13, 3, 0, 0, 0, 14, 0), (14, 30, 2, 8, 0, 17, 26), (17, 44, 0, 59, 0, 20, 164), (20, 14, 0, 0, 0, 23, 26), (23, 1, 0, 0, -3, 25, 0), (25, 41, 0, 0, 0, 26, 0), (26, 3, 0, 0, 0, 27, 0), (27, 30, 2, 8, 0, 30, 26), (30, 2, 1, 0, 0, 31, 0), (31, 11, 0, 0, 0, 32, 0), (32, 44, 1, 60, 0, 35, 168), (35, 3, 0, 0, 0, 36, 0), (36, 30, 2, 8, 0, 39, 26), (39, 30, 1, 6, 0, 42, 171), (42, 41, 0, 0, 0, 43, 0)]
def jX8_append : JT := (86, yX8_append, cX8_append, 2, (some .int), 1, 22, 8, tX8_append)
theorem okX8_append : e_T jX8_append := ⟨by decide +kernel, rfl, rfl, by decide +kernel⟩
def tX8_clearText : List (Nat × OpT) := [(0, 3, 0, 0, 0, 1, 0), (1, 30, 2, 8, 0, 4, 26), (4, 30, 1, 6, 0, 7, 171), (7, 4, 1, 0, 0, 8, 0), (8, 3, 0, 0, 0, 9, 0), (9, 30, 2, 8, 0, 12, 26), (12, 1, 0, 0, nI 0, 13, 0), (13, 31, 1, 6, 0, 16, 171), (16, 2, 1, 0, 0, 17, 0), (17, 41, 0, 0, 0, 18, 0)]
def jX8_clearText : JT := (87, yX8_clearText, cX8_clearText, 2, (some .int), 0, 0, 8, tX8_clearText)
theorem okX8_clearText : e_T jX8_clearText := ⟨by decide +kernel, rfl, rfl, by decide +kernel⟩
def tX8_setRanges : List (Nat × OpT) := [(0, 3, 0, 0, 0, 1, 0), (1, 30, 2, 8, 0, 4, 26), (4, 44, 0, 61, 0, 7, 174), (7, 4, 1, 0, 0, 8, 0), (8, 2, 1, 0, 0, 9, 0), (9, 1, 0, 0, -9, 11, 0), (11, 20, 0, 0, 0, 14, 20), (14, 1, 0, 0, -1000, 17, 0), (17, 2, 1, 0, 0, 18, 0), (18, 7, 0, 0, 0, 19, 0), (19, 41, 0, 0, 0, 20, 0), (20, 3, 0, 0, 0, 21, 0), (21, 30, 2, 8, 0, 24, 26), (24, 44, 0, 67, 0, 27, 177), (27, 14, 0, 0, 0, 30, 32), (30, 1, 0, 0, -1, 31, 0), (31, 41, 0, 0, 0, 32, 0), (32, 3, 0, 0, 0, 33, 0), (33, 30, 1, 8, 0, 36, 19), (36, 3, 0, 0, 0, 37, 0), (37, 30, 0, 8, 0, 40, 10), (40, 44, 1, 10, 0, 43, 61), (43, 1, 0, 0, nI 0, 44, 0), (44, 4, 2, 0, 0, 45, 0), (45, 2, 2, 0, 0, 46, 0), (46, 3, 0, 0, 0, 47, 0), (47, 30, 2, 8, 0, 50, 26), (50, 30, 5, 6, 0, 53, 180), (53, 23, 0, 0, 0, 56, 102), (56, 3, 0, 0, 0, 57, 0), (57, 30, 0, 8, 0, 60, 10), (60, 30, 0, 4, 0, 63, 48), (63, 30, 0, 5, 0, 66, 84), (66, 3, 0, 0, 0, 67, 0), (67, 30, 2, 8, 0, 70, 26), (70, 30, 2, 6, 0, 73, 182), (73, 2, 2, 0, 0, 74, 0), (74, 32, 0, 0, 0, 75, 0), (75, 3, 0, 0, 0, 76, 0), (76, 30, 2, 8, 0, 79, 26), (79, 30, 3, 6, 0, 82, 185), (82, 2, 2, 0, 0, 83, 0), (83, 32, 0, 0, 0, 84, 0), (84, 3, 0, 0, 0, 85, 0), (85, 30, 2, 8, 0, 88, 26), (88, 30, 4, 6, 0, 91, 188), (91, 2, 2, 0, 0, 92, 0), (92, 32, 0, 0, 0, 93, 0), (93, 44, 3, 71, 0, 96, 88), (96, 12, 2, 0, nI 1, 99, 0), (99, 13, 0, 0, 0, 45, 0), (102, 3, 0, 0, 0, 103, 0), (103, 30, 2, 8, 0, 106, 26), (106, 1, 0, 0, nI 0, 107, 0), (107, 31, 1, 6, 0, 110, 171), (110, 3, 0, 0, 0, 111, 0), (111, 30, 2, 8, 0, 114, 26), (114, 30, 5, 6, 0, 117, 180), (117, 41, 0, 0, 0, 118, 0)]
def jX8_setRanges : JT := (88, yX8_setRanges, cX8_setRanges, 3, (some .int), 5, 115, 8, tX8_setRanges)
theorem okX8_setRanges : e_T jX8_setRanges := ⟨by decide +kernel, rfl, rfl, by decide +kernel⟩
def tX8_count : List (Nat × OpT) := [(0, 2, 1, 0, 0, 1, 0), (1, 1, 0, 0, nI 0, 2, 0), (2, 1, 0, 0, nI 5, 3, 0), (3, 46, 3, 101, 0, 6, 44), (6, 14, 0, 0, 0, 9, 24), (9, 3, 0, 0, 0, 10, 0), (10, 30, 0, 8, 0, 13, 10), (13, 30, 0, 4, 0, 16, 48), (16, 30, 1, 5, 0, 19, 51), (19, 2, 1, 0, 0, 20, 0), (20, 44, 1, 22, 0, 23, 76), (23, 41, 0, 0, 0, 24, 0), (24, 2, 1, 0, 0, 25, 0), (25, 43, 0, 0, 0, 92, 0), (92, 3, 0, 0, 0, 93, 0), (93, 30, 0, 8, 0, 96, 10), (96, 30, 0, 4, 0, 99, 48), (99, 30, 1, 5, 0, 102, 51), (102, 30, 8, 2, 0, 105, 55), (105, 41, 0, 0, 0, 106, 0), (106, 3, 0, 0, 0, 107, 0), (107, 30, 0, 8, 0, 110, 10), (110, 30, 0, 4, 0, 113, 48), (113, 30, 4, 5, 0, 116, 65), (116, 41, 0, 0, 0, 117, 0), (117, 3, 0, 0, 0, 118, 0), (118, 30, 0, 8, 0, 121, 10), (121, 30, 0, 4, 0, 124, 48), (124, 30, 0, 5, 0, 127, 84), (127, 44, 0, 72, 0, 130, 93), (130, 41, 0, 0, 0, 131, 0), (131, 3, 0, 0, 0, 132, 0), (132, 30, 0, 8, 0, 135, 10), (135, 30, 0, 4, 0, 138, 48), (138, 30, 2, 5, 0, 141, 110), (141, 44, 0, 3, 0, 144, 189), (144, 41, 0, 0, 0, 145, 0), (145, 3, 0, 0, 0, 146, 0), (146, 30, 0, 8, 0, 149, 10), (149, 30, 0, 4, 0, 152, 48), (152, 44, 0, 47, 0, 155, 192), (155, 41, 0, 0, 0, 156, 0), (156, 3, 0, 0, 0, 157, 0), (157, 30, 0, 8, 0, 160, 10), (160, 30, 0, 4, 0, 163, 48), (163, 30, 1, 5, 0, 166, 51), (166, 44, 0, 25, 0, 169, 195), (169, 41, 0, 0, 0, 170, 0), (170, 3, 0, 0, 0, 171, 0), (171, 30, 0, 8, 0, 174, 10), (174, 30, 0, 4, 0, 177, 48), (177, 30, 2, 5, 0, 180, 110), (180, 44, 0, 4, 0, 183, 198), (183, 41, 0, 0, 0, 184, 0), (184, 3, 0, 0, 0, 185, 0), (185, 30, 0, 8, 0, 188, 10), (188, 30, 0, 4, 0, 191, 48), (191, 30, 5, 5, 0, 194, 201), (194, 41, 0, 0, 0, 195, 0), (195, 3, 0, 0, 0, 196, 0), (196, 30, 0, 8, 0, 199, 10), (199, 30, 0, 4, 0, 202, 48), (202, 30, 6, 5, 0, 205, 204), (205, 41, 0, 0, 0, 206, 0), (206, 3, 0, 0, 0, 207, 0), (207, 30, 0, 8, 0, 210, 10), (210, 30, 0, 4, 0, 213, 48), (213, 30, 7, 5, 0, 216, 207), (216, 41, 0, 0, 0, 217, 0), (217, 3, 0, 0, 0, 218, 0), (218, 30, 0, 8, 0, 221, 10), (221, 44, 0, 40, 0, 224, 210), (224, 41, 0, 0, 0, 225, 0), (225, 3, 0, 0, 0, 226, 0), (226, 30, 1, 8, 0, 229, 19), (229, 30, 1, 1, 0, 232, 158), (232, 41, 0, 0, 0, 233, 0), (233, 3, 0, 0, 0, 234, 0), (234, 30, 2, 8, 0, 237, 26), (237, 30, 1, 6, 0, 240, 171), (240, 41, 0, 0, 0, 241, 0), (241, 1, 0, 0, -1, 242, 0), (242, 41, 0, 0, 0, 243, 0)]
def jX8_count : JT := (89, yX8_count, cX8_count, 2, (some .int), 4, 86, 8, tX8_count)
theorem okX8_count : e_T jX8_count := ⟨by decide +kernel, rfl, rfl, by decide +kernel⟩
def tX8_letter : List (Nat × OpT) := [(0, 3, 0, 0, 0, 1, 0), (1, 30, 0, 8, 0, 4, 10), (4, 30, 0, 4, 0, 7, 48), (7, 30, 1, 5, 0, 10, 51), (10, 5, 3, 0, 0, 11, 0), (11, 3, 3, 0, 0, 12, 0), (12, 2, 1, 0, 0, 13, 0), (13, 44, 1, 15, 0, 16, 213), (16, 15, 0, 0, 0, 19, 21), (19, 1, 0, 0, -1, 20, 0), (20, 41, 0, 0, 0, 21, 0), (21, 2, 2, 0, 0, 22, 0), (22, 43, 0, 0, 0, 72, 0), (72, 3, 3, 0, 0, 73, 0), (73, 30, 0, 2, 0, 76, 216), (76, 2, 1, 0, 0, 77, 0), (77, 32, 0, 0, 0, 78, 0), (78, 41, 0, 0, 0, 79, 0), (79, 3, 3, 0, 0, 80, 0), (80, 30, 1, 2, 0, 83, 219), (83, 2, 1, 0, 0, 84, 0), (84, 32, 0, 0, 0, 85, 0), (85, 41, 0, 0, 0, 86, 0), (86, 3, 3, 0, 0, 87, 0), (87, 30, 3, 2, 0, 90, 222), (90, 2, 1, 0, 0, 91, 0), (91, 32, 0, 0, 0, 92, 0), (92, 41, 0, 0, 0, 93, 0), (93, 3, 3, 0, 0, 94, 0), (94, 30, 3, 2, 0, 97, 222), (97, 2, 1, 0, 0, 98, 0), (98, 32, 0, 0, 0, 99, 0), (99, 1, 0, 0, nI 1, 100, 0), (100, 21, 0, 0, 0, 103, 112), (103, 3, 3, 0, 0, 104, 0), (104, 30, 4, 2, 0, 107, 225), (107, 2, 1, 0, 0, 108, 0), (108, 32, 0, 0, 0, 109, 0), (109, 13, 0, 0, 0, 114, 0), (112, 1, 0, 0, -9, 114, 0), (114, 41, 0, 0, 0, 115, 0), (115, 3, 3, 0, 0, 116, 0), (116, 30, 3, 2, 0, 119, 222), (119, 2, 1, 0, 0, 120, 0), (120, 32, 0, 0, 0, 121, 0), (121, 1, 0, 0, nI 3, 122, 0), (122, 21, 0, 0, 0, 125, 134), (125, 3, 3, 0, 0, 126, 0), (126, 30, 4, 2, 0, 129, 225), (129, 2, 1, 0, 0, 130, 0), (130, 32, 0, 0, 0, 131, 0), (131, 13, 0, 0, 0, 136, 0), (134, 1, 0, 0, -9, 136, 0), (136, 41, 0, 0, 0, 137, 0), (137, 3, 3, 0, 0, 138, 0), (138, 30, 2, 2, 0, 141, 228), (141, 2, 1, 0, 0, 142, 0), (142, 32, 0, 0, 0, 143, 0), (143, 41, 0, 0, 0, 144, 0), (144, 3, 3, 0, 0, 145, 0), (145, 30, 5, 2, 0, 148, 231), (148, 2, 1, 0, 0, 149, 0), (149, 32, 0, 0, 0, 150, 0), (150, 41, 0, 0, 0, 151, 0), (151, 3, 3, 0, 0, 152, 0), (152, 30, 6, 2, 0, 155, 234), (155, 2, 1, 0, 0, 156, 0), (156, 32, 0, 0, 0, 157, 0), (157, 41, 0, 0, 0, 158, 0), (158, 3, 0, 0, 0, 159, 0), (159, 30, 0, 8, 0, 162, 10), (162, 30, 0, 4, 0, 165, 48), (165, 2, 1, 0, 0, 166, 0), (166, 44, 1, 45, 0, 169, 237), (169, 41, 0, 0, 0, 170, 0), (170, 1, 0, 0, -1, 171, 0), (171, 41, 0, 0, 0, 172, 0)]
def jX8_letter : JT := (90, yX8_letter, cX8_letter, 4, (some .int), 3, 64, 8, tX8_letter)
theorem okX8_letter : e_T jX8_letter := ⟨by decide +kernel, rfl, rfl, by decide +kernel⟩
def tX8_frame : List (Nat × OpT) := [(0, 2, 1, 0, 0, 1, 0), (1, 46, 1, 102, 0, 4, 80), (4, 15, 0, 0, 0, 7, 9), (7, 1, 0, 0, -1, 8, 0), (8, 41, 0, 0, 0, 9, 0), (9, 2, 2, 0, 0, 10, 0), (10, 43, 0, 0, 0, 44, 0), (44, 3, 0, 0, 0, 45, 0), (45, 30, 0, 8, 0, 48, 10), (48, 30, 0, 4, 0, 51, 48), (51, 30, 3, 5, 0, 54, 240), (54, 2, 1, 0, 0, 55, 0), (55, 32, 0, 0, 0, 56, 0), (56, 41, 0, 0, 0, 57, 0), (57, 3, 0, 0, 0, 58, 0), (58, 30, 0, 8, 0, 61, 10), (61, 30, 0, 4, 0, 64, 48), (64, 30, 1, 5, 0, 67, 51), (67, 30, 7, 2, 0, 70, 243), (70, 2, 1, 0, 0, 71, 0), (71, 32, 0, 0, 0, 72, 0), (72, 41, 0, 0, 0, 73, 0), (73, 3, 0, 0, 0, 74, 0), (74, 30, 0, 8, 0, 77, 10), (77, 30, 0, 4, 0, 80, 48), (80, 2, 1, 0, 0, 81, 0), (81, 44, 1, 46, 0, 84, 246), (84, 41, 0, 0, 0, 85, 0), (85, 3, 0, 0, 0, 86, 0), (86, 30, 0, 8, 0, 89, 10), (89, 30, 0, 4, 0, 92, 48), (92, 30, 1, 5, 0, 95, 51), (95, 2, 1, 0, 0, 96, 0), (96, 44, 1, 24, 0, 99, 249), (99, 41, 0, 0, 0, 100, 0), (100, 3, 0, 0, 0, 101, 0), (101, 30, 0, 8, 0, 104, 10), (104, 30, 0, 4, 0, 107, 48), (107, 30, 2, 5, 0, 110, 110), (110, 2, 1, 0, 0, 111, 0), (111, 44, 1, 2, 0, 114, 114), (114, 41, 0, 0, 0, 115, 0), (115, 1, 0, 0, -1, 116, 0), (116, 41, 0, 0, 0, 117, 0)]
def jX8_frame : JT := (91, yX8_frame, cX8_frame, 3, (some .int), 3, 67, 8, tX8_frame)
theorem okX8_frame : e_T jX8_frame := ⟨by decide +kernel, rfl, rfl, by decide +kernel⟩
def tX8_carrier : List (Nat × OpT) := [(0, 2, 1, 0, 0, 1, 0), (1, 46, 1, 103, 0, 4, 127), (4, 15, 0, 0, 0, 7, 9), (7, 1, 0, 0, -1, 8, 0), (8, 41, 0, 0, 0, 9, 0), (9, 3, 0, 0, 0, 10, 0), (10, 30, 0, 8, 0, 13, 10), (13, 30, 0, 4, 0, 16, 48), (16, 30, 2, 5, 0, 19, 110), (19, 5, 3, 0, 0, 20, 0), (20, 2, 2, 0, 0, 21, 0), (21, 43, 0, 0, 0, 52, 0), (52, 3, 3, 0, 0, 53, 0), (53, 30, 0, 0, 0, 56, 119), (56, 2, 1, 0, 0, 57, 0), (57, 32, 0, 0, 0, 58, 0), (58, 41, 0, 0, 0, 59, 0), (59, 3, 3, 0, 0, 60, 0), (60, 30, 1, 0, 0, 63, 123), (63, 2, 1, 0, 0, 64, 0), (64, 33, 0, 0, 0, 65, 0), (65, 14, 0, 0, 0, 68, 72), (68, 1, 0, 0, nI 1, 69, 0), (69, 13, 0, 0, 0, 73, 0), (72, 1, 0, 0, nI 0, 73, 0), (73, 41, 0, 0, 0, 74, 0), (74, 3, 0, 0, 0, 75, 0), (75, 30, 0, 8, 0, 78, 10), (78, 30, 0, 4, 0, 81, 48), (81, 30, 1, 5, 0, 84, 51), (84, 2, 1, 0, 0, 85, 0), (85, 44, 1, 23, 0, 88, 252), (88, 41, 0, 0, 0, 89, 0), (89, 3, 3, 0, 0, 90, 0), (90, 30, 2, 0, 0, 93, 255), (93, 2, 1, 0, 0, 94, 0), (94, 32, 0, 0, 0, 95, 0), (95, 41, 0, 0, 0, 96, 0), (96, 1, 0, 0, -1, 97, 0), (97, 41, 0, 0, 0, 98, 0)]
def jX8_carrier : JT := (92, yX8_carrier, cX8_carrier, 4, (some .int), 3, 67, 8, tX8_carrier)
theorem okX8_carrier : e_T jX8_carrier := ⟨by decide +kernel, rfl, rfl, by decide +kernel⟩
def tX8_rounds : List (Nat × OpT) := [(0, 2, 1, 0, 0, 1, 0), (1, 46, 1, 103, 0, 4, 127), (4, 14, 0, 0, 0, 7, 14), (7, 2, 2, 0, 0, 8, 0), (8, 46, 1, 102, 0, 11, 80), (11, 15, 0, 0, 0, 14, 16), (14, 1, 0, 0, -1, 15, 0), (15, 41, 0, 0, 0, 16, 0), (16, 3, 0, 0, 0, 17, 0), (17, 30, 0, 8, 0, 20, 10), (20, 30, 0, 4, 0, 23, 48), (23, 30, 2, 5, 0, 26, 110), (26, 2, 1, 0, 0, 27, 0), (27, 2, 2, 0, 0, 28, 0), (28, 44, 2, 5, 0, 31, 258), (31, 41, 0, 0, 0, 32, 0)]
def jX8_rounds : JT := (93, yX8_rounds, cX8_rounds, 3, (some .int), 2, 42, 8, tX8_rounds)
theorem okX8_rounds : e_T jX8_rounds := ⟨by decide +kernel, rfl, rfl, by decide +kernel⟩
def tX8_stretch : List (Nat × OpT) := [(0, 2, 1, 0, 0, 1, 0), (1, 1, 0, 0, nI 0, 2, 0), (2, 1, 0, 0, nI 99, 4, 0), (4, 46, 3, 101, 0, 7, 44), (7, 15, 0, 0, 0, 10, 12), (10, 1, 0, 0, -1, 11, 0), (11, 41, 0, 0, 0, 12, 0), (12, 2, 2, 0, 0, 13, 0), (13, 43, 0, 0, 0, 40, 0), (40, 3, 0, 0, 0, 41, 0), (41, 30, 0, 8, 0, 44, 10), (44, 30, 0, 4, 0, 47, 48), (47, 30, 0, 5, 0, 50, 84), (50, 2, 1, 0, 0, 51, 0), (51, 44, 1, 70, 0, 54, 262), (54, 41, 0, 0, 0, 55, 0), (55, 3, 0, 0, 0, 56, 0), (56, 30, 0, 8, 0, 59, 10), (59, 30, 0, 4, 0, 62, 48), (62, 30, 0, 5, 0, 65, 84), (65, 2, 1, 0, 0, 66, 0), (66, 44, 1, 73, 0, 69, 263), (69, 41, 0, 0, 0, 70, 0), (70, 3, 0, 0, 0, 71, 0), (71, 30, 0, 8, 0, 74, 10), (74, 30, 0, 4, 0, 77, 48), (77, 30, 0, 5, 0, 80, 84), (80, 2, 1, 0, 0, 81, 0), (81, 44, 1, 74, 0, 84, 266), (84, 41, 0, 0, 0, 85, 0), (85, 1, 0, 0, -1, 86, 0), (86, 41, 0, 0, 0, 87, 0)]
def jX8_stretch : JT := (94, yX8_stretch, cX8_stretch, 3, (some .int), 2, 43, 8, tX8_stretch)
theorem okX8_stretch : e_T jX8_stretch := ⟨by decide +kernel, rfl, rfl, by decide +kernel⟩
def tX8_inBag : List (Nat × OpT) := [(0, 2, 1, 0, 0, 1, 0), (1, 17, 0, 0, 0, 4, 6), (4, 1, 0, 0, -1, 5, 0), (5, 41, 0, 0, 0, 6, 0), (6, 3, 0, 0, 0, 7, 0), (7, 30, 0, 8, 0, 10, 10), (10, 30, 0, 4, 0, 13, 48), (13, 30, 1, 5, 0, 16, 51), (16, 3, 0, 0, 0, 17, 0), (17, 30, 4, 8, 0, 20, 40), (20, 44, 1, 27, 0, 23, 269), (23, 3, 0, 0, 0, 24, 0), (24, 30, 4, 8, 0, 27, 40), (27, 2, 1, 0, 0, 28, 0), (28, 44, 1, 36, 0, 31, 273), (31, 41, 0, 0, 0, 32, 0)]
def jX8_inBag : JT := (95, yX8_inBag, cX8_inBag, 2, (some .int), 3, 68, 8, tX8_inBag)
theorem okX8_inBag : e_T jX8_inBag := ⟨by decide +kernel, rfl, rfl, by decide +kernel⟩
def tX8_inFrame : List (Nat × OpT) := [(0, 2, 1, 0, 0, 1, 0), (1, 46, 1, 102, 0, 4, 80), (4, 14, 0, 0, 0, 7, 11), (7, 2, 2, 0, 0, 8, 0), (8, 17, 0, 0, 0, 11, 13), (11, 1, 0, 0, -1, 12, 0), (12, 41, 0, 0, 0, 13, 0), (13, 3, 0, 0, 0, 14, 0), (14, 30, 0, 8, 0, 17, 10), (17, 30, 0, 4, 0, 20, 48), (20, 30, 1, 5, 0, 23, 51), (23, 1, 0, 0, nI 1, 24, 0), (24, 2, 1, 0, 0, 25, 0), (25, 3, 0, 0, 0, 26, 0), (26, 30, 4, 8, 0, 29, 40), (29, 44, 3, 29, 0, 32, 276), (32, 3, 0, 0, 0, 33, 0), (33, 30, 4, 8, 0, 36, 40), (36, 2, 2, 0, 0, 37, 0), (37, 44, 1, 36, 0, 40, 273), (40, 41, 0, 0, 0, 41, 0)]
def jX8_inFrame : JT := (96, yX8_inFrame, cX8_inFrame, 3, (some .int), 4, 90, 8, tX8_inFrame)
theorem okX8_inFrame : e_T jX8_inFrame := ⟨by decide +kernel, rfl, rfl, by decide +kernel⟩
def tX8_clearIn : List (Nat × OpT) := [(0, 3, 0, 0, 0, 1, 0), (1, 30, 3, 8, 0, 4, 33), (4, 3, 0, 0, 0, 5, 0), (5, 30, 0, 8, 0, 8, 10), (8, 30, 0, 4, 0, 11, 48), (11, 44, 1, 42, 0, 14, 154), (14, 1, 0, 0, nI 0, 15, 0), (15, 4, 1, 0, 0, 16, 0), (16, 2, 1, 0, 0, 17, 0), (17, 1, 0, 0, nI 60, 19, 0), (19, 24, 0, 0, 0, 22, 57), (22, 3, 0, 0, 0, 23, 0), (23, 30, 3, 8, 0, 26, 33), (26, 44, 0, 48, 0, 29, 280), (29, 14, 0, 0, 0, 32, 34), (32, 2, 1, 0, 0, 33, 0), (33, 41, 0, 0, 0, 34, 0), (34, 3, 0, 0, 0, 35, 0), (35, 30, 3, 8, 0, 38, 33), (38, 3, 0, 0, 0, 39, 0), (39, 30, 4, 8, 0, 42, 40), (42, 44, 1, 49, 0, 45, 72), (45, 15, 0, 0, 0, 48, 51), (48, 1, 0, 0, -9, 50, 0), (50, 41, 0, 0, 0, 51, 0), (51, 12, 1, 0, nI 1, 54, 0), (54, 13, 0, 0, 0, 16, 0), (57, 1, 0, 0, -9, 59, 0), (59, 41, 0, 0, 0, 60, 0)]
def jX8_clearIn : JT := (97, yX8_clearIn, cX8_clearIn, 2, (some .int), 6, 134, 8, tX8_clearIn)
theorem okX8_clearIn : e_T jX8_clearIn := ⟨by decide +kernel, rfl, rfl, by decide +kernel⟩
def tX8_wouldOverflow : List (Nat × OpT) := [(0, 2, 1, 0, 0, 1, 0), (1, 1, 0, 0, nI 0, 2, 0), (2, 1, 0, 0, nI 2, 3, 0), (3, 46, 3, 101, 0, 6, 44), (6, 15, 0, 0, 0, 9, 11), (9, 1, 0, 0, -1, 10, 0), (10, 41, 0, 0, 0, 11, 0), (11, 3, 0, 0, 0, 12, 0), (12, 30, 3, 8, 0, 15, 33), (15, 3, 0, 0, 0, 16, 0), (16, 30, 0, 8, 0, 19, 10), (19, 30, 0, 4, 0, 22, 48), (22, 44, 1, 42, 0, 25, 154), (25, 3, 0, 0, 0, 26, 0), (26, 30, 3, 8, 0, 29, 33), (29, 2, 1, 0, 0, 30, 0), (30, 31, 5, 5, 0, 33, 201), (33, 3, 0, 0, 0, 34, 0), (34, 30, 3, 8, 0, 37, 33), (37, 3, 0, 0, 0, 38, 0), (38, 30, 4, 8, 0, 41, 40), (41, 44, 1, 49, 0, 44, 72), (44, 28, 0, 0, 0, 45, 0), (45, 3, 0, 0, 0, 46, 0), (46, 30, 3, 8, 0, 49, 33), (49, 30, 1, 5, 0, 52, 51), (52, 1, 0, 0, nI 2, 53, 0), (53, 44, 1, 22, 0, 56, 76), (56, 41, 0, 0, 0, 57, 0)]
def jX8_wouldOverflow : JT := (98, yX8_wouldOverflow, cX8_wouldOverflow, 2, (some .int), 6, 134, 8, tX8_wouldOverflow)
theorem okX8_wouldOverflow : e_T jX8_wouldOverflow := ⟨by decide +kernel, rfl, rfl, by decide +kernel⟩
def tX8_bestCarrier : List (Nat × OpT) := [(0, 2, 1, 0, 0, 1, 0), (1, 46, 1, 102, 0, 4, 80), (4, 15, 0, 0, 0, 7, 9), (7, 1, 0, 0, -1, 8, 0), (8, 41, 0, 0, 0, 9, 0), (9, 3, 0, 0, 0, 10, 0), (10, 30, 0, 8, 0, 13, 10), (13, 30, 0, 4, 0, 16, 48), (16, 30, 2, 5, 0, 19, 110), (19, 2, 1, 0, 0, 20, 0), (20, 44, 1, 8, 0, 23, 283), (23, 41, 0, 0, 0, 24, 0)]
def jX8_bestCarrier : JT := (99, yX8_bestCarrier, cX8_bestCarrier, 2, (some .int), 3, 65, 8, tX8_bestCarrier)
theorem okX8_bestCarrier : e_T jX8_bestCarrier := ⟨by decide +kernel, rfl, rfl, by decide +kernel⟩
def tX8_wouldDeliver : List (Nat × OpT) := [(0, 2, 1, 0, 0, 1, 0), (1, 46, 1, 103, 0, 4, 127), (4, 15, 0, 0, 0, 7, 9), (7, 1, 0, 0, -1, 8, 0), (8, 41, 0, 0, 0, 9, 0), (9, 3, 0, 0, 0, 10, 0), (10, 30, 0, 8, 0, 13, 10), (13, 30, 0, 4, 0, 16, 48), (16, 30, 2, 5, 0, 19, 110), (19, 30, 1, 0, 0, 22, 123), (22, 2, 1, 0, 0, 23, 0), (23, 33, 0, 0, 0, 24, 0), (24, 4, 2, 0, 0, 25, 0), (25, 2, 2, 0, 0, 26, 0), (26, 15, 0, 0, 0, 29, 46), (29, 3, 0, 0, 0, 30, 0), (30, 30, 0, 8, 0, 33, 10), (33, 30, 0, 4, 0, 36, 48), (36, 2, 1, 0, 0, 37, 0), (37, 44, 1, 53, 0, 40, 130), (40, 15, 0, 0, 0, 43, 46), (43, 1, 0, 0, -2, 45, 0), (45, 41, 0, 0, 0, 46, 0), (46, 3, 0, 0, 0, 47, 0), (47, 30, 3, 8, 0, 50, 33), (50, 3, 0, 0, 0, 51, 0), (51, 30, 0, 8, 0, 54, 10), (54, 30, 0, 4, 0, 57, 48), (57, 44, 1, 42, 0, 60, 154), (60, 2, 2, 0, 0, 61, 0), (61, 15, 0, 0, 0, 64, 77), (64, 3, 0, 0, 0, 65, 0), (65, 30, 3, 8, 0, 68, 33), (68, 2, 1, 0, 0, 69, 0), (69, 3, 0, 0, 0, 70, 0), (70, 30, 4, 8, 0, 73, 40), (73, 44, 2, 54, 0, 76, 133), (76, 28, 0, 0, 0, 77, 0), (77, 3, 0, 0, 0, 78, 0), (78, 30, 3, 8, 0, 81, 33), (81, 2, 1, 0, 0, 82, 0), (82, 3, 0, 0, 0, 83, 0), (83, 30, 4, 8, 0, 86, 40), (86, 44, 2, 55, 0, 89, 137), (89, 41, 0, 0, 0, 90, 0)]
def jX8_wouldDeliver : JT := (100, yX8_wouldDeliver, cX8_wouldDeliver, 3, (some .int), 5, 117, 8, tX8_wouldDeliver)
theorem okX8_wouldDeliver : e_T jX8_wouldDeliver := ⟨by decide +kernel, rfl, rfl, by decide +kernel⟩
def tX8_isIn : List (Nat × OpT) := [(0, 2, 0, 0, 0, 1, 0), (1, 2, 1, 0, 0, 2, 0), (2, 22, 0, 0, 0, 5, 14), (5, 2, 0, 0, 0, 6, 0), (6, 2, 2, 0, 0, 7, 0), (7, 24, 0, 0, 0, 10, 14), (10, 1, 0, 0, nI 1, 11, 0), (11, 13, 0, 0, 0, 15, 0), (14, 1, 0, 0, nI 0, 15, 0), (15, 41, 0, 0, 0, 16, 0)]
def jX8_isIn : JT := (101, yX8_isIn, cX8_isIn, 3, (some .boolean), 0, 0, 8, tX8_isIn)
theorem okX8_isIn : e_T jX8_isIn := ⟨by decide +kernel, rfl, rfl, by decide +kernel⟩
def tX8_isWalk : List (Nat × OpT) := [(0, 2, 0, 0, 0, 1, 0), (1, 16, 0, 0, 0, 4, 14), (4, 2, 0, 0, 0, 5, 0), (5, 1, 0, 0, nI 8, 7, 0), (7, 23, 0, 0, 0, 10, 14), (10, 1, 0, 0, nI 1, 11, 0), (11, 13, 0, 0, 0, 15, 0), (14, 1, 0, 0, nI 0, 15, 0), (15, 41, 0, 0, 0, 16, 0)]
def jX8_isWalk : JT := (102, yX8_isWalk, cX8_isWalk, 1, (some .boolean), 0, 0, 8, tX8_isWalk)
theorem okX8_isWalk : e_T jX8_isWalk := ⟨by decide +kernel, rfl, rfl, by decide +kernel⟩
def tX8_isCarrier : List (Nat × OpT) := [(0, 2, 0, 0, 0, 1, 0), (1, 16, 0, 0, 0, 4, 14), (4, 2, 0, 0, 0, 5, 0), (5, 1, 0, 0, nI 6, 7, 0), (7, 23, 0, 0, 0, 10, 14), (10, 1, 0, 0, nI 1, 11, 0), (11, 13, 0, 0, 0, 15, 0), (14, 1, 0, 0, nI 0, 15, 0), (15, 41, 0, 0, 0, 16, 0)]
def jX8_isCarrier : JT := (103, yX8_isCarrier, cX8_isCarrier, 1, (some .boolean), 0, 0, 8, tX8_isCarrier)
theorem okX8_isCarrier : e_T jX8_isCarrier := ⟨by decide +kernel, rfl, rfl, by decide +kernel⟩
def tX8_isSlot : List (Nat × OpT) := [(0, 2, 0, 0, 0, 1, 0), (1, 16, 0, 0, 0, 4, 13), (4, 2, 0, 0, 0, 5, 0), (5, 1, 0, 0, nI 2, 6, 0), (6, 23, 0, 0, 0, 9, 13), (9, 1, 0, 0, nI 1, 10, 0), (10, 13, 0, 0, 0, 14, 0), (13, 1, 0, 0, nI 0, 14, 0), (14, 41, 0, 0, 0, 15, 0)]
def jX8_isSlot : JT := (104, yX8_isSlot, cX8_isSlot, 1, (some .boolean), 0, 0, 8, tX8_isSlot)
theorem okX8_isSlot : e_T jX8_isSlot := ⟨by decide +kernel, rfl, rfl, by decide +kernel⟩
def tX8_leastValue : List (Nat × OpT) := [(0, 2, 0, 0, 0, 1, 0), (1, 1, 0, 0, nI 8, 3, 0), (3, 21, 0, 0, 0, 6, 10), (6, 1, 0, 0, nI 0, 7, 0), (7, 13, 0, 0, 0, 11, 0), (10, 1, 0, 0, nI 1, 11, 0), (11, 41, 0, 0, 0, 12, 0)]
def jX8_leastValue : JT := (105, yX8_leastValue, cX8_leastValue, 1, (some .int), 0, 0, 8, tX8_leastValue)
theorem okX8_leastValue : e_T jX8_leastValue := ⟨by decide +kernel, rfl, rfl, by decide +kernel⟩
def tX8_greatestValue : List (Nat × OpT) := [(0, 2, 0, 0, 0, 1, 0), (1, 43, 0, 0, 0, 28, 0), (28, 1, 0, 0, nI 2, 29, 0), (29, 41, 0, 0, 0, 30, 0), (30, 1, 0, 0, nI 40, 32, 0), (32, 41, 0, 0, 0, 33, 0), (33, 1, 0, 0, nI 30, 35, 0), (35, 41, 0, 0, 0, 36, 0), (36, 1, 0, 0, nI 20, 38, 0), (38, 41, 0, 0, 0, 39, 0)]
def jX8_greatestValue : JT := (106, yX8_greatestValue, cX8_greatestValue, 1, (some .int), 0, 0, 8, tX8_greatestValue)
theorem okX8_greatestValue : e_T jX8_greatestValue := ⟨by decide +kernel, rfl, rfl, by decide +kernel⟩
def tX9_init : List (Nat × OpT) := [(0, 3, 0, 0, 0, 1, 0), (1, 51, 0, 0, 0, 4, 1), (4, 3, 0, 0, 0, 5, 0), (5, 1, 0, 0, nI 21497, 8, 0), (8, 48, 0, 0, 0, 10, 0), (10, 31, 0, 9, 0, 13, 7), (13, 3, 0, 0, 0, 14, 0), (14, 1, 0, 0, nI 80, 16, 0), (16, 48, 0, 0, 0, 18, 0), (18, 31, 2, 9, 0, 21, 13), (21, 3, 0, 0, 0, 22, 0), (22, 1, 0, 0, nI 120, 24, 0), (24, 48, 0, 0, 0, 26, 0), (26, 31, 6, 9, 0, 29, 16), (29, 1, 0, 0, nI 0, 30, 0), (30, 4, 1, 0, 0, 31, 0), (31, 2, 1, 0, 0, 32, 0), (32, 1, 0, 0, nI 100, 34, 0), (34, 23, 0, 0, 0, 37, 55), (37, 3, 0, 0, 0, 38, 0), (38, 30, 0, 9, 0, 41, 7), (41, 2, 1, 0, 0, 42, 0), (42, 2, 1, 0, 0, 43, 0), (43, 1, 0, 0, nI 2, 44, 0), (44, 8, 0, 0, 0, 45, 0), (45, 1, 0, 0, nI 25, 47, 0), (47, 9, 0, 0, 0, 48, 0), (48, 36, 0, 0, 0, 49, 0), (49, 12, 1, 0, nI 1, 52, 0), (52, 13, 0, 0, 0, 31, 0), (55, 1, 0, 0, nI 0, 56, 0), (56, 4, 1, 0, 0, 57, 0), (57, 2, 1, 0, 0, 58, 0), (58, 1, 0, 0, nI 8, 60, 0), (60, 23, 0, 0, 0, 63, 93), (63, 3, 0, 0, 0, 64, 0), (64, 30, 0, 9, 0, 67, 7), (67, 1, 0, 0, nI 941, 70, 0), (70, 2, 1, 0, 0, 71, 0), (71, 6, 0, 0, 0, 72, 0), (72, 1, 0, 0, nI 6, 74, 0), (74, 36, 0, 0, 0, 75, 0), (75, 3, 0, 0, 0, 76, 0), (76, 30, 0, 9, 0, 79, 7), (79, 1, 0, 0, nI 955, 82, 0), (82, 2, 1, 0, 0, 83, 0), (83, 6, 0, 0, 0, 84, 0), (84, 1, 0, 0, -9, 86, 0), (86, 36, 0, 0, 0, 87, 0), (87, 12, 1, 0, nI 1, 90, 0), (90, 13, 0, 0, 0, 57, 0), (93, 3, 0, 0, 0, 94, 0), (94, 30, 0, 9, 0, 97, 7), (97, 1, 0, 0, nI 950, 100, 0), (100, 1, 0, 0, nI 10, 102, 0), (102, 36, 0, 0, 0, 103, 0), (103, 3, 0, 0, 0, 104, 0), (104, 30, 0, 9, 0, 107, 7), (107, 1, 0, 0, nI 951, 110, 0), (110, 1, 0, 0, nI 8, 112, 0), (112, 36, 0, 0, 0, 113, 0), (113, 42, 0, 0, 0, 114, 0)]
def jX9_init : JT := (107, yX9_init, cX9_init, 2, none, 1, 20, 9, tX9_init)
theorem okX9_init : e_T jX9_init := ⟨by decide +kernel, rfl, rfl, by decide +kernel⟩
def tX9_in : List (Nat × OpT) := [(0, 2, 0, 0, 0, 1, 0), (1, 2, 1, 0, 0, 2, 0), (2, 22, 0, 0, 0, 5, 14), (5, 2, 0, 0, 0, 6, 0), (6, 2, 2, 0, 0, 7, 0), (7, 24, 0, 0, 0, 10, 14), (10, 1, 0, 0, nI 1, 11, 0), (11, 13, 0, 0, 0, 15, 0), (14, 1, 0, 0, nI 0, 15, 0), (15, 41, 0, 0, 0, 16, 0)]
def jX9_in : JT := (108, yX9_in, cX9_in, 3, (some .boolean), 0, 0, 9, tX9_in)
theorem okX9_in : e_T jX9_in := ⟨by decide +kernel, rfl, rfl, by decide +kernel⟩
def tX9_copies : List (Nat × OpT) := [(0, 1, 0, 0, nI 0, 1, 0), (1, 4, 4, 0, 0, 3, 0), (3, 2, 4, 0, 0, 5, 0), (5, 2, 3, 0, 0, 6, 0), (6, 23, 0, 0, 0, 9, 33), (9, 3, 0, 0, 0, 10, 0), (10, 30, 0, 9, 0, 13, 7), (13, 2, 2, 0, 0, 14, 0), (14, 2, 4, 0, 0, 16, 0), (16, 6, 0, 0, 0, 17, 0), (17, 3, 0, 0, 0, 18, 0), (18, 30, 0, 9, 0, 21, 7), (21, 2, 1, 0, 0, 22, 0), (22, 2, 4, 0, 0, 24, 0), (24, 6, 0, 0, 0, 25, 0), (25, 32, 0, 0, 0, 26, 0), (26, 36, 0, 0, 0, 27, 0), (27, 12, 4, 0, nI 1, 30, 0), (30, 13, 0, 0, 0, 3, 0), (33, 42, 0, 0, 0, 34, 0)]
def jX9_copies : JT := (109, yX9_copies, cX9_copies, 5, none, 0, 0, 9, tX9_copies)
theorem okX9_copies : e_T jX9_copies := ⟨by decide +kernel, rfl, rfl, by decide +kernel⟩
def tX9_records : List (Nat × OpT) := [(0, 3, 0, 0, 0, 1, 0), (1, 30, 1, 9, 0, 4, 19), (4, 1, 0, 0, nI 5, 5, 0), (5, 21, 0, 0, 0, 8, 50), (8, 1, 0, 0, nI 1, 9, 0), (9, 4, 1, 0, 0, 10, 0), (10, 2, 1, 0, 0, 11, 0), (11, 1, 0, 0, nI 5, 12, 0), (12, 23, 0, 0, 0, 15, 40), (15, 3, 0, 0, 0, 16, 0), (16, 1, 0, 0, nI 3071, 19, 0), (19, 2, 1, 0, 0, 20, 0), (20, 1, 0, 0, nI 1, 21, 0), (21, 6, 0, 0, 0, 22, 0), (22, 8, 0, 0, 0, 23, 0), (23, 1, 0, 0, nI 3071, 26, 0), (26, 2, 1, 0, 0, 27, 0), (27, 8, 0, 0, 0, 28, 0), (28, 1, 0, 0, nI 3071, 31, 0), (31, 44, 3, 109, 0, 34, 23), (34, 12, 1, 0, nI 1, 37, 0), (37, 13, 0, 0, 0, 10, 0), (40, 3, 0, 0, 0, 41, 0), (41, 26, 0, 0, 0, 42, 0), (42, 30, 1, 9, 0, 45, 19), (45, 1, 0, 0, nI 1, 46, 0), (46, 7, 0, 0, 0, 47, 0), (47, 31, 1, 9, 0, 50, 19), (50, 3, 0, 0, 0, 51, 0), (51, 26, 0, 0, 0, 52, 0), (52, 30, 1, 9, 0, 55, 19), (55, 1, 0, 0, nI 1, 56, 0), (56, 6, 0, 0, 0, 57, 0), (57, 31, 1, 9, 0, 60, 19), (60, 3, 0, 0, 0, 61, 0), (61, 1, 0, 0, nI 0, 62, 0), (62, 1, 0, 0, nI 3071, 65, 0), (65, 3, 0, 0, 0, 66, 0), (66, 30, 1, 9, 0, 69, 19), (69, 8, 0, 0, 0, 70, 0), (70, 1, 0, 0, nI 3071, 73, 0), (73, 44, 3, 109, 0, 76, 23), (76, 42, 0, 0, 0, 77, 0)]
def jX9_records : JT := (110, yX9_records, cX9_records, 2, none, 1, 24, 9, tX9_records)
theorem okX9_records : e_T jX9_records := ⟨by decide +kernel, rfl, rfl, by decide +kernel⟩
def tX9_of : List (Nat × OpT) := [(0, 3, 0, 0, 0, 1, 0), (1, 30, 0, 9, 0, 4, 7), (4, 1, 0, 0, nI 101, 6, 0), (6, 1, 0, 0, nI 7, 8, 0), (8, 2, 1, 0, 0, 9, 0), (9, 8, 0, 0, 0, 10, 0), (10, 6, 0, 0, 0, 11, 0), (11, 2, 2, 0, 0, 12, 0), (12, 6, 0, 0, 0, 13, 0), (13, 32, 0, 0, 0, 14, 0), (14, 41, 0, 0, 0, 15, 0)]
def jX9_of : JT := (111, yX9_of, cX9_of, 3, (some .int), 0, 0, 9, tX9_of)
theorem okX9_of : e_T jX9_of := ⟨by decide +kernel, rfl, rfl, by decide +kernel⟩
def tX9_set : List (Nat × OpT) := [(0, 3, 0, 0, 0, 1, 0), (1, 30, 0, 9, 0, 4, 7), (4, 1, 0, 0, nI 101, 6, 0), (6, 1, 0, 0, nI 7, 8, 0), (8, 2, 1, 0, 0, 9, 0), (9, 8, 0, 0, 0, 10, 0), (10, 6, 0, 0, 0, 11, 0), (11, 2, 2, 0, 0, 12, 0), (12, 6, 0, 0, 0, 13, 0), (13, 2, 3, 0, 0, 14, 0), (14, 36, 0, 0, 0, 15, 0), (15, 42, 0, 0, 0, 16, 0)]
def jX9_set : JT := (112, yX9_set, cX9_set, 4, none, 0, 0, 9, tX9_set)
theorem okX9_set : e_T jX9_set := ⟨by decide +kernel, rfl, rfl, by decide +kernel⟩
def tX9_puts : List (Nat × OpT) := [(0, 3, 0, 0, 0, 1, 0), (1, 2, 1, 0, 0, 2, 0), (2, 1, 0, 0, nI 3, 3, 0), (3, 2, 2, 0, 0, 4, 0), (4, 44, 3, 112, 0, 7, 27), (7, 3, 0, 0, 0, 8, 0), (8, 2, 1, 0, 0, 9, 0), (9, 1, 0, 0, nI 4, 10, 0), (10, 2, 3, 0, 0, 11, 0), (11, 44, 3, 112, 0, 14, 27), (14, 42, 0, 0, 0, 15, 0)]
def jX9_puts : JT := (113, yX9_puts, cX9_puts, 4, none, 1, 23, 9, tX9_puts)
theorem okX9_puts : e_T jX9_puts := ⟨by decide +kernel, rfl, rfl, by decide +kernel⟩
def tX9_walkOf : List (Nat × OpT) := [(0, 3, 0, 0, 0, 1, 0), (1, 30, 0, 9, 0, 4, 7), (4, 3, 0, 0, 0, 5, 0), (5, 2, 1, 0, 0, 6, 0), (6, 1, 0, 0, nI 0, 7, 0), (7, 44, 2, 111, 0, 10, 30), (10, 32, 0, 0, 0, 11, 0), (11, 41, 0, 0, 0, 12, 0)]
def jX9_walkOf : JT := (114, yX9_walkOf, cX9_walkOf, 2, (some .int), 1, 22, 9, tX9_walkOf)
theorem okX9_walkOf : e_T jX9_walkOf := ⟨by decide +kernel, rfl, rfl, by decide +kernel⟩
def tX9_isWalk : List (Nat × OpT) := [(0, 2, 0, 0, 0, 1, 0), (1, 1, 0, 0, nI 0, 2, 0), (2, 1, 0, 0, nI 7, 4, 0), (4, 46, 3, 108, 0, 7, 34), (7, 41, 0, 0, 0, 8, 0)]
def jX9_isWalk : JT := (115, yX9_isWalk, cX9_isWalk, 1, (some .boolean), 1, 22, 9, tX9_isWalk)
theorem okX9_isWalk : e_T jX9_isWalk := ⟨by decide +kernel, rfl, rfl, by decide +kernel⟩
def tX9_isCarrier : List (Nat × OpT) := [(0, 2, 0, 0, 0, 1, 0), (1, 1, 0, 0, nI 0, 2, 0), (2, 1, 0, 0, nI 5, 3, 0), (3, 46, 3, 108, 0, 6, 34), (6, 41, 0, 0, 0, 7, 0)]
def jX9_isCarrier : JT := (116, yX9_isCarrier, cX9_isCarrier, 1, (some .boolean), 1, 22, 9, tX9_isCarrier)
theorem okX9_isCarrier : e_T jX9_isCarrier := ⟨by decide +kernel, rfl, rfl, by decide +kernel⟩
def tX9_isAt : List (Nat × OpT) := [(0, 3, 0, 0, 0, 1, 0), (1, 2, 1, 0, 0, 2, 0), (2, 1, 0, 0, nI 3, 3, 0), (3, 44, 2, 111, 0, 6, 30), (6, 2, 2, 0, 0, 7, 0), (7, 21, 0, 0, 0, 10, 24), (10, 3, 0, 0, 0, 11, 0), (11, 2, 1, 0, 0, 12, 0), (12, 1, 0, 0, nI 4, 13, 0), (13, 44, 2, 111, 0, 16, 30), (16, 2, 3, 0, 0, 17, 0), (17, 21, 0, 0, 0, 20, 24), (20, 1, 0, 0, nI 1, 21, 0), (21, 13, 0, 0, 0, 25, 0), (24, 1, 0, 0, nI 0, 25, 0), (25, 41, 0, 0, 0, 26, 0)]
def jX9_isAt : JT := (117, yX9_isAt, cX9_isAt, 4, (some .boolean), 1, 22, 9, tX9_isAt)
theorem okX9_isAt : e_T jX9_isAt := ⟨by decide +kernel, rfl, rfl, by decide +kernel⟩
def tX9_countAt : List (Nat × OpT) := [(0, 1, 0, 0, nI 0, 1, 0), (1, 4, 3, 0, 0, 2, 0), (2, 1, 0, 0, nI 0, 3, 0), (3, 4, 4, 0, 0, 5, 0), (5, 2, 4, 0, 0, 7, 0), (7, 3, 0, 0, 0, 8, 0), (8, 30, 0, 9, 0, 11, 7), (11, 1, 0, 0, nI 100, 13, 0), (13, 32, 0, 0, 0, 14, 0), (14, 23, 0, 0, 0, 17, 42), (17, 2, 3, 0, 0, 18, 0), (18, 3, 0, 0, 0, 19, 0), (19, 2, 4, 0, 0, 21, 0), (21, 2, 1, 0, 0, 22, 0), (22, 2, 2, 0, 0, 23, 0), (23, 44, 3, 117, 0, 26, 38), (26, 14, 0, 0, 0, 29, 33), (29, 1, 0, 0, nI 1, 30, 0), (30, 13, 0, 0, 0, 34, 0), (33, 1, 0, 0, nI 0, 34, 0), (34, 6, 0, 0, 0, 35, 0), (35, 4, 3, 0, 0, 36, 0), (36, 12, 4, 0, nI 1, 39, 0), (39, 13, 0, 0, 0, 5, 0), (42, 2, 3, 0, 0, 43, 0), (43, 41, 0, 0, 0, 44, 0)]
def jX9_countAt : JT := (118, yX9_countAt, cX9_countAt, 5, (some .int), 2, 45, 9, tX9_countAt)
theorem okX9_countAt : e_T jX9_countAt := ⟨by decide +kernel, rfl, rfl, by decide +kernel⟩
def tX9_countIn : List (Nat × OpT) := [(0, 1, 0, 0, nI 0, 1, 0), (1, 4, 2, 0, 0, 2, 0), (2, 1, 0, 0, nI 0, 3, 0), (3, 4, 3, 0, 0, 4, 0), (4, 2, 3, 0, 0, 5, 0), (5, 3, 0, 0, 0, 6, 0), (6, 30, 0, 9, 0, 9, 7), (9, 1, 0, 0, nI 100, 11, 0), (11, 32, 0, 0, 0, 12, 0), (12, 23, 0, 0, 0, 15, 39), (15, 2, 2, 0, 0, 16, 0), (16, 3, 0, 0, 0, 17, 0), (17, 2, 3, 0, 0, 18, 0), (18, 1, 0, 0, nI 3, 19, 0), (19, 44, 2, 111, 0, 22, 30), (22, 2, 1, 0, 0, 23, 0), (23, 21, 0, 0, 0, 26, 30), (26, 1, 0, 0, nI 1, 27, 0), (27, 13, 0, 0, 0, 31, 0), (30, 1, 0, 0, nI 0, 31, 0), (31, 6, 0, 0, 0, 32, 0), (32, 4, 2, 0, 0, 33, 0), (33, 12, 3, 0, nI 1, 36, 0), (36, 13, 0, 0, 0, 4, 0), (39, 2, 2, 0, 0, 40, 0), (40, 41, 0, 0, 0, 41, 0)]
def jX9_countIn : JT := (119, yX9_countIn, cX9_countIn, 4, (some .int), 1, 22, 9, tX9_countIn)
theorem okX9_countIn : e_T jX9_countIn := ⟨by decide +kernel, rfl, rfl, by decide +kernel⟩
def tX9_free : List (Nat × OpT) := [(0, 3, 0, 0, 0, 1, 0), (1, 30, 0, 9, 0, 4, 7), (4, 1, 0, 0, nI 941, 7, 0), (7, 2, 1, 0, 0, 8, 0), (8, 6, 0, 0, 0, 9, 0), (9, 32, 0, 0, 0, 10, 0), (10, 3, 0, 0, 0, 11, 0), (11, 1, 0, 0, nI 1, 12, 0), (12, 2, 1, 0, 0, 13, 0), (13, 44, 2, 118, 0, 16, 41), (16, 7, 0, 0, 0, 17, 0), (17, 4, 2, 0, 0, 18, 0), (18, 2, 2, 0, 0, 19, 0), (19, 19, 0, 0, 0, 22, 26), (22, 2, 2, 0, 0, 23, 0), (23, 13, 0, 0, 0, 27, 0), (26, 1, 0, 0, nI 0, 27, 0), (27, 41, 0, 0, 0, 28, 0)]
def jX9_free : JT := (120, yX9_free, cX9_free, 3, (some .int), 3, 69, 9, tX9_free)
theorem okX9_free : e_T jX9_free := ⟨by decide +kernel, rfl, rfl, by decide +kernel⟩
def tX9_layByCodes : List (Nat × OpT) := [(0, 1, 0, 0, nI 0, 1, 0), (1, 4, 3, 0, 0, 2, 0), (2, 1, 0, 0, nI 0, 3, 0), (3, 4, 4, 0, 0, 5, 0), (5, 2, 4, 0, 0, 7, 0), (7, 3, 0, 0, 0, 8, 0), (8, 30, 0, 9, 0, 11, 7), (11, 1, 0, 0, nI 100, 13, 0), (13, 32, 0, 0, 0, 14, 0), (14, 23, 0, 0, 0, 17, 100), (17, 3, 0, 0, 0, 18, 0), (18, 2, 4, 0, 0, 20, 0), (20, 2, 1, 0, 0, 21, 0), (21, 2, 2, 0, 0, 22, 0), (22, 44, 3, 117, 0, 25, 38), (25, 14, 0, 0, 0, 28, 94), (28, 2, 3, 0, 0, 29, 0), (29, 4, 5, 0, 0, 31, 0), (31, 2, 5, 0, 0, 33, 0), (33, 19, 0, 0, 0, 36, 82), (36, 3, 0, 0, 0, 37, 0), (37, 3, 0, 0, 0, 38, 0), (38, 30, 6, 9, 0, 41, 16), (41, 2, 5, 0, 0, 43, 0), (43, 1, 0, 0, nI 1, 44, 0), (44, 7, 0, 0, 0, 45, 0), (45, 32, 0, 0, 0, 46, 0), (46, 1, 0, 0, nI 0, 47, 0), (47, 44, 2, 111, 0, 50, 30), (50, 3, 0, 0, 0, 51, 0), (51, 2, 4, 0, 0, 53, 0), (53, 1, 0, 0, nI 0, 54, 0), (54, 44, 2, 111, 0, 57, 30), (57, 25, 0, 0, 0, 60, 82), (60, 3, 0, 0, 0, 61, 0), (61, 30, 6, 9, 0, 64, 16), (64, 2, 5, 0, 0, 66, 0), (66, 3, 0, 0, 0, 67, 0), (67, 30, 6, 9, 0, 70, 16), (70, 2, 5, 0, 0, 72, 0), (72, 1, 0, 0, nI 1, 73, 0), (73, 7, 0, 0, 0, 74, 0), (74, 32, 0, 0, 0, 75, 0), (75, 36, 0, 0, 0, 76, 0), (76, 12, 5, 0, -1, 79, 0), (79, 13, 0, 0, 0, 31, 0), (82, 3, 0, 0, 0, 83, 0), (83, 30, 6, 9, 0, 86, 16), (86, 2, 5, 0, 0, 88, 0), (88, 2, 4, 0, 0, 90, 0), (90, 36, 0, 0, 0, 91, 0), (91, 12, 3, 0, nI 1, 94, 0), (94, 12, 4, 0, nI 1, 97, 0), (97, 13, 0, 0, 0, 5, 0), (100, 2, 3, 0, 0, 101, 0), (101, 41, 0, 0, 0, 102, 0)]
def jX9_layByCodes : JT := (121, yX9_layByCodes, cX9_layByCodes, 6, (some .int), 2, 45, 9, tX9_layByCodes)
theorem okX9_layByCodes : e_T jX9_layByCodes := ⟨by decide +kernel, rfl, rfl, by decide +kernel⟩
def tX9_rank : List (Nat × OpT) := [(0, 1, 0, 0, nI 10, 2, 0), (2, 3, 0, 0, 0, 3, 0), (3, 2, 1, 0, 0, 4, 0), (4, 1, 0, 0, nI 1, 5, 0), (5, 44, 2, 111, 0, 8, 30), (8, 8, 0, 0, 0, 9, 0), (9, 3, 0, 0, 0, 10, 0), (10, 2, 1, 0, 0, 11, 0), (11, 1, 0, 0, nI 2, 12, 0), (12, 44, 2, 111, 0, 15, 30), (15, 6, 0, 0, 0, 16, 0), (16, 41, 0, 0, 0, 17, 0)]
def jX9_rank : JT := (122, yX9_rank, cX9_rank, 2, (some .int), 1, 22, 9, tX9_rank)
theorem okX9_rank : e_T jX9_rank := ⟨by decide +kernel, rfl, rfl, by decide +kernel⟩
def tX9_layBag : List (Nat × OpT) := [(0, 1, 0, 0, nI 0, 1, 0), (1, 4, 1, 0, 0, 2, 0), (2, 1, 0, 0, nI 0, 3, 0), (3, 4, 2, 0, 0, 4, 0), (4, 2, 2, 0, 0, 5, 0), (5, 3, 0, 0, 0, 6, 0), (6, 30, 0, 9, 0, 9, 7), (9, 1, 0, 0, nI 100, 11, 0), (11, 32, 0, 0, 0, 12, 0), (12, 23, 0, 0, 0, 15, 86), (15, 3, 0, 0, 0, 16, 0), (16, 2, 2, 0, 0, 17, 0), (17, 1, 0, 0, nI 3, 18, 0), (18, 44, 2, 111, 0, 21, 30), (21, 15, 0, 0, 0, 24, 80), (24, 2, 1, 0, 0, 25, 0), (25, 4, 3, 0, 0, 26, 0), (26, 2, 3, 0, 0, 27, 0), (27, 19, 0, 0, 0, 30, 70), (30, 3, 0, 0, 0, 31, 0), (31, 3, 0, 0, 0, 32, 0), (32, 30, 6, 9, 0, 35, 16), (35, 2, 3, 0, 0, 36, 0), (36, 1, 0, 0, nI 1, 37, 0), (37, 7, 0, 0, 0, 38, 0), (38, 32, 0, 0, 0, 39, 0), (39, 44, 1, 122, 0, 42, 44), (42, 3, 0, 0, 0, 43, 0), (43, 2, 2, 0, 0, 44, 0), (44, 44, 1, 122, 0, 47, 44), (47, 23, 0, 0, 0, 50, 70), (50, 3, 0, 0, 0, 51, 0), (51, 30, 6, 9, 0, 54, 16), (54, 2, 3, 0, 0, 55, 0), (55, 3, 0, 0, 0, 56, 0), (56, 30, 6, 9, 0, 59, 16), (59, 2, 3, 0, 0, 60, 0), (60, 1, 0, 0, nI 1, 61, 0), (61, 7, 0, 0, 0, 62, 0), (62, 32, 0, 0, 0, 63, 0), (63, 36, 0, 0, 0, 64, 0), (64, 12, 3, 0, -1, 67, 0), (67, 13, 0, 0, 0, 26, 0), (70, 3, 0, 0, 0, 71, 0), (71, 30, 6, 9, 0, 74, 16), (74, 2, 3, 0, 0, 75, 0), (75, 2, 2, 0, 0, 76, 0), (76, 36, 0, 0, 0, 77, 0), (77, 12, 1, 0, nI 1, 80, 0), (80, 12, 2, 0, nI 1, 83, 0), (83, 13, 0, 0, 0, 4, 0), (86, 2, 1, 0, 0, 87, 0), (87, 41, 0, 0, 0, 88, 0)]
def jX9_layBag : JT := (123, yX9_layBag, cX9_layBag, 4, (some .int), 2, 43, 9, tX9_layBag)
theorem okX9_layBag : e_T jX9_layBag := ⟨by decide +kernel, rfl, rfl, by decide +kernel⟩
def tX9_post : List (Nat × OpT) := [(0, 2, 1, 0, 0, 1, 0), (1, 1, 0, 0, nI 0, 2, 0), (2, 1, 0, 0, nI 99, 4, 0), (4, 46, 3, 108, 0, 7, 34), (7, 14, 0, 0, 0, 10, 29), (10, 2, 2, 0, 0, 11, 0), (11, 1, 0, 0, nI 0, 12, 0), (12, 1, 0, 0, nI 1, 13, 0), (13, 46, 3, 108, 0, 16, 34), (16, 14, 0, 0, 0, 19, 29), (19, 2, 3, 0, 0, 20, 0), (20, 1, 0, 0, nI 1, 21, 0), (21, 1, 0, 0, nI 20, 23, 0), (23, 46, 3, 108, 0, 26, 34), (26, 15, 0, 0, 0, 29, 31), (29, 1, 0, 0, -1, 30, 0), (30, 41, 0, 0, 0, 31, 0), (31, 3, 0, 0, 0, 32, 0), (32, 30, 0, 9, 0, 35, 7), (35, 1, 0, 0, nI 100, 37, 0), (37, 32, 0, 0, 0, 38, 0), (38, 2, 3, 0, 0, 39, 0), (39, 6, 0, 0, 0, 40, 0), (40, 1, 0, 0, nI 120, 42, 0), (42, 25, 0, 0, 0, 45, 48), (45, 1, 0, 0, -3, 47, 0), (47, 41, 0, 0, 0, 48, 0), (48, 3, 0, 0, 0, 49, 0), (49, 44, 0, 110, 0, 52, 48), (52, 3, 0, 0, 0, 53, 0), (53, 30, 0, 9, 0, 56, 7), (56, 1, 0, 0, nI 100, 58, 0), (58, 32, 0, 0, 0, 59, 0), (59, 4, 4, 0, 0, 61, 0), (61, 1, 0, 0, nI 0, 62, 0), (62, 4, 5, 0, 0, 64, 0), (64, 2, 5, 0, 0, 66, 0), (66, 2, 3, 0, 0, 67, 0), (67, 23, 0, 0, 0, 70, 151), (70, 2, 4, 0, 0, 72, 0), (72, 2, 5, 0, 0, 74, 0), (74, 6, 0, 0, 0, 75, 0), (75, 4, 6, 0, 0, 77, 0), (77, 3, 0, 0, 0, 78, 0), (78, 30, 0, 9, 0, 81, 7), (81, 1, 0, 0, nI 100, 83, 0), (83, 27, 0, 0, 0, 84, 0), (84, 32, 0, 0, 0, 85, 0), (85, 1, 0, 0, nI 1, 86, 0), (86, 6, 0, 0, 0, 87, 0), (87, 36, 0, 0, 0, 88, 0), (88, 3, 0, 0, 0, 89, 0), (89, 2, 6, 0, 0, 91, 0), (91, 1, 0, 0, nI 0, 92, 0), (92, 2, 1, 0, 0, 93, 0), (93, 44, 3, 112, 0, 96, 27), (96, 3, 0, 0, 0, 97, 0), (97, 2, 6, 0, 0, 99, 0), (99, 1, 0, 0, nI 1, 100, 0), (100, 2, 2, 0, 0, 101, 0), (101, 44, 3, 112, 0, 104, 27), (104, 3, 0, 0, 0, 105, 0), (105, 2, 6, 0, 0, 107, 0), (107, 1, 0, 0, nI 2, 108, 0), (108, 1, 0, 0, nI 0, 109, 0), (109, 44, 3, 112, 0, 112, 27), (112, 3, 0, 0, 0, 113, 0), (113, 2, 6, 0, 0, 115, 0), (115, 1, 0, 0, nI 0, 116, 0), (116, 1, 0, 0, nI 0, 117, 0), (117, 44, 3, 113, 0, 120, 51), (120, 3, 0, 0, 0, 121, 0), (121, 2, 6, 0, 0, 123, 0), (123, 1, 0, 0, nI 5, 124, 0), (124, 3, 0, 0, 0, 125, 0), (125, 30, 0, 9, 0, 128, 7), (128, 1, 0, 0, nI 952, 131, 0), (131, 32, 0, 0, 0, 132, 0), (132, 44, 3, 112, 0, 135, 27), (135, 3, 0, 0, 0, 136, 0), (136, 2, 6, 0, 0, 138, 0), (138, 1, 0, 0, nI 6, 140, 0), (140, 1, 0, 0, -9, 142, 0), (142, 44, 3, 112, 0, 145, 27), (145, 12, 5, 0, nI 1, 148, 0), (148, 13, 0, 0, 0, 64, 0), (151, 2, 4, 0, 0, 153, 0), (153, 41, 0, 0, 0, 154, 0)]
def jX9_post : JT := (124, yX9_post, cX9_post, 7, (some .int), 2, 46, 9, tX9_post)
theorem okX9_post : e_T jX9_post := ⟨by decide +kernel, rfl, rfl, by decide +kernel⟩
def tX9_lastSecond : List (Nat × OpT) := [(0, 1, 0, 0, -9, 2, 0), (2, 4, 2, 0, 0, 3, 0), (3, 1, 0, 0, nI 0, 4, 0), (4, 4, 3, 0, 0, 5, 0), (5, 2, 3, 0, 0, 6, 0), (6, 3, 0, 0, 0, 7, 0), (7, 30, 0, 9, 0, 10, 7), (10, 1, 0, 0, nI 100, 12, 0), (12, 32, 0, 0, 0, 13, 0), (13, 23, 0, 0, 0, 16, 47), (16, 3, 0, 0, 0, 17, 0), (17, 2, 3, 0, 0, 18, 0), (18, 1, 0, 0, nI 1, 19, 0), (19, 2, 1, 0, 0, 20, 0), (20, 44, 3, 117, 0, 23, 38), (23, 14, 0, 0, 0, 26, 39), (26, 3, 0, 0, 0, 27, 0), (27, 2, 3, 0, 0, 28, 0), (28, 1, 0, 0, nI 1, 29, 0), (29, 44, 2, 111, 0, 32, 30), (32, 15, 0, 0, 0, 35, 39), (35, 2, 3, 0, 0, 36, 0), (36, 13, 0, 0, 0, 40, 0), (39, 2, 2, 0, 0, 40, 0), (40, 4, 2, 0, 0, 41, 0), (41, 12, 3, 0, nI 1, 44, 0), (44, 13, 0, 0, 0, 5, 0), (47, 2, 2, 0, 0, 48, 0), (48, 41, 0, 0, 0, 49, 0)]
def jX9_lastSecond : JT := (125, yX9_lastSecond, cX9_lastSecond, 4, (some .int), 2, 45, 9, tX9_lastSecond)
theorem okX9_lastSecond : e_T jX9_lastSecond := ⟨by decide +kernel, rfl, rfl, by decide +kernel⟩
def tX9_freest : List (Nat × OpT) := [(0, 1, 0, 0, -9, 2, 0), (2, 4, 1, 0, 0, 3, 0), (3, 1, 0, 0, nI 0, 4, 0), (4, 4, 2, 0, 0, 5, 0), (5, 1, 0, 0, nI 0, 6, 0), (6, 4, 3, 0, 0, 7, 0), (7, 2, 3, 0, 0, 8, 0), (8, 1, 0, 0, nI 8, 10, 0), (10, 23, 0, 0, 0, 13, 51), (13, 3, 0, 0, 0, 14, 0), (14, 2, 3, 0, 0, 15, 0), (15, 44, 1, 120, 0, 18, 54), (18, 4, 4, 0, 0, 20, 0), (20, 2, 4, 0, 0, 22, 0), (22, 2, 2, 0, 0, 23, 0), (23, 25, 0, 0, 0, 26, 30), (26, 2, 3, 0, 0, 27, 0), (27, 13, 0, 0, 0, 31, 0), (30, 2, 1, 0, 0, 31, 0), (31, 4, 1, 0, 0, 32, 0), (32, 2, 4, 0, 0, 34, 0), (34, 2, 2, 0, 0, 35, 0), (35, 25, 0, 0, 0, 38, 43), (38, 2, 4, 0, 0, 40, 0), (40, 13, 0, 0, 0, 44, 0), (43, 2, 2, 0, 0, 44, 0), (44, 4, 2, 0, 0, 45, 0), (45, 12, 3, 0, nI 1, 48, 0), (48, 13, 0, 0, 0, 7, 0), (51, 2, 1, 0, 0, 52, 0), (52, 41, 0, 0, 0, 53, 0)]
def jX9_freest : JT := (126, yX9_freest, cX9_freest, 5, (some .int), 4, 91, 9, tX9_freest)
theorem okX9_freest : e_T jX9_freest := ⟨by decide +kernel, rfl, rfl, by decide +kernel⟩
def tX9_sorts : List (Nat × OpT) := [(0, 3, 0, 0, 0, 1, 0), (1, 2, 1, 0, 0, 2, 0), (2, 44, 1, 114, 0, 5, 57), (5, 4, 2, 0, 0, 6, 0), (6, 3, 0, 0, 0, 7, 0), (7, 2, 2, 0, 0, 8, 0), (8, 44, 1, 120, 0, 11, 54), (11, 19, 0, 0, 0, 14, 22), (14, 3, 0, 0, 0, 15, 0), (15, 2, 1, 0, 0, 16, 0), (16, 1, 0, 0, nI 1, 17, 0), (17, 2, 2, 0, 0, 18, 0), (18, 44, 3, 113, 0, 21, 51), (21, 42, 0, 0, 0, 22, 0), (22, 3, 0, 0, 0, 23, 0), (23, 2, 1, 0, 0, 24, 0), (24, 1, 0, 0, nI 2, 25, 0), (25, 1, 0, 0, nI 0, 26, 0), (26, 44, 3, 113, 0, 29, 51), (29, 3, 0, 0, 0, 30, 0), (30, 30, 0, 9, 0, 33, 7), (33, 1, 0, 0, nI 949, 36, 0), (36, 32, 0, 0, 0, 37, 0), (37, 1, 0, 0, nI 1, 38, 0), (38, 21, 0, 0, 0, 41, 79), (41, 3, 0, 0, 0, 42, 0), (42, 2, 1, 0, 0, 43, 0), (43, 1, 0, 0, nI 1, 44, 0), (44, 44, 2, 111, 0, 47, 30), (47, 1, 0, 0, nI 1, 48, 0), (48, 21, 0, 0, 0, 51, 79), (51, 3, 0, 0, 0, 52, 0), (52, 2, 2, 0, 0, 53, 0), (53, 44, 1, 125, 0, 56, 60), (56, 1, 0, 0, -9, 58, 0), (58, 20, 0, 0, 0, 61, 79), (61, 3, 0, 0, 0, 62, 0), (62, 3, 0, 0, 0, 63, 0), (63, 2, 2, 0, 0, 64, 0), (64, 44, 1, 125, 0, 67, 60), (67, 1, 0, 0, nI 2, 68, 0), (68, 1, 0, 0, nI 0, 69, 0), (69, 44, 3, 113, 0, 72, 51), (72, 3, 0, 0, 0, 73, 0), (73, 2, 1, 0, 0, 74, 0), (74, 1, 0, 0, nI 1, 75, 0), (75, 2, 2, 0, 0, 76, 0), (76, 44, 3, 113, 0, 79, 51), (79, 3, 0, 0, 0, 80, 0), (80, 30, 0, 9, 0, 83, 7), (83, 1, 0, 0, nI 949, 86, 0), (86, 32, 0, 0, 0, 87, 0), (87, 1, 0, 0, nI 2, 88, 0), (88, 21, 0, 0, 0, 91, 110), (91, 3, 0, 0, 0, 92, 0), (92, 44, 0, 126, 0, 95, 63), (95, 1, 0, 0, -9, 97, 0), (97, 20, 0, 0, 0, 100, 110), (100, 3, 0, 0, 0, 101, 0), (101, 2, 1, 0, 0, 102, 0), (102, 1, 0, 0, nI 1, 103, 0), (103, 3, 0, 0, 0, 104, 0), (104, 44, 0, 126, 0, 107, 63), (107, 44, 3, 113, 0, 110, 51), (110, 42, 0, 0, 0, 111, 0)]
def jX9_sorts : JT := (127, yX9_sorts, cX9_sorts, 3, none, 5, 115, 9, tX9_sorts)
theorem okX9_sorts : e_T jX9_sorts := ⟨by decide +kernel, rfl, rfl, by decide +kernel⟩
def tX9_hours : List (Nat × OpT) := [(0, 3, 0, 0, 0, 1, 0), (1, 30, 0, 9, 0, 4, 7), (4, 1, 0, 0, nI 952, 7, 0), (7, 27, 0, 0, 0, 8, 0), (8, 32, 0, 0, 0, 9, 0), (9, 1, 0, 0, nI 1, 10, 0), (10, 6, 0, 0, 0, 11, 0), (11, 36, 0, 0, 0, 12, 0), (12, 1, 0, 0, nI 0, 13, 0), (13, 4, 1, 0, 0, 14, 0), (14, 2, 1, 0, 0, 15, 0), (15, 3, 0, 0, 0, 16, 0), (16, 30, 0, 9, 0, 19, 7), (19, 1, 0, 0, nI 100, 21, 0), (21, 32, 0, 0, 0, 22, 0), (22, 23, 0, 0, 0, 25, 48), (25, 3, 0, 0, 0, 26, 0), (26, 2, 1, 0, 0, 27, 0), (27, 1, 0, 0, nI 3, 28, 0), (28, 44, 2, 111, 0, 31, 30), (31, 1, 0, 0, nI 2, 32, 0), (32, 21, 0, 0, 0, 35, 42), (35, 3, 0, 0, 0, 36, 0), (36, 2, 1, 0, 0, 37, 0), (37, 1, 0, 0, nI 0, 38, 0), (38, 1, 0, 0, nI 0, 39, 0), (39, 44, 3, 113, 0, 42, 51), (42, 12, 1, 0, nI 1, 45, 0), (45, 13, 0, 0, 0, 14, 0), (48, 3, 0, 0, 0, 49, 0), (49, 44, 0, 123, 0, 52, 67), (52, 4, 1, 0, 0, 53, 0), (53, 1, 0, 0, nI 0, 54, 0), (54, 4, 2, 0, 0, 55, 0), (55, 2, 2, 0, 0, 56, 0), (56, 2, 1, 0, 0, 57, 0), (57, 23, 0, 0, 0, 60, 88), (60, 2, 2, 0, 0, 61, 0), (61, 3, 0, 0, 0, 62, 0), (62, 30, 0, 9, 0, 65, 7), (65, 1, 0, 0, nI 950, 68, 0), (68, 32, 0, 0, 0, 69, 0), (69, 23, 0, 0, 0, 72, 88), (72, 3, 0, 0, 0, 73, 0), (73, 3, 0, 0, 0, 74, 0), (74, 30, 6, 9, 0, 77, 16), (77, 2, 2, 0, 0, 78, 0), (78, 32, 0, 0, 0, 79, 0), (79, 44, 1, 127, 0, 82, 70), (82, 12, 2, 0, nI 1, 85, 0), (85, 13, 0, 0, 0, 55, 0), (88, 3, 0, 0, 0, 89, 0), (89, 1, 0, 0, nI 2, 90, 0), (90, 44, 1, 119, 0, 93, 74), (93, 41, 0, 0, 0, 94, 0)]
def jX9_hours : JT := (128, yX9_hours, cX9_hours, 3, (some .int), 6, 137, 9, tX9_hours)
theorem okX9_hours : e_T jX9_hours := ⟨by decide +kernel, rfl, rfl, by decide +kernel⟩
def tX9_hour : List (Nat × OpT) := [(0, 3, 0, 0, 0, 1, 0), (1, 30, 0, 9, 0, 4, 7), (4, 1, 0, 0, nI 952, 7, 0), (7, 32, 0, 0, 0, 8, 0), (8, 1, 0, 0, nI 500, 11, 0), (11, 21, 0, 0, 0, 14, 17), (14, 1, 0, 0, -3, 16, 0), (16, 41, 0, 0, 0, 17, 0), (17, 3, 0, 0, 0, 18, 0), (18, 44, 0, 110, 0, 21, 48), (21, 3, 0, 0, 0, 22, 0), (22, 44, 0, 128, 0, 25, 77), (25, 41, 0, 0, 0, 26, 0)]
def jX9_hour : JT := (129, yX9_hour, cX9_hour, 1, (some .int), 7, 159, 9, tX9_hour)
theorem okX9_hour : e_T jX9_hour := ⟨by decide +kernel, rfl, rfl, by decide +kernel⟩
def tX9_stretches : List (Nat × OpT) := [(0, 1, 0, 0, nI 1, 1, 0), (1, 4, 1, 0, 0, 2, 0), (2, 1, 0, 0, nI 1, 3, 0), (3, 4, 2, 0, 0, 4, 0), (4, 2, 2, 0, 0, 5, 0), (5, 1, 0, 0, nI 100, 7, 0), (7, 23, 0, 0, 0, 10, 41), (10, 2, 1, 0, 0, 11, 0), (11, 3, 0, 0, 0, 12, 0), (12, 30, 0, 9, 0, 15, 7), (15, 2, 2, 0, 0, 16, 0), (16, 32, 0, 0, 0, 17, 0), (17, 3, 0, 0, 0, 18, 0), (18, 30, 0, 9, 0, 21, 7), (21, 2, 2, 0, 0, 22, 0), (22, 1, 0, 0, nI 1, 23, 0), (23, 7, 0, 0, 0, 24, 0), (24, 32, 0, 0, 0, 25, 0), (25, 20, 0, 0, 0, 28, 32), (28, 1, 0, 0, nI 1, 29, 0), (29, 13, 0, 0, 0, 33, 0), (32, 1, 0, 0, nI 0, 33, 0), (33, 6, 0, 0, 0, 34, 0), (34, 4, 1, 0, 0, 35, 0), (35, 12, 2, 0, nI 1, 38, 0), (38, 13, 0, 0, 0, 4, 0), (41, 2, 1, 0, 0, 42, 0), (42, 41, 0, 0, 0, 43, 0)]
def jX9_stretches : JT := (130, yX9_stretches, cX9_stretches, 3, (some .int), 0, 0, 9, tX9_stretches)
theorem okX9_stretches : e_T jX9_stretches := ⟨by decide +kernel, rfl, rfl, by decide +kernel⟩
def tX9_ranges : List (Nat × OpT) := [(0, 2, 1, 0, 0, 1, 0), (1, 4, 4, 0, 0, 3, 0), (3, 2, 4, 0, 0, 5, 0), (5, 2, 2, 0, 0, 6, 0), (6, 24, 0, 0, 0, 9, 23), (9, 3, 0, 0, 0, 10, 0), (10, 30, 0, 9, 0, 13, 7), (13, 2, 4, 0, 0, 15, 0), (15, 2, 3, 0, 0, 16, 0), (16, 36, 0, 0, 0, 17, 0), (17, 12, 4, 0, nI 1, 20, 0), (20, 13, 0, 0, 0, 3, 0), (23, 42, 0, 0, 0, 24, 0)]
def jX9_ranges : JT := (131, yX9_ranges, cX9_ranges, 5, none, 0, 0, 9, tX9_ranges)
theorem okX9_ranges : e_T jX9_ranges := ⟨by decide +kernel, rfl, rfl, by decide +kernel⟩
def tX9_setRange : List (Nat × OpT) := [(0, 2, 1, 0, 0, 1, 0), (1, 1, 0, 0, nI 0, 2, 0), (2, 1, 0, 0, nI 99, 4, 0), (4, 46, 3, 108, 0, 7, 34), (7, 14, 0, 0, 0, 10, 27), (10, 2, 2, 0, 0, 11, 0), (11, 2, 1, 0, 0, 12, 0), (12, 1, 0, 0, nI 99, 14, 0), (14, 46, 3, 108, 0, 17, 34), (17, 14, 0, 0, 0, 20, 27), (20, 2, 3, 0, 0, 21, 0), (21, 46, 1, 115, 0, 24, 80), (24, 15, 0, 0, 0, 27, 29), (27, 1, 0, 0, -1, 28, 0), (28, 41, 0, 0, 0, 29, 0), (29, 3, 0, 0, 0, 30, 0), (30, 44, 0, 110, 0, 33, 48), (33, 3, 0, 0, 0, 34, 0), (34, 2, 1, 0, 0, 35, 0), (35, 2, 2, 0, 0, 36, 0), (36, 2, 3, 0, 0, 37, 0), (37, 44, 3, 131, 0, 40, 84), (40, 3, 0, 0, 0, 41, 0), (41, 44, 0, 130, 0, 44, 87), (44, 41, 0, 0, 0, 45, 0)]
def jX9_setRange : JT := (132, yX9_setRange, cX9_setRange, 4, (some .int), 2, 45, 9, tX9_setRange)
theorem okX9_setRange : e_T jX9_setRange := ⟨by decide +kernel, rfl, rfl, by decide +kernel⟩
def tX9_most : List (Nat × OpT) := [(0, 2, 0, 0, 0, 1, 0), (1, 1, 0, 0, nI 8, 3, 0), (3, 23, 0, 0, 0, 6, 11), (6, 1, 0, 0, nI 20, 8, 0), (8, 13, 0, 0, 0, 34, 0), (11, 2, 0, 0, 0, 12, 0), (12, 1, 0, 0, nI 8, 14, 0), (14, 21, 0, 0, 0, 17, 21), (17, 1, 0, 0, nI 2, 18, 0), (18, 13, 0, 0, 0, 34, 0), (21, 2, 0, 0, 0, 22, 0), (22, 1, 0, 0, nI 9, 24, 0), (24, 21, 0, 0, 0, 27, 32), (27, 1, 0, 0, nI 40, 29, 0), (29, 13, 0, 0, 0, 34, 0), (32, 1, 0, 0, nI 30, 34, 0), (34, 41, 0, 0, 0, 35, 0)]
def jX9_most : JT := (133, yX9_most, cX9_most, 1, (some .int), 0, 0, 9, tX9_most)
theorem okX9_most : e_T jX9_most := ⟨by decide +kernel, rfl, rfl, by decide +kernel⟩
def tX9_set_ : List (Nat × OpT) := [(0, 2, 1, 0, 0, 1, 0), (1, 1, 0, 0, nI 0, 2, 0), (2, 1, 0, 0, nI 10, 4, 0), (4, 46, 3, 108, 0, 7, 34), (7, 14, 0, 0, 0, 10, 32), (10, 2, 2, 0, 0, 11, 0), (11, 2, 1, 0, 0, 12, 0), (12, 1, 0, 0, nI 8, 14, 0), (14, 21, 0, 0, 0, 17, 21), (17, 1, 0, 0, nI 0, 18, 0), (18, 13, 0, 0, 0, 22, 0), (21, 1, 0, 0, nI 1, 22, 0), (22, 2, 1, 0, 0, 23, 0), (23, 46, 1, 133, 0, 26, 90), (26, 46, 3, 108, 0, 29, 34), (29, 15, 0, 0, 0, 32, 34), (32, 1, 0, 0, -1, 33, 0), (33, 41, 0, 0, 0, 34, 0), (34, 3, 0, 0, 0, 35, 0), (35, 44, 0, 110, 0, 38, 48), (38, 3, 0, 0, 0, 39, 0), (39, 30, 0, 9, 0, 42, 7), (42, 1, 0, 0, nI 941, 45, 0), (45, 2, 1, 0, 0, 46, 0), (46, 6, 0, 0, 0, 47, 0), (47, 32, 0, 0, 0, 48, 0), (48, 4, 3, 0, 0, 49, 0), (49, 3, 0, 0, 0, 50, 0), (50, 30, 0, 9, 0, 53, 7), (53, 1, 0, 0, nI 941, 56, 0), (56, 2, 1, 0, 0, 57, 0), (57, 6, 0, 0, 0, 58, 0), (58, 2, 2, 0, 0, 59, 0), (59, 36, 0, 0, 0, 60, 0), (60, 2, 3, 0, 0, 61, 0), (61, 41, 0, 0, 0, 62, 0)]
def jX9_set_ : JT := (134, yX9_set_, cX9_set_, 4, (some .int), 2, 45, 9, tX9_set_)
theorem okX9_set_ : e_T jX9_set_ := ⟨by decide +kernel, rfl, rfl, by decide +kernel⟩
def tX9_walkBy : List (Nat × OpT) := [(0, 1, 0, 0, nI 0, 1, 0), (1, 4, 2, 0, 0, 2, 0), (2, 2, 2, 0, 0, 3, 0), (3, 1, 0, 0, nI 8, 5, 0), (5, 23, 0, 0, 0, 8, 30), (8, 3, 0, 0, 0, 9, 0), (9, 30, 0, 9, 0, 12, 7), (12, 1, 0, 0, nI 955, 15, 0), (15, 2, 2, 0, 0, 16, 0), (16, 6, 0, 0, 0, 17, 0), (17, 32, 0, 0, 0, 18, 0), (18, 2, 1, 0, 0, 19, 0), (19, 21, 0, 0, 0, 22, 24), (22, 2, 2, 0, 0, 23, 0), (23, 41, 0, 0, 0, 24, 0), (24, 12, 2, 0, nI 1, 27, 0), (27, 13, 0, 0, 0, 2, 0), (30, 1, 0, 0, -9, 32, 0), (32, 41, 0, 0, 0, 33, 0)]
def jX9_walkBy : JT := (135, yX9_walkBy, cX9_walkBy, 3, (some .int), 0, 0, 9, tX9_walkBy)
theorem okX9_walkBy : e_T jX9_walkBy := ⟨by decide +kernel, rfl, rfl, by decide +kernel⟩
def tX9_assign : List (Nat × OpT) := [(0, 2, 1, 0, 0, 1, 0), (1, 46, 1, 115, 0, 4, 80), (4, 14, 0, 0, 0, 7, 19), (7, 2, 2, 0, 0, 8, 0), (8, 1, 0, 0, -1, 9, 0), (9, 20, 0, 0, 0, 12, 21), (12, 2, 2, 0, 0, 13, 0), (13, 46, 1, 116, 0, 16, 93), (16, 15, 0, 0, 0, 19, 21), (19, 1, 0, 0, -1, 20, 0), (20, 41, 0, 0, 0, 21, 0), (21, 3, 0, 0, 0, 22, 0), (22, 30, 0, 9, 0, 25, 7), (25, 1, 0, 0, nI 955, 28, 0), (28, 2, 1, 0, 0, 29, 0), (29, 6, 0, 0, 0, 30, 0), (30, 32, 0, 0, 0, 31, 0), (31, 4, 3, 0, 0, 32, 0), (32, 2, 2, 0, 0, 33, 0), (33, 1, 0, 0, -1, 34, 0), (34, 20, 0, 0, 0, 37, 60), (37, 3, 0, 0, 0, 38, 0), (38, 2, 2, 0, 0, 39, 0), (39, 44, 1, 135, 0, 42, 96), (42, 1, 0, 0, -9, 44, 0), (44, 20, 0, 0, 0, 47, 60), (47, 3, 0, 0, 0, 48, 0), (48, 2, 2, 0, 0, 49, 0), (49, 44, 1, 135, 0, 52, 96), (52, 2, 1, 0, 0, 53, 0), (53, 20, 0, 0, 0, 56, 60), (56, 1, 0, 0, nI 1, 57, 0), (57, 13, 0, 0, 0, 61, 0), (60, 1, 0, 0, nI 0, 61, 0), (61, 4, 4, 0, 0, 63, 0), (63, 2, 4, 0, 0, 65, 0), (65, 15, 0, 0, 0, 68, 88), (68, 2, 3, 0, 0, 69, 0), (69, 1, 0, 0, -9, 71, 0), (71, 20, 0, 0, 0, 74, 91), (74, 3, 0, 0, 0, 75, 0), (75, 30, 0, 9, 0, 78, 7), (78, 1, 0, 0, nI 1011, 81, 0), (81, 2, 3, 0, 0, 82, 0), (82, 6, 0, 0, 0, 83, 0), (83, 32, 0, 0, 0, 84, 0), (84, 1, 0, 0, nI 1, 85, 0), (85, 21, 0, 0, 0, 88, 91), (88, 1, 0, 0, -2, 90, 0), (90, 41, 0, 0, 0, 91, 0), (91, 3, 0, 0, 0, 92, 0), (92, 44, 0, 110, 0, 95, 48), (95, 3, 0, 0, 0, 96, 0), (96, 30, 0, 9, 0, 99, 7), (99, 1, 0, 0, nI 955, 102, 0), (102, 2, 1, 0, 0, 103, 0), (103, 6, 0, 0, 0, 104, 0), (104, 2, 2, 0, 0, 105, 0), (105, 1, 0, 0, -1, 106, 0), (106, 21, 0, 0, 0, 109, 114), (109, 1, 0, 0, -9, 111, 0), (111, 13, 0, 0, 0, 115, 0), (114, 2, 2, 0, 0, 115, 0), (115, 36, 0, 0, 0, 116, 0), (116, 2, 3, 0, 0, 117, 0), (117, 41, 0, 0, 0, 118, 0)]
def jX9_assign : JT := (136, yX9_assign, cX9_assign, 5, (some .int), 2, 45, 9, tX9_assign)
theorem okX9_assign : e_T jX9_assign := ⟨by decide +kernel, rfl, rfl, by decide +kernel⟩
def tX9_canGo : List (Nat × OpT) := [(0, 3, 0, 0, 0, 1, 0), (1, 2, 1, 0, 0, 2, 0), (2, 44, 1, 135, 0, 5, 96), (5, 4, 2, 0, 0, 6, 0), (6, 2, 2, 0, 0, 7, 0), (7, 1, 0, 0, -9, 9, 0), (9, 20, 0, 0, 0, 12, 38), (12, 3, 0, 0, 0, 13, 0), (13, 30, 0, 9, 0, 16, 7), (16, 1, 0, 0, nI 1011, 19, 0), (19, 2, 1, 0, 0, 20, 0), (20, 6, 0, 0, 0, 21, 0), (21, 32, 0, 0, 0, 22, 0), (22, 15, 0, 0, 0, 25, 38), (25, 3, 0, 0, 0, 26, 0), (26, 1, 0, 0, nI 1, 27, 0), (27, 2, 2, 0, 0, 28, 0), (28, 44, 2, 118, 0, 31, 41), (31, 19, 0, 0, 0, 34, 38), (34, 1, 0, 0, nI 1, 35, 0), (35, 13, 0, 0, 0, 39, 0), (38, 1, 0, 0, nI 0, 39, 0), (39, 41, 0, 0, 0, 40, 0)]
def jX9_canGo : JT := (137, yX9_canGo, cX9_canGo, 3, (some .boolean), 3, 69, 9, tX9_canGo)
theorem okX9_canGo : e_T jX9_canGo := ⟨by decide +kernel, rfl, rfl, by decide +kernel⟩
def tX9_goes : List (Nat × OpT) := [(0, 3, 0, 0, 0, 1, 0), (1, 1, 0, 0, nI 1, 2, 0), (2, 3, 0, 0, 0, 3, 0), (3, 2, 1, 0, 0, 4, 0), (4, 44, 1, 135, 0, 7, 96), (7, 44, 2, 121, 0, 10, 99), (10, 4, 2, 0, 0, 11, 0), (11, 2, 2, 0, 0, 12, 0), (12, 3, 0, 0, 0, 13, 0), (13, 30, 0, 9, 0, 16, 7), (16, 1, 0, 0, nI 951, 19, 0), (19, 32, 0, 0, 0, 20, 0), (20, 23, 0, 0, 0, 23, 27), (23, 2, 2, 0, 0, 24, 0), (24, 13, 0, 0, 0, 35, 0), (27, 3, 0, 0, 0, 28, 0), (28, 30, 0, 9, 0, 31, 7), (31, 1, 0, 0, nI 951, 34, 0), (34, 32, 0, 0, 0, 35, 0), (35, 4, 2, 0, 0, 36, 0), (36, 1, 0, 0, nI 0, 37, 0), (37, 4, 3, 0, 0, 38, 0), (38, 2, 3, 0, 0, 39, 0), (39, 2, 2, 0, 0, 40, 0), (40, 23, 0, 0, 0, 43, 61), (43, 3, 0, 0, 0, 44, 0), (44, 3, 0, 0, 0, 45, 0), (45, 30, 6, 9, 0, 48, 16), (48, 2, 3, 0, 0, 49, 0), (49, 32, 0, 0, 0, 50, 0), (50, 1, 0, 0, nI 3, 51, 0), (51, 2, 1, 0, 0, 52, 0), (52, 44, 3, 113, 0, 55, 51), (55, 12, 3, 0, nI 1, 58, 0), (58, 13, 0, 0, 0, 38, 0), (61, 3, 0, 0, 0, 62, 0), (62, 30, 0, 9, 0, 65, 7), (65, 1, 0, 0, nI 1011, 68, 0), (68, 2, 1, 0, 0, 69, 0), (69, 6, 0, 0, 0, 70, 0), (70, 1, 0, 0, nI 1, 71, 0), (71, 36, 0, 0, 0, 72, 0), (72, 2, 2, 0, 0, 73, 0), (73, 41, 0, 0, 0, 74, 0)]
def jX9_goes : JT := (138, yX9_goes, cX9_goes, 4, (some .int), 3, 70, 9, tX9_goes)
theorem okX9_goes : e_T jX9_goes := ⟨by decide +kernel, rfl, rfl, by decide +kernel⟩
def tX9_goOut : List (Nat × OpT) := [(0, 2, 1, 0, 0, 1, 0), (1, 46, 1, 116, 0, 4, 93), (4, 15, 0, 0, 0, 7, 9), (7, 1, 0, 0, -1, 8, 0), (8, 41, 0, 0, 0, 9, 0), (9, 3, 0, 0, 0, 10, 0), (10, 2, 1, 0, 0, 11, 0), (11, 44, 1, 137, 0, 14, 102), (14, 15, 0, 0, 0, 17, 20), (17, 1, 0, 0, -2, 19, 0), (19, 41, 0, 0, 0, 20, 0), (20, 3, 0, 0, 0, 21, 0), (21, 44, 0, 110, 0, 24, 48), (24, 3, 0, 0, 0, 25, 0), (25, 2, 1, 0, 0, 26, 0), (26, 44, 1, 138, 0, 29, 105), (29, 41, 0, 0, 0, 30, 0)]
def jX9_goOut : JT := (139, yX9_goOut, cX9_goOut, 2, (some .int), 4, 93, 9, tX9_goOut)
theorem okX9_goOut : e_T jX9_goOut := ⟨by decide +kernel, rfl, rfl, by decide +kernel⟩
def tX9_ends : List (Nat × OpT) := [(0, 3, 0, 0, 0, 1, 0), (1, 2, 1, 0, 0, 2, 0), (2, 2, 2, 0, 0, 3, 0), (3, 1, 0, 0, nI 0, 4, 0), (4, 44, 3, 113, 0, 7, 51), (7, 3, 0, 0, 0, 8, 0), (8, 2, 1, 0, 0, 9, 0), (9, 1, 0, 0, nI 6, 11, 0), (11, 3, 0, 0, 0, 12, 0), (12, 30, 0, 9, 0, 15, 7), (15, 1, 0, 0, nI 952, 18, 0), (18, 32, 0, 0, 0, 19, 0), (19, 44, 3, 112, 0, 22, 27), (22, 42, 0, 0, 0, 23, 0)]
def jX9_ends : JT := (140, yX9_ends, cX9_ends, 3, none, 2, 46, 9, tX9_ends)
theorem okX9_ends : e_T jX9_ends := ⟨by decide +kernel, rfl, rfl, by decide +kernel⟩
def tX9_misroutes : List (Nat × OpT) := [(0, 3, 0, 0, 0, 1, 0), (1, 30, 0, 9, 0, 4, 7), (4, 1, 0, 0, nI 953, 7, 0), (7, 27, 0, 0, 0, 8, 0), (8, 32, 0, 0, 0, 9, 0), (9, 1, 0, 0, nI 1, 10, 0), (10, 6, 0, 0, 0, 11, 0), (11, 36, 0, 0, 0, 12, 0), (12, 3, 0, 0, 0, 13, 0), (13, 2, 1, 0, 0, 14, 0), (14, 1, 0, 0, nI 2, 15, 0), (15, 3, 0, 0, 0, 16, 0), (16, 2, 1, 0, 0, 17, 0), (17, 1, 0, 0, nI 2, 18, 0), (18, 44, 2, 111, 0, 21, 30), (21, 1, 0, 0, nI 1, 22, 0), (22, 6, 0, 0, 0, 23, 0), (23, 44, 3, 112, 0, 26, 27), (26, 3, 0, 0, 0, 27, 0), (27, 2, 1, 0, 0, 28, 0), (28, 1, 0, 0, nI 2, 29, 0), (29, 44, 2, 111, 0, 32, 30), (32, 1, 0, 0, nI 3, 33, 0), (33, 21, 0, 0, 0, 36, 45), (36, 3, 0, 0, 0, 37, 0), (37, 2, 1, 0, 0, 38, 0), (38, 1, 0, 0, nI 5, 39, 0), (39, 44, 2, 140, 0, 42, 108), (42, 13, 0, 0, 0, 52, 0), (45, 3, 0, 0, 0, 46, 0), (46, 2, 1, 0, 0, 47, 0), (47, 1, 0, 0, nI 0, 48, 0), (48, 1, 0, 0, nI 0, 49, 0), (49, 44, 3, 113, 0, 52, 51), (52, 42, 0, 0, 0, 53, 0)]
def jX9_misroutes : JT := (141, yX9_misroutes, cX9_misroutes, 2, none, 3, 68, 9, tX9_misroutes)
theorem okX9_misroutes : e_T jX9_misroutes := ⟨by decide +kernel, rfl, rfl, by decide +kernel⟩
def tX9_comes : List (Nat × OpT) := [(0, 3, 0, 0, 0, 1, 0), (1, 2, 1, 0, 0, 2, 0), (2, 44, 1, 135, 0, 5, 96), (5, 4, 2, 0, 0, 6, 0), (6, 3, 0, 0, 0, 7, 0), (7, 1, 0, 0, nI 3, 8, 0), (8, 2, 1, 0, 0, 9, 0), (9, 44, 2, 121, 0, 12, 99), (12, 4, 3, 0, 0, 13, 0), (13, 1, 0, 0, nI 0, 14, 0), (14, 4, 4, 0, 0, 16, 0), (16, 1, 0, 0, nI 0, 17, 0), (17, 4, 5, 0, 0, 19, 0), (19, 2, 5, 0, 0, 21, 0), (21, 2, 3, 0, 0, 22, 0), (22, 23, 0, 0, 0, 25, 56), (25, 2, 4, 0, 0, 27, 0), (27, 3, 0, 0, 0, 28, 0), (28, 3, 0, 0, 0, 29, 0), (29, 30, 6, 9, 0, 32, 16), (32, 2, 5, 0, 0, 34, 0), (34, 32, 0, 0, 0, 35, 0), (35, 44, 1, 114, 0, 38, 57), (38, 2, 2, 0, 0, 39, 0), (39, 21, 0, 0, 0, 42, 46), (42, 1, 0, 0, nI 1, 43, 0), (43, 13, 0, 0, 0, 47, 0), (46, 1, 0, 0, nI 0, 47, 0), (47, 6, 0, 0, 0, 48, 0), (48, 4, 4, 0, 0, 50, 0), (50, 12, 5, 0, nI 1, 53, 0), (53, 13, 0, 0, 0, 19, 0), (56, 3, 0, 0, 0, 57, 0), (57, 30, 0, 9, 0, 60, 7), (60, 1, 0, 0, nI 963, 63, 0), (63, 1, 0, 0, nI 8, 65, 0), (65, 2, 1, 0, 0, 66, 0), (66, 8, 0, 0, 0, 67, 0), (67, 6, 0, 0, 0, 68, 0), (68, 2, 2, 0, 0, 69, 0), (69, 6, 0, 0, 0, 70, 0), (70, 32, 0, 0, 0, 71, 0), (71, 1, 0, 0, nI 1, 72, 0), (72, 25, 0, 0, 0, 75, 80), (75, 2, 4, 0, 0, 77, 0), (77, 13, 0, 0, 0, 86, 0), (80, 2, 4, 0, 0, 82, 0), (82, 1, 0, 0, nI 1, 83, 0), (83, 6, 0, 0, 0, 84, 0), (84, 1, 0, 0, nI 2, 85, 0), (85, 9, 0, 0, 0, 86, 0), (86, 4, 5, 0, 0, 88, 0), (88, 1, 0, 0, nI 0, 89, 0), (89, 4, 6, 0, 0, 91, 0), (91, 1, 0, 0, nI 0, 92, 0), (92, 4, 7, 0, 0, 94, 0), (94, 2, 7, 0, 0, 96, 0), (96, 2, 3, 0, 0, 97, 0), (97, 23, 0, 0, 0, 100, 181), (100, 3, 0, 0, 0, 101, 0), (101, 30, 6, 9, 0, 104, 16), (104, 2, 7, 0, 0, 106, 0), (106, 32, 0, 0, 0, 107, 0), (107, 4, 8, 0, 0, 109, 0), (109, 3, 0, 0, 0, 110, 0), (110, 2, 8, 0, 0, 112, 0), (112, 44, 1, 114, 0, 115, 57), (115, 2, 2, 0, 0, 116, 0), (116, 20, 0, 0, 0, 119, 128), (119, 3, 0, 0, 0, 120, 0), (120, 2, 8, 0, 0, 122, 0), (122, 44, 1, 141, 0, 125, 112), (125, 13, 0, 0, 0, 175, 0), (128, 2, 6, 0, 0, 130, 0), (130, 2, 5, 0, 0, 132, 0), (132, 23, 0, 0, 0, 135, 148), (135, 3, 0, 0, 0, 136, 0), (136, 2, 8, 0, 0, 138, 0), (138, 1, 0, 0, nI 4, 139, 0), (139, 44, 2, 140, 0, 142, 108), (142, 12, 6, 0, nI 1, 145, 0), (145, 13, 0, 0, 0, 175, 0), (148, 3, 0, 0, 0, 149, 0), (149, 2, 2, 0, 0, 150, 0), (150, 44, 1, 120, 0, 153, 54), (153, 19, 0, 0, 0, 156, 167), (156, 3, 0, 0, 0, 157, 0), (157, 2, 8, 0, 0, 159, 0), (159, 1, 0, 0, nI 1, 160, 0), (160, 2, 2, 0, 0, 161, 0), (161, 44, 3, 113, 0, 164, 51), (164, 13, 0, 0, 0, 175, 0), (167, 3, 0, 0, 0, 168, 0), (168, 2, 8, 0, 0, 170, 0), (170, 1, 0, 0, nI 2, 171, 0), (171, 1, 0, 0, nI 0, 172, 0), (172, 44, 3, 113, 0, 175, 51), (175, 12, 7, 0, nI 1, 178, 0), (178, 13, 0, 0, 0, 94, 0), (181, 3, 0, 0, 0, 182, 0), (182, 30, 0, 9, 0, 185, 7), (185, 1, 0, 0, nI 1017, 188, 0), (188, 2, 1, 0, 0, 189, 0), (189, 6, 0, 0, 0, 190, 0), (190, 27, 0, 0, 0, 191, 0), (191, 32, 0, 0, 0, 192, 0), (192, 2, 6, 0, 0, 194, 0), (194, 6, 0, 0, 0, 195, 0), (195, 36, 0, 0, 0, 196, 0), (196, 3, 0, 0, 0, 197, 0), (197, 30, 0, 9, 0, 200, 7), (200, 1, 0, 0, nI 963, 203, 0), (203, 1, 0, 0, nI 8, 205, 0), (205, 2, 1, 0, 0, 206, 0), (206, 8, 0, 0, 0, 207, 0), (207, 6, 0, 0, 0, 208, 0), (208, 2, 2, 0, 0, 209, 0), (209, 6, 0, 0, 0, 210, 0), (210, 27, 0, 0, 0, 211, 0), (211, 32, 0, 0, 0, 212, 0), (212, 1, 0, 0, nI 1, 213, 0), (213, 6, 0, 0, 0, 214, 0), (214, 36, 0, 0, 0, 215, 0), (215, 3, 0, 0, 0, 216, 0), (216, 30, 0, 9, 0, 219, 7), (219, 1, 0, 0, nI 954, 222, 0), (222, 27, 0, 0, 0, 223, 0), (223, 32, 0, 0, 0, 224, 0), (224, 1, 0, 0, nI 1, 225, 0), (225, 6, 0, 0, 0, 226, 0), (226, 36, 0, 0, 0, 227, 0), (227, 3, 0, 0, 0, 228, 0), (228, 30, 0, 9, 0, 231, 7), (231, 1, 0, 0, nI 1011, 234, 0), (234, 2, 1, 0, 0, 235, 0), (235, 6, 0, 0, 0, 236, 0), (236, 1, 0, 0, nI 0, 237, 0), (237, 36, 0, 0, 0, 238, 0), (238, 2, 6, 0, 0, 240, 0), (240, 41, 0, 0, 0, 241, 0)]
def jX9_comes : JT := (142, yX9_comes, cX9_comes, 9, (some .int), 4, 91, 9, tX9_comes)
theorem okX9_comes : e_T jX9_comes := ⟨by decide +kernel, rfl, rfl, by decide +kernel⟩
def tX9_comeBack : List (Nat × OpT) := [(0, 2, 1, 0, 0, 1, 0), (1, 46, 1, 116, 0, 4, 93), (4, 15, 0, 0, 0, 7, 9), (7, 1, 0, 0, -1, 8, 0), (8, 41, 0, 0, 0, 9, 0), (9, 3, 0, 0, 0, 10, 0), (10, 30, 0, 9, 0, 13, 7), (13, 1, 0, 0, nI 1011, 16, 0), (16, 2, 1, 0, 0, 17, 0), (17, 6, 0, 0, 0, 18, 0), (18, 32, 0, 0, 0, 19, 0), (19, 15, 0, 0, 0, 22, 25), (22, 1, 0, 0, -2, 24, 0), (24, 41, 0, 0, 0, 25, 0), (25, 3, 0, 0, 0, 26, 0), (26, 44, 0, 110, 0, 29, 48), (29, 3, 0, 0, 0, 30, 0), (30, 2, 1, 0, 0, 31, 0), (31, 44, 1, 142, 0, 34, 115), (34, 41, 0, 0, 0, 35, 0)]
def jX9_comeBack : JT := (143, yX9_comeBack, cX9_comeBack, 2, (some .int), 5, 119, 9, tX9_comeBack)
theorem okX9_comeBack : e_T jX9_comeBack := ⟨by decide +kernel, rfl, rfl, by decide +kernel⟩
def tX9_take : List (Nat × OpT) := [(0, 2, 1, 0, 0, 1, 0), (1, 1, 0, 0, nI 0, 2, 0), (2, 1, 0, 0, nI 1, 3, 0), (3, 46, 3, 108, 0, 6, 34), (6, 15, 0, 0, 0, 9, 11), (9, 1, 0, 0, -1, 10, 0), (10, 41, 0, 0, 0, 11, 0), (11, 3, 0, 0, 0, 12, 0), (12, 44, 0, 110, 0, 15, 48), (15, 3, 0, 0, 0, 16, 0), (16, 1, 0, 0, nI 0, 17, 0), (17, 1, 0, 0, nI 1023, 20, 0), (20, 2, 1, 0, 0, 21, 0), (21, 1, 0, 0, nI 1, 22, 0), (22, 6, 0, 0, 0, 23, 0), (23, 8, 0, 0, 0, 24, 0), (24, 1, 0, 0, nI 1023, 27, 0), (27, 44, 3, 109, 0, 30, 23), (30, 3, 0, 0, 0, 31, 0), (31, 30, 0, 9, 0, 34, 7), (34, 1, 0, 0, nI 3069, 37, 0), (37, 2, 1, 0, 0, 38, 0), (38, 6, 0, 0, 0, 39, 0), (39, 1, 0, 0, nI 1, 40, 0), (40, 36, 0, 0, 0, 41, 0), (41, 3, 0, 0, 0, 42, 0), (42, 30, 0, 9, 0, 45, 7), (45, 1, 0, 0, nI 952, 48, 0), (48, 32, 0, 0, 0, 49, 0), (49, 41, 0, 0, 0, 50, 0)]
def jX9_take : JT := (144, yX9_take, cX9_take, 2, (some .int), 2, 45, 9, tX9_take)
theorem okX9_take : e_T jX9_take := ⟨by decide +kernel, rfl, rfl, by decide +kernel⟩
def tX9_restore : List (Nat × OpT) := [(0, 2, 1, 0, 0, 1, 0), (1, 1, 0, 0, nI 0, 2, 0), (2, 1, 0, 0, nI 1, 3, 0), (3, 46, 3, 108, 0, 6, 34), (6, 15, 0, 0, 0, 9, 11), (9, 1, 0, 0, -1, 10, 0), (10, 41, 0, 0, 0, 11, 0), (11, 3, 0, 0, 0, 12, 0), (12, 30, 0, 9, 0, 15, 7), (15, 1, 0, 0, nI 3069, 18, 0), (18, 2, 1, 0, 0, 19, 0), (19, 6, 0, 0, 0, 20, 0), (20, 32, 0, 0, 0, 21, 0), (21, 15, 0, 0, 0, 24, 27), (24, 1, 0, 0, -2, 26, 0), (26, 41, 0, 0, 0, 27, 0), (27, 3, 0, 0, 0, 28, 0), (28, 44, 0, 110, 0, 31, 48), (31, 3, 0, 0, 0, 32, 0), (32, 1, 0, 0, nI 1023, 35, 0), (35, 2, 1, 0, 0, 36, 0), (36, 1, 0, 0, nI 1, 37, 0), (37, 6, 0, 0, 0, 38, 0), (38, 8, 0, 0, 0, 39, 0), (39, 1, 0, 0, nI 0, 40, 0), (40, 1, 0, 0, nI 1023, 43, 0), (43, 44, 3, 109, 0, 46, 23), (46, 3, 0, 0, 0, 47, 0), (47, 30, 0, 9, 0, 50, 7), (50, 1, 0, 0, nI 952, 53, 0), (53, 32, 0, 0, 0, 54, 0), (54, 41, 0, 0, 0, 55, 0)]
def jX9_restore : JT := (145, yX9_restore, cX9_restore, 2, (some .int), 2, 45, 9, tX9_restore)
theorem okX9_restore : e_T jX9_restore := ⟨by decide +kernel, rfl, rfl, by decide +kernel⟩
def tX9_undo : List (Nat × OpT) := [(0, 3, 0, 0, 0, 1, 0), (1, 30, 1, 9, 0, 4, 19), (4, 15, 0, 0, 0, 7, 10), (7, 1, 0, 0, -2, 9, 0), (9, 41, 0, 0, 0, 10, 0), (10, 3, 0, 0, 0, 11, 0), (11, 1, 0, 0, nI 3071, 14, 0), (14, 3, 0, 0, 0, 15, 0), (15, 30, 1, 9, 0, 18, 19), (18, 8, 0, 0, 0, 19, 0), (19, 1, 0, 0, nI 0, 20, 0), (20, 1, 0, 0, nI 3071, 23, 0), (23, 44, 3, 109, 0, 26, 23), (26, 3, 0, 0, 0, 27, 0), (27, 26, 0, 0, 0, 28, 0), (28, 30, 1, 9, 0, 31, 19), (31, 1, 0, 0, nI 1, 32, 0), (32, 7, 0, 0, 0, 33, 0), (33, 31, 1, 9, 0, 36, 19), (36, 3, 0, 0, 0, 37, 0), (37, 30, 1, 9, 0, 40, 19), (40, 41, 0, 0, 0, 41, 0)]
def jX9_undo : JT := (146, yX9_undo, cX9_undo, 1, (some .int), 1, 24, 9, tX9_undo)
theorem okX9_undo : e_T jX9_undo := ⟨by decide +kernel, rfl, rfl, by decide +kernel⟩
def tX9_append : List (Nat × OpT) := [(0, 2, 1, 0, 0, 1, 0), (1, 1, 0, 0, nI 1, 2, 0), (2, 1, 0, 0, nI 255, 5, 0), (5, 46, 3, 108, 0, 8, 34), (8, 15, 0, 0, 0, 11, 13), (11, 1, 0, 0, -1, 12, 0), (12, 41, 0, 0, 0, 13, 0), (13, 3, 0, 0, 0, 14, 0), (14, 30, 3, 9, 0, 17, 118), (17, 1, 0, 0, nI 80, 19, 0), (19, 21, 0, 0, 0, 22, 25), (22, 1, 0, 0, -3, 24, 0), (24, 41, 0, 0, 0, 25, 0), (25, 3, 0, 0, 0, 26, 0), (26, 30, 2, 9, 0, 29, 13), (29, 3, 0, 0, 0, 30, 0), (30, 30, 3, 9, 0, 33, 118), (33, 2, 1, 0, 0, 34, 0), (34, 36, 0, 0, 0, 35, 0), (35, 3, 0, 0, 0, 36, 0), (36, 26, 0, 0, 0, 37, 0), (37, 30, 3, 9, 0, 40, 118), (40, 1, 0, 0, nI 1, 41, 0), (41, 6, 0, 0, 0, 42, 0), (42, 31, 3, 9, 0, 45, 118), (45, 3, 0, 0, 0, 46, 0), (46, 30, 3, 9, 0, 49, 118), (49, 41, 0, 0, 0, 50, 0)]
def jX9_append : JT := (147, yX9_append, cX9_append, 2, (some .int), 1, 22, 9, tX9_append)
theorem okX9_append : e_T jX9_append := ⟨by decide +kernel, rfl, rfl, by decide +kernel⟩
def tX9_clearText : List (Nat × OpT) := [(0, 3, 0, 0, 0, 1, 0), (1, 30, 3, 9, 0, 4, 118), (4, 4, 1, 0, 0, 5, 0), (5, 3, 0, 0, 0, 6, 0), (6, 1, 0, 0, nI 0, 7, 0), (7, 31, 3, 9, 0, 10, 118), (10, 2, 1, 0, 0, 11, 0), (11, 41, 0, 0, 0, 12, 0)]
def jX9_clearText : JT := (148, yX9_clearText, cX9_clearText, 2, (some .int), 0, 0, 9, tX9_clearText)
theorem okX9_clearText : e_T jX9_clearText := ⟨by decide +kernel, rfl, rfl, by decide +kernel⟩
def tX9_isDigit : List (Nat × OpT) := [(0, 3, 0, 0, 0, 1, 0), (1, 30, 4, 9, 0, 4, 121), (4, 3, 0, 0, 0, 5, 0), (5, 30, 3, 9, 0, 8, 118), (8, 23, 0, 0, 0, 11, 36), (11, 3, 0, 0, 0, 12, 0), (12, 30, 2, 9, 0, 15, 13), (15, 3, 0, 0, 0, 16, 0), (16, 30, 4, 9, 0, 19, 121), (19, 32, 0, 0, 0, 20, 0), (20, 1, 0, 0, nI 48, 22, 0), (22, 1, 0, 0, nI 48, 24, 0), (24, 2, 1, 0, 0, 25, 0), (25, 6, 0, 0, 0, 26, 0), (26, 46, 3, 108, 0, 29, 34), (29, 14, 0, 0, 0, 32, 36), (32, 1, 0, 0, nI 1, 33, 0), (33, 13, 0, 0, 0, 37, 0), (36, 1, 0, 0, nI 0, 37, 0), (37, 41, 0, 0, 0, 38, 0)]
def jX9_isDigit : JT := (149, yX9_isDigit, cX9_isDigit, 2, (some .boolean), 1, 22, 9, tX9_isDigit)
theorem okX9_isDigit : e_T jX9_isDigit := ⟨by decide +kernel, rfl, rfl, by decide +kernel⟩
def tX9_takes : List (Nat × OpT) := [(0, 3, 0, 0, 0, 1, 0), (1, 30, 4, 9, 0, 4, 121), (4, 3, 0, 0, 0, 5, 0), (5, 30, 3, 9, 0, 8, 118), (8, 23, 0, 0, 0, 11, 28), (11, 3, 0, 0, 0, 12, 0), (12, 30, 2, 9, 0, 15, 13), (15, 3, 0, 0, 0, 16, 0), (16, 30, 4, 9, 0, 19, 121), (19, 32, 0, 0, 0, 20, 0), (20, 2, 1, 0, 0, 21, 0), (21, 21, 0, 0, 0, 24, 28), (24, 1, 0, 0, nI 1, 25, 0), (25, 13, 0, 0, 0, 29, 0), (28, 1, 0, 0, nI 0, 29, 0), (29, 4, 2, 0, 0, 30, 0), (30, 3, 0, 0, 0, 31, 0), (31, 26, 0, 0, 0, 32, 0), (32, 30, 4, 9, 0, 35, 121), (35, 2, 2, 0, 0, 36, 0), (36, 14, 0, 0, 0, 39, 43), (39, 1, 0, 0, nI 1, 40, 0), (40, 13, 0, 0, 0, 44, 0), (43, 1, 0, 0, nI 0, 44, 0), (44, 6, 0, 0, 0, 45, 0), (45, 31, 4, 9, 0, 48, 121), (48, 2, 2, 0, 0, 49, 0), (49, 41, 0, 0, 0, 50, 0)]
def jX9_takes : JT := (150, yX9_takes, cX9_takes, 3, (some .boolean), 0, 0, 9, tX9_takes)
theorem okX9_takes : e_T jX9_takes := ⟨by decide +kernel, rfl, rfl, by decide +kernel⟩
def tX9_takesNumber : List (Nat × OpT) := [(0, 3, 0, 0, 0, 1, 0), (1, 1, 0, 0, nI 9, 3, 0), (3, 44, 1, 149, 0, 6, 124), (6, 15, 0, 0, 0, 9, 11), (9, 1, 0, 0, nI 0, 10, 0), (10, 41, 0, 0, 0, 11, 0), (11, 3, 0, 0, 0, 12, 0), (12, 3, 0, 0, 0, 13, 0), (13, 30, 2, 9, 0, 16, 13), (16, 3, 0, 0, 0, 17, 0), (17, 30, 4, 9, 0, 20, 121), (20, 32, 0, 0, 0, 21, 0), (21, 1, 0, 0, nI 48, 23, 0), (23, 7, 0, 0, 0, 24, 0), (24, 31, 5, 9, 0, 27, 127), (27, 3, 0, 0, 0, 28, 0), (28, 26, 0, 0, 0, 29, 0), (29, 30, 4, 9, 0, 32, 121), (32, 1, 0, 0, nI 1, 33, 0), (33, 6, 0, 0, 0, 34, 0), (34, 31, 4, 9, 0, 37, 121), (37, 3, 0, 0, 0, 38, 0), (38, 30, 5, 9, 0, 41, 127), (41, 19, 0, 0, 0, 44, 87), (44, 3, 0, 0, 0, 45, 0), (45, 1, 0, 0, nI 9, 47, 0), (47, 44, 1, 149, 0, 50, 124), (50, 14, 0, 0, 0, 53, 87), (53, 3, 0, 0, 0, 54, 0), (54, 1, 0, 0, nI 10, 56, 0), (56, 3, 0, 0, 0, 57, 0), (57, 30, 5, 9, 0, 60, 127), (60, 8, 0, 0, 0, 61, 0), (61, 3, 0, 0, 0, 62, 0), (62, 30, 2, 9, 0, 65, 13), (65, 3, 0, 0, 0, 66, 0), (66, 30, 4, 9, 0, 69, 121), (69, 32, 0, 0, 0, 70, 0), (70, 6, 0, 0, 0, 71, 0), (71, 1, 0, 0, nI 48, 73, 0), (73, 7, 0, 0, 0, 74, 0), (74, 31, 5, 9, 0, 77, 127), (77, 3, 0, 0, 0, 78, 0), (78, 26, 0, 0, 0, 79, 0), (79, 30, 4, 9, 0, 82, 121), (82, 1, 0, 0, nI 1, 83, 0), (83, 6, 0, 0, 0, 84, 0), (84, 31, 4, 9, 0, 87, 121), (87, 1, 0, 0, nI 1, 88, 0), (88, 41, 0, 0, 0, 89, 0)]
def jX9_takesNumber : JT := (151, yX9_takesNumber, cX9_takesNumber, 1, (some .boolean), 2, 43, 9, tX9_takesNumber)
theorem okX9_takesNumber : e_T jX9_takesNumber := ⟨by decide +kernel, rfl, rfl, by decide +kernel⟩
def tX9_reads : List (Nat × OpT) := [(0, 3, 0, 0, 0, 1, 0), (1, 1, 0, 0, nI 0, 2, 0), (2, 31, 4, 9, 0, 5, 121), (5, 1, 0, 0, nI 0, 6, 0), (6, 4, 2, 0, 0, 7, 0), (7, 1, 0, 0, nI 0, 8, 0), (8, 4, 3, 0, 0, 9, 0), (9, 1, 0, 0, nI 1, 10, 0), (10, 4, 4, 0, 0, 12, 0), (12, 2, 4, 0, 0, 14, 0), (14, 14, 0, 0, 0, 17, 142), (17, 3, 0, 0, 0, 18, 0), (18, 44, 0, 151, 0, 21, 130), (21, 15, 0, 0, 0, 24, 26), (24, 1, 0, 0, -1, 25, 0), (25, 41, 0, 0, 0, 26, 0), (26, 3, 0, 0, 0, 27, 0), (27, 30, 5, 9, 0, 30, 127), (30, 4, 5, 0, 0, 32, 0), (32, 3, 0, 0, 0, 33, 0), (33, 1, 0, 0, nI 45, 35, 0), (35, 44, 1, 150, 0, 38, 134), (38, 14, 0, 0, 0, 41, 48), (41, 3, 0, 0, 0, 42, 0), (42, 44, 0, 151, 0, 45, 130), (45, 15, 0, 0, 0, 48, 50), (48, 1, 0, 0, -1, 49, 0), (49, 41, 0, 0, 0, 50, 0), (50, 3, 0, 0, 0, 51, 0), (51, 30, 5, 9, 0, 54, 127), (54, 4, 6, 0, 0, 56, 0), (56, 3, 0, 0, 0, 57, 0), (57, 1, 0, 0, nI 61, 59, 0), (59, 44, 1, 150, 0, 62, 134), (62, 14, 0, 0, 0, 65, 74), (65, 3, 0, 0, 0, 66, 0), (66, 1, 0, 0, nI 7, 68, 0), (68, 44, 1, 149, 0, 71, 124), (71, 15, 0, 0, 0, 74, 76), (74, 1, 0, 0, -1, 75, 0), (75, 41, 0, 0, 0, 76, 0), (76, 2, 1, 0, 0, 77, 0), (77, 1, 0, 0, nI 1, 78, 0), (78, 21, 0, 0, 0, 81, 101), (81, 3, 0, 0, 0, 82, 0), (82, 2, 5, 0, 0, 84, 0), (84, 2, 6, 0, 0, 86, 0), (86, 3, 0, 0, 0, 87, 0), (87, 30, 2, 9, 0, 90, 13), (90, 3, 0, 0, 0, 91, 0), (91, 30, 4, 9, 0, 94, 121), (94, 32, 0, 0, 0, 95, 0), (95, 1, 0, 0, nI 48, 97, 0), (97, 7, 0, 0, 0, 98, 0), (98, 44, 3, 131, 0, 101, 84), (101, 3, 0, 0, 0, 102, 0), (102, 26, 0, 0, 0, 103, 0), (103, 30, 4, 9, 0, 106, 121), (106, 1, 0, 0, nI 1, 107, 0), (107, 6, 0, 0, 0, 108, 0), (108, 31, 4, 9, 0, 111, 121), (111, 2, 3, 0, 0, 112, 0), (112, 15, 0, 0, 0, 115, 122), (115, 2, 5, 0, 0, 117, 0), (117, 2, 6, 0, 0, 119, 0), (119, 25, 0, 0, 0, 122, 126), (122, 1, 0, 0, nI 1, 123, 0), (123, 13, 0, 0, 0, 127, 0), (126, 1, 0, 0, nI 0, 127, 0), (127, 4, 3, 0, 0, 128, 0), (128, 12, 2, 0, nI 1, 131, 0), (131, 3, 0, 0, 0, 132, 0), (132, 1, 0, 0, nI 59, 134, 0), (134, 44, 1, 150, 0, 137, 134), (137, 4, 4, 0, 0, 139, 0), (139, 13, 0, 0, 0, 12, 0), (142, 3, 0, 0, 0, 143, 0), (143, 30, 4, 9, 0, 146, 121), (146, 3, 0, 0, 0, 147, 0), (147, 30, 3, 9, 0, 150, 118), (150, 23, 0, 0, 0, 153, 157), (153, 1, 0, 0, -1, 154, 0), (154, 13, 0, 0, 0, 167, 0), (157, 2, 3, 0, 0, 158, 0), (158, 14, 0, 0, 0, 161, 166), (161, 1, 0, 0, -2, 163, 0), (163, 13, 0, 0, 0, 167, 0), (166, 2, 2, 0, 0, 167, 0), (167, 41, 0, 0, 0, 168, 0)]
def jX9_reads : JT := (152, yX9_reads, cX9_reads, 7, (some .int), 3, 63, 9, tX9_reads)
theorem okX9_reads : e_T jX9_reads := ⟨by decide +kernel, rfl, rfl, by decide +kernel⟩
def tX9_setRanges : List (Nat × OpT) := [(0, 3, 0, 0, 0, 1, 0), (1, 1, 0, 0, nI 0, 2, 0), (2, 44, 1, 152, 0, 5, 137), (5, 4, 1, 0, 0, 6, 0), (6, 2, 1, 0, 0, 7, 0), (7, 17, 0, 0, 0, 10, 28), (10, 2, 1, 0, 0, 11, 0), (11, 1, 0, 0, -1, 12, 0), (12, 21, 0, 0, 0, 15, 26), (15, 1, 0, 0, -1000, 18, 0), (18, 3, 0, 0, 0, 19, 0), (19, 30, 4, 9, 0, 22, 121), (22, 7, 0, 0, 0, 23, 0), (23, 13, 0, 0, 0, 27, 0), (26, 1, 0, 0, -1, 27, 0), (27, 41, 0, 0, 0, 28, 0), (28, 3, 0, 0, 0, 29, 0), (29, 44, 0, 110, 0, 32, 48), (32, 3, 0, 0, 0, 33, 0), (33, 1, 0, 0, nI 1, 34, 0), (34, 44, 1, 152, 0, 37, 137), (37, 28, 0, 0, 0, 38, 0), (38, 3, 0, 0, 0, 39, 0), (39, 1, 0, 0, nI 0, 40, 0), (40, 31, 3, 9, 0, 43, 118), (43, 2, 1, 0, 0, 44, 0), (44, 41, 0, 0, 0, 45, 0)]
def jX9_setRanges : JT := (153, yX9_setRanges, cX9_setRanges, 2, (some .int), 4, 89, 9, tX9_setRanges)
theorem okX9_setRanges : e_T jX9_setRanges := ⟨by decide +kernel, rfl, rfl, by decide +kernel⟩
def tX9_astray : List (Nat × OpT) := [(0, 1, 0, 0, nI 0, 1, 0), (1, 4, 1, 0, 0, 2, 0), (2, 1, 0, 0, nI 0, 3, 0), (3, 4, 2, 0, 0, 4, 0), (4, 2, 2, 0, 0, 5, 0), (5, 3, 0, 0, 0, 6, 0), (6, 30, 0, 9, 0, 9, 7), (9, 1, 0, 0, nI 100, 11, 0), (11, 32, 0, 0, 0, 12, 0), (12, 23, 0, 0, 0, 15, 53), (15, 2, 1, 0, 0, 16, 0), (16, 3, 0, 0, 0, 17, 0), (17, 2, 2, 0, 0, 18, 0), (18, 1, 0, 0, nI 3, 19, 0), (19, 44, 2, 111, 0, 22, 30), (22, 1, 0, 0, nI 1, 23, 0), (23, 21, 0, 0, 0, 26, 44), (26, 3, 0, 0, 0, 27, 0), (27, 2, 2, 0, 0, 28, 0), (28, 1, 0, 0, nI 4, 29, 0), (29, 44, 2, 111, 0, 32, 30), (32, 3, 0, 0, 0, 33, 0), (33, 2, 2, 0, 0, 34, 0), (34, 44, 1, 114, 0, 37, 57), (37, 20, 0, 0, 0, 40, 44), (40, 1, 0, 0, nI 1, 41, 0), (41, 13, 0, 0, 0, 45, 0), (44, 1, 0, 0, nI 0, 45, 0), (45, 6, 0, 0, 0, 46, 0), (46, 4, 1, 0, 0, 47, 0), (47, 12, 2, 0, nI 1, 50, 0), (50, 13, 0, 0, 0, 4, 0), (53, 2, 1, 0, 0, 54, 0), (54, 41, 0, 0, 0, 55, 0)]
def jX9_astray : JT := (154, yX9_astray, cX9_astray, 3, (some .int), 2, 43, 9, tX9_astray)
theorem okX9_astray : e_T jX9_astray := ⟨by decide +kernel, rfl, rfl, by decide +kernel⟩
def tX9_out : List (Nat × OpT) := [(0, 1, 0, 0, nI 0, 1, 0), (1, 4, 1, 0, 0, 2, 0), (2, 1, 0, 0, nI 0, 3, 0), (3, 4, 2, 0, 0, 4, 0), (4, 2, 2, 0, 0, 5, 0), (5, 1, 0, 0, nI 6, 7, 0), (7, 23, 0, 0, 0, 10, 29), (10, 2, 1, 0, 0, 11, 0), (11, 3, 0, 0, 0, 12, 0), (12, 30, 0, 9, 0, 15, 7), (15, 1, 0, 0, nI 1011, 18, 0), (18, 2, 2, 0, 0, 19, 0), (19, 6, 0, 0, 0, 20, 0), (20, 32, 0, 0, 0, 21, 0), (21, 6, 0, 0, 0, 22, 0), (22, 4, 1, 0, 0, 23, 0), (23, 12, 2, 0, nI 1, 26, 0), (26, 13, 0, 0, 0, 4, 0), (29, 2, 1, 0, 0, 30, 0), (30, 41, 0, 0, 0, 31, 0)]
def jX9_out : JT := (155, yX9_out, cX9_out, 3, (some .int), 0, 0, 9, tX9_out)
theorem okX9_out : e_T jX9_out := ⟨by decide +kernel, rfl, rfl, by decide +kernel⟩
def tX9_count : List (Nat × OpT) := [(0, 2, 1, 0, 0, 1, 0), (1, 1, 0, 0, nI 0, 2, 0), (2, 1, 0, 0, nI 5, 3, 0), (3, 46, 3, 108, 0, 6, 34), (6, 14, 0, 0, 0, 9, 15), (9, 3, 0, 0, 0, 10, 0), (10, 2, 1, 0, 0, 11, 0), (11, 44, 1, 119, 0, 14, 74), (14, 41, 0, 0, 0, 15, 0), (15, 2, 1, 0, 0, 16, 0), (16, 43, 0, 0, 0, 84, 0), (84, 3, 0, 0, 0, 85, 0), (85, 30, 0, 9, 0, 88, 7), (88, 1, 0, 0, nI 100, 90, 0), (90, 32, 0, 0, 0, 91, 0), (91, 41, 0, 0, 0, 92, 0), (92, 3, 0, 0, 0, 93, 0), (93, 30, 0, 9, 0, 96, 7), (96, 1, 0, 0, nI 952, 99, 0), (99, 32, 0, 0, 0, 100, 0), (100, 41, 0, 0, 0, 101, 0), (101, 3, 0, 0, 0, 102, 0), (102, 44, 0, 130, 0, 105, 87), (105, 41, 0, 0, 0, 106, 0), (106, 3, 0, 0, 0, 107, 0), (107, 44, 0, 155, 0, 110, 140), (110, 41, 0, 0, 0, 111, 0), (111, 3, 0, 0, 0, 112, 0), (112, 44, 0, 154, 0, 115, 143), (115, 41, 0, 0, 0, 116, 0), (116, 3, 0, 0, 0, 117, 0), (117, 30, 0, 9, 0, 120, 7), (120, 1, 0, 0, nI 953, 123, 0), (123, 32, 0, 0, 0, 124, 0), (124, 41, 0, 0, 0, 125, 0), (125, 3, 0, 0, 0, 126, 0), (126, 30, 0, 9, 0, 129, 7), (129, 1, 0, 0, nI 954, 132, 0), (132, 32, 0, 0, 0, 133, 0), (133, 41, 0, 0, 0, 134, 0), (134, 3, 0, 0, 0, 135, 0), (135, 30, 0, 9, 0, 138, 7), (138, 1, 0, 0, nI 949, 141, 0), (141, 32, 0, 0, 0, 142, 0), (142, 41, 0, 0, 0, 143, 0), (143, 3, 0, 0, 0, 144, 0), (144, 30, 0, 9, 0, 147, 7), (147, 1, 0, 0, nI 950, 150, 0), (150, 32, 0, 0, 0, 151, 0), (151, 41, 0, 0, 0, 152, 0), (152, 3, 0, 0, 0, 153, 0), (153, 30, 0, 9, 0, 156, 7), (156, 1, 0, 0, nI 951, 159, 0), (159, 32, 0, 0, 0, 160, 0), (160, 41, 0, 0, 0, 161, 0), (161, 3, 0, 0, 0, 162, 0), (162, 30, 0, 9, 0, 165, 7), (165, 1, 0, 0, nI 3069, 168, 0), (168, 32, 0, 0, 0, 169, 0), (169, 3, 0, 0, 0, 170, 0), (170, 30, 0, 9, 0, 173, 7), (173, 1, 0, 0, nI 3070, 176, 0), (176, 32, 0, 0, 0, 177, 0), (177, 6, 0, 0, 0, 178, 0), (178, 41, 0, 0, 0, 179, 0), (179, 3, 0, 0, 0, 180, 0), (180, 30, 1, 9, 0, 183, 19), (183, 41, 0, 0, 0, 184, 0), (184, 3, 0, 0, 0, 185, 0), (185, 30, 3, 9, 0, 188, 118), (188, 41, 0, 0, 0, 189, 0), (189, 1, 0, 0, -1, 190, 0), (190, 41, 0, 0, 0, 191, 0)]
def jX9_count : JT := (156, yX9_count, cX9_count, 2, (some .int), 3, 65, 9, tX9_count)
theorem okX9_count : e_T jX9_count := ⟨by decide +kernel, rfl, rfl, by decide +kernel⟩
def tX9_letter : List (Nat × OpT) := [(0, 2, 1, 0, 0, 1, 0), (1, 1, 0, 0, nI 0, 2, 0), (2, 3, 0, 0, 0, 3, 0), (3, 30, 0, 9, 0, 6, 7), (6, 1, 0, 0, nI 100, 8, 0), (8, 32, 0, 0, 0, 9, 0), (9, 1, 0, 0, nI 1, 10, 0), (10, 7, 0, 0, 0, 11, 0), (11, 46, 3, 108, 0, 14, 34), (14, 15, 0, 0, 0, 17, 19), (17, 1, 0, 0, -1, 18, 0), (18, 41, 0, 0, 0, 19, 0), (19, 2, 2, 0, 0, 20, 0), (20, 43, 0, 0, 0, 72, 0), (72, 3, 0, 0, 0, 73, 0), (73, 2, 1, 0, 0, 74, 0), (74, 1, 0, 0, nI 0, 75, 0), (75, 44, 2, 111, 0, 78, 30), (78, 41, 0, 0, 0, 79, 0), (79, 3, 0, 0, 0, 80, 0), (80, 2, 1, 0, 0, 81, 0), (81, 1, 0, 0, nI 1, 82, 0), (82, 44, 2, 111, 0, 85, 30), (85, 41, 0, 0, 0, 86, 0), (86, 3, 0, 0, 0, 87, 0), (87, 2, 1, 0, 0, 88, 0), (88, 1, 0, 0, nI 3, 89, 0), (89, 44, 2, 111, 0, 92, 30), (92, 41, 0, 0, 0, 93, 0), (93, 3, 0, 0, 0, 94, 0), (94, 2, 1, 0, 0, 95, 0), (95, 1, 0, 0, nI 3, 96, 0), (96, 44, 2, 111, 0, 99, 30), (99, 1, 0, 0, nI 1, 100, 0), (100, 21, 0, 0, 0, 103, 112), (103, 3, 0, 0, 0, 104, 0), (104, 2, 1, 0, 0, 105, 0), (105, 1, 0, 0, nI 4, 106, 0), (106, 44, 2, 111, 0, 109, 30), (109, 13, 0, 0, 0, 114, 0), (112, 1, 0, 0, -9, 114, 0), (114, 41, 0, 0, 0, 115, 0), (115, 3, 0, 0, 0, 116, 0), (116, 2, 1, 0, 0, 117, 0), (117, 1, 0, 0, nI 3, 118, 0), (118, 44, 2, 111, 0, 121, 30), (121, 1, 0, 0, nI 3, 122, 0), (122, 21, 0, 0, 0, 125, 134), (125, 3, 0, 0, 0, 126, 0), (126, 2, 1, 0, 0, 127, 0), (127, 1, 0, 0, nI 4, 128, 0), (128, 44, 2, 111, 0, 131, 30), (131, 13, 0, 0, 0, 136, 0), (134, 1, 0, 0, -9, 136, 0), (136, 41, 0, 0, 0, 137, 0), (137, 3, 0, 0, 0, 138, 0), (138, 2, 1, 0, 0, 139, 0), (139, 1, 0, 0, nI 2, 140, 0), (140, 44, 2, 111, 0, 143, 30), (143, 41, 0, 0, 0, 144, 0), (144, 3, 0, 0, 0, 145, 0), (145, 2, 1, 0, 0, 146, 0), (146, 1, 0, 0, nI 5, 147, 0), (147, 44, 2, 111, 0, 150, 30), (150, 41, 0, 0, 0, 151, 0), (151, 3, 0, 0, 0, 152, 0), (152, 2, 1, 0, 0, 153, 0), (153, 1, 0, 0, nI 6, 155, 0), (155, 44, 2, 111, 0, 158, 30), (158, 41, 0, 0, 0, 159, 0), (159, 3, 0, 0, 0, 160, 0), (160, 2, 1, 0, 0, 161, 0), (161, 44, 1, 114, 0, 164, 57), (164, 41, 0, 0, 0, 165, 0), (165, 1, 0, 0, -1, 166, 0), (166, 41, 0, 0, 0, 167, 0)]
def jX9_letter : JT := (157, yX9_letter, cX9_letter, 3, (some .int), 2, 43, 9, tX9_letter)
theorem okX9_letter : e_T jX9_letter := ⟨by decide +kernel, rfl, rfl, by decide +kernel⟩
def tX9_firstIn : List (Nat × OpT) := [(0, 1, 0, 0, nI 0, 1, 0), (1, 4, 2, 0, 0, 2, 0), (2, 1, 0, 0, nI 0, 3, 0), (3, 4, 3, 0, 0, 4, 0), (4, 2, 3, 0, 0, 5, 0), (5, 3, 0, 0, 0, 6, 0), (6, 30, 0, 9, 0, 9, 7), (9, 1, 0, 0, nI 100, 11, 0), (11, 32, 0, 0, 0, 12, 0), (12, 23, 0, 0, 0, 15, 44), (15, 2, 2, 0, 0, 16, 0), (16, 3, 0, 0, 0, 17, 0), (17, 2, 3, 0, 0, 18, 0), (18, 1, 0, 0, nI 1, 19, 0), (19, 2, 1, 0, 0, 20, 0), (20, 44, 3, 117, 0, 23, 38), (23, 14, 0, 0, 0, 26, 35), (26, 3, 0, 0, 0, 27, 0), (27, 2, 3, 0, 0, 28, 0), (28, 1, 0, 0, nI 1, 29, 0), (29, 44, 2, 111, 0, 32, 30), (32, 13, 0, 0, 0, 36, 0), (35, 1, 0, 0, nI 0, 36, 0), (36, 6, 0, 0, 0, 37, 0), (37, 4, 2, 0, 0, 38, 0), (38, 12, 3, 0, nI 1, 41, 0), (41, 13, 0, 0, 0, 4, 0), (44, 2, 2, 0, 0, 45, 0), (45, 41, 0, 0, 0, 46, 0)]
def jX9_firstIn : JT := (158, yX9_firstIn, cX9_firstIn, 4, (some .int), 2, 45, 9, tX9_firstIn)
theorem okX9_firstIn : e_T jX9_firstIn := ⟨by decide +kernel, rfl, rfl, by decide +kernel⟩
def tX9_frame : List (Nat × OpT) := [(0, 2, 1, 0, 0, 1, 0), (1, 46, 1, 115, 0, 4, 80), (4, 15, 0, 0, 0, 7, 9), (7, 1, 0, 0, -1, 8, 0), (8, 41, 0, 0, 0, 9, 0), (9, 2, 2, 0, 0, 10, 0), (10, 43, 0, 0, 0, 44, 0), (44, 3, 0, 0, 0, 45, 0), (45, 30, 0, 9, 0, 48, 7), (48, 1, 0, 0, nI 941, 51, 0), (51, 2, 1, 0, 0, 52, 0), (52, 6, 0, 0, 0, 53, 0), (53, 32, 0, 0, 0, 54, 0), (54, 41, 0, 0, 0, 55, 0), (55, 3, 0, 0, 0, 56, 0), (56, 1, 0, 0, nI 1, 57, 0), (57, 2, 1, 0, 0, 58, 0), (58, 44, 2, 118, 0, 61, 41), (61, 41, 0, 0, 0, 62, 0), (62, 3, 0, 0, 0, 63, 0), (63, 2, 1, 0, 0, 64, 0), (64, 44, 1, 120, 0, 67, 54), (67, 41, 0, 0, 0, 68, 0), (68, 3, 0, 0, 0, 69, 0), (69, 2, 1, 0, 0, 70, 0), (70, 44, 1, 158, 0, 73, 146), (73, 41, 0, 0, 0, 74, 0), (74, 3, 0, 0, 0, 75, 0), (75, 30, 0, 9, 0, 78, 7), (78, 1, 0, 0, nI 955, 81, 0), (81, 2, 1, 0, 0, 82, 0), (82, 6, 0, 0, 0, 83, 0), (83, 32, 0, 0, 0, 84, 0), (84, 41, 0, 0, 0, 85, 0), (85, 1, 0, 0, -1, 86, 0), (86, 41, 0, 0, 0, 87, 0)]
def jX9_frame : JT := (159, yX9_frame, cX9_frame, 3, (some .int), 4, 91, 9, tX9_frame)
theorem okX9_frame : e_T jX9_frame := ⟨by decide +kernel, rfl, rfl, by decide +kernel⟩
def tX9_carrier : List (Nat × OpT) := [(0, 2, 1, 0, 0, 1, 0), (1, 46, 1, 116, 0, 4, 93), (4, 15, 0, 0, 0, 7, 9), (7, 1, 0, 0, -1, 8, 0), (8, 41, 0, 0, 0, 9, 0), (9, 2, 2, 0, 0, 10, 0), (10, 43, 0, 0, 0, 40, 0), (40, 3, 0, 0, 0, 41, 0), (41, 2, 1, 0, 0, 42, 0), (42, 44, 1, 135, 0, 45, 96), (45, 41, 0, 0, 0, 46, 0), (46, 3, 0, 0, 0, 47, 0), (47, 30, 0, 9, 0, 50, 7), (50, 1, 0, 0, nI 1011, 53, 0), (53, 2, 1, 0, 0, 54, 0), (54, 6, 0, 0, 0, 55, 0), (55, 32, 0, 0, 0, 56, 0), (56, 41, 0, 0, 0, 57, 0), (57, 3, 0, 0, 0, 58, 0), (58, 1, 0, 0, nI 3, 59, 0), (59, 2, 1, 0, 0, 60, 0), (60, 44, 2, 118, 0, 63, 41), (63, 41, 0, 0, 0, 64, 0), (64, 3, 0, 0, 0, 65, 0), (65, 30, 0, 9, 0, 68, 7), (68, 1, 0, 0, nI 1017, 71, 0), (71, 2, 1, 0, 0, 72, 0), (72, 6, 0, 0, 0, 73, 0), (73, 32, 0, 0, 0, 74, 0), (74, 41, 0, 0, 0, 75, 0), (75, 1, 0, 0, -1, 76, 0), (76, 41, 0, 0, 0, 77, 0)]
def jX9_carrier : JT := (160, yX9_carrier, cX9_carrier, 3, (some .int), 3, 69, 9, tX9_carrier)
theorem okX9_carrier : e_T jX9_carrier := ⟨by decide +kernel, rfl, rfl, by decide +kernel⟩
def tX9_rounds : List (Nat × OpT) := [(0, 2, 1, 0, 0, 1, 0), (1, 46, 1, 116, 0, 4, 93), (4, 14, 0, 0, 0, 7, 32), (7, 2, 2, 0, 0, 8, 0), (8, 46, 1, 115, 0, 11, 80), (11, 14, 0, 0, 0, 14, 32), (14, 3, 0, 0, 0, 15, 0), (15, 30, 0, 9, 0, 18, 7), (18, 1, 0, 0, nI 963, 21, 0), (21, 1, 0, 0, nI 8, 23, 0), (23, 2, 1, 0, 0, 24, 0), (24, 8, 0, 0, 0, 25, 0), (25, 6, 0, 0, 0, 26, 0), (26, 2, 2, 0, 0, 27, 0), (27, 6, 0, 0, 0, 28, 0), (28, 32, 0, 0, 0, 29, 0), (29, 13, 0, 0, 0, 33, 0), (32, 1, 0, 0, -1, 33, 0), (33, 41, 0, 0, 0, 34, 0)]
def jX9_rounds : JT := (161, yX9_rounds, cX9_rounds, 3, (some .int), 2, 42, 9, tX9_rounds)
theorem okX9_rounds : e_T jX9_rounds := ⟨by decide +kernel, rfl, rfl, by decide +kernel⟩
def tX9_stretch : List (Nat × OpT) := [(0, 2, 1, 0, 0, 1, 0), (1, 1, 0, 0, nI 0, 2, 0), (2, 1, 0, 0, nI 99, 4, 0), (4, 46, 3, 108, 0, 7, 34), (7, 14, 0, 0, 0, 10, 19), (10, 2, 2, 0, 0, 11, 0), (11, 1, 0, 0, nI 0, 12, 0), (12, 1, 0, 0, nI 2, 13, 0), (13, 46, 3, 108, 0, 16, 34), (16, 15, 0, 0, 0, 19, 21), (19, 1, 0, 0, -1, 20, 0), (20, 41, 0, 0, 0, 21, 0), (21, 2, 2, 0, 0, 22, 0), (22, 1, 0, 0, nI 1, 23, 0), (23, 21, 0, 0, 0, 26, 30), (26, 1, 0, 0, -1, 27, 0), (27, 13, 0, 0, 0, 31, 0), (30, 1, 0, 0, nI 1, 31, 0), (31, 4, 3, 0, 0, 32, 0), (32, 2, 1, 0, 0, 33, 0), (33, 4, 4, 0, 0, 35, 0), (35, 2, 2, 0, 0, 36, 0), (36, 19, 0, 0, 0, 39, 79), (39, 2, 4, 0, 0, 41, 0), (41, 2, 3, 0, 0, 42, 0), (42, 6, 0, 0, 0, 43, 0), (43, 1, 0, 0, nI 0, 44, 0), (44, 1, 0, 0, nI 99, 46, 0), (46, 46, 3, 108, 0, 49, 34), (49, 14, 0, 0, 0, 52, 79), (52, 3, 0, 0, 0, 53, 0), (53, 30, 0, 9, 0, 56, 7), (56, 2, 4, 0, 0, 58, 0), (58, 2, 3, 0, 0, 59, 0), (59, 6, 0, 0, 0, 60, 0), (60, 32, 0, 0, 0, 61, 0), (61, 3, 0, 0, 0, 62, 0), (62, 30, 0, 9, 0, 65, 7), (65, 2, 1, 0, 0, 66, 0), (66, 32, 0, 0, 0, 67, 0), (67, 21, 0, 0, 0, 70, 79), (70, 2, 4, 0, 0, 72, 0), (72, 2, 3, 0, 0, 73, 0), (73, 6, 0, 0, 0, 74, 0), (74, 4, 4, 0, 0, 76, 0), (76, 13, 0, 0, 0, 35, 0), (79, 2, 2, 0, 0, 80, 0), (80, 15, 0, 0, 0, 83, 92), (83, 3, 0, 0, 0, 84, 0), (84, 30, 0, 9, 0, 87, 7), (87, 2, 1, 0, 0, 88, 0), (88, 32, 0, 0, 0, 89, 0), (89, 13, 0, 0, 0, 94, 0), (92, 2, 4, 0, 0, 94, 0), (94, 41, 0, 0, 0, 95, 0)]
def jX9_stretch : JT := (162, yX9_stretch, cX9_stretch, 5, (some .int), 1, 22, 9, tX9_stretch)
theorem okX9_stretch : e_T jX9_stretch := ⟨by decide +kernel, rfl, rfl, by decide +kernel⟩
def tX9_inBag : List (Nat × OpT) := [(0, 2, 1, 0, 0, 1, 0), (1, 17, 0, 0, 0, 4, 6), (4, 1, 0, 0, -1, 5, 0), (5, 41, 0, 0, 0, 6, 0), (6, 2, 1, 0, 0, 7, 0), (7, 3, 0, 0, 0, 8, 0), (8, 44, 0, 123, 0, 11, 67), (11, 23, 0, 0, 0, 14, 23), (14, 3, 0, 0, 0, 15, 0), (15, 30, 6, 9, 0, 18, 16), (18, 2, 1, 0, 0, 19, 0), (19, 32, 0, 0, 0, 20, 0), (20, 13, 0, 0, 0, 25, 0), (23, 1, 0, 0, -9, 25, 0), (25, 41, 0, 0, 0, 26, 0)]
def jX9_inBag : JT := (163, yX9_inBag, cX9_inBag, 2, (some .int), 3, 66, 9, tX9_inBag)
theorem okX9_inBag : e_T jX9_inBag := ⟨by decide +kernel, rfl, rfl, by decide +kernel⟩
def tX9_inFrame : List (Nat × OpT) := [(0, 2, 1, 0, 0, 1, 0), (1, 46, 1, 115, 0, 4, 80), (4, 14, 0, 0, 0, 7, 11), (7, 2, 2, 0, 0, 8, 0), (8, 17, 0, 0, 0, 11, 13), (11, 1, 0, 0, -1, 12, 0), (12, 41, 0, 0, 0, 13, 0), (13, 2, 2, 0, 0, 14, 0), (14, 3, 0, 0, 0, 15, 0), (15, 1, 0, 0, nI 1, 16, 0), (16, 2, 1, 0, 0, 17, 0), (17, 44, 2, 121, 0, 20, 99), (20, 23, 0, 0, 0, 23, 32), (23, 3, 0, 0, 0, 24, 0), (24, 30, 6, 9, 0, 27, 16), (27, 2, 2, 0, 0, 28, 0), (28, 32, 0, 0, 0, 29, 0), (29, 13, 0, 0, 0, 34, 0), (32, 1, 0, 0, -9, 34, 0), (34, 41, 0, 0, 0, 35, 0)]
def jX9_inFrame : JT := (164, yX9_inFrame, cX9_inFrame, 3, (some .int), 3, 70, 9, tX9_inFrame)
theorem okX9_inFrame : e_T jX9_inFrame := ⟨by decide +kernel, rfl, rfl, by decide +kernel⟩
def tX9_putAside : List (Nat × OpT) := [(0, 3, 0, 0, 0, 1, 0), (1, 1, 0, 0, nI 0, 2, 0), (2, 1, 0, 0, nI 18426, 5, 0), (5, 1, 0, 0, nI 1023, 8, 0), (8, 44, 3, 109, 0, 11, 23), (11, 42, 0, 0, 0, 12, 0)]
def jX9_putAside : JT := (165, yX9_putAside, cX9_putAside, 1, none, 1, 24, 9, tX9_putAside)
theorem okX9_putAside : e_T jX9_putAside := ⟨by decide +kernel, rfl, rfl, by decide +kernel⟩
def tX9_comesBack : List (Nat × OpT) := [(0, 3, 0, 0, 0, 1, 0), (1, 1, 0, 0, nI 18426, 4, 0), (4, 1, 0, 0, nI 0, 5, 0), (5, 1, 0, 0, nI 1023, 8, 0), (8, 44, 3, 109, 0, 11, 23), (11, 42, 0, 0, 0, 12, 0)]
def jX9_comesBack : JT := (166, yX9_comesBack, cX9_comesBack, 1, none, 1, 24, 9, tX9_comesBack)
theorem okX9_comesBack : e_T jX9_comesBack := ⟨by decide +kernel, rfl, rfl, by decide +kernel⟩
def tX9_clearIn : List (Nat × OpT) := [(0, 3, 0, 0, 0, 1, 0), (1, 44, 0, 165, 0, 4, 149), (4, 1, 0, 0, nI 0, 5, 0), (5, 4, 1, 0, 0, 6, 0), (6, 2, 1, 0, 0, 7, 0), (7, 1, 0, 0, nI 60, 9, 0), (9, 24, 0, 0, 0, 12, 37), (12, 3, 0, 0, 0, 13, 0), (13, 1, 0, 0, nI 0, 14, 0), (14, 44, 1, 119, 0, 17, 74), (17, 3, 0, 0, 0, 18, 0), (18, 1, 0, 0, nI 2, 19, 0), (19, 44, 1, 119, 0, 22, 74), (22, 6, 0, 0, 0, 23, 0), (23, 19, 0, 0, 0, 26, 37), (26, 3, 0, 0, 0, 27, 0), (27, 44, 0, 128, 0, 30, 77), (30, 28, 0, 0, 0, 31, 0), (31, 12, 1, 0, nI 1, 34, 0), (34, 13, 0, 0, 0, 6, 0), (37, 3, 0, 0, 0, 38, 0), (38, 44, 0, 166, 0, 41, 152), (41, 2, 1, 0, 0, 42, 0), (42, 1, 0, 0, nI 60, 44, 0), (44, 24, 0, 0, 0, 47, 51), (47, 2, 1, 0, 0, 48, 0), (48, 13, 0, 0, 0, 53, 0), (51, 1, 0, 0, -9, 53, 0), (53, 41, 0, 0, 0, 54, 0)]
def jX9_clearIn : JT := (167, yX9_clearIn, cX9_clearIn, 2, (some .int), 7, 159, 9, tX9_clearIn)
theorem okX9_clearIn : e_T jX9_clearIn := ⟨by decide +kernel, rfl, rfl, by decide +kernel⟩
def tX9_wouldOverflow : List (Nat × OpT) := [(0, 2, 1, 0, 0, 1, 0), (1, 1, 0, 0, nI 0, 2, 0), (2, 1, 0, 0, nI 2, 3, 0), (3, 46, 3, 108, 0, 6, 34), (6, 15, 0, 0, 0, 9, 11), (9, 1, 0, 0, -1, 10, 0), (10, 41, 0, 0, 0, 11, 0), (11, 3, 0, 0, 0, 12, 0), (12, 44, 0, 165, 0, 15, 149), (15, 3, 0, 0, 0, 16, 0), (16, 30, 0, 9, 0, 19, 7), (19, 1, 0, 0, nI 949, 22, 0), (22, 2, 1, 0, 0, 23, 0), (23, 36, 0, 0, 0, 24, 0), (24, 3, 0, 0, 0, 25, 0), (25, 44, 0, 128, 0, 28, 77), (28, 4, 2, 0, 0, 29, 0), (29, 3, 0, 0, 0, 30, 0), (30, 44, 0, 166, 0, 33, 152), (33, 2, 2, 0, 0, 34, 0), (34, 41, 0, 0, 0, 35, 0)]
def jX9_wouldOverflow : JT := (168, yX9_wouldOverflow, cX9_wouldOverflow, 3, (some .int), 7, 159, 9, tX9_wouldOverflow)
theorem okX9_wouldOverflow : e_T jX9_wouldOverflow := ⟨by decide +kernel, rfl, rfl, by decide +kernel⟩
def tX9_bestCarrier : List (Nat × OpT) := [(0, 2, 1, 0, 0, 1, 0), (1, 46, 1, 115, 0, 4, 80), (4, 15, 0, 0, 0, 7, 9), (7, 1, 0, 0, -1, 8, 0), (8, 41, 0, 0, 0, 9, 0), (9, 1, 0, 0, -9, 11, 0), (11, 4, 2, 0, 0, 12, 0), (12, 1, 0, 0, -1, 13, 0), (13, 4, 3, 0, 0, 14, 0), (14, 1, 0, 0, nI 0, 15, 0), (15, 4, 4, 0, 0, 17, 0), (17, 2, 4, 0, 0, 19, 0), (19, 1, 0, 0, nI 6, 21, 0), (21, 23, 0, 0, 0, 24, 89), (24, 3, 0, 0, 0, 25, 0), (25, 2, 4, 0, 0, 27, 0), (27, 44, 1, 135, 0, 30, 96), (30, 1, 0, 0, -9, 32, 0), (32, 21, 0, 0, 0, 35, 54), (35, 3, 0, 0, 0, 36, 0), (36, 30, 0, 9, 0, 39, 7), (39, 1, 0, 0, nI 963, 42, 0), (42, 1, 0, 0, nI 8, 44, 0), (44, 2, 4, 0, 0, 46, 0), (46, 8, 0, 0, 0, 47, 0), (47, 6, 0, 0, 0, 48, 0), (48, 2, 1, 0, 0, 49, 0), (49, 6, 0, 0, 0, 50, 0), (50, 32, 0, 0, 0, 51, 0), (51, 13, 0, 0, 0, 55, 0), (54, 1, 0, 0, -1, 55, 0), (55, 4, 5, 0, 0, 57, 0), (57, 2, 5, 0, 0, 59, 0), (59, 2, 3, 0, 0, 60, 0), (60, 25, 0, 0, 0, 63, 68), (63, 2, 4, 0, 0, 65, 0), (65, 13, 0, 0, 0, 69, 0), (68, 2, 2, 0, 0, 69, 0), (69, 4, 2, 0, 0, 70, 0), (70, 2, 5, 0, 0, 72, 0), (72, 2, 3, 0, 0, 73, 0), (73, 25, 0, 0, 0, 76, 81), (76, 2, 5, 0, 0, 78, 0), (78, 13, 0, 0, 0, 82, 0), (81, 2, 3, 0, 0, 82, 0), (82, 4, 3, 0, 0, 83, 0), (83, 12, 4, 0, nI 1, 86, 0), (86, 13, 0, 0, 0, 17, 0), (89, 2, 2, 0, 0, 90, 0), (90, 41, 0, 0, 0, 91, 0)]
def jX9_bestCarrier : JT := (169, yX9_bestCarrier, cX9_bestCarrier, 6, (some .int), 2, 42, 9, tX9_bestCarrier)
theorem okX9_bestCarrier : e_T jX9_bestCarrier := ⟨by decide +kernel, rfl, rfl, by decide +kernel⟩
def tX9_wouldDeliver : List (Nat × OpT) := [(0, 2, 1, 0, 0, 1, 0), (1, 46, 1, 116, 0, 4, 93), (4, 15, 0, 0, 0, 7, 9), (7, 1, 0, 0, -1, 8, 0), (8, 41, 0, 0, 0, 9, 0), (9, 3, 0, 0, 0, 10, 0), (10, 30, 0, 9, 0, 13, 7), (13, 1, 0, 0, nI 1011, 16, 0), (16, 2, 1, 0, 0, 17, 0), (17, 6, 0, 0, 0, 18, 0), (18, 32, 0, 0, 0, 19, 0), (19, 15, 0, 0, 0, 22, 33), (22, 3, 0, 0, 0, 23, 0), (23, 2, 1, 0, 0, 24, 0), (24, 44, 1, 137, 0, 27, 102), (27, 15, 0, 0, 0, 30, 33), (30, 1, 0, 0, -2, 32, 0), (32, 41, 0, 0, 0, 33, 0), (33, 3, 0, 0, 0, 34, 0), (34, 44, 0, 165, 0, 37, 149), (37, 3, 0, 0, 0, 38, 0), (38, 30, 0, 9, 0, 41, 7), (41, 1, 0, 0, nI 1011, 44, 0), (44, 2, 1, 0, 0, 45, 0), (45, 6, 0, 0, 0, 46, 0), (46, 32, 0, 0, 0, 47, 0), (47, 15, 0, 0, 0, 50, 56), (50, 3, 0, 0, 0, 51, 0), (51, 2, 1, 0, 0, 52, 0), (52, 44, 1, 138, 0, 55, 105), (55, 28, 0, 0, 0, 56, 0), (56, 3, 0, 0, 0, 57, 0), (57, 2, 1, 0, 0, 58, 0), (58, 44, 1, 142, 0, 61, 115), (61, 4, 2, 0, 0, 62, 0), (62, 3, 0, 0, 0, 63, 0), (63, 44, 0, 166, 0, 66, 152), (66, 2, 2, 0, 0, 67, 0), (67, 41, 0, 0, 0, 68, 0)]
def jX9_wouldDeliver : JT := (170, yX9_wouldDeliver, cX9_wouldDeliver, 3, (some .int), 5, 119, 9, tX9_wouldDeliver)
theorem okX9_wouldDeliver : e_T jX9_wouldDeliver := ⟨by decide +kernel, rfl, rfl, by decide +kernel⟩
theorem dX0_init_7 : decode cX0_init 7 = .ok (.newarray .int, 2) := by decide +kernel
theorem dX0_init_15 : decode cX0_init 15 = .ok (.newarray .boolean, 2) := by decide +kernel
theorem dX0_init_23 : decode cX0_init 23 = .ok (.newarray .int, 2) := by decide +kernel
theorem dX0_init_31 : decode cX0_init 31 = .ok (.newarray .int, 2) := by decide +kernel
theorem dX1_init_6 : decode cX1_init 6 = .ok (.anewarray 9, 3) := by decide +kernel
theorem dX1_init_24 : decode cX1_init 24 = .ok (.new 9, 3) := by decide +kernel
theorem dX2_init_7 : decode cX2_init 7 = .ok (.newarray .int, 2) := by decide +kernel
theorem dX2_init_15 : decode cX2_init 15 = .ok (.newarray .int, 2) := by decide +kernel
theorem dX2_init_23 : decode cX2_init 23 = .ok (.newarray .int, 2) := by decide +kernel
theorem dX2_init_31 : decode cX2_init 31 = .ok (.newarray .int, 2) := by decide +kernel
theorem dX2_init_39 : decode cX2_init 39 = .ok (.newarray .int, 2) := by decide +kernel
theorem dX2_init_47 : decode cX2_init 47 = .ok (.newarray .int, 2) := by decide +kernel
theorem dX2_init_55 : decode cX2_init 55 = .ok (.newarray .int, 2) := by decide +kernel
theorem dX2_init_63 : decode cX2_init 63 = .ok (.newarray .int, 2) := by decide +kernel
theorem dX3_init_7 : decode cX3_init 7 = .ok (.newarray .int, 2) := by decide +kernel
theorem dX4_init_5 : decode cX4_init 5 = .ok (.new 9, 3) := by decide +kernel
theorem dX4_init_17 : decode cX4_init 17 = .ok (.anewarray 9, 3) := by decide +kernel
theorem dX4_init_25 : decode cX4_init 25 = .ok (.newarray .boolean, 2) := by decide +kernel
theorem dX4_init_42 : decode cX4_init 42 = .ok (.new 9, 3) := by decide +kernel
theorem dX5_init_5 : decode cX5_init 5 = .ok (.new 9, 3) := by decide +kernel
theorem dX5_init_16 : decode cX5_init 16 = .ok (.new 18, 3) := by decide +kernel
theorem dX5_init_27 : decode cX5_init 27 = .ok (.new 25, 3) := by decide +kernel
theorem dX5_init_40 : decode cX5_init 40 = .ok (.newarray .int, 2) := by decide +kernel
theorem dX5_number_1 : decode cX5_number 1 = .ok (.tableswitch 42 8 10 #[27, 32, 37], 27) := by decide +kernel
theorem dX5_changeNumber_1 : decode cX5_changeNumber 1 = .ok (.tableswitch 51 8 10 #[27, 35, 43], 27) := by decide +kernel
theorem dX6_init_7 : decode cX6_init 7 = .ok (.newarray .char, 2) := by decide +kernel
theorem dX6_init_15 : decode cX6_init 15 = .ok (.newarray .int, 2) := by decide +kernel
theorem dX6_init_23 : decode cX6_init 23 = .ok (.newarray .int, 2) := by decide +kernel
theorem dX6_init_31 : decode cX6_init 31 = .ok (.newarray .int, 2) := by decide +kernel
theorem dX7_init_7 : decode cX7_init 7 = .ok (.newarray .int, 2) := by decide +kernel
theorem dX7_init_15 : decode cX7_init 15 = .ok (.getstatic 15, 3) := by decide +kernel
theorem dX7_init_23 : decode cX7_init 23 = .ok (.getstatic 15, 3) := by decide +kernel
theorem dX8_init_5 : decode cX8_init 5 = .ok (.new 7, 3) := by decide +kernel
theorem dX8_init_16 : decode cX8_init 16 = .ok (.new 16, 3) := by decide +kernel
theorem dX8_init_27 : decode cX8_init 27 = .ok (.new 23, 3) := by decide +kernel
theorem dX8_init_38 : decode cX8_init 38 = .ok (.new 30, 3) := by decide +kernel
theorem dX8_init_49 : decode cX8_init 49 = .ok (.new 37, 3) := by decide +kernel
theorem dX8_count_25 : decode cX8_count 25 = .ok (.tableswitch 216 6 18 #[67, 81, 92, 106, 120, 131, 145, 159, 170, 181, 192, 200, 208], 67) := by decide +kernel
theorem dX8_letter_22 : decode cX8_letter 22 = .ok (.tableswitch 148 0 8 #[50, 57, 64, 71, 93, 115, 122, 129, 136], 50) := by decide +kernel
theorem dX8_frame_10 : decode cX8_frame 10 = .ok (.tableswitch 105 0 4 #[34, 47, 63, 75, 90], 34) := by decide +kernel
theorem dX8_carrier_21 : decode cX8_carrier 21 = .ok (.tableswitch 75 0 3 #[31, 38, 53, 68], 31) := by decide +kernel
theorem dX8_stretch_13 : decode cX8_stretch 13 = .ok (.tableswitch 72 0 2 #[27, 42, 57], 27) := by decide +kernel
theorem dX8_greatestValue_1 : decode cX8_greatestValue 1 = .ok (.tableswitch 35 8 10 #[27, 29, 32], 27) := by decide +kernel
theorem dX9_init_8 : decode cX9_init 8 = .ok (.newarray .int, 2) := by decide +kernel
theorem dX9_init_16 : decode cX9_init 16 = .ok (.newarray .int, 2) := by decide +kernel
theorem dX9_init_24 : decode cX9_init 24 = .ok (.newarray .int, 2) := by decide +kernel
theorem dX9_count_16 : decode cX9_count 16 = .ok (.tableswitch 173 6 18 #[68, 76, 85, 90, 95, 100, 109, 118, 127, 136, 145, 163, 168], 68) := by decide +kernel
theorem dX9_letter_20 : decode cX9_letter 20 = .ok (.tableswitch 145 0 8 #[52, 59, 66, 73, 95, 117, 124, 131, 139], 52) := by decide +kernel
theorem dX9_frame_10 : decode cX9_frame 10 = .ok (.tableswitch 75 0 4 #[34, 45, 52, 58, 64], 34) := by decide +kernel
theorem dX9_carrier_10 : decode cX9_carrier 10 = .ok (.tableswitch 65 0 3 #[30, 36, 47, 54], 30) := by decide +kernel
end
section
/-! Functional contracts, and the calls by them. -/
section MG
variable {ε : EE} {J : JT} {pc : Nat} {ls : List (Option V0)} {st : List V0} {G G1 : GG} {Q : Option Int32 → GG → Prop}
def F2 (ε : EE) (J : JT) (As : List V0) (G : GG) (v : Option Int32) (G1 : GG) : Prop := C2 ε J As G (fun v' G' => v' = v ∧ G' = G1)
theorem e2_fi {J' : JT} {n idx nx i kk ci : Nat} {v r : Int32} {As rest : List V0} {fs : List V0} {ty : FieldType} (hC : F2 ε J' (.inr (i, kk) :: As) G (some r) G1) (hst : st = As.reverse ++ .inr (i, kk) :: rest) (h : lk (jt J) pc = (44, n, jn J', v, nx, idx)) (hT : e_fit J J') (hr : jr J' = some ty) (hn : As.length = n) (hrest : Nat.ble rest.length 8 = true) (hv : i < lim kk) (ho : objV i kk (G i kk) = some (ci, fs)) (hci : Nat.ble ci 9 = true) (hcn : nmC ci = (jy J').cls)
    (k : E2 ε J nx ls (.inl r :: rest) G1 Q) : E2 ε J pc ls st G Q :=
  e2_callVi h hT hr hn hst hrest hv ho hci hcn hC (fun r' G' z => by
    obtain ⟨z1, rfl⟩ := z
    cases z1
    exact k)
theorem e2_fv {J' : JT} {n idx nx i kk ci : Nat} {v : Int32} {As rest : List V0} {fs : List V0} (hC : F2 ε J' (.inr (i, kk) :: As) G none G1) (hst : st = As.reverse ++ .inr (i, kk) :: rest) (h : lk (jt J) pc = (44, n, jn J', v, nx, idx)) (hT : e_fit J J') (hr : jr J' = none) (hn : As.length = n) (hrest : Nat.ble rest.length 8 = true) (hv : i < lim kk) (ho : objV i kk (G i kk) = some (ci, fs)) (hci : Nat.ble ci 9 = true) (hcn : nmC ci = (jy J').cls)
    (k : E2 ε J nx ls rest G1 Q) : E2 ε J pc ls st G Q :=
  e2_callVv h hT hr hn hst hrest hv ho hci hcn hC (fun G' z => by
    obtain ⟨-, rfl⟩ := z
    exact k)
theorem e2_fs {J' : JT} {n idx nx : Nat} {v r : Int32} {As rest : List V0} {ty : FieldType} (hC : F2 ε J' As G (some r) G1) (hst : st = As.reverse ++ rest) (h : lk (jt J) pc = (46, n, jn J', v, nx, idx)) (hT : e_fit J J') (hr : jr J' = some ty) (hn : As.length = n) (hrest : Nat.ble rest.length 8 = true)
    (k : E2 ε J nx ls (.inl r :: rest) G1 Q) : E2 ε J pc ls st G Q :=
  e2_callSi h hT hr hn hst hrest hC (fun r' G' z => by
    obtain ⟨z1, rfl⟩ := z
    cases z1
    exact k)
theorem e2_stepS {o a b nx tg : Nat} {v : Int32} {ls' : List (Option V0)} {st' : List V0} (stop : Nat) (_ : Nat.beq pc stop = false) (h : lk (jt J) pc = (o, a, b, v, nx, tg)) (hs : stp o a v ls st = some (ls', st')) (k : E2 ε J nx ls' st' G Q) : E2 ε J pc ls st G Q := e_step h hs k
theorem e2_getS {kf t nx idx i kk : Nat} {v : Int32} {fs : List V0} {w : V0} (stop : Nat) (_ : Nat.beq pc stop = false) (h : lk (jt J) pc = (30, kf, t, v, nx, idx)) (hv : i < lim kk) (ho : objV i kk (G i kk) = some (t, fs)) (hw : fs[kf]? = some w) (k : E2 ε J nx ls (w :: st) G Q) : E2 ε J pc ls (.inr (i, kk) :: st) G Q := e2_get h hv ho hw k
/-- a truth as the machine's number -/
def bI (b : Bool) : Int32 := if b then nI 1 else nI 0
theorem bI_t : bI true = nI 1 := rfl
theorem bI_f : bI false = nI 0 := rfl
theorem bI_0 (b : Bool) : bI b = 0 ↔ b = false := by cases b <;> decide
theorem nI_add' (a b : Nat) : nI a + nI b = nI (a + b) := nI_add a b
/-- how many below n -/
def cntB (p : Nat → Bool) : Nat → Nat
  | 0 => 0
  | n + 1 => cntB p n + (if p n then 1 else 0)
theorem cntB_le (p : Nat → Bool) : ∀ n, cntB p n ≤ n
  | 0 => Nat.le_refl _
  | n + 1 => by
    have := cntB_le p n
    unfold cntB
    split <;> omega
def isInB (v a b : Int32) : Bool := decide (a ≤ v) && decide (v ≤ b)
theorem c_isIn (v a b : Int32) : F2 ε jX8_isIn [.inl v, .inl a, .inl b] G (some (bI (isInB v a b))) G := by
  refine C2.of (ls := [some (.inl v), some (.inl a), some (.inl b)]) okX8_isIn rfl rfl ?_
  repeat (first | refine e2_step rfl rfl ?_ | refine e2_get rfl (by first | exact hi | decide) rfl rfl ?_)
  refine e2_if rfl rfl (fun c => ?_) (fun c => ?_)
  · repeat (first | refine e2_step rfl rfl ?_ | refine e2_get rfl (by first | exact hi | decide) rfl rfl ?_)
    refine e2_zret rfl rfl rfl ⟨?_, rfl⟩
    have : isInB v a b = false := by simp [isInB, Int32.not_le.2 c]
    rw [this]; rfl
  · repeat (first | refine e2_step rfl rfl ?_ | refine e2_get rfl (by first | exact hi | decide) rfl rfl ?_)
    refine e2_if rfl rfl (fun c2 => ?_) (fun c2 => ?_)
    · repeat (first | refine e2_step rfl rfl ?_ | refine e2_get rfl (by first | exact hi | decide) rfl rfl ?_)
      refine e2_zret rfl rfl rfl ⟨?_, rfl⟩
      have : isInB v a b = false := by simp [isInB, Int32.not_le.2 c2]
      rw [this]; rfl
    · repeat (first | refine e2_step rfl rfl ?_ | refine e2_get rfl (by first | exact hi | decide) rfl rfl ?_)
      refine e2_zret rfl rfl rfl ⟨?_, rfl⟩
      have : isInB v a b = true := by simp [isInB, Int32.not_lt.1 c, Int32.not_lt.1 c2]
      rw [this]; rfl
theorem isIn_T {k b : Nat} (h : k ≤ b) (hb : b < 2 ^ 31) : isInB (nI k) (nI 0) (nI b) = true := by
  unfold isInB
  rw [decide_eq_true ((nI_leI (by omega) (by omega)).2 (Nat.zero_le k)), decide_eq_true ((nI_leI (by omega) hb).2 h)]
  rfl
theorem isIn_low {v b : Int32} (h : v < nI 0) : isInB v (nI 0) b = false := by
  unfold isInB
  rw [decide_eq_false (Int32.not_le.2 h)]
  rfl
theorem isIn_hi {v : Int32} {k : Nat} (hk : k + 1 < 2 ^ 31) (h : nI (k + 1) ≤ v) : isInB v (nI 0) (nI k) = false := by
  unfold isInB
  rw [decide_eq_false (p := v ≤ nI k) (fun z => by
    have h1 := Int32.le_iff_toInt_le.1 h
    have h2 := Int32.le_iff_toInt_le.1 z
    rw [nI_toInt (by omega)] at h1 h2
    omega), Bool.and_false]
theorem isIn_mid {v : Int32} {k : Nat} (hk : k + 1 < 2 ^ 31) (h : ¬ v < nI 0) (h' : ¬ nI (k + 1) ≤ v) : isInB v (nI 0) (nI k) = true := by
  unfold isInB
  rw [decide_eq_true (Int32.not_lt.1 h), decide_eq_true (p := v ≤ nI k) (by
    refine Int32.le_iff_toInt_le.2 ?_
    have h2 := Int32.lt_iff_toInt_lt.1 (Int32.not_le.1 h')
    rw [nI_toInt (by omega)] at h2 ⊢
    omega)]
  rfl
theorem c_isWalk (v : Int32) : F2 ε jX8_isWalk [.inl v] G (some (bI (isInB v (nI 0) (nI 7)))) G := by
  refine C2.of (ls := [some (.inl v)]) okX8_isWalk rfl rfl ?_
  repeat (first | refine e2_step rfl rfl ?_ | refine e2_get rfl (by first | exact hi | decide) rfl rfl ?_)
  refine e2_if rfl rfl (fun c => ?_) (fun c => ?_)
  · rw [isIn_low (show v < nI 0 from c)]
    repeat (first | refine e2_step rfl rfl ?_ | refine e2_get rfl (by first | exact hi | decide) rfl rfl ?_)
    exact e2_zret rfl rfl rfl ⟨rfl, rfl⟩
  · repeat (first | refine e2_step rfl rfl ?_ | refine e2_get rfl (by first | exact hi | decide) rfl rfl ?_)
    refine e2_if rfl rfl (fun c2 => ?_) (fun c2 => ?_)
    · rw [isIn_hi (k := 7) (by decide) (show nI 8 ≤ v from c2)]
      repeat (first | refine e2_step rfl rfl ?_ | refine e2_get rfl (by first | exact hi | decide) rfl rfl ?_)
      exact e2_zret rfl rfl rfl ⟨rfl, rfl⟩
    · rw [isIn_mid (k := 7) (by decide) (show ¬ v < nI 0 from c) (show ¬ nI 8 ≤ v from c2)]
      repeat (first | refine e2_step rfl rfl ?_ | refine e2_get rfl (by first | exact hi | decide) rfl rfl ?_)
      exact e2_zret rfl rfl rfl ⟨rfl, rfl⟩
theorem c_isWalkT {w : Nat} (hw : w < 8) : F2 ε jX8_isWalk [.inl (nI w)] G (some (nI 1)) G := by
  have h := c_isWalk (ε := ε) (G := G) (nI w)
  rw [isIn_T (by omega) (by decide)] at h
  exact h
theorem c_isCarrier (v : Int32) : F2 ε jX8_isCarrier [.inl v] G (some (bI (isInB v (nI 0) (nI 5)))) G := by
  refine C2.of (ls := [some (.inl v)]) okX8_isCarrier rfl rfl ?_
  repeat (first | refine e2_step rfl rfl ?_ | refine e2_get rfl (by first | exact hi | decide) rfl rfl ?_)
  refine e2_if rfl rfl (fun c => ?_) (fun c => ?_)
  · rw [isIn_low (show v < nI 0 from c)]
    repeat (first | refine e2_step rfl rfl ?_ | refine e2_get rfl (by first | exact hi | decide) rfl rfl ?_)
    exact e2_zret rfl rfl rfl ⟨rfl, rfl⟩
  · repeat (first | refine e2_step rfl rfl ?_ | refine e2_get rfl (by first | exact hi | decide) rfl rfl ?_)
    refine e2_if rfl rfl (fun c2 => ?_) (fun c2 => ?_)
    · rw [isIn_hi (k := 5) (by decide) (show nI 6 ≤ v from c2)]
      repeat (first | refine e2_step rfl rfl ?_ | refine e2_get rfl (by first | exact hi | decide) rfl rfl ?_)
      exact e2_zret rfl rfl rfl ⟨rfl, rfl⟩
    · rw [isIn_mid (k := 5) (by decide) (show ¬ v < nI 0 from c) (show ¬ nI 6 ≤ v from c2)]
      repeat (first | refine e2_step rfl rfl ?_ | refine e2_get rfl (by first | exact hi | decide) rfl rfl ?_)
      exact e2_zret rfl rfl rfl ⟨rfl, rfl⟩
theorem c_isCarrierT {w : Nat} (hw : w < 6) : F2 ε jX8_isCarrier [.inl (nI w)] G (some (nI 1)) G := by
  have h := c_isCarrier (ε := ε) (G := G) (nI w)
  rw [isIn_T (by omega) (by decide)] at h
  exact h
theorem c_isSlot (v : Int32) : F2 ε jX8_isSlot [.inl v] G (some (bI (isInB v (nI 0) (nI 1)))) G := by
  refine C2.of (ls := [some (.inl v)]) okX8_isSlot rfl rfl ?_
  repeat (first | refine e2_step rfl rfl ?_ | refine e2_get rfl (by first | exact hi | decide) rfl rfl ?_)
  refine e2_if rfl rfl (fun c => ?_) (fun c => ?_)
  · rw [isIn_low (show v < nI 0 from c)]
    repeat (first | refine e2_step rfl rfl ?_ | refine e2_get rfl (by first | exact hi | decide) rfl rfl ?_)
    exact e2_zret rfl rfl rfl ⟨rfl, rfl⟩
  · repeat (first | refine e2_step rfl rfl ?_ | refine e2_get rfl (by first | exact hi | decide) rfl rfl ?_)
    refine e2_if rfl rfl (fun c2 => ?_) (fun c2 => ?_)
    · rw [isIn_hi (k := 1) (by decide) (show nI 2 ≤ v from c2)]
      repeat (first | refine e2_step rfl rfl ?_ | refine e2_get rfl (by first | exact hi | decide) rfl rfl ?_)
      exact e2_zret rfl rfl rfl ⟨rfl, rfl⟩
    · rw [isIn_mid (k := 1) (by decide) (show ¬ v < nI 0 from c) (show ¬ nI 2 ≤ v from c2)]
      repeat (first | refine e2_step rfl rfl ?_ | refine e2_get rfl (by first | exact hi | decide) rfl rfl ?_)
      exact e2_zret rfl rfl rfl ⟨rfl, rfl⟩
theorem c_isSlotT {w : Nat} (hw : w < 2) : F2 ε jX8_isSlot [.inl (nI w)] G (some (nI 1)) G := by
  have h := c_isSlot (ε := ε) (G := G) (nI w)
  rw [isIn_T (by omega) (by decide)] at h
  exact h
theorem l_countIn {i N : Nat} (hi : i < 19) (hN : N ≤ 120) (hc : G i 3 8 = nI N) (p : Int32) : ∀ (k l : Nat) , l + k = N → E2 ε jX2_countIn 4 [some (.inr (i, 3)), some (.inl p), some (.inl (nI (cntB (fun l => decide (G i 7 l = p)) l))), some (.inl (nI l))] [] G (fun v G' => v = some (nI (cntB (fun l => decide (G i 7 l = p)) N)) ∧ G' = G)
  | 0, l, h => by
    repeat (first | refine e2_step rfl rfl ?_ | refine e2_get rfl (by first | exact hi | decide) rfl rfl ?_)
    refine e2_if rfl rfl (fun c => ?_) (fun c => absurd ?_ c)
    · repeat (first | refine e2_step rfl rfl ?_ | refine e2_get rfl (by first | exact hi | decide) rfl rfl ?_)
      refine e2_iret rfl rfl ⟨?_, rfl⟩
      rw [show l = N by omega]
    · rw [hc]; exact nI_le (by omega) (by omega)
  | k + 1, l, h => by
    repeat (first | refine e2_step rfl rfl ?_ | refine e2_get rfl (by first | exact hi | decide) rfl rfl ?_)
    refine e2_if rfl rfl (fun c => absurd ?_ (nI_ge (a := l) (b := N) (by omega) (by omega))) (fun c => ?_)
    · rw [← hc]; exact c
    · repeat (first | refine e2_step rfl rfl ?_ | refine e2_get rfl (by first | exact hi | decide) rfl rfl ?_)
      refine e2_iald l rfl rfl hi rfl (by omega) ?_
      repeat (first | refine e2_step rfl rfl ?_ | refine e2_get rfl (by first | exact hi | decide) rfl rfl ?_)
      refine e2_if rfl rfl (fun c => ?_) (fun c => ?_)
      · repeat (first | refine e2_stepS 4 rfl rfl rfl ?_ | refine e2_getS 4 rfl rfl (by first | exact hi | decide) rfl rfl ?_)
        have := l_countIn hi hN hc p k (l + 1) (by omega)
        simp only [cntB, c, decide_false, Bool.false_eq_true, if_false, Nat.add_zero] at this
        rw [nI_add']
        exact this
      · repeat (first | refine e2_stepS 4 rfl rfl rfl ?_ | refine e2_getS 4 rfl rfl (by first | exact hi | decide) rfl rfl ?_)
        have := l_countIn hi hN hc p k (l + 1) (by omega)
        simp only [cntB, Classical.not_not.1 c, decide_true, if_true] at this
        rw [nI_add', nI_add']
        exact this
theorem c_countIn {i N : Nat} (hi : i < 19) (hN : N ≤ 120) (hc : G i 3 8 = nI N) (p : Int32) : F2 ε jX2_countIn [.inr (i, 3), .inl p] G (some (nI (cntB (fun l => decide (G i 7 l = p)) N))) G := by
  refine C2.of (ls := [some (.inr (i, 3)), some (.inl p), none, none]) okX2_countIn rfl rfl ?_
  repeat (first | refine e2_stepS 4 rfl rfl rfl ?_ | refine e2_getS 4 rfl rfl (by first | exact hi | decide) rfl rfl ?_)
  exact l_countIn hi hN hc p N 0 (by omega)
end MG
end
section
/-! The reference's private methods, as functions of its row r, text t, order o and numbers x. -/
section MH
variable {ε : EE} {J : JT} {pc : Nat} {ls : List (Option V0)} {st : List V0} {G : GG} {r t o x : Nat → Int32} {Q : Option Int32 → GG → Prop}
def mG (G : GG) (r t o x : Nat → Int32) : GG := setA (setA (setA (setA G 0 51 r) 0 52 t) 0 53 o) 0 50 x
theorem setA_eq (G : GG) {i kk : Nat} {g g' : Nat → Int32} (h : g = g') : setA G i kk g = setA G i kk g' := by rw [h]
theorem setA_twice (G : GG) (i kk : Nat) (g g' : Nat → Int32) : setA (setA G i kk g) i kk g' = setA G i kk g' := by
  funext a b
  simp only [setA]
  split <;> rfl
theorem setA_comm (G : GG) (i kk i2 kk2 : Nat) (g g' : Nat → Int32) (h : kk ≠ kk2) : setA (setA G i kk g) i2 kk2 g' = setA (setA G i2 kk2 g') i kk g := by
  funext a b
  simp only [setA]
  by_cases h1 : a = i2 ∧ b = kk2
  · rw [if_pos h1, if_neg (fun z => h (by omega)), if_pos h1]
  · rw [if_neg h1]
    by_cases h2 : a = i ∧ b = kk
    · rw [if_pos h2, if_pos h2]
    · rw [if_neg h2, if_neg h2, if_neg h1]
theorem mG_self (G : GG) : mG G (G 0 51) (G 0 52) (G 0 53) (G 0 50) = G := by
  funext a b
  simp only [mG, setA]
  repeat' split
  all_goals (try rename_i h; try obtain ⟨rfl, rfl⟩ := h)
  all_goals rfl
theorem mG_w51 (j : Nat) (v : Int32) : wr (mG G r t o x) 0 51 j v = mG G (upd r j v) t o x := by
  show setA _ 0 51 (upd r j v) = _
  unfold mG
  rw [setA_comm _ 0 50 0 51 _ _ (by decide), setA_comm _ 0 53 0 51 _ _ (by decide), setA_comm _ 0 52 0 51 _ _ (by decide), setA_twice]
theorem mG_w52 (j : Nat) (v : Int32) : wr (mG G r t o x) 0 52 j v = mG G r (upd t j v) o x := by
  show setA _ 0 52 (upd t j v) = _
  unfold mG
  rw [setA_comm _ 0 50 0 52 _ _ (by decide), setA_comm _ 0 53 0 52 _ _ (by decide), setA_twice]
theorem mG_w53 (j : Nat) (v : Int32) : wr (mG G r t o x) 0 53 j v = mG G r t (upd o j v) x := by
  show setA _ 0 53 (upd o j v) = _
  unfold mG
  rw [setA_comm _ 0 50 0 53 _ _ (by decide), setA_twice]
theorem mG_w50 (j : Nat) (v : Int32) : wr (mG G r t o x) 0 50 j v = mG G r t o (upd x j v) := by
  show setA _ 0 50 (upd x j v) = _
  unfold mG
  rw [setA_twice]
theorem e2m_get {kf nx idx : Nat} {v : Int32} {w : V0} (h : lk (jt J) pc = (30, kf, 9, v, nx, idx)) (hw : ([.inr (0, 51), .inl (x 1), .inr (0, 52), .inl (x 3), .inl (x 4), .inl (x 5), .inr (0, 53)] : List V0)[kf]? = some w) (k : E2 ε J nx ls (w :: st) (mG G r t o x) Q) : E2 ε J pc ls (.inr (0, 50) :: st) (mG G r t o x) Q := e2_get h (by decide) rfl hw k
theorem e2m_getS {kf nx idx : Nat} {v : Int32} {w : V0} (stop : Nat) (_ : Nat.beq pc stop = false) (h : lk (jt J) pc = (30, kf, 9, v, nx, idx)) (hw : ([.inr (0, 51), .inl (x 1), .inr (0, 52), .inl (x 3), .inl (x 4), .inl (x 5), .inr (0, 53)] : List V0)[kf]? = some w) (k : E2 ε J nx ls (w :: st) (mG G r t o x) Q) : E2 ε J pc ls (.inr (0, 50) :: st) (mG G r t o x) Q := e2_get h (by decide) rfl hw k
theorem e2m_ld {a b nx idx : Nat} {v y : Int32} (j : Nat) (h : lk (jt J) pc = (32, a, b, v, nx, idx)) (hx : y = nI j) (hj : j < 21497) (k : E2 ε J nx ls (.inl (r j) :: st) (mG G r t o x) Q) : E2 ε J pc ls (.inl y :: .inr (0, 51) :: st) (mG G r t o x) Q := e2_iald j h hx (by decide) rfl hj k
theorem e2m_ldS {a b nx idx : Nat} {v y : Int32} (stop : Nat) (_ : Nat.beq pc stop = false) (j : Nat) (h : lk (jt J) pc = (32, a, b, v, nx, idx)) (hx : y = nI j) (hj : j < 21497) (k : E2 ε J nx ls (.inl (r j) :: st) (mG G r t o x) Q) : E2 ε J pc ls (.inl y :: .inr (0, 51) :: st) (mG G r t o x) Q := e2_iald j h hx (by decide) rfl hj k
theorem e2m_ldo {a b nx idx : Nat} {v y : Int32} (j : Nat) (h : lk (jt J) pc = (32, a, b, v, nx, idx)) (hx : y = nI j) (hj : j < 120) (k : E2 ε J nx ls (.inl (o j) :: st) (mG G r t o x) Q) : E2 ε J pc ls (.inl y :: .inr (0, 53) :: st) (mG G r t o x) Q := e2_iald j h hx (by decide) rfl hj k
theorem e2m_ldt {a b nx idx : Nat} {v y : Int32} (j : Nat) (h : lk (jt J) pc = (32, a, b, v, nx, idx)) (hx : y = nI j) (hj : j < 80) (k : E2 ε J nx ls (.inl (t j) :: st) (mG G r t o x) Q) : E2 ε J pc ls (.inl y :: .inr (0, 52) :: st) (mG G r t o x) Q := e2_iald j h hx (by decide) rfl hj k
theorem e2m_st {a b nx idx : Nat} {v y z : Int32} (j : Nat) (h : lk (jt J) pc = (36, a, b, v, nx, idx)) (hx : y = nI j) (hj : j < 21497) (k : E2 ε J nx ls st (mG G (upd r j z) t o x) Q) : E2 ε J pc ls (.inl z :: .inl y :: .inr (0, 51) :: st) (mG G r t o x) Q := e2_iast j h hx (by decide) rfl hj (by rw [mG_w51]; exact k)
theorem e2m_sto {a b nx idx : Nat} {v y z : Int32} (j : Nat) (h : lk (jt J) pc = (36, a, b, v, nx, idx)) (hx : y = nI j) (hj : j < 120) (k : E2 ε J nx ls st (mG G r t (upd o j z) x) Q) : E2 ε J pc ls (.inl z :: .inl y :: .inr (0, 53) :: st) (mG G r t o x) Q := e2_iast j h hx (by decide) rfl hj (by rw [mG_w53]; exact k)
theorem e2m_stt {a b nx idx : Nat} {v y z : Int32} (j : Nat) (h : lk (jt J) pc = (36, a, b, v, nx, idx)) (hx : y = nI j) (hj : j < 80) (k : E2 ε J nx ls st (mG G r (upd t j z) o x) Q) : E2 ε J pc ls (.inl z :: .inl y :: .inr (0, 52) :: st) (mG G r t o x) Q := e2_iast j h hx (by decide) rfl hj (by rw [mG_w52]; exact k)
theorem e2m_put {kf nx idx : Nat} {v y : Int32} (h : lk (jt J) pc = (31, kf, 9, v, nx, idx)) (hk : kf = 1 ∨ kf = 3 ∨ kf = 4 ∨ kf = 5) (k : E2 ε J nx ls st (mG G r t o (upd x kf y)) Q) : E2 ε J pc ls (.inl y :: .inr (0, 50) :: st) (mG G r t o x) Q := by
  rcases hk with rfl | rfl | rfl | rfl <;> exact e2_put h (by decide) rfl rfl rfl rfl rfl (by rw [mG_w50]; exact k)
/-- a method of the reference -/
def FM (ε : EE) (J : JT) (As : List V0) (G : GG) (r t o x : Nat → Int32) (v : Option Int32) (r' t' o' x' : Nat → Int32) : Prop := F2 ε J (.inr (0, 50) :: As) (mG G r t o x) v (mG G r' t' o' x')
theorem m_in (v a b : Int32) : F2 ε jX9_in [.inl v, .inl a, .inl b] G (some (bI (isInB v a b))) G := by
  refine C2.of (ls := [some (.inl v), some (.inl a), some (.inl b)]) okX9_in rfl rfl ?_
  repeat (first | refine e2_step rfl rfl ?_ | refine e2_get rfl (by first | exact hi | decide) rfl rfl ?_)
  refine e2_if rfl rfl (fun c => ?_) (fun c => ?_)
  · repeat (first | refine e2_step rfl rfl ?_ | refine e2_get rfl (by first | exact hi | decide) rfl rfl ?_)
    refine e2_zret rfl rfl rfl ⟨?_, rfl⟩
    have : isInB v a b = false := by simp [isInB, Int32.not_le.2 c]
    rw [this]; rfl
  · repeat (first | refine e2_step rfl rfl ?_ | refine e2_get rfl (by first | exact hi | decide) rfl rfl ?_)
    refine e2_if rfl rfl (fun c2 => ?_) (fun c2 => ?_)
    · repeat (first | refine e2_step rfl rfl ?_ | refine e2_get rfl (by first | exact hi | decide) rfl rfl ?_)
      refine e2_zret rfl rfl rfl ⟨?_, rfl⟩
      have : isInB v a b = false := by simp [isInB, Int32.not_le.2 c2]
      rw [this]; rfl
    · repeat (first | refine e2_step rfl rfl ?_ | refine e2_get rfl (by first | exact hi | decide) rfl rfl ?_)
      refine e2_zret rfl rfl rfl ⟨?_, rfl⟩
      have : isInB v a b = true := by simp [isInB, Int32.not_lt.1 c, Int32.not_lt.1 c2]
      rw [this]; rfl
theorem nb_bI (b : Bool) : vp_nar .boolean (bI b) = bI b := by cases b <;> rfl
theorem m_isWalk (v : Int32) : F2 ε jX9_isWalk [.inl v] G (some (bI (isInB v (nI 0) (nI 7)))) G := by
  refine C2.of (ls := [some (.inl v)]) okX9_isWalk rfl rfl ?_
  repeat (first | refine e2_step rfl rfl ?_ | refine e2_get rfl (by first | exact hi | decide) rfl rfl ?_)
  refine e2_fs (m_in v (nI 0) (nI 7)) rfl rfl ⟨rfl, rfl, rfl⟩ rfl rfl rfl ?_
  exact e2_zret rfl rfl (nb_bI _) ⟨rfl, rfl⟩
theorem m_isCarrier (v : Int32) : F2 ε jX9_isCarrier [.inl v] G (some (bI (isInB v (nI 0) (nI 5)))) G := by
  refine C2.of (ls := [some (.inl v)]) okX9_isCarrier rfl rfl ?_
  repeat (first | refine e2_step rfl rfl ?_ | refine e2_get rfl (by first | exact hi | decide) rfl rfl ?_)
  refine e2_fs (m_in v (nI 0) (nI 5)) rfl rfl ⟨rfl, rfl, rfl⟩ rfl rfl rfl ?_
  exact e2_zret rfl rfl (nb_bI _) ⟨rfl, rfl⟩
def ofr (r : Nat → Int32) (l k : Nat) : Int32 := r (101 + 7 * l + k)
def seto (r : Nat → Int32) (l k : Nat) (v : Int32) : Nat → Int32 := upd r (101 + 7 * l + k) v
def putsr (r : Nat → Int32) (l : Nat) (p w : Int32) : Nat → Int32 := seto (seto r l 3 p) l 4 w
theorem m_of {l k : Nat} (hl : l < 120) (hk : k < 7) : FM ε jX9_of [.inl (nI l), .inl (nI k)] G r t o x (some (ofr r l k)) r t o x := by
  refine C2.of (ls := [some (.inr (0, 50)), some (.inl (nI l)), some (.inl (nI k))]) okX9_of rfl rfl ?_
  repeat (first | refine e2_step rfl rfl ?_ | refine e2m_get rfl rfl ?_ | refine e2m_ld _ rfl rfl (by omega) ?_)
  refine e2m_ld (101 + 7 * l + k) rfl (by rw [pk_mul, nI_add', nI_add']) (by omega) ?_
  exact e2_iret rfl rfl ⟨rfl, rfl⟩
theorem m_set {l k : Nat} (hl : l < 120) (hk : k < 7) (v : Int32) : FM ε jX9_set [.inl (nI l), .inl (nI k), .inl v] G r t o x none (seto r l k v) t o x := by
  refine C2.of (ls := [some (.inr (0, 50)), some (.inl (nI l)), some (.inl (nI k)), some (.inl v)]) okX9_set rfl rfl ?_
  repeat (first | refine e2_step rfl rfl ?_ | refine e2m_get rfl rfl ?_ | refine e2m_ld _ rfl rfl (by omega) ?_)
  refine e2m_st (101 + 7 * l + k) rfl (by rw [pk_mul, nI_add', nI_add']) (by omega) ?_
  exact e2_vret rfl rfl ⟨rfl, rfl⟩
theorem m_puts {l : Nat} (hl : l < 120) (p w : Int32) : FM ε jX9_puts [.inl (nI l), .inl p, .inl w] G r t o x none (putsr r l p w) t o x := by
  refine C2.of (ls := [some (.inr (0, 50)), some (.inl (nI l)), some (.inl p), some (.inl w)]) okX9_puts rfl rfl ?_
  repeat (first | refine e2_step rfl rfl ?_ | refine e2m_get rfl rfl ?_ | refine e2m_ld _ rfl rfl (by omega) ?_)
  refine e2_fv (m_set hl (k := 3) (by decide) p) rfl rfl ⟨rfl, rfl, rfl⟩ rfl rfl rfl (by first | exact hi | decide) rfl rfl rfl ?_
  repeat (first | refine e2_step rfl rfl ?_ | refine e2m_get rfl rfl ?_ | refine e2m_ld _ rfl rfl (by omega) ?_)
  refine e2_fv (m_set hl (k := 4) (by decide) w) rfl rfl ⟨rfl, rfl, rfl⟩ rfl rfl rfl (by first | exact hi | decide) rfl rfl rfl ?_
  exact e2_vret rfl rfl ⟨rfl, rfl⟩
theorem m_walkOf {l c : Nat} (hl : l < 120) (hc : c < 100) (h : ofr r l 0 = nI c) : FM ε jX9_walkOf [.inl (nI l)] G r t o x (some (r c)) r t o x := by
  refine C2.of (ls := [some (.inr (0, 50)), some (.inl (nI l))]) okX9_walkOf rfl rfl ?_
  repeat (first | refine e2_step rfl rfl ?_ | refine e2m_get rfl rfl ?_ | refine e2m_ld _ rfl rfl (by omega) ?_)
  refine e2_fi (m_of hl (k := 0) (by decide)) rfl rfl ⟨rfl, rfl, rfl⟩ rfl rfl rfl (by first | exact hi | decide) rfl rfl rfl ?_
  refine e2m_ld c rfl h (by omega) ?_
  exact e2_iret rfl rfl ⟨rfl, rfl⟩
def atr (r : Nat → Int32) (p w : Int32) (l : Nat) : Bool := decide (ofr r l 3 = p) && decide (ofr r l 4 = w)
theorem m_isAt {l : Nat} (hl : l < 120) (p w : Int32) : FM ε jX9_isAt [.inl (nI l), .inl p, .inl w] G r t o x (some (bI (atr r p w l))) r t o x := by
  refine C2.of (ls := [some (.inr (0, 50)), some (.inl (nI l)), some (.inl p), some (.inl w)]) okX9_isAt rfl rfl ?_
  repeat (first | refine e2_step rfl rfl ?_ | refine e2m_get rfl rfl ?_ | refine e2m_ld _ rfl rfl (by omega) ?_)
  refine e2_fi (m_of hl (k := 3) (by decide)) rfl rfl ⟨rfl, rfl, rfl⟩ rfl rfl rfl (by first | exact hi | decide) rfl rfl rfl ?_
  repeat (first | refine e2_step rfl rfl ?_ | refine e2m_get rfl rfl ?_ | refine e2m_ld _ rfl rfl (by omega) ?_)
  refine e2_if rfl rfl (fun c => ?_) (fun c => ?_)
  · repeat (first | refine e2_step rfl rfl ?_ | refine e2m_get rfl rfl ?_ | refine e2m_ld _ rfl rfl (by omega) ?_)
    refine e2_zret rfl rfl rfl ⟨?_, rfl⟩
    simp [atr, c]; rfl
  · repeat (first | refine e2_step rfl rfl ?_ | refine e2m_get rfl rfl ?_ | refine e2m_ld _ rfl rfl (by omega) ?_)
    refine e2_fi (m_of hl (k := 4) (by decide)) rfl rfl ⟨rfl, rfl, rfl⟩ rfl rfl rfl (by first | exact hi | decide) rfl rfl rfl ?_
    repeat (first | refine e2_step rfl rfl ?_ | refine e2m_get rfl rfl ?_ | refine e2m_ld _ rfl rfl (by omega) ?_)
    refine e2_if rfl rfl (fun c2 => ?_) (fun c2 => ?_)
    · repeat (first | refine e2_step rfl rfl ?_ | refine e2m_get rfl rfl ?_ | refine e2m_ld _ rfl rfl (by omega) ?_)
      refine e2_zret rfl rfl rfl ⟨?_, rfl⟩
      simp [atr, c2]; rfl
    · repeat (first | refine e2_step rfl rfl ?_ | refine e2m_get rfl rfl ?_ | refine e2m_ld _ rfl rfl (by omega) ?_)
      refine e2_zret rfl rfl rfl ⟨?_, rfl⟩
      simp [atr, Classical.not_not.1 c, Classical.not_not.1 c2]; rfl
end MH
end
section
/-! The reference's counts and small loops. -/
section MI
variable {ε : EE} {J : JT} {pc : Nat} {ls : List (Option V0)} {st : List V0} {G : GG} {r t o x : Nat → Int32} {Q : Option Int32 → GG → Prop}
/-- a counted loop whose state is a function of the count -/
theorem e2_for {st : List V0} (N : Nat) (L : Nat → List (Option V0)) (S : Nat → GG) (hs : ∀ i, i < N → E2 ε J pc (L (i + 1)) st (S (i + 1)) Q → E2 ε J pc (L i) st (S i) Q) (he : ∀ M, M = N → E2 ε J pc (L M) st (S M) Q) : E2 ε J pc (L 0) st (S 0) Q := by
  have h : ∀ k i, i + k = N → E2 ε J pc (L i) st (S i) Q := by
    intro k
    induction k with
    | zero =>
      intro i hi
      exact he i (by omega)
    | succ k ih =>
      intro i hi
      exact hs i (by omega) (ih (i + 1) (by omega))
  exact h N 0 (by omega)
/-- fewer known locals -/
def e_sub : List (Option V0) → List (Option V0) → Prop
  | [], [] => True
  | none :: a, _ :: b => e_sub a b
  | some v :: a, some w :: b => v = w ∧ e_sub a b
  | _, _ => False
theorem e_sub_at : ∀ (a b : List (Option V0)), e_sub a b → ∀ (k : Nat) (v : V0), a[k]? = some (some v) → b[k]? = some (some v)
  | [], [], _, k, v, h => by simp at h
  | none :: a, w :: b, hs, k, v, h => by
    cases k with
    | zero => simp at h
    | succ k => simpa using e_sub_at a b hs k v (by simpa using h)
  | some u :: a, some w :: b, hs, k, v, h => by
    cases k with
    | zero =>
      simp at h ⊢
      exact hs.1 ▸ h
    | succ k => simpa using e_sub_at a b hs.2 k v (by simpa using h)
theorem e2_drop {ls' : List (Option V0)} (h : e_sub ls' ls) (k : E2 ε J pc ls' st G Q) : E2 ε J pc ls st G Q := by
  intro hT p e R s m args below meth c H locs lsA C hP hD hS hl
  refine k hT p e R s m args below meth c H locs lsA C hP hD hS ⟨hl.1, hl.2.1, fun q hq => ?_⟩
  obtain ⟨j, v, h1, h2, h3⟩ := (e_ll_mem ε ls' 0 q).1 hq
  exact hl.2.2 q ((e_ll_mem ε ls 0 q).2 ⟨j, v, h1, e_sub_at _ _ h j v h2, h3⟩)
theorem e2_dropK {ls' : List (Option V0)} (k : E2 ε J pc ls' st G Q) (h : e_sub ls' ls) : E2 ε J pc ls st G Q := e2_drop h k
def sumI (f : Nat → Int32) : Nat → Int32
  | 0 => nI 0
  | n + 1 => sumI f n + f n
def lastB (p : Nat → Bool) : Nat → Int32
  | 0 => -9
  | n + 1 => if p n then nI n else lastB p n
def bestF (f : Nat → Int32) : Nat → Int32 × Int32
  | 0 => (-9, nI 0)
  | n + 1 => if (bestF f n).2 < f n then (nI n, f n) else bestF f n
def firstFrom (p : Nat → Bool) : Nat → Nat → Int32
  | 0, _ => -9
  | k + 1, w => if p w then nI w else firstFrom p k (w + 1)
def cpyr (r : Nat → Int32) (a b n : Nat) : Nat → Int32 := fun j => if b ≤ j ∧ j < b + n then r (a + (j - b)) else r j
def rngr (r : Nat → Int32) (a b : Nat) (w : Int32) : Nat → Int32 := fun j => if a ≤ j ∧ j < b then w else r j
def freer (r : Nat → Int32) (N w : Nat) : Int32 := if r (941 + w) - nI (cntB (atr r (nI 1) (nI w)) N) ≤ 0 then nI 0 else r (941 + w) - nI (cntB (atr r (nI 1) (nI w)) N)
def secB (r : Nat → Int32) (w : Nat) (l : Nat) : Bool := atr r (nI 1) (nI w) l && decide (ofr r l 1 = 0)
def walkByr (r : Nat → Int32) (c : Int32) : Int32 := firstFrom (fun w => decide (r (955 + w) = c)) 8 0
theorem m_countAt {N : Nat} (hN : r 100 = nI N) (hN2 : N ≤ 120) (p w : Int32) : FM ε jX9_countAt [.inl p, .inl w] G r t o x (some (nI (cntB (atr r p w) N))) r t o x := by
  refine C2.of (ls := [some (.inr (0, 50)), some (.inl p), some (.inl w), none, none]) okX9_countAt rfl rfl ?_
  repeat (first | refine e2_stepS 5 rfl rfl rfl ?_ | refine e2m_getS 5 rfl rfl rfl ?_ | refine e2m_ldS 5 rfl _ rfl rfl (by omega) ?_)
  refine e2_for N (fun l => [some (.inr (0, 50)), some (.inl p), some (.inl w), some (.inl (nI (cntB (atr r p w) l))), some (.inl (nI l))]) (fun _ => mG G r t o x) (fun l hl K => ?_) (fun M hM => ?_)
  · repeat (first | refine e2_step rfl rfl ?_ | refine e2m_get rfl rfl ?_ | refine e2m_ld _ rfl rfl (by omega) ?_)
    refine e2_if rfl rfl (fun c => absurd (hN ▸ c) (nI_ge hl (by omega))) (fun _ => ?_)
    repeat (first | refine e2_step rfl rfl ?_ | refine e2m_get rfl rfl ?_ | refine e2m_ld _ rfl rfl (by omega) ?_)
    refine e2_fi (m_isAt (l := l) (by omega) p w) rfl rfl ⟨rfl, rfl, rfl⟩ rfl rfl rfl (by first | exact hi | decide) rfl rfl rfl ?_
    repeat (first | refine e2_step rfl rfl ?_ | refine e2m_get rfl rfl ?_ | refine e2m_ld _ rfl rfl (by omega) ?_)
    simp only [cntB] at K
    refine e2_if rfl rfl (fun c => ?_) (fun c => ?_)
    · rw [bI_0] at c
      rw [c] at K
      repeat (first | refine e2_stepS 5 rfl rfl rfl ?_ | refine e2m_getS 5 rfl rfl rfl ?_ | refine e2m_ldS 5 rfl _ rfl rfl (by omega) ?_)
      rw [nI_add', nI_add']
      exact K
    · rw [bI_0, Bool.not_eq_false] at c
      rw [c] at K
      repeat (first | refine e2_stepS 5 rfl rfl rfl ?_ | refine e2m_getS 5 rfl rfl rfl ?_ | refine e2m_ldS 5 rfl _ rfl rfl (by omega) ?_)
      rw [nI_add', nI_add']
      exact K
  · repeat (first | refine e2_step rfl rfl ?_ | refine e2m_get rfl rfl ?_ | refine e2m_ld _ rfl rfl (by omega) ?_)
    refine e2_if rfl rfl (fun c => ?_) (fun c => absurd (by rw [hN, hM]; exact Int32.le_refl _) c)
    repeat (first | refine e2_step rfl rfl ?_ | refine e2m_get rfl rfl ?_ | refine e2m_ld _ rfl rfl (by omega) ?_)
    exact e2_iret rfl rfl ⟨by rw [hM], rfl⟩
theorem m_countIn {N : Nat} (hN : r 100 = nI N) (hN2 : N ≤ 120) (p : Int32) : FM ε jX9_countIn [.inl p] G r t o x (some (nI (cntB (fun l => decide (ofr r l 3 = p)) N))) r t o x := by
  refine C2.of (ls := [some (.inr (0, 50)), some (.inl p), none, none]) okX9_countIn rfl rfl ?_
  repeat (first | refine e2_stepS 4 rfl rfl rfl ?_ | refine e2m_getS 4 rfl rfl rfl ?_ | refine e2m_ldS 4 rfl _ rfl rfl (by omega) ?_)
  refine e2_for N (fun l => [some (.inr (0, 50)), some (.inl p), some (.inl (nI (cntB (fun l => decide (ofr r l 3 = p)) l))), some (.inl (nI l))]) (fun _ => mG G r t o x) (fun l hl K => ?_) (fun M hM => ?_)
  · repeat (first | refine e2_step rfl rfl ?_ | refine e2m_get rfl rfl ?_ | refine e2m_ld _ rfl rfl (by omega) ?_)
    refine e2_if rfl rfl (fun c => absurd (hN ▸ c) (nI_ge hl (by omega))) (fun _ => ?_)
    repeat (first | refine e2_step rfl rfl ?_ | refine e2m_get rfl rfl ?_ | refine e2m_ld _ rfl rfl (by omega) ?_)
    refine e2_fi (m_of (l := l) (k := 3) (by omega) (by decide)) rfl rfl ⟨rfl, rfl, rfl⟩ rfl rfl rfl (by first | exact hi | decide) rfl rfl rfl ?_
    repeat (first | refine e2_step rfl rfl ?_ | refine e2m_get rfl rfl ?_ | refine e2m_ld _ rfl rfl (by omega) ?_)
    simp only [cntB] at K
    refine e2_if rfl rfl (fun c => ?_) (fun c => ?_)
    · simp only [c, decide_false, Bool.false_eq_true, if_false] at K
      repeat (first | refine e2_stepS 4 rfl rfl rfl ?_ | refine e2m_getS 4 rfl rfl rfl ?_ | refine e2m_ldS 4 rfl _ rfl rfl (by omega) ?_)
      rw [nI_add', nI_add']
      exact K
    · simp only [Classical.not_not.1 c, decide_true, if_true] at K
      repeat (first | refine e2_stepS 4 rfl rfl rfl ?_ | refine e2m_getS 4 rfl rfl rfl ?_ | refine e2m_ldS 4 rfl _ rfl rfl (by omega) ?_)
      rw [nI_add', nI_add']
      exact K
  · repeat (first | refine e2_step rfl rfl ?_ | refine e2m_get rfl rfl ?_ | refine e2m_ld _ rfl rfl (by omega) ?_)
    refine e2_if rfl rfl (fun c => ?_) (fun c => absurd (by rw [hN, hM]; exact Int32.le_refl _) c)
    repeat (first | refine e2_step rfl rfl ?_ | refine e2m_get rfl rfl ?_ | refine e2m_ld _ rfl rfl (by omega) ?_)
    exact e2_iret rfl rfl ⟨by rw [hM], rfl⟩
theorem m_free {N w : Nat} (hN : r 100 = nI N) (hN2 : N ≤ 120) (hw : w < 8) : FM ε jX9_free [.inl (nI w)] G r t o x (some (freer r N w)) r t o x := by
  refine C2.of (ls := [some (.inr (0, 50)), some (.inl (nI w)), none]) okX9_free rfl rfl ?_
  repeat (first | refine e2_step rfl rfl ?_ | refine e2m_get rfl rfl ?_ | refine e2m_ld _ rfl rfl (by omega) ?_)
  rw [nI_add']
  repeat (first | refine e2_step rfl rfl ?_ | refine e2m_get rfl rfl ?_ | refine e2m_ld _ rfl rfl (by omega) ?_)
  refine e2_fi (m_countAt hN hN2 (nI 1) (nI w)) rfl rfl ⟨rfl, rfl, rfl⟩ rfl rfl rfl (by first | exact hi | decide) rfl rfl rfl ?_
  repeat (first | refine e2_step rfl rfl ?_ | refine e2m_get rfl rfl ?_ | refine e2m_ld _ rfl rfl (by omega) ?_)
  refine e2_if rfl rfl (fun c => ?_) (fun c => ?_)
  · repeat (first | refine e2_step rfl rfl ?_ | refine e2m_get rfl rfl ?_ | refine e2m_ld _ rfl rfl (by omega) ?_)
    refine e2_iret rfl rfl ⟨?_, rfl⟩
    unfold freer
    rw [if_pos c]
  · repeat (first | refine e2_step rfl rfl ?_ | refine e2m_get rfl rfl ?_ | refine e2m_ld _ rfl rfl (by omega) ?_)
    refine e2_iret rfl rfl ⟨?_, rfl⟩
    unfold freer
    rw [if_neg c]
theorem m_rank {l : Nat} (hl : l < 120) : FM ε jX9_rank [.inl (nI l)] G r t o x (some (nI 10 * ofr r l 1 + ofr r l 2)) r t o x := by
  refine C2.of (ls := [some (.inr (0, 50)), some (.inl (nI l))]) okX9_rank rfl rfl ?_
  repeat (first | refine e2_step rfl rfl ?_ | refine e2m_get rfl rfl ?_ | refine e2m_ld _ rfl rfl (by omega) ?_)
  refine e2_fi (m_of hl (k := 1) (by decide)) rfl rfl ⟨rfl, rfl, rfl⟩ rfl rfl rfl (by first | exact hi | decide) rfl rfl rfl ?_
  repeat (first | refine e2_step rfl rfl ?_ | refine e2m_get rfl rfl ?_ | refine e2m_ld _ rfl rfl (by omega) ?_)
  refine e2_fi (m_of hl (k := 2) (by decide)) rfl rfl ⟨rfl, rfl, rfl⟩ rfl rfl rfl (by first | exact hi | decide) rfl rfl rfl ?_
  repeat (first | refine e2_step rfl rfl ?_ | refine e2m_get rfl rfl ?_ | refine e2m_ld _ rfl rfl (by omega) ?_)
  exact e2_iret rfl rfl ⟨rfl, rfl⟩
theorem m_lastSecond {N w : Nat} (hN : r 100 = nI N) (hN2 : N ≤ 120) : FM ε jX9_lastSecond [.inl (nI w)] G r t o x (some (lastB (secB r w) N)) r t o x := by
  refine C2.of (ls := [some (.inr (0, 50)), some (.inl (nI w)), none, none]) okX9_lastSecond rfl rfl ?_
  repeat (first | refine e2_stepS 5 rfl rfl rfl ?_ | refine e2m_getS 5 rfl rfl rfl ?_ | refine e2m_ldS 5 rfl _ rfl rfl (by omega) ?_)
  refine e2_for N (fun l => [some (.inr (0, 50)), some (.inl (nI w)), some (.inl (lastB (secB r w) l)), some (.inl (nI l))]) (fun _ => mG G r t o x) (fun l hl K => ?_) (fun M hM => ?_)
  · repeat (first | refine e2_step rfl rfl ?_ | refine e2m_get rfl rfl ?_ | refine e2m_ld _ rfl rfl (by omega) ?_)
    refine e2_if rfl rfl (fun c => absurd (hN ▸ c) (nI_ge hl (by omega))) (fun _ => ?_)
    repeat (first | refine e2_step rfl rfl ?_ | refine e2m_get rfl rfl ?_ | refine e2m_ld _ rfl rfl (by omega) ?_)
    refine e2_fi (m_isAt (l := l) (by omega) (nI 1) (nI w)) rfl rfl ⟨rfl, rfl, rfl⟩ rfl rfl rfl (by first | exact hi | decide) rfl rfl rfl ?_
    repeat (first | refine e2_step rfl rfl ?_ | refine e2m_get rfl rfl ?_ | refine e2m_ld _ rfl rfl (by omega) ?_)
    simp only [lastB, secB] at K
    refine e2_if rfl rfl (fun c => ?_) (fun c => ?_)
    · rw [bI_0] at c
      simp only [c, Bool.false_and, Bool.false_eq_true, if_false] at K
      repeat (first | refine e2_stepS 5 rfl rfl rfl ?_ | refine e2m_getS 5 rfl rfl rfl ?_ | refine e2m_ldS 5 rfl _ rfl rfl (by omega) ?_)
      rw [nI_add']
      exact K
    · rw [bI_0, Bool.not_eq_false] at c
      repeat (first | refine e2_step rfl rfl ?_ | refine e2m_get rfl rfl ?_ | refine e2m_ld _ rfl rfl (by omega) ?_)
      refine e2_fi (m_of (l := l) (k := 1) (by omega) (by decide)) rfl rfl ⟨rfl, rfl, rfl⟩ rfl rfl rfl (by first | exact hi | decide) rfl rfl rfl ?_
      repeat (first | refine e2_step rfl rfl ?_ | refine e2m_get rfl rfl ?_ | refine e2m_ld _ rfl rfl (by omega) ?_)
      refine e2_if rfl rfl (fun c2 => ?_) (fun c2 => ?_)
      · simp only [c, c2, decide_false, Bool.and_false, Bool.false_eq_true, if_false] at K
        repeat (first | refine e2_stepS 5 rfl rfl rfl ?_ | refine e2m_getS 5 rfl rfl rfl ?_ | refine e2m_ldS 5 rfl _ rfl rfl (by omega) ?_)
        rw [nI_add']
        exact K
      · simp only [c, Classical.not_not.1 c2, decide_true, Bool.and_true, if_true] at K
        repeat (first | refine e2_stepS 5 rfl rfl rfl ?_ | refine e2m_getS 5 rfl rfl rfl ?_ | refine e2m_ldS 5 rfl _ rfl rfl (by omega) ?_)
        rw [nI_add']
        exact K
  · repeat (first | refine e2_step rfl rfl ?_ | refine e2m_get rfl rfl ?_ | refine e2m_ld _ rfl rfl (by omega) ?_)
    refine e2_if rfl rfl (fun c => ?_) (fun c => absurd (by rw [hN, hM]; exact Int32.le_refl _) c)
    repeat (first | refine e2_step rfl rfl ?_ | refine e2m_get rfl rfl ?_ | refine e2m_ld _ rfl rfl (by omega) ?_)
    exact e2_iret rfl rfl ⟨by rw [hM], rfl⟩
theorem m_freest {N : Nat} (hN : r 100 = nI N) (hN2 : N ≤ 120) : FM ε jX9_freest [] G r t o x (some (bestF (freer r N) 8).1) r t o x := by
  obtain ⟨n8, h8⟩ : ∃ n, n = 8 := ⟨_, rfl⟩
  rw [← h8]
  refine C2.of (ls := [some (.inr (0, 50)), none, none, none, none]) okX9_freest rfl rfl ?_
  repeat (first | refine e2_stepS 7 rfl rfl rfl ?_ | refine e2m_getS 7 rfl rfl rfl ?_ | refine e2m_ldS 7 rfl _ rfl rfl (by omega) ?_)
  refine e2_drop (ls' := [some (.inr (0, 50)), some (.inl (-9)), some (.inl (nI 0)), some (.inl (nI 0)), none]) ⟨rfl, rfl, rfl, rfl, trivial⟩ ?_
  refine e2_for n8 (fun w => [some (.inr (0, 50)), some (.inl (bestF (freer r N) w).1), some (.inl (bestF (freer r N) w).2), some (.inl (nI w)), none]) (fun _ => mG G r t o x) (fun w hw K => ?_) (fun M hM => ?_)
  · repeat (first | refine e2_step rfl rfl ?_ | refine e2m_get rfl rfl ?_ | refine e2m_ld _ rfl rfl (by omega) ?_)
    refine e2_if rfl rfl (fun c => absurd c (nI_ge (by omega) (by omega))) (fun _ => ?_)
    repeat (first | refine e2_step rfl rfl ?_ | refine e2m_get rfl rfl ?_ | refine e2m_ld _ rfl rfl (by omega) ?_)
    refine e2_fi (m_free (w := w) hN hN2 (by omega)) rfl rfl ⟨rfl, rfl, rfl⟩ rfl rfl rfl (by first | exact hi | decide) rfl rfl rfl ?_
    repeat (first | refine e2_step rfl rfl ?_ | refine e2m_get rfl rfl ?_ | refine e2m_ld _ rfl rfl (by omega) ?_)
    simp only [bestF] at K
    refine e2_if rfl rfl (fun c => ?_) (fun c => ?_)
    · rw [if_neg (Int32.not_lt.2 c)] at K
      repeat (first | refine e2_step rfl rfl ?_ | refine e2m_get rfl rfl ?_ | refine e2m_ld _ rfl rfl (by omega) ?_)
      refine e2_if rfl rfl (fun c2 => ?_) (fun c2 => absurd c c2)
      repeat (first | refine e2_stepS 7 rfl rfl rfl ?_ | refine e2m_getS 7 rfl rfl rfl ?_ | refine e2m_ldS 7 rfl _ rfl rfl (by omega) ?_)
      rw [nI_add']
      exact e2_dropK K ⟨rfl, rfl, rfl, rfl, trivial⟩
    · rw [if_pos (Int32.not_le.1 c)] at K
      repeat (first | refine e2_step rfl rfl ?_ | refine e2m_get rfl rfl ?_ | refine e2m_ld _ rfl rfl (by omega) ?_)
      refine e2_if rfl rfl (fun c2 => absurd c2 c) (fun c2 => ?_)
      repeat (first | refine e2_stepS 7 rfl rfl rfl ?_ | refine e2m_getS 7 rfl rfl rfl ?_ | refine e2m_ldS 7 rfl _ rfl rfl (by omega) ?_)
      rw [nI_add']
      exact e2_dropK K ⟨rfl, rfl, rfl, rfl, trivial⟩
  · repeat (first | refine e2_step rfl rfl ?_ | refine e2m_get rfl rfl ?_ | refine e2m_ld _ rfl rfl (by omega) ?_)
    refine e2_if rfl rfl (fun c => ?_) (fun c => absurd (by rw [hM, h8]; exact Int32.le_refl _) c)
    repeat (first | refine e2_step rfl rfl ?_ | refine e2m_get rfl rfl ?_ | refine e2m_ld _ rfl rfl (by omega) ?_)
    exact e2_iret rfl rfl ⟨by rw [hM], rfl⟩
theorem cpyr_0 (r : Nat → Int32) (a b : Nat) : cpyr r a b 0 = r := by
  funext j
  simp only [cpyr]
  rw [if_neg (by omega)]
theorem cpyr_s (r : Nat → Int32) (a b n : Nat) : cpyr r a b (n + 1) = upd (cpyr r a b n) (b + n) (r (a + n)) := by
  funext j
  simp only [cpyr, upd]
  by_cases h : j = b + n
  · rw [if_pos (by omega), if_pos h, show a + (j - b) = a + n by omega]
  · rw [if_neg h]
    by_cases h2 : b ≤ j ∧ j < b + n
    · rw [if_pos (by omega), if_pos h2]
    · rw [if_neg (by omega), if_neg h2]
theorem m_copies {a b n : Nat} (ha : a + n ≤ 21497) (hb : b + n ≤ 21497) (hd : a + n ≤ b ∨ b + n ≤ a) : FM ε jX9_copies [.inl (nI a), .inl (nI b), .inl (nI n)] G r t o x none (cpyr r a b n) t o x := by
  refine C2.of (ls := [some (.inr (0, 50)), some (.inl (nI a)), some (.inl (nI b)), some (.inl (nI n)), none]) okX9_copies rfl rfl ?_
  repeat (first | refine e2_stepS 3 rfl rfl rfl ?_ | refine e2m_getS 3 rfl rfl rfl ?_ | refine e2m_ldS 3 rfl _ rfl rfl (by omega) ?_)
  refine Eq.mp (congrArg (fun q => E2 ε jX9_copies 3 _ [] (mG G q t o x) _) (cpyr_0 r a b)) ?_
  refine e2_for n (fun k => [some (.inr (0, 50)), some (.inl (nI a)), some (.inl (nI b)), some (.inl (nI n)), some (.inl (nI k))]) (fun k => mG G (cpyr r a b k) t o x) (fun k hk K => ?_) (fun M hM => ?_)
  · repeat (first | refine e2_step rfl rfl ?_ | refine e2m_get rfl rfl ?_ | refine e2m_ld _ rfl rfl (by omega) ?_)
    refine e2_if rfl rfl (fun c => absurd c (nI_ge hk (by omega))) (fun _ => ?_)
    repeat (first | refine e2_step rfl rfl ?_ | refine e2m_get rfl rfl ?_ | refine e2m_ld _ rfl rfl (by omega) ?_)
    rw [nI_add', nI_add']
    repeat (first | refine e2_step rfl rfl ?_ | refine e2m_get rfl rfl ?_ | refine e2m_ld _ rfl rfl (by omega) ?_)
    refine e2m_st (b + k) rfl rfl (by omega) ?_
    repeat (first | refine e2_stepS 3 rfl rfl rfl ?_ | refine e2m_getS 3 rfl rfl rfl ?_ | refine e2m_ldS 3 rfl _ rfl rfl (by omega) ?_)
    rw [nI_add']
    have h1 : cpyr r a b k (a + k) = r (a + k) := by
      simp only [cpyr]
      rw [if_neg (by omega)]
    rw [h1, ← cpyr_s]
    exact K
  · repeat (first | refine e2_step rfl rfl ?_ | refine e2m_get rfl rfl ?_ | refine e2m_ld _ rfl rfl (by omega) ?_)
    refine e2_if rfl rfl (fun c => ?_) (fun c => absurd (by rw [hM]; exact Int32.le_refl _) c)
    repeat (first | refine e2_step rfl rfl ?_ | refine e2m_get rfl rfl ?_ | refine e2m_ld _ rfl rfl (by omega) ?_)
    exact e2_vret rfl rfl ⟨rfl, by rw [hM]⟩
theorem m_stretches : FM ε jX9_stretches [] G r t o x (some (nI (1 + cntB (fun c => decide (¬ r (c + 1) = r c)) 99))) r t o x := by
  obtain ⟨n99, h99⟩ : ∃ n, n = 99 := ⟨_, rfl⟩
  rw [← h99]
  refine C2.of (ls := [some (.inr (0, 50)), none, none]) okX9_stretches rfl rfl ?_
  repeat (first | refine e2_stepS 4 rfl rfl rfl ?_ | refine e2m_getS 4 rfl rfl rfl ?_ | refine e2m_ldS 4 rfl _ rfl rfl (by omega) ?_)
  refine e2_for n99 (fun c => [some (.inr (0, 50)), some (.inl (nI (1 + cntB (fun c => decide (¬ r (c + 1) = r c)) c))), some (.inl (nI (c + 1)))]) (fun _ => mG G r t o x) (fun c hc K => ?_) (fun M hM => ?_)
  · repeat (first | refine e2_step rfl rfl ?_ | refine e2m_get rfl rfl ?_ | refine e2m_ld _ rfl rfl (by omega) ?_)
    refine e2_if rfl rfl (fun z => absurd z (nI_ge (by omega) (by omega))) (fun _ => ?_)
    repeat (first | refine e2_step rfl rfl ?_ | refine e2m_get rfl rfl ?_ | refine e2m_ld _ rfl rfl (by omega) ?_)
    refine e2m_ld c rfl (by rw [pk_sub (by omega), Nat.add_sub_cancel]) (by omega) ?_
    repeat (first | refine e2_step rfl rfl ?_ | refine e2m_get rfl rfl ?_ | refine e2m_ld _ rfl rfl (by omega) ?_)
    simp only [cntB] at K
    refine e2_if rfl rfl (fun z => ?_) (fun z => ?_)
    · simp only [z, not_true_eq_false, decide_false, Bool.false_eq_true, if_false] at K
      repeat (first | refine e2_stepS 4 rfl rfl rfl ?_ | refine e2m_getS 4 rfl rfl rfl ?_ | refine e2m_ldS 4 rfl _ rfl rfl (by omega) ?_)
      rw [nI_add', nI_add']
      simp only [Nat.add_assoc, Nat.add_zero] at K ⊢
      exact K
    · simp only [z, not_false_eq_true, decide_true, if_true] at K
      repeat (first | refine e2_stepS 4 rfl rfl rfl ?_ | refine e2m_getS 4 rfl rfl rfl ?_ | refine e2m_ldS 4 rfl _ rfl rfl (by omega) ?_)
      rw [nI_add', nI_add']
      simp only [Nat.add_assoc, Nat.add_zero] at K ⊢
      exact K
  · repeat (first | refine e2_step rfl rfl ?_ | refine e2m_get rfl rfl ?_ | refine e2m_ld _ rfl rfl (by omega) ?_)
    refine e2_if rfl rfl (fun c => ?_) (fun c => absurd (by rw [hM, h99]; exact Int32.le_refl _) c)
    repeat (first | refine e2_step rfl rfl ?_ | refine e2m_get rfl rfl ?_ | refine e2m_ld _ rfl rfl (by omega) ?_)
    exact e2_iret rfl rfl ⟨by rw [hM], rfl⟩
theorem rngr_0 (r : Nat → Int32) (a : Nat) (w : Int32) : rngr r a a w = r := by
  funext j
  simp only [rngr]
  rw [if_neg (by omega)]
theorem rngr_s (r : Nat → Int32) (a k : Nat) (w : Int32) : rngr r a (a + (k + 1)) w = upd (rngr r a (a + k) w) (a + k) w := by
  funext j
  simp only [rngr, upd]
  by_cases h : j = a + k
  · rw [if_pos (by omega), if_pos h]
  · rw [if_neg h]
    by_cases h2 : a ≤ j ∧ j < a + k
    · rw [if_pos (by omega), if_pos h2]
    · rw [if_neg (by omega), if_neg h2]
/-- the codes a to b (b + 1 is e), or none -/
theorem m_ranges {a b : Nat} (ha : a < 100) (hb : b < 100) (w : Int32) : FM ε jX9_ranges [.inl (nI a), .inl (nI b), .inl w] G r t o x none (rngr r a (b + 1) w) t o x := by
  refine C2.of (ls := [some (.inr (0, 50)), some (.inl (nI a)), some (.inl (nI b)), some (.inl w), none]) okX9_ranges rfl rfl ?_
  repeat (first | refine e2_stepS 3 rfl rfl rfl ?_ | refine e2m_getS 3 rfl rfl rfl ?_ | refine e2m_ldS 3 rfl _ rfl rfl (by omega) ?_)
  have h0 : rngr r a (a + 0) w = r := rngr_0 r a w
  refine Eq.mp (congrArg (fun q => E2 ε jX9_ranges 3 _ [] (mG G q t o x) _) h0) ?_
  refine e2_for (b + 1 - a) (fun k => [some (.inr (0, 50)), some (.inl (nI a)), some (.inl (nI b)), some (.inl w), some (.inl (nI (a + k)))]) (fun k => mG G (rngr r a (a + k) w) t o x) (fun k hk K => ?_) (fun M hM => ?_)
  · repeat (first | refine e2_step rfl rfl ?_ | refine e2m_get rfl rfl ?_ | refine e2m_ld _ rfl rfl (by omega) ?_)
    refine e2_if rfl rfl (fun c => absurd c (nI_nlt (by omega) (by omega))) (fun _ => ?_)
    repeat (first | refine e2_step rfl rfl ?_ | refine e2m_get rfl rfl ?_ | refine e2m_ld _ rfl rfl (by omega) ?_)
    refine e2m_st (a + k) rfl rfl (by omega) ?_
    repeat (first | refine e2_stepS 3 rfl rfl rfl ?_ | refine e2m_getS 3 rfl rfl rfl ?_ | refine e2m_ldS 3 rfl _ rfl rfl (by omega) ?_)
    rw [nI_add', ← rngr_s]
    exact K
  · repeat (first | refine e2_step rfl rfl ?_ | refine e2m_get rfl rfl ?_ | refine e2m_ld _ rfl rfl (by omega) ?_)
    refine e2_if rfl rfl (fun c => ?_) (fun c => absurd (nI_lt (by omega) (by omega)) c)
    refine e2_vret rfl rfl ⟨rfl, ?_⟩
    subst hM
    have : rngr r a (b + 1) w = rngr r a (a + (b + 1 - a)) w := by
      funext j
      simp only [rngr]
      by_cases h : a ≤ j ∧ j < b + 1
      · rw [if_pos h, if_pos (by omega)]
      · rw [if_neg h, if_neg (by omega)]
    rw [this]
theorem m_walkBy (c : Int32) : FM ε jX9_walkBy [.inl c] G r t o x (some (walkByr r c)) r t o x := by
  refine C2.of (ls := [some (.inr (0, 50)), some (.inl c), none]) okX9_walkBy rfl rfl ?_
  repeat (first | refine e2_stepS 2 rfl rfl rfl ?_ | refine e2m_getS 2 rfl rfl rfl ?_ | refine e2m_ldS 2 rfl _ rfl rfl (by omega) ?_)
  have h : ∀ k w, w + k = 8 → E2 ε jX9_walkBy 2 [some (.inr (0, 50)), some (.inl c), some (.inl (nI w))] [] (mG G r t o x) (fun v' G' => v' = some (firstFrom (fun w => decide (r (955 + w) = c)) k w) ∧ G' = mG G r t o x) := by
    intro k
    induction k with
    | zero =>
      intro w hw
      repeat (first | refine e2_step rfl rfl ?_ | refine e2m_get rfl rfl ?_ | refine e2m_ld _ rfl rfl (by omega) ?_)
      refine e2_if rfl rfl (fun _ => ?_) (fun z => absurd (nI_le (by omega) (by omega)) z)
      repeat (first | refine e2_step rfl rfl ?_ | refine e2m_get rfl rfl ?_ | refine e2m_ld _ rfl rfl (by omega) ?_)
      exact e2_iret rfl rfl ⟨rfl, rfl⟩
    | succ k ih =>
      intro w hw
      repeat (first | refine e2_step rfl rfl ?_ | refine e2m_get rfl rfl ?_ | refine e2m_ld _ rfl rfl (by omega) ?_)
      refine e2_if rfl rfl (fun z => absurd z (nI_ge (by omega) (by omega))) (fun _ => ?_)
      repeat (first | refine e2_step rfl rfl ?_ | refine e2m_get rfl rfl ?_ | refine e2m_ld _ rfl rfl (by omega) ?_)
      rw [nI_add']
      repeat (first | refine e2_step rfl rfl ?_ | refine e2m_get rfl rfl ?_ | refine e2m_ld _ rfl rfl (by omega) ?_)
      refine e2_if rfl rfl (fun z => ?_) (fun z => ?_)
      · repeat (first | refine e2_stepS 2 rfl rfl rfl ?_ | refine e2m_getS 2 rfl rfl rfl ?_ | refine e2m_ldS 2 rfl _ rfl rfl (by omega) ?_)
        rw [nI_add']
        have := ih (w + 1) (by omega)
        simp only [firstFrom, z, decide_false, Bool.false_eq_true, if_false]
        exact this
      · repeat (first | refine e2_step rfl rfl ?_ | refine e2m_get rfl rfl ?_ | refine e2m_ld _ rfl rfl (by omega) ?_)
        refine e2_iret rfl rfl ⟨?_, rfl⟩
        simp only [firstFrom, Classical.not_not.1 z, decide_true, if_true]
  exact h 8 0 rfl
theorem m_out : FM ε jX9_out [] G r t o x (some (sumI (fun c => r (1011 + c)) 6)) r t o x := by
  obtain ⟨n6, h6⟩ : ∃ n, n = 6 := ⟨_, rfl⟩
  rw [← h6]
  refine C2.of (ls := [some (.inr (0, 50)), none, none]) okX9_out rfl rfl ?_
  repeat (first | refine e2_stepS 4 rfl rfl rfl ?_ | refine e2m_getS 4 rfl rfl rfl ?_ | refine e2m_ldS 4 rfl _ rfl rfl (by omega) ?_)
  refine e2_for n6 (fun c => [some (.inr (0, 50)), some (.inl (sumI (fun c => r (1011 + c)) c)), some (.inl (nI c))]) (fun _ => mG G r t o x) (fun c hc K => ?_) (fun M hM => ?_)
  · repeat (first | refine e2_step rfl rfl ?_ | refine e2m_get rfl rfl ?_ | refine e2m_ld _ rfl rfl (by omega) ?_)
    refine e2_if rfl rfl (fun z => absurd z (nI_ge (by omega) (by omega))) (fun _ => ?_)
    repeat (first | refine e2_step rfl rfl ?_ | refine e2m_get rfl rfl ?_ | refine e2m_ld _ rfl rfl (by omega) ?_)
    rw [nI_add']
    repeat (first | refine e2_stepS 4 rfl rfl rfl ?_ | refine e2m_getS 4 rfl rfl rfl ?_ | refine e2m_ldS 4 rfl _ rfl rfl (by omega) ?_)
    rw [nI_add']
    exact K
  · repeat (first | refine e2_step rfl rfl ?_ | refine e2m_get rfl rfl ?_ | refine e2m_ld _ rfl rfl (by omega) ?_)
    refine e2_if rfl rfl (fun c => ?_) (fun c => absurd (by rw [hM, h6]; exact Int32.le_refl _) c)
    repeat (first | refine e2_step rfl rfl ?_ | refine e2m_get rfl rfl ?_ | refine e2m_ld _ rfl rfl (by omega) ?_)
    exact e2_iret rfl rfl ⟨by rw [hM], rfl⟩
theorem m_firstIn {N : Nat} (hN : r 100 = nI N) (hN2 : N ≤ 120) (w : Int32) : FM ε jX9_firstIn [.inl w] G r t o x (some (sumI (fun l => if atr r (nI 1) w l then ofr r l 1 else nI 0) N)) r t o x := by
  refine C2.of (ls := [some (.inr (0, 50)), some (.inl w), none, none]) okX9_firstIn rfl rfl ?_
  repeat (first | refine e2_stepS 4 rfl rfl rfl ?_ | refine e2m_getS 4 rfl rfl rfl ?_ | refine e2m_ldS 4 rfl _ rfl rfl (by omega) ?_)
  refine e2_for N (fun l => [some (.inr (0, 50)), some (.inl w), some (.inl (sumI (fun l => if atr r (nI 1) w l then ofr r l 1 else nI 0) l)), some (.inl (nI l))]) (fun _ => mG G r t o x) (fun l hl K => ?_) (fun M hM => ?_)
  · repeat (first | refine e2_step rfl rfl ?_ | refine e2m_get rfl rfl ?_ | refine e2m_ld _ rfl rfl (by omega) ?_)
    refine e2_if rfl rfl (fun c => absurd (hN ▸ c) (nI_ge hl (by omega))) (fun _ => ?_)
    repeat (first | refine e2_step rfl rfl ?_ | refine e2m_get rfl rfl ?_ | refine e2m_ld _ rfl rfl (by omega) ?_)
    refine e2_fi (m_isAt (l := l) (by omega) (nI 1) w) rfl rfl ⟨rfl, rfl, rfl⟩ rfl rfl rfl (by first | exact hi | decide) rfl rfl rfl ?_
    repeat (first | refine e2_step rfl rfl ?_ | refine e2m_get rfl rfl ?_ | refine e2m_ld _ rfl rfl (by omega) ?_)
    simp only [sumI] at K
    refine e2_if rfl rfl (fun c => ?_) (fun c => ?_)
    · rw [bI_0] at c
      simp only [c, Bool.false_eq_true, if_false] at K
      repeat (first | refine e2_stepS 4 rfl rfl rfl ?_ | refine e2m_getS 4 rfl rfl rfl ?_ | refine e2m_ldS 4 rfl _ rfl rfl (by omega) ?_)
      rw [nI_add']
      exact K
    · rw [bI_0, Bool.not_eq_false] at c
      simp only [c, if_true] at K
      repeat (first | refine e2_step rfl rfl ?_ | refine e2m_get rfl rfl ?_ | refine e2m_ld _ rfl rfl (by omega) ?_)
      refine e2_fi (m_of (l := l) (k := 1) (by omega) (by decide)) rfl rfl ⟨rfl, rfl, rfl⟩ rfl rfl rfl (by first | exact hi | decide) rfl rfl rfl ?_
      repeat (first | refine e2_stepS 4 rfl rfl rfl ?_ | refine e2m_getS 4 rfl rfl rfl ?_ | refine e2m_ldS 4 rfl _ rfl rfl (by omega) ?_)
      rw [nI_add']
      exact K
  · repeat (first | refine e2_step rfl rfl ?_ | refine e2m_get rfl rfl ?_ | refine e2m_ld _ rfl rfl (by omega) ?_)
    refine e2_if rfl rfl (fun c => ?_) (fun c => absurd (by rw [hN, hM]; exact Int32.le_refl _) c)
    repeat (first | refine e2_step rfl rfl ?_ | refine e2m_get rfl rfl ?_ | refine e2m_ld _ rfl rfl (by omega) ?_)
    exact e2_iret rfl rfl ⟨by rw [hM], rfl⟩
end MI
end
section
/-! The reference's orders, sorting and the hour. -/
section MJ
variable {ε : EE} {J : JT} {pc : Nat} {ls : List (Option V0)} {st : List V0} {G : GG} {r t o x : Nat → Int32} {Q : Option Int32 → GG → Prop}
/-- lists stand last element first: y behind the elements that may stay before it -/
def insR (gt : Nat → Nat → Bool) : List Nat → Nat → List Nat
  | [], y => [y]
  | a :: t, y => if gt a y then a :: insR gt t y else y :: a :: t
def revD : List Nat → Nat → Nat
  | [], _ => 0
  | a :: t, j => if j = t.length then a else revD t j
def layR (gt : Nat → Nat → Bool) (p : Nat → Bool) : Nat → List Nat
  | 0 => []
  | n + 1 => if p n then insR gt (layR gt p n) n else layR gt p n
def ordA (R : List Nat) (o : Nat → Int32) : Nat → Int32 := fun j => if j < R.length then nI (revD R j) else o j
theorem insR_len (gt : Nat → Nat → Bool) : ∀ (R : List Nat) (y : Nat), (insR gt R y).length = R.length + 1
  | [], y => rfl
  | a :: t, y => by
    unfold insR
    split
    · rw [List.length_cons, insR_len gt t y, List.length_cons]
    · rfl
theorem insR_mem (gt : Nat → Nat → Bool) : ∀ (R : List Nat) (y z : Nat), z ∈ insR gt R y ↔ z = y ∨ z ∈ R
  | [], y, z => by simp [insR]
  | a :: t, y, z => by
    unfold insR
    split
    · rw [List.mem_cons, insR_mem gt t y z, List.mem_cons]
      constructor
      · rintro (h | h | h)
        · exact Or.inr (Or.inl h)
        · exact Or.inl h
        · exact Or.inr (Or.inr h)
      · rintro (h | h | h)
        · exact Or.inr (Or.inl h)
        · exact Or.inl h
        · exact Or.inr (Or.inr h)
    · simp
theorem layR_mem (gt : Nat → Nat → Bool) (p : Nat → Bool) : ∀ (n z : Nat), z ∈ layR gt p n ↔ z < n ∧ p z = true
  | 0, z => by simp [layR]
  | n + 1, z => by
    unfold layR
    split
    · rename_i h
      rw [insR_mem, layR_mem gt p n z]
      constructor
      · rintro (rfl | ⟨h1, h2⟩)
        · exact ⟨by omega, h⟩
        · exact ⟨by omega, h2⟩
      · rintro ⟨h1, h2⟩
        by_cases hz : z = n
        · exact Or.inl hz
        · exact Or.inr ⟨by omega, h2⟩
    · rename_i h
      rw [layR_mem gt p n z]
      constructor
      · rintro ⟨h1, h2⟩
        exact ⟨by omega, h2⟩
      · rintro ⟨h1, h2⟩
        have hz : z ≠ n := fun e => h (e ▸ h2)
        exact ⟨by omega, h2⟩
theorem layR_len (gt : Nat → Nat → Bool) (p : Nat → Bool) : ∀ (n : Nat), (layR gt p n).length = cntB p n
  | 0 => rfl
  | n + 1 => by
    unfold layR cntB
    split
    · rw [insR_len, layR_len gt p n]
    · rw [layR_len gt p n]
      rfl
theorem revD_mem : ∀ (R : List Nat) (j : Nat), j < R.length → revD R j ∈ R
  | [], j, h => by simp at h
  | a :: t, j, h => by
    unfold revD
    split
    · exact List.mem_cons_self
    · exact List.mem_cons_of_mem _ (revD_mem t j (by rw [List.length_cons] at h; omega))
/-- what the inner loop of an insertion leaves -/
def insOk (gt : Nat → Nat → Bool) (R : List Nat) (y : Nat) (o o' : Nat → Int32) : Prop := (∀ j, j < R.length + 1 → o' j = nI (revD (insR gt R y) j)) ∧ ∀ j, R.length < j → o' j = o j
theorem insOk_nil (gt : Nat → Nat → Bool) (y : Nat) (o : Nat → Int32) : insOk gt [] y o (upd o 0 (nI y)) := by
  refine ⟨fun j hj => ?_, fun j hj => ?_⟩
  · have : j = 0 := by simp at hj; omega
    subst this
    simp [upd, insR, revD]
  · simp at hj
    simp [upd, show j ≠ 0 by omega]
theorem insOk_stop {gt : Nat → Nat → Bool} {a y : Nat} {t : List Nat} {o : Nat → Int32} (h : gt a y = false) (ho : ∀ j, j < t.length + 1 → o j = nI (revD (a :: t) j)) : insOk gt (a :: t) y o (upd o (t.length + 1) (nI y)) := by
  refine ⟨fun j hj => ?_, fun j hj => ?_⟩
  · rw [List.length_cons] at hj
    simp only [insR, h, Bool.false_eq_true, if_false, upd]
    by_cases hj2 : j = t.length + 1
    · rw [if_pos hj2]
      simp [revD, hj2]
    · rw [if_neg hj2, ho j (by omega)]
      have : ¬ j = (a :: t).length := by rw [List.length_cons]; exact hj2
      conv => rhs; unfold revD
      rw [if_neg this]
  · rw [List.length_cons] at hj
    simp [upd, show j ≠ t.length + 1 by omega]
theorem insOk_go {gt : Nat → Nat → Bool} {a y : Nat} {t : List Nat} {o o' : Nat → Int32} (h : gt a y = true) (hk : insOk gt t y (upd o (t.length + 1) (nI a)) o') : insOk gt (a :: t) y o o' := by
  refine ⟨fun j hj => ?_, fun j hj => ?_⟩
  · rw [List.length_cons] at hj
    simp only [insR, h, if_true]
    unfold revD
    rw [insR_len]
    by_cases hj2 : j = t.length + 1
    · rw [if_pos hj2, hk.2 j (by omega)]
      simp [upd, hj2]
    · rw [if_neg hj2]
      exact hk.1 j (by omega)
  · rw [List.length_cons] at hj
    rw [hk.2 j (by omega)]
    simp [upd, show j ≠ t.length + 1 by omega]
theorem insOk_ord {gt : Nat → Nat → Bool} {R : List Nat} {y : Nat} {o o' : Nat → Int32} (hk : insOk gt R y (ordA R o) o') : o' = ordA (insR gt R y) o := by
  funext j
  simp only [ordA, insR_len]
  by_cases h : j < R.length + 1
  · rw [if_pos h]
    exact hk.1 j h
  · rw [if_neg h, hk.2 j (by omega)]
    simp [ordA, show ¬ j < R.length by omega]
theorem ordA_at {R : List Nat} {o : Nat → Int32} {j : Nat} (h : j < R.length) : ordA R o j = nI (revD R j) := by
  simp [ordA, h]
theorem ordA_nil (o : Nat → Int32) : ordA [] o = o := by
  funext j
  simp [ordA]
def gtC (r : Nat → Int32) (a y : Nat) : Bool := decide (ofr r y 0 < ofr r a 0)
def rankr (r : Nat → Int32) (l : Nat) : Int32 := nI 10 * ofr r l 1 + ofr r l 2
def gtB (r : Nat → Int32) (a y : Nat) : Bool := decide (rankr r a < rankr r y)
theorem m_lay1 {l n : Nat} {p w : Int32} (hl : l < 120) : ∀ (R : List Nat), (∀ a, a ∈ R → a < 120) → R.length < 120 → ∀ (o : Nat → Int32), (∀ j, j < R.length → o j = nI (revD R j)) →
    (∀ o', insOk (gtC r) R l o o' → E2 ε jX9_layByCodes 91 [some (.inr (0, 50)), some (.inl p), some (.inl w), some (.inl (nI n)), some (.inl (nI l)), none] [] (mG G r t o' x) Q) →
    E2 ε jX9_layByCodes 31 [some (.inr (0, 50)), some (.inl p), some (.inl w), some (.inl (nI n)), some (.inl (nI l)), some (.inl (nI R.length))] [] (mG G r t o x) Q
  | [], hR, hlen, o, ho, K => by
    repeat (first | refine e2_step rfl rfl ?_ | refine e2m_get rfl rfl ?_ | refine e2m_ld _ rfl rfl (by omega) ?_)
    refine e2_if rfl rfl (fun _ => ?_) (fun c => absurd (Int32.le_refl _) c)
    repeat (first | refine e2_step rfl rfl ?_ | refine e2m_get rfl rfl ?_ | refine e2m_ld _ rfl rfl (by omega) ?_)
    refine e2m_sto 0 rfl rfl (by omega) ?_
    exact e2_dropK (K _ (insOk_nil _ l o)) ⟨rfl, rfl, rfl, rfl, rfl, trivial⟩
  | a :: t', hR, hlen, o, ho, K => by
    rw [List.length_cons] at hlen
    have ha : a < 120 := hR a List.mem_cons_self
    have hoa : o t'.length = nI a := by rw [ho _ (by rw [List.length_cons]; omega)]; simp [revD]
    repeat (first | refine e2_step rfl rfl ?_ | refine e2m_get rfl rfl ?_ | refine e2m_ld _ rfl rfl (by omega) ?_)
    refine e2_if rfl rfl (fun c => absurd c (nI_nle (by rw [List.length_cons]; omega) (by rw [List.length_cons]; omega))) (fun _ => ?_)
    repeat (first | refine e2_step rfl rfl ?_ | refine e2m_get rfl rfl ?_ | refine e2m_ld _ rfl rfl (by omega) ?_)
    refine e2m_ldo t'.length rfl (by rw [List.length_cons, pk_sub (by omega), Nat.add_sub_cancel]) (by omega) ?_
    rw [hoa]
    repeat (first | refine e2_step rfl rfl ?_ | refine e2m_get rfl rfl ?_ | refine e2m_ld _ rfl rfl (by omega) ?_)
    refine e2_fi (m_of ha (k := 0) (by decide)) rfl rfl ⟨rfl, rfl, rfl⟩ rfl rfl rfl (by first | exact hi | decide) rfl rfl rfl ?_
    repeat (first | refine e2_step rfl rfl ?_ | refine e2m_get rfl rfl ?_ | refine e2m_ld _ rfl rfl (by omega) ?_)
    refine e2_fi (m_of hl (k := 0) (by decide)) rfl rfl ⟨rfl, rfl, rfl⟩ rfl rfl rfl (by first | exact hi | decide) rfl rfl rfl ?_
    repeat (first | refine e2_step rfl rfl ?_ | refine e2m_get rfl rfl ?_ | refine e2m_ld _ rfl rfl (by omega) ?_)
    refine e2_if rfl rfl (fun c => ?_) (fun c => ?_)
    · repeat (first | refine e2_step rfl rfl ?_ | refine e2m_get rfl rfl ?_ | refine e2m_ld _ rfl rfl (by omega) ?_)
      refine e2m_sto (t'.length + 1) rfl (by rw [List.length_cons]) (by omega) ?_
      refine e2_dropK (K _ (insOk_stop ?_ (fun j hj => ho j (by rw [List.length_cons]; omega)))) ⟨rfl, rfl, rfl, rfl, rfl, trivial⟩
      simp [gtC, Int32.not_lt.2 c]
    · repeat (first | refine e2_step rfl rfl ?_ | refine e2m_get rfl rfl ?_ | refine e2m_ld _ rfl rfl (by omega) ?_)
      refine e2m_ldo t'.length rfl (by rw [List.length_cons, pk_sub (by omega), Nat.add_sub_cancel]) (by omega) ?_
      rw [hoa]
      refine e2m_sto (t'.length + 1) rfl (by rw [List.length_cons]) (by omega) ?_
      repeat (first | refine e2_stepS 31 rfl rfl rfl ?_ | refine e2m_getS 31 rfl rfl rfl ?_ | refine e2m_ldS 31 rfl _ rfl rfl (by omega) ?_)
      rw [List.length_cons, pk_m1]
      refine m_lay1 hl t' (fun b hb => hR b (List.mem_cons_of_mem _ hb)) (by omega) _ (fun j hj => ?_) (fun o' ho' => K o' (insOk_go ?_ ho'))
      · rw [show upd o (t'.length + 1) (nI a) j = o j by simp [upd, show j ≠ t'.length + 1 by omega], ho j (by rw [List.length_cons]; omega)]
        conv => lhs; unfold revD
        rw [if_neg (by omega)]
      · simp [gtC, Int32.not_le.1 c]
theorem m_layByCodes {N : Nat} (hN : r 100 = nI N) (hN2 : N ≤ 120) (p w : Int32) : FM ε jX9_layByCodes [.inl p, .inl w] G r t o x (some (nI (layR (gtC r) (atr r p w) N).length)) r t (ordA (layR (gtC r) (atr r p w) N) o) x := by
  refine C2.of (ls := [some (.inr (0, 50)), some (.inl p), some (.inl w), none, none, none]) okX9_layByCodes rfl rfl ?_
  repeat (first | refine e2_stepS 5 rfl rfl rfl ?_ | refine e2m_getS 5 rfl rfl rfl ?_ | refine e2m_ldS 5 rfl _ rfl rfl (by omega) ?_)
  refine Eq.mp (congrArg (fun q => E2 ε jX9_layByCodes 5 _ [] (mG G r t q x) _) (ordA_nil o)) ?_
  refine e2_dropK (ls' := [some (.inr (0, 50)), some (.inl p), some (.inl w), some (.inl (nI 0)), some (.inl (nI 0)), none]) ?_ ⟨rfl, rfl, rfl, rfl, rfl, trivial⟩
  refine e2_for N (fun l => [some (.inr (0, 50)), some (.inl p), some (.inl w), some (.inl (nI (layR (gtC r) (atr r p w) l).length)), some (.inl (nI l)), none]) (fun l => mG G r t (ordA (layR (gtC r) (atr r p w) l) o) x) (fun l hl K => ?_) (fun M hM => ?_)
  · repeat (first | refine e2_step rfl rfl ?_ | refine e2m_get rfl rfl ?_ | refine e2m_ld _ rfl rfl (by omega) ?_)
    refine e2_if rfl rfl (fun c => absurd (hN ▸ c) (nI_ge hl (by omega))) (fun _ => ?_)
    repeat (first | refine e2_step rfl rfl ?_ | refine e2m_get rfl rfl ?_ | refine e2m_ld _ rfl rfl (by omega) ?_)
    refine e2_fi (m_isAt (l := l) (by omega) p w) rfl rfl ⟨rfl, rfl, rfl⟩ rfl rfl rfl (by first | exact hi | decide) rfl rfl rfl ?_
    repeat (first | refine e2_step rfl rfl ?_ | refine e2m_get rfl rfl ?_ | refine e2m_ld _ rfl rfl (by omega) ?_)
    have hlen : (layR (gtC r) (atr r p w) l).length ≤ l := by rw [layR_len]; exact cntB_le _ _
    simp only [layR] at K
    refine e2_if rfl rfl (fun c => ?_) (fun c => ?_)
    · rw [bI_0] at c
      rw [c] at K
      repeat (first | refine e2_stepS 5 rfl rfl rfl ?_ | refine e2m_getS 5 rfl rfl rfl ?_ | refine e2m_ldS 5 rfl _ rfl rfl (by omega) ?_)
      rw [nI_add']
      exact K
    · rw [bI_0, Bool.not_eq_false] at c
      rw [if_pos c, insR_len] at K
      repeat (first | refine e2_stepS 31 rfl rfl rfl ?_ | refine e2m_getS 31 rfl rfl rfl ?_ | refine e2m_ldS 31 rfl _ rfl rfl (by omega) ?_)
      refine m_lay1 (by omega) _ (fun a ha => ?_) (by omega) _ (fun j hj => ordA_at hj) (fun o' ho' => ?_)
      · have := (layR_mem _ _ l a).1 ha
        omega
      · rw [insOk_ord ho']
        repeat (first | refine e2_stepS 5 rfl rfl rfl ?_ | refine e2m_getS 5 rfl rfl rfl ?_ | refine e2m_ldS 5 rfl _ rfl rfl (by omega) ?_)
        rw [nI_add', nI_add']
        exact K
  · repeat (first | refine e2_step rfl rfl ?_ | refine e2m_get rfl rfl ?_ | refine e2m_ld _ rfl rfl (by omega) ?_)
    refine e2_if rfl rfl (fun c => ?_) (fun c => absurd (by rw [hN, hM]; exact Int32.le_refl _) c)
    repeat (first | refine e2_step rfl rfl ?_ | refine e2m_get rfl rfl ?_ | refine e2m_ld _ rfl rfl (by omega) ?_)
    exact e2_iret rfl rfl ⟨by rw [hM], by rw [hM]⟩
theorem m_rank' {l : Nat} (hl : l < 120) : FM ε jX9_rank [.inl (nI l)] G r t o x (some (rankr r l)) r t o x := m_rank hl
theorem m_lay2 {l n : Nat} (hl : l < 120) : ∀ (R : List Nat), (∀ a, a ∈ R → a < 120) → R.length < 120 → ∀ (o : Nat → Int32), (∀ j, j < R.length → o j = nI (revD R j)) →
    (∀ o', insOk (gtB r) R l o o' → E2 ε jX9_layBag 77 [some (.inr (0, 50)), some (.inl (nI n)), some (.inl (nI l)), none] [] (mG G r t o' x) Q) →
    E2 ε jX9_layBag 26 [some (.inr (0, 50)), some (.inl (nI n)), some (.inl (nI l)), some (.inl (nI R.length))] [] (mG G r t o x) Q
  | [], hR, hlen, o, ho, K => by
    repeat (first | refine e2_step rfl rfl ?_ | refine e2m_get rfl rfl ?_ | refine e2m_ld _ rfl rfl (by omega) ?_)
    refine e2_if rfl rfl (fun _ => ?_) (fun c => absurd (Int32.le_refl _) c)
    repeat (first | refine e2_step rfl rfl ?_ | refine e2m_get rfl rfl ?_ | refine e2m_ld _ rfl rfl (by omega) ?_)
    refine e2m_sto 0 rfl rfl (by omega) ?_
    exact e2_dropK (K _ (insOk_nil _ l o)) ⟨rfl, rfl, rfl, trivial⟩
  | a :: t', hR, hlen, o, ho, K => by
    rw [List.length_cons] at hlen
    have ha : a < 120 := hR a List.mem_cons_self
    have hoa : o t'.length = nI a := by rw [ho _ (by rw [List.length_cons]; omega)]; simp [revD]
    repeat (first | refine e2_step rfl rfl ?_ | refine e2m_get rfl rfl ?_ | refine e2m_ld _ rfl rfl (by omega) ?_)
    refine e2_if rfl rfl (fun c => absurd c (nI_nle (by rw [List.length_cons]; omega) (by rw [List.length_cons]; omega))) (fun _ => ?_)
    repeat (first | refine e2_step rfl rfl ?_ | refine e2m_get rfl rfl ?_ | refine e2m_ld _ rfl rfl (by omega) ?_)
    refine e2m_ldo t'.length rfl (by rw [List.length_cons, pk_sub (by omega), Nat.add_sub_cancel]) (by omega) ?_
    rw [hoa]
    refine e2_fi (m_rank' ha) rfl rfl ⟨rfl, rfl, rfl⟩ rfl rfl rfl (by first | exact hi | decide) rfl rfl rfl ?_
    repeat (first | refine e2_step rfl rfl ?_ | refine e2m_get rfl rfl ?_ | refine e2m_ld _ rfl rfl (by omega) ?_)
    refine e2_fi (m_rank' hl) rfl rfl ⟨rfl, rfl, rfl⟩ rfl rfl rfl (by first | exact hi | decide) rfl rfl rfl ?_
    refine e2_if rfl rfl (fun c => ?_) (fun c => ?_)
    · repeat (first | refine e2_step rfl rfl ?_ | refine e2m_get rfl rfl ?_ | refine e2m_ld _ rfl rfl (by omega) ?_)
      refine e2m_sto (t'.length + 1) rfl (by rw [List.length_cons]) (by omega) ?_
      refine e2_dropK (K _ (insOk_stop ?_ (fun j hj => ho j (by rw [List.length_cons]; omega)))) ⟨rfl, rfl, rfl, trivial⟩
      simp [gtB, Int32.not_lt.2 c]
    · repeat (first | refine e2_step rfl rfl ?_ | refine e2m_get rfl rfl ?_ | refine e2m_ld _ rfl rfl (by omega) ?_)
      refine e2m_ldo t'.length rfl (by rw [List.length_cons, pk_sub (by omega), Nat.add_sub_cancel]) (by omega) ?_
      rw [hoa]
      refine e2m_sto (t'.length + 1) rfl (by rw [List.length_cons]) (by omega) ?_
      repeat (first | refine e2_stepS 26 rfl rfl rfl ?_ | refine e2m_getS 26 rfl rfl rfl ?_ | refine e2m_ldS 26 rfl _ rfl rfl (by omega) ?_)
      rw [List.length_cons, pk_m1]
      refine m_lay2 hl t' (fun b hb => hR b (List.mem_cons_of_mem _ hb)) (by omega) _ (fun j hj => ?_) (fun o' ho' => K o' (insOk_go ?_ ho'))
      · rw [show upd o (t'.length + 1) (nI a) j = o j by simp [upd, show j ≠ t'.length + 1 by omega], ho j (by rw [List.length_cons]; omega)]
        conv => lhs; unfold revD
        rw [if_neg (by omega)]
      · simp [gtB, Int32.not_le.1 c]
def bagB (r : Nat → Int32) (l : Nat) : Bool := decide (ofr r l 3 = 0)
def bagR (r : Nat → Int32) (N : Nat) : List Nat := layR (gtB r) (bagB r) N
theorem m_layBag {N : Nat} (hN : r 100 = nI N) (hN2 : N ≤ 120) : FM ε jX9_layBag [] G r t o x (some (nI (bagR r N).length)) r t (ordA (bagR r N) o) x := by
  refine C2.of (ls := [some (.inr (0, 50)), none, none, none]) okX9_layBag rfl rfl ?_
  repeat (first | refine e2_stepS 4 rfl rfl rfl ?_ | refine e2m_getS 4 rfl rfl rfl ?_ | refine e2m_ldS 4 rfl _ rfl rfl (by omega) ?_)
  refine Eq.mp (congrArg (fun q => E2 ε jX9_layBag 4 _ [] (mG G r t q x) _) (ordA_nil o)) ?_
  refine e2_dropK (ls' := [some (.inr (0, 50)), some (.inl (nI 0)), some (.inl (nI 0)), none]) ?_ ⟨rfl, rfl, rfl, trivial⟩
  refine e2_for N (fun l => [some (.inr (0, 50)), some (.inl (nI (bagR r l).length)), some (.inl (nI l)), none]) (fun l => mG G r t (ordA (bagR r l) o) x) (fun l hl K => ?_) (fun M hM => ?_)
  · repeat (first | refine e2_step rfl rfl ?_ | refine e2m_get rfl rfl ?_ | refine e2m_ld _ rfl rfl (by omega) ?_)
    refine e2_if rfl rfl (fun c => absurd (hN ▸ c) (nI_ge hl (by omega))) (fun _ => ?_)
    repeat (first | refine e2_step rfl rfl ?_ | refine e2m_get rfl rfl ?_ | refine e2m_ld _ rfl rfl (by omega) ?_)
    refine e2_fi (m_of (l := l) (k := 3) (by omega) (by decide)) rfl rfl ⟨rfl, rfl, rfl⟩ rfl rfl rfl (by first | exact hi | decide) rfl rfl rfl ?_
    have hlen : (bagR r l).length ≤ l := by unfold bagR; rw [layR_len]; exact cntB_le _ _
    have hs : bagR r (l + 1) = if bagB r l then insR (gtB r) (bagR r l) l else bagR r l := rfl
    rw [hs] at K
    refine e2_if rfl rfl (fun c => ?_) (fun c => ?_)
    · have hb : bagB r l = false := by simp [bagB, c]
      rw [hb] at K
      repeat (first | refine e2_stepS 4 rfl rfl rfl ?_ | refine e2m_getS 4 rfl rfl rfl ?_ | refine e2m_ldS 4 rfl _ rfl rfl (by omega) ?_)
      rw [nI_add']
      exact K
    · have hb : bagB r l = true := by simp [bagB, Classical.not_not.1 c]
      rw [if_pos hb, insR_len] at K
      repeat (first | refine e2_stepS 26 rfl rfl rfl ?_ | refine e2m_getS 26 rfl rfl rfl ?_ | refine e2m_ldS 26 rfl _ rfl rfl (by omega) ?_)
      refine m_lay2 (by omega) _ (fun a ha => ?_) (by omega) _ (fun j hj => ordA_at hj) (fun o' ho' => ?_)
      · have := (layR_mem _ _ l a).1 ha
        omega
      · rw [insOk_ord ho']
        repeat (first | refine e2_stepS 4 rfl rfl rfl ?_ | refine e2m_getS 4 rfl rfl rfl ?_ | refine e2m_ldS 4 rfl _ rfl rfl (by omega) ?_)
        rw [nI_add', nI_add']
        exact K
  · repeat (first | refine e2_step rfl rfl ?_ | refine e2m_get rfl rfl ?_ | refine e2m_ld _ rfl rfl (by omega) ?_)
    refine e2_if rfl rfl (fun c => ?_) (fun c => absurd (by rw [hN, hM]; exact Int32.le_refl _) c)
    repeat (first | refine e2_step rfl rfl ?_ | refine e2m_get rfl rfl ?_ | refine e2m_ld _ rfl rfl (by omega) ?_)
    exact e2_iret rfl rfl ⟨by rw [hM], by rw [hM]⟩
end MJ
end
section
/-! The reference: a letter is sorted, an hour passes. -/
section MK
variable {ε : EE} {J : JT} {pc : Nat} {ls : List (Option V0)} {st : List V0} {G : GG} {r t o x : Nat → Int32} {Q : Option Int32 → GG → Prop}
theorem putsr_o {l : Nat} {a b : Int32} {j : Nat} (h : j ≠ 104 + 7 * l) (h2 : j ≠ 105 + 7 * l) : putsr r l a b j = r j := by
  unfold putsr seto upd
  rw [if_neg (by omega), if_neg (by omega)]
theorem putsr_lo {l : Nat} {a b : Int32} {j : Nat} (h : j < 104) : putsr r l a b j = r j := putsr_o (by omega) (by omega)
theorem putsr_hi {l : Nat} {a b : Int32} {j : Nat} (hl : l < 120) (h : 941 ≤ j) : putsr r l a b j = r j := putsr_o (by omega) (by omega)
theorem putsr_of {l : Nat} {a b : Int32} {m k : Nat} (hk : k < 3 ∨ k = 5 ∨ k = 6) : ofr (putsr r l a b) m k = ofr r m k := by
  unfold ofr
  exact putsr_o (by omega) (by omega)
theorem putsr_3 {l : Nat} {a b : Int32} {m : Nat} : ofr (putsr r l a b) m 3 = if m = l then a else ofr r m 3 := by
  unfold ofr putsr seto upd
  rw [if_neg (by omega)]
  by_cases h : m = l
  · rw [if_pos (by omega), if_pos h]
  · rw [if_neg (by omega), if_neg h]
theorem putsr_4 {l : Nat} {a b : Int32} {m : Nat} : ofr (putsr r l a b) m 4 = if m = l then b else ofr r m 4 := by
  unfold ofr putsr seto upd
  by_cases h : m = l
  · rw [if_pos (by omega), if_pos h]
  · rw [if_neg (by omega), if_neg (by omega), if_neg h]
theorem lastB_c (p : Nat → Bool) : ∀ n, lastB p n = -9 ∨ ∃ k, k < n ∧ lastB p n = nI k ∧ p k = true
  | 0 => Or.inl rfl
  | n + 1 => by
    unfold lastB
    split
    · rename_i h
      exact Or.inr ⟨n, by omega, rfl, h⟩
    · rcases lastB_c p n with h | ⟨k, h1, h2, h3⟩
      · exact Or.inl h
      · exact Or.inr ⟨k, by omega, h2, h3⟩
theorem nI_n9 {k : Nat} (h : k < 2 ^ 31) : ¬ nI k = -9 := by
  intro z
  have h1 := nI_toInt h
  rw [z] at h1
  have h2 : (-9 : Int32).toInt = -9 := by decide
  omega
/-- the walk to which letter l belongs -/
def wkr (r : Nat → Int32) (l : Nat) : Nat := (r (ofr r l 0).toNatClampNeg).toNatClampNeg
/-- codes and walks of the letters below N are in range -/
def okr (r : Nat → Int32) (N : Nat) : Prop := ∀ l, l < N → ∃ c w, c < 100 ∧ w < 8 ∧ ofr r l 0 = nI c ∧ r c = nI w
theorem okr_puts {N l : Nat} {a b : Int32} (h : okr r N) : okr (putsr r l a b) N := fun m hm => by
  obtain ⟨c, w, h1, h2, h3, h4⟩ := h m hm
  exact ⟨c, w, h1, h2, by rw [putsr_of (by omega)]; exact h3, by rw [putsr_lo (by omega)]; exact h4⟩
def sort1 (r : Nat → Int32) (N l w : Nat) : Nat → Int32 :=
  if r 949 = nI 1 then (if ofr r l 1 = nI 1 then (if lastB (secB r w) N = -9 then r else putsr (putsr r (lastB (secB r w) N).toNatClampNeg (nI 2) (nI 0)) l (nI 1) (nI w)) else r) else r
def sort2 (r : Nat → Int32) (N l : Nat) : Nat → Int32 :=
  if r 949 = nI 2 then (if (bestF (freer r N) 8).1 = -9 then r else putsr r l (nI 1) (bestF (freer r N) 8).1) else r
def sortsr (r : Nat → Int32) (N l : Nat) : Nat → Int32 :=
  if freer r N (wkr r l) ≤ 0 then sort2 (sort1 (putsr r l (nI 2) (nI 0)) N l (wkr r l)) N l else putsr r l (nI 1) (nI (wkr r l))
theorem m_sort2 {N l : Nat} (hN : r 100 = nI N) (hN2 : N ≤ 120) (hl : l < 120) (w : Int32) : E2 ε jX9_sorts 79 [some (.inr (0, 50)), some (.inl (nI l)), some (.inl w)] [] (mG G r t o x) (fun v' G' => v' = none ∧ G' = mG G (sort2 r N l) t o x) := by
  repeat (first | refine e2_step rfl rfl ?_ | refine e2m_get rfl rfl ?_ | refine e2m_ld _ rfl rfl (by omega) ?_)
  unfold sort2
  refine e2_if rfl rfl (fun c => ?_) (fun c => ?_)
  · rw [if_neg c]
    exact e2_vret rfl rfl ⟨rfl, rfl⟩
  · rw [if_pos (Classical.not_not.1 c)]
    repeat (first | refine e2_step rfl rfl ?_ | refine e2m_get rfl rfl ?_ | refine e2m_ld _ rfl rfl (by omega) ?_)
    refine e2_fi (m_freest hN hN2) rfl rfl ⟨rfl, rfl, rfl⟩ rfl rfl rfl (by first | exact hi | decide) rfl rfl rfl ?_
    repeat (first | refine e2_step rfl rfl ?_ | refine e2m_get rfl rfl ?_ | refine e2m_ld _ rfl rfl (by omega) ?_)
    refine e2_if rfl rfl (fun c2 => ?_) (fun c2 => ?_)
    · rw [if_pos c2]
      exact e2_vret rfl rfl ⟨rfl, rfl⟩
    · rw [if_neg c2]
      repeat (first | refine e2_step rfl rfl ?_ | refine e2m_get rfl rfl ?_ | refine e2m_ld _ rfl rfl (by omega) ?_)
      refine e2_fi (m_freest hN hN2) rfl rfl ⟨rfl, rfl, rfl⟩ rfl rfl rfl (by first | exact hi | decide) rfl rfl rfl ?_
      refine e2_fv (m_puts hl (nI 1) (bestF (freer r N) 8).1) rfl rfl ⟨rfl, rfl, rfl⟩ rfl rfl rfl (by first | exact hi | decide) rfl rfl rfl ?_
      exact e2_vret rfl rfl ⟨rfl, rfl⟩
theorem m_sorts {N l : Nat} (hN : r 100 = nI N) (hN2 : N ≤ 120) (hl : l < N) (hok : okr r N) : FM ε jX9_sorts [.inl (nI l)] G r t o x none (sortsr r N l) t o x := by
  obtain ⟨c, w, hc, hw, h1, h2⟩ := hok l hl
  have hwk : wkr r l = w := by unfold wkr; rw [h1, nI_clamp (by omega), h2, nI_clamp (by omega)]
  have hl2 : l < 120 := by omega
  unfold sortsr
  rw [hwk]
  refine C2.of (ls := [some (.inr (0, 50)), some (.inl (nI l)), none]) okX9_sorts rfl rfl ?_
  repeat (first | refine e2_step rfl rfl ?_ | refine e2m_get rfl rfl ?_ | refine e2m_ld _ rfl rfl (by omega) ?_)
  refine e2_fi (m_walkOf hl2 hc h1) rfl rfl ⟨rfl, rfl, rfl⟩ rfl rfl rfl (by first | exact hi | decide) rfl rfl rfl ?_
  repeat (first | refine e2_step rfl rfl ?_ | refine e2m_get rfl rfl ?_ | refine e2m_ld _ rfl rfl (by omega) ?_)
  rw [h2]
  refine e2_fi (m_free hN hN2 hw) rfl rfl ⟨rfl, rfl, rfl⟩ rfl rfl rfl (by first | exact hi | decide) rfl rfl rfl ?_
  refine e2_if rfl rfl (fun z => ?_) (fun z => ?_)
  · rw [if_pos z]
    repeat (first | refine e2_step rfl rfl ?_ | refine e2m_get rfl rfl ?_ | refine e2m_ld _ rfl rfl (by omega) ?_)
    refine e2_fv (m_puts hl2 (nI 2) (nI 0)) rfl rfl ⟨rfl, rfl, rfl⟩ rfl rfl rfl (by first | exact hi | decide) rfl rfl rfl ?_
    have hN' : putsr r l (nI 2) (nI 0) 100 = nI N := by rw [putsr_lo (by omega)]; exact hN
    generalize hr1 : putsr r l (nI 2) (nI 0) = r1 at hN' ⊢
    unfold sort1
    repeat (first | refine e2_step rfl rfl ?_ | refine e2m_get rfl rfl ?_ | refine e2m_ld _ rfl rfl (by omega) ?_)
    refine e2_if rfl rfl (fun c1 => ?_) (fun c1 => ?_)
    · rw [if_neg c1]
      exact m_sort2 hN' hN2 hl2 _
    · rw [if_pos (Classical.not_not.1 c1)]
      repeat (first | refine e2_step rfl rfl ?_ | refine e2m_get rfl rfl ?_ | refine e2m_ld _ rfl rfl (by omega) ?_)
      refine e2_fi (m_of hl2 (k := 1) (by decide)) rfl rfl ⟨rfl, rfl, rfl⟩ rfl rfl rfl (by first | exact hi | decide) rfl rfl rfl ?_
      repeat (first | refine e2_step rfl rfl ?_ | refine e2m_get rfl rfl ?_ | refine e2m_ld _ rfl rfl (by omega) ?_)
      refine e2_if rfl rfl (fun c2 => ?_) (fun c2 => ?_)
      · rw [if_neg c2]
        exact m_sort2 hN' hN2 hl2 _
      · rw [if_pos (Classical.not_not.1 c2)]
        repeat (first | refine e2_step rfl rfl ?_ | refine e2m_get rfl rfl ?_ | refine e2m_ld _ rfl rfl (by omega) ?_)
        refine e2_fi (m_lastSecond hN' hN2) rfl rfl ⟨rfl, rfl, rfl⟩ rfl rfl rfl (by first | exact hi | decide) rfl rfl rfl ?_
        repeat (first | refine e2_step rfl rfl ?_ | refine e2m_get rfl rfl ?_ | refine e2m_ld _ rfl rfl (by omega) ?_)
        refine e2_if rfl rfl (fun c3 => ?_) (fun c3 => ?_)
        · rw [if_pos c3]
          exact m_sort2 hN' hN2 hl2 _
        · rw [if_neg c3]
          repeat (first | refine e2_step rfl rfl ?_ | refine e2m_get rfl rfl ?_ | refine e2m_ld _ rfl rfl (by omega) ?_)
          refine e2_fi (m_lastSecond hN' hN2) rfl rfl ⟨rfl, rfl, rfl⟩ rfl rfl rfl (by first | exact hi | decide) rfl rfl rfl ?_
          rcases lastB_c (secB r1 w) N with h9 | ⟨k, k1, k2, -⟩
          · exact absurd h9 c3
          · rw [k2, nI_clamp (by omega)]
            repeat (first | refine e2_step rfl rfl ?_ | refine e2m_get rfl rfl ?_ | refine e2m_ld _ rfl rfl (by omega) ?_)
            refine e2_fv (m_puts (l := k) (by omega) (nI 2) (nI 0)) rfl rfl ⟨rfl, rfl, rfl⟩ rfl rfl rfl (by first | exact hi | decide) rfl rfl rfl ?_
            repeat (first | refine e2_step rfl rfl ?_ | refine e2m_get rfl rfl ?_ | refine e2m_ld _ rfl rfl (by omega) ?_)
            refine e2_fv (m_puts hl2 (nI 1) (nI w)) rfl rfl ⟨rfl, rfl, rfl⟩ rfl rfl rfl (by first | exact hi | decide) rfl rfl rfl ?_
            exact m_sort2 (by rw [putsr_lo (by omega), putsr_lo (by omega)]; exact hN') hN2 hl2 _
  · rw [if_neg z]
    repeat (first | refine e2_step rfl rfl ?_ | refine e2m_get rfl rfl ?_ | refine e2m_ld _ rfl rfl (by omega) ?_)
    refine e2_fv (m_puts hl2 (nI 1) (nI w)) rfl rfl ⟨rfl, rfl, rfl⟩ rfl rfl rfl (by first | exact hi | decide) rfl rfl rfl ?_
    exact e2_vret rfl rfl ⟨rfl, rfl⟩
/-- letters of the overflow below n go to the bag -/
def ovr (r : Nat → Int32) : Nat → Nat → Int32
  | 0 => r
  | n + 1 => if ofr (ovr r n) n 3 = nI 2 then putsr (ovr r n) n (nI 0) (nI 0) else ovr r n
/-- the first k of an order are sorted -/
def srts (r : Nat → Int32) (N : Nat) (R : List Nat) : Nat → Nat → Int32
  | 0 => r
  | k + 1 => sortsr (srts r N R k) N (revD R k)
def hoursr (r : Nat → Int32) (N : Nat) : Nat → Int32 := srts (ovr (upd r 952 (r 952 + nI 1)) N) N (bagR (ovr (upd r 952 (r 952 + nI 1)) N) N) (min (bagR (ovr (upd r 952 (r 952 + nI 1)) N) N).length (r 950).toNatClampNeg)
/-- what no step of sorting touches: all but places and where letters are -/
def same34 (r r' : Nat → Int32) : Prop := (∀ j, j < 101 ∨ 941 ≤ j → r' j = r j) ∧ ∀ l k, l < 120 → k < 3 ∨ k = 5 ∨ k = 6 → ofr r' l k = ofr r l k
theorem same34.rf (r : Nat → Int32) : same34 r r := ⟨fun _ _ => rfl, fun _ _ _ _ => rfl⟩
theorem same34.tr {a b c : Nat → Int32} (h : same34 a b) (h2 : same34 b c) : same34 a c := ⟨fun j hj => (h2.1 j hj).trans (h.1 j hj), fun l k hl hk => (h2.2 l k hl hk).trans (h.2 l k hl hk)⟩
theorem same34.puts {l : Nat} (hl : l < 120) (a b : Int32) : same34 r (putsr r l a b) := ⟨fun j hj => by
  rcases hj with h | h
  · exact putsr_lo (by omega)
  · exact putsr_hi hl h, fun m k _ hk => putsr_of hk⟩
theorem same34.okr {r' : Nat → Int32} {N : Nat} (h : same34 r r') (hN2 : N ≤ 120) (hk : okr r N) : okr r' N := fun l hl => by
  obtain ⟨c, w, h1, h2, h3, h4⟩ := hk l hl
  exact ⟨c, w, h1, h2, by rw [h.2 l 0 (by omega) (by omega)]; exact h3, by rw [h.1 c (by omega)]; exact h4⟩
theorem sortsr_same {N l : Nat} (hl : l < 120) (hN2 : N ≤ 120) : same34 r (sortsr r N l) := by
  unfold sortsr
  split
  · refine (same34.puts hl (nI 2) (nI 0)).tr ?_
    generalize putsr r l (nI 2) (nI 0) = r1
    refine same34.tr (b := sort1 r1 N l (wkr r l)) ?_ ?_
    · unfold sort1
      repeat' split
      · exact same34.rf _
      · rename_i h9
        rcases lastB_c (secB r1 (wkr r l)) N with h | ⟨k, k1, k2, -⟩
        · exact absurd h h9
        · rw [k2, nI_clamp (by omega)]
          exact (same34.puts (by omega) _ _).tr (same34.puts hl _ _)
      · exact same34.rf _
      · exact same34.rf _
    · generalize sort1 r1 N l (wkr r l) = r2
      unfold sort2
      repeat' split
      · exact same34.rf _
      · exact same34.puts hl _ _
      · exact same34.rf _
  · exact same34.puts hl _ _
theorem ovr_same : ∀ n, n ≤ 120 → same34 r (ovr r n)
  | 0, _ => same34.rf r
  | n + 1, h => by
    unfold ovr
    split
    · exact (ovr_same n (by omega)).tr (same34.puts (by omega) _ _)
    · exact ovr_same n (by omega)
theorem srts_same {N : Nat} {R : List Nat} (hN2 : N ≤ 120) (hR : ∀ a, a ∈ R → a < N) : ∀ k, k ≤ R.length → same34 r (srts r N R k)
  | 0, _ => same34.rf r
  | k + 1, h => (srts_same hN2 hR k (by omega)).tr (sortsr_same (by have := hR _ (revD_mem R k (by omega)); omega) hN2)
theorem bagR_lt {N : Nat} : ∀ a, a ∈ bagR r N → a < N := fun a h => ((layR_mem _ _ N a).1 h).1
set_option maxHeartbeats 2000000 in
theorem m_hours {N s : Nat} (hN : r 100 = nI N) (hN2 : N ≤ 120) (hok : okr r N) (hs : r 950 = nI s) (hs2 : s < 1000) : FM ε jX9_hours [] G r t o x (some (nI (cntB (fun l => decide (ofr (hoursr r N) l 3 = nI 2)) N))) (hoursr r N) t (ordA (bagR (ovr (upd r 952 (r 952 + nI 1)) N) N) o) x := by
  refine C2.of (ls := [some (.inr (0, 50)), none, none]) okX9_hours rfl rfl ?_
  repeat (first | refine e2_step rfl rfl ?_ | refine e2m_get rfl rfl ?_ | refine e2m_ld _ rfl rfl (by omega) ?_)
  refine e2m_st 952 rfl rfl (by omega) ?_
  have hu : ∀ j, j ≠ 952 → upd r 952 (r 952 + nI 1) j = r j := fun j hj => by simp [upd, hj]
  have hu34 : ∀ l k, l < 120 → k < 7 → ofr (upd r 952 (r 952 + nI 1)) l k = ofr r l k := fun l k h h2 => hu _ (by omega)
  unfold hoursr
  have hok1 : okr (upd r 952 (r 952 + nI 1)) N := fun l hl => by
    obtain ⟨c, w, h1, h2, h3, h4⟩ := hok l hl
    exact ⟨c, w, h1, h2, by rw [hu34 l 0 (by omega) (by omega)]; exact h3, by rw [hu c (by omega)]; exact h4⟩
  have hN1 : upd r 952 (r 952 + nI 1) 100 = nI N := by rw [hu 100 (by decide)]; exact hN
  have hs1 : upd r 952 (r 952 + nI 1) 950 = nI s := by rw [hu 950 (by decide)]; exact hs
  generalize hr1 : upd r 952 (r 952 + nI 1) = r1 at hok1 hN1 hs1 ⊢
  repeat (first | refine e2_stepS 14 rfl rfl rfl ?_ | refine e2m_getS 14 rfl rfl rfl ?_ | refine e2m_ldS 14 rfl _ rfl rfl (by omega) ?_)
  refine e2_dropK (ls' := [some (.inr (0, 50)), some (.inl (nI 0)), none]) ?_ ⟨rfl, rfl, trivial⟩
  refine e2_for N (fun l => [some (.inr (0, 50)), some (.inl (nI l)), none]) (fun l => mG G (ovr r1 l) t o x) (fun l hl K => ?_) (fun M hM => ?_)
  · have hN' : ovr r1 l 100 = nI N := by rw [(ovr_same l (by omega)).1 100 (by omega)]; exact hN1
    repeat (first | refine e2_step rfl rfl ?_ | refine e2m_get rfl rfl ?_ | refine e2m_ld _ rfl rfl (by omega) ?_)
    refine e2_if rfl rfl (fun c => absurd (hN' ▸ c) (nI_ge hl (by omega))) (fun _ => ?_)
    repeat (first | refine e2_step rfl rfl ?_ | refine e2m_get rfl rfl ?_ | refine e2m_ld _ rfl rfl (by omega) ?_)
    refine e2_fi (m_of (l := l) (k := 3) (by omega) (by decide)) rfl rfl ⟨rfl, rfl, rfl⟩ rfl rfl rfl (by first | exact hi | decide) rfl rfl rfl ?_
    repeat (first | refine e2_step rfl rfl ?_ | refine e2m_get rfl rfl ?_ | refine e2m_ld _ rfl rfl (by omega) ?_)
    simp only [ovr] at K
    refine e2_if rfl rfl (fun c => ?_) (fun c => ?_)
    · rw [if_neg c] at K
      repeat (first | refine e2_stepS 14 rfl rfl rfl ?_ | refine e2m_getS 14 rfl rfl rfl ?_ | refine e2m_ldS 14 rfl _ rfl rfl (by omega) ?_)
      rw [nI_add']
      exact K
    · rw [if_pos (Classical.not_not.1 c)] at K
      repeat (first | refine e2_step rfl rfl ?_ | refine e2m_get rfl rfl ?_ | refine e2m_ld _ rfl rfl (by omega) ?_)
      refine e2_fv (m_puts (l := l) (by omega) (nI 0) (nI 0)) rfl rfl ⟨rfl, rfl, rfl⟩ rfl rfl rfl (by first | exact hi | decide) rfl rfl rfl ?_
      repeat (first | refine e2_stepS 14 rfl rfl rfl ?_ | refine e2m_getS 14 rfl rfl rfl ?_ | refine e2m_ldS 14 rfl _ rfl rfl (by omega) ?_)
      rw [nI_add']
      exact K
  · subst hM
    have hsm := ovr_same (r := r1) M hN2
    have hN' : ovr r1 M 100 = nI M := by rw [hsm.1 100 (by omega)]; exact hN1
    have hs' : ovr r1 M 950 = nI s := by rw [hsm.1 950 (by omega)]; exact hs1
    have hok' := hsm.okr hN2 hok1
    repeat (first | refine e2_step rfl rfl ?_ | refine e2m_get rfl rfl ?_ | refine e2m_ld _ rfl rfl (by omega) ?_)
    refine e2_if rfl rfl (fun c => ?_) (fun c => absurd (by rw [hN']; exact Int32.le_refl _) c)
    repeat (first | refine e2_step rfl rfl ?_ | refine e2m_get rfl rfl ?_ | refine e2m_ld _ rfl rfl (by omega) ?_)
    refine e2_fi (m_layBag hN' hN2) rfl rfl ⟨rfl, rfl, rfl⟩ rfl rfl rfl (by first | exact hi | decide) rfl rfl rfl ?_
    have hRl : (bagR (ovr r1 M) M).length ≤ M := by unfold bagR; rw [layR_len]; exact cntB_le _ _
    rw [hs, nI_clamp (by omega)]
    have hRlt : ∀ a, a ∈ bagR (ovr r1 M) M → a < M := bagR_lt
    generalize hr2 : ovr r1 M = r2 at hN' hs' hok' hRl hRlt ⊢
    generalize hR : bagR r2 M = R at hRl hRlt ⊢
    repeat (first | refine e2_stepS 55 rfl rfl rfl ?_ | refine e2m_getS 55 rfl rfl rfl ?_ | refine e2m_ldS 55 rfl _ rfl rfl (by omega) ?_)
    refine e2_for (min R.length s) (fun k => [some (.inr (0, 50)), some (.inl (nI R.length)), some (.inl (nI k))]) (fun k => mG G (srts r2 M R k) t (ordA R o) x) (fun k hk K => ?_) (fun M' hM' => ?_)
    · have hsm2 := srts_same (r := r2) hN2 hRlt k (by omega)
      repeat (first | refine e2_step rfl rfl ?_ | refine e2m_get rfl rfl ?_ | refine e2m_ld _ rfl rfl (by omega) ?_)
      refine e2_if rfl rfl (fun c => absurd c (nI_ge (by omega) (by omega))) (fun _ => ?_)
      repeat (first | refine e2_step rfl rfl ?_ | refine e2m_get rfl rfl ?_ | refine e2m_ld _ rfl rfl (by omega) ?_)
      rw [hsm2.1 950 (by omega), hs']
      refine e2_if rfl rfl (fun c => absurd c (nI_ge (by omega) (by omega))) (fun _ => ?_)
      repeat (first | refine e2_step rfl rfl ?_ | refine e2m_get rfl rfl ?_ | refine e2m_ld _ rfl rfl (by omega) ?_)
      refine e2m_ldo k rfl rfl (by omega) ?_
      rw [ordA_at (by omega)]
      refine e2_fv (m_sorts (l := revD R k) (by rw [hsm2.1 100 (by omega)]; exact hN') hN2 (hRlt _ (revD_mem R k (by omega))) (hsm2.okr hN2 hok')) rfl rfl ⟨rfl, rfl, rfl⟩ rfl rfl rfl (by first | exact hi | decide) rfl rfl rfl ?_
      repeat (first | refine e2_stepS 55 rfl rfl rfl ?_ | refine e2m_getS 55 rfl rfl rfl ?_ | refine e2m_ldS 55 rfl _ rfl rfl (by omega) ?_)
      rw [nI_add']
      exact K
    · have hsm2 := srts_same (r := r2) hN2 hRlt M' (by omega)
      have hfin : E2 ε jX9_hours 88 [some (.inr (0, 50)), some (.inl (nI R.length)), some (.inl (nI M'))] [] (mG G (srts r2 M R M') t (ordA R o) x) (fun v' G' => v' = some (nI (cntB (fun l => decide (ofr (srts r2 M R (min R.length s)) l 3 = nI 2)) M)) ∧ G' = mG G (srts r2 M R (min R.length s)) t (ordA R o) x) := by
        repeat (first | refine e2_step rfl rfl ?_ | refine e2m_get rfl rfl ?_ | refine e2m_ld _ rfl rfl (by omega) ?_)
        refine e2_fi (m_countIn (by rw [hsm2.1 100 (by omega)]; exact hN') hN2 (nI 2)) rfl rfl ⟨rfl, rfl, rfl⟩ rfl rfl rfl (by first | exact hi | decide) rfl rfl rfl ?_
        exact e2_iret rfl rfl ⟨by rw [hM'], by rw [hM']⟩
      repeat (first | refine e2_step rfl rfl ?_ | refine e2m_get rfl rfl ?_ | refine e2m_ld _ rfl rfl (by omega) ?_)
      refine e2_if rfl rfl (fun c => hfin) (fun c => ?_)
      repeat (first | refine e2_step rfl rfl ?_ | refine e2m_get rfl rfl ?_ | refine e2m_ld _ rfl rfl (by omega) ?_)
      rw [hsm2.1 950 (by omega), hs']
      refine e2_if rfl rfl (fun c2 => hfin) (fun c2 => ?_)
      rw [nI_leI (by omega) (by omega)] at c c2
      exact absurd hM' (by omega)
end MK
end
section
/-! The reference: rounds. -/
section ML
variable {ε : EE} {J : JT} {pc : Nat} {ls : List (Option V0)} {st : List V0} {G : GG} {r t o x : Nat → Int32} {Q : Option Int32 → GG → Prop}
theorem wkr_of {N l : Nat} (hok : okr r N) (hl : l < N) : ∃ c, c < 100 ∧ ofr r l 0 = nI c ∧ r c = nI (wkr r l) ∧ wkr r l < 8 := by
  obtain ⟨c, w, h1, h2, h3, h4⟩ := hok l hl
  have hwk : wkr r l = w := by unfold wkr; rw [h3, nI_clamp (by omega), h4, nI_clamp (by omega)]
  exact ⟨c, h1, h3, by rw [hwk]; exact h4, by rw [hwk]; exact h2⟩
theorem m_walkOfk {N l : Nat} (hok : okr r N) (hN2 : N ≤ 120) (hl : l < N) : FM ε jX9_walkOf [.inl (nI l)] G r t o x (some (nI (wkr r l))) r t o x := by
  obtain ⟨c, h1, h2, h3, -⟩ := wkr_of hok hl
  rw [← h3]
  exact m_walkOf (by omega) h1 h2
theorem firstFrom_c (p : Nat → Bool) : ∀ k w, firstFrom p k w = -9 ∨ ∃ j, w ≤ j ∧ j < w + k ∧ firstFrom p k w = nI j ∧ p j = true
  | 0, w => Or.inl rfl
  | k + 1, w => by
    unfold firstFrom
    split
    · rename_i h
      exact Or.inr ⟨w, by omega, by omega, rfl, h⟩
    · rcases firstFrom_c p k (w + 1) with h | ⟨j, h1, h2, h3, h4⟩
      · exact Or.inl h
      · exact Or.inr ⟨j, by omega, by omega, h3, h4⟩
def canGoB (r : Nat → Int32) (N c : Nat) : Bool := decide (¬ walkByr r (nI c) = -9) && (decide (r (1011 + c) = 0) && decide (¬ nI (cntB (atr r (nI 1) (walkByr r (nI c))) N) ≤ 0))
theorem m_canGo {N c : Nat} (hN : r 100 = nI N) (hN2 : N ≤ 120) (hc : c < 6) : FM ε jX9_canGo [.inl (nI c)] G r t o x (some (bI (canGoB r N c))) r t o x := by
  refine C2.of (ls := [some (.inr (0, 50)), some (.inl (nI c)), none]) okX9_canGo rfl rfl ?_
  repeat (first | refine e2_step rfl rfl ?_ | refine e2m_get rfl rfl ?_ | refine e2m_ld _ rfl rfl (by omega) ?_)
  refine e2_fi (m_walkBy (nI c)) rfl rfl ⟨rfl, rfl, rfl⟩ rfl rfl rfl (by first | exact hi | decide) rfl rfl rfl ?_
  repeat (first | refine e2_step rfl rfl ?_ | refine e2m_get rfl rfl ?_ | refine e2m_ld _ rfl rfl (by omega) ?_)
  refine e2_if rfl rfl (fun z => ?_) (fun z => ?_)
  · repeat (first | refine e2_step rfl rfl ?_ | refine e2m_get rfl rfl ?_ | refine e2m_ld _ rfl rfl (by omega) ?_)
    refine e2_zret rfl rfl rfl ⟨?_, rfl⟩
    simp [canGoB, z]; rfl
  · repeat (first | refine e2_step rfl rfl ?_ | refine e2m_get rfl rfl ?_ | refine e2m_ld _ rfl rfl (by omega) ?_)
    rw [nI_add']
    repeat (first | refine e2_step rfl rfl ?_ | refine e2m_get rfl rfl ?_ | refine e2m_ld _ rfl rfl (by omega) ?_)
    refine e2_if rfl rfl (fun z2 => ?_) (fun z2 => ?_)
    · repeat (first | refine e2_step rfl rfl ?_ | refine e2m_get rfl rfl ?_ | refine e2m_ld _ rfl rfl (by omega) ?_)
      refine e2_zret rfl rfl rfl ⟨?_, rfl⟩
      simp [canGoB, z2]; rfl
    · repeat (first | refine e2_step rfl rfl ?_ | refine e2m_get rfl rfl ?_ | refine e2m_ld _ rfl rfl (by omega) ?_)
      refine e2_fi (m_countAt hN hN2 (nI 1) (walkByr r (nI c))) rfl rfl ⟨rfl, rfl, rfl⟩ rfl rfl rfl (by first | exact hi | decide) rfl rfl rfl ?_
      refine e2_if rfl rfl (fun z3 => ?_) (fun z3 => ?_)
      · repeat (first | refine e2_step rfl rfl ?_ | refine e2m_get rfl rfl ?_ | refine e2m_ld _ rfl rfl (by omega) ?_)
        refine e2_zret rfl rfl rfl ⟨?_, rfl⟩
        simp [canGoB, z3]; rfl
      · repeat (first | refine e2_step rfl rfl ?_ | refine e2m_get rfl rfl ?_ | refine e2m_ld _ rfl rfl (by omega) ?_)
        refine e2_zret rfl rfl rfl ⟨?_, rfl⟩
        simp only [canGoB, z, z3, Classical.not_not.1 z2, not_false_eq_true, decide_true, Bool.and_self]; rfl
def goR (r : Nat → Int32) (R : List Nat) (c : Int32) : Nat → Nat → Int32
  | 0 => r
  | k + 1 => putsr (goR r R c k) (revD R k) (nI 3) c
theorem goR_same {R : List Nat} {c : Int32} (hR : ∀ a, a ∈ R → a < 120) : ∀ k, k ≤ R.length → same34 r (goR r R c k)
  | 0, _ => same34.rf r
  | k + 1, h => (goR_same hR k (by omega)).tr (same34.puts (hR _ (revD_mem R k (by omega))) _ _)
/-- the letters of a place, by codes and numbers, last first -/
def atR (r : Nat → Int32) (N : Nat) (p w : Int32) : List Nat := layR (gtC r) (atr r p w) N
theorem atR_lt {N : Nat} {p w : Int32} : ∀ a, a ∈ atR r N p w → a < N := fun a h => ((layR_mem _ _ N a).1 h).1
theorem atR_len {N : Nat} {p w : Int32} : (atR r N p w).length ≤ N := by unfold atR; rw [layR_len]; exact cntB_le _ _
def goesn (r : Nat → Int32) (N c : Nat) : Nat := min (atR r N (nI 1) (walkByr r (nI c))).length (r 951).toNatClampNeg
def goesr (r : Nat → Int32) (N c : Nat) : Nat → Int32 := upd (goR r (atR r N (nI 1) (walkByr r (nI c))) (nI c) (goesn r N c)) (1011 + c) (nI 1)
theorem m_goes {N c s : Nat} (hN : r 100 = nI N) (hN2 : N ≤ 120) (hc : c < 6) (hs : r 951 = nI s) (hs2 : s < 1000) : FM ε jX9_goes [.inl (nI c)] G r t o x (some (nI (goesn r N c))) (goesr r N c) t (ordA (atR r N (nI 1) (walkByr r (nI c))) o) x := by
  have hRl : (atR r N (nI 1) (walkByr r (nI c))).length ≤ N := atR_len
  have hRlt : ∀ a, a ∈ atR r N (nI 1) (walkByr r (nI c)) → a < N := atR_lt
  have hlay := fun (G : GG) => m_layByCodes (ε := ε) (G := G) (t := t) (o := o) (x := x) hN hN2 (nI 1) (walkByr r (nI c))
  have hn : goesn r N c = min (atR r N (nI 1) (walkByr r (nI c))).length s := by unfold goesn; rw [hs, nI_clamp (by omega)]
  unfold goesr
  rw [hn]
  change ∀ (G : GG), FM ε jX9_layByCodes [.inl (nI 1), .inl (walkByr r (nI c))] G r t o x (some (nI (atR r N (nI 1) (walkByr r (nI c))).length)) r t (ordA (atR r N (nI 1) (walkByr r (nI c))) o) x at hlay
  generalize hR : atR r N (nI 1) (walkByr r (nI c)) = R at hRl hRlt hlay ⊢
  refine C2.of (ls := [some (.inr (0, 50)), some (.inl (nI c)), none, none]) okX9_goes rfl rfl ?_
  repeat (first | refine e2_step rfl rfl ?_ | refine e2m_get rfl rfl ?_ | refine e2m_ld _ rfl rfl (by omega) ?_)
  refine e2_fi (m_walkBy (nI c)) rfl rfl ⟨rfl, rfl, rfl⟩ rfl rfl rfl (by first | exact hi | decide) rfl rfl rfl ?_
  refine e2_fi (hlay G) rfl rfl ⟨rfl, rfl, rfl⟩ rfl rfl rfl (by first | exact hi | decide) rfl rfl rfl ?_
  repeat (first | refine e2_step rfl rfl ?_ | refine e2m_get rfl rfl ?_ | refine e2m_ld _ rfl rfl (by omega) ?_)
  have hmin : ∀ st', st' = nI (min R.length s) → E2 ε jX9_goes 35 [some (.inr (0, 50)), some (.inl (nI c)), some (.inl (nI R.length)), none] [.inl st'] (mG G r t (ordA R o) x) (fun v' G' => v' = some (nI (min R.length s)) ∧ G' = mG G (upd (goR r R (nI c) (min R.length s)) (1011 + c) (nI 1)) t (ordA R o) x) := by
    intro st' hst
    subst hst
    repeat (first | refine e2_stepS 38 rfl rfl rfl ?_ | refine e2m_getS 38 rfl rfl rfl ?_ | refine e2m_ldS 38 rfl _ rfl rfl (by omega) ?_)
    refine e2_for (min R.length s) (fun k => [some (.inr (0, 50)), some (.inl (nI c)), some (.inl (nI (min R.length s))), some (.inl (nI k))]) (fun k => mG G (goR r R (nI c) k) t (ordA R o) x) (fun k hk K => ?_) (fun M hM => ?_)
    · repeat (first | refine e2_step rfl rfl ?_ | refine e2m_get rfl rfl ?_ | refine e2m_ld _ rfl rfl (by omega) ?_)
      refine e2_if rfl rfl (fun z => absurd z (nI_ge hk (by omega))) (fun _ => ?_)
      repeat (first | refine e2_step rfl rfl ?_ | refine e2m_get rfl rfl ?_ | refine e2m_ld _ rfl rfl (by omega) ?_)
      refine e2m_ldo k rfl rfl (by omega) ?_
      rw [ordA_at (by omega)]
      repeat (first | refine e2_step rfl rfl ?_ | refine e2m_get rfl rfl ?_ | refine e2m_ld _ rfl rfl (by omega) ?_)
      have := hRlt _ (revD_mem R k (by omega))
      refine e2_fv (m_puts (l := revD R k) (by omega) (nI 3) (nI c)) rfl rfl ⟨rfl, rfl, rfl⟩ rfl rfl rfl (by first | exact hi | decide) rfl rfl rfl ?_
      repeat (first | refine e2_stepS 38 rfl rfl rfl ?_ | refine e2m_getS 38 rfl rfl rfl ?_ | refine e2m_ldS 38 rfl _ rfl rfl (by omega) ?_)
      rw [nI_add']
      exact K
    · repeat (first | refine e2_step rfl rfl ?_ | refine e2m_get rfl rfl ?_ | refine e2m_ld _ rfl rfl (by omega) ?_)
      refine e2_if rfl rfl (fun _ => ?_) (fun z => absurd (by rw [hM]; exact Int32.le_refl _) z)
      repeat (first | refine e2_step rfl rfl ?_ | refine e2m_get rfl rfl ?_ | refine e2m_ld _ rfl rfl (by omega) ?_)
      refine e2m_st (1011 + c) rfl (by rw [nI_add']) (by omega) ?_
      repeat (first | refine e2_step rfl rfl ?_ | refine e2m_get rfl rfl ?_ | refine e2m_ld _ rfl rfl (by omega) ?_)
      exact e2_iret rfl rfl ⟨rfl, by rw [hM]⟩
  rw [hs]
  refine e2_if rfl rfl (fun z => ?_) (fun z => ?_)
  · rw [nI_leI (by omega) (by omega)] at z
    repeat (first | refine e2_stepS 35 rfl rfl rfl ?_ | refine e2m_getS 35 rfl rfl rfl ?_ | refine e2m_ldS 35 rfl _ rfl rfl (by omega) ?_)
    rw [hs]
    exact hmin _ (by rw [Nat.min_eq_right z])
  · rw [nI_leI (by omega) (by omega)] at z
    repeat (first | refine e2_stepS 35 rfl rfl rfl ?_ | refine e2m_getS 35 rfl rfl rfl ?_ | refine e2m_ldS 35 rfl _ rfl rfl (by omega) ?_)
    exact hmin _ (by rw [Nat.min_eq_left (by omega)])
def endsr (r : Nat → Int32) (l : Nat) (p : Int32) : Nat → Int32 := seto (putsr r l p (nI 0)) l 6 (r 952)
theorem m_ends {l : Nat} (hl : l < 120) (p : Int32) : FM ε jX9_ends [.inl (nI l), .inl p] G r t o x none (endsr r l p) t o x := by
  refine C2.of (ls := [some (.inr (0, 50)), some (.inl (nI l)), some (.inl p)]) okX9_ends rfl rfl ?_
  repeat (first | refine e2_step rfl rfl ?_ | refine e2m_get rfl rfl ?_ | refine e2m_ld _ rfl rfl (by omega) ?_)
  refine e2_fv (m_puts hl p (nI 0)) rfl rfl ⟨rfl, rfl, rfl⟩ rfl rfl rfl (by first | exact hi | decide) rfl rfl rfl ?_
  repeat (first | refine e2_step rfl rfl ?_ | refine e2m_get rfl rfl ?_ | refine e2m_ld _ rfl rfl (by omega) ?_)
  rw [putsr_hi hl (by omega)]
  refine e2_fv (m_set hl (k := 6) (by decide) (r 952)) rfl rfl ⟨rfl, rfl, rfl⟩ rfl rfl rfl (by first | exact hi | decide) rfl rfl rfl ?_
  exact e2_vret rfl rfl ⟨rfl, rfl⟩
def mis1 (r : Nat → Int32) (l : Nat) : Nat → Int32 := seto (upd r 953 (r 953 + nI 1)) l 2 (ofr r l 2 + nI 1)
def misr (r : Nat → Int32) (l : Nat) : Nat → Int32 := if ofr r l 2 + nI 1 = nI 3 then endsr (mis1 r l) l (nI 5) else putsr (mis1 r l) l (nI 0) (nI 0)
theorem m_misroutes {l : Nat} (hl : l < 120) : FM ε jX9_misroutes [.inl (nI l)] G r t o x none (misr r l) t o x := by
  refine C2.of (ls := [some (.inr (0, 50)), some (.inl (nI l))]) okX9_misroutes rfl rfl ?_
  repeat (first | refine e2_step rfl rfl ?_ | refine e2m_get rfl rfl ?_ | refine e2m_ld _ rfl rfl (by omega) ?_)
  refine e2m_st 953 rfl rfl (by omega) ?_
  have h1 : ofr (upd r 953 (r 953 + nI 1)) l 2 = ofr r l 2 := by unfold ofr upd; rw [if_neg (by omega)]
  repeat (first | refine e2_step rfl rfl ?_ | refine e2m_get rfl rfl ?_ | refine e2m_ld _ rfl rfl (by omega) ?_)
  refine e2_fi (m_of hl (k := 2) (by decide)) rfl rfl ⟨rfl, rfl, rfl⟩ rfl rfl rfl (by first | exact hi | decide) rfl rfl rfl ?_
  rw [h1]
  repeat (first | refine e2_step rfl rfl ?_ | refine e2m_get rfl rfl ?_ | refine e2m_ld _ rfl rfl (by omega) ?_)
  refine e2_fv (m_set hl (k := 2) (by decide) (ofr r l 2 + nI 1)) rfl rfl ⟨rfl, rfl, rfl⟩ rfl rfl rfl (by first | exact hi | decide) rfl rfl rfl ?_
  have h2 : ofr (mis1 r l) l 2 = ofr r l 2 + nI 1 := by unfold mis1 ofr seto upd; rw [if_pos (by omega)]
  change E2 ε jX9_misroutes 26 _ _ (mG G (mis1 r l) t o x) _
  repeat (first | refine e2_step rfl rfl ?_ | refine e2m_get rfl rfl ?_ | refine e2m_ld _ rfl rfl (by omega) ?_)
  refine e2_fi (m_of hl (k := 2) (by decide)) rfl rfl ⟨rfl, rfl, rfl⟩ rfl rfl rfl (by first | exact hi | decide) rfl rfl rfl ?_
  rw [h2]
  repeat (first | refine e2_step rfl rfl ?_ | refine e2m_get rfl rfl ?_ | refine e2m_ld _ rfl rfl (by omega) ?_)
  unfold misr
  refine e2_if rfl rfl (fun z => ?_) (fun z => ?_)
  · rw [if_neg z]
    repeat (first | refine e2_step rfl rfl ?_ | refine e2m_get rfl rfl ?_ | refine e2m_ld _ rfl rfl (by omega) ?_)
    refine e2_fv (m_puts hl (nI 0) (nI 0)) rfl rfl ⟨rfl, rfl, rfl⟩ rfl rfl rfl (by first | exact hi | decide) rfl rfl rfl ?_
    exact e2_vret rfl rfl ⟨rfl, rfl⟩
  · rw [if_pos (Classical.not_not.1 z)]
    repeat (first | refine e2_step rfl rfl ?_ | refine e2m_get rfl rfl ?_ | refine e2m_ld _ rfl rfl (by omega) ?_)
    refine e2_fv (m_ends hl (nI 5)) rfl rfl ⟨rfl, rfl, rfl⟩ rfl rfl rfl (by first | exact hi | decide) rfl rfl rfl ?_
    repeat (first | refine e2_step rfl rfl ?_ | refine e2m_get rfl rfl ?_ | refine e2m_ld _ rfl rfl (by omega) ?_)
    exact e2_vret rfl rfl ⟨rfl, rfl⟩
/-- a round's end, letter by letter: the row, and how many are delivered -/
def comSt (N w can l : Nat) (q : (Nat → Int32) × Nat) : (Nat → Int32) × Nat :=
  if wkr q.1 l = w then (if q.2 < can then (endsr q.1 l (nI 4), q.2 + 1) else (if freer q.1 N w ≤ 0 then putsr q.1 l (nI 2) (nI 0) else putsr q.1 l (nI 1) (nI w), q.2)) else (misr q.1 l, q.2)
def comL (r : Nat → Int32) (N w : Nat) (R : List Nat) (can : Nat) : Nat → (Nat → Int32) × Nat
  | 0 => (r, 0)
  | k + 1 => comSt N w can (revD R k) (comL r N w R can k)
/-- what no step of a round's end touches: codes, classes, hours of coming, and all numbers but the letters' and the misroutes -/
def same0 (r r' : Nat → Int32) : Prop := (∀ j, j < 101 ∨ (941 ≤ j ∧ j ≠ 953) → r' j = r j) ∧ ∀ l k, l < 120 → k < 2 ∨ k = 5 → ofr r' l k = ofr r l k
theorem same0.rf (r : Nat → Int32) : same0 r r := ⟨fun _ _ => rfl, fun _ _ _ _ => rfl⟩
theorem same0.tr {a b c : Nat → Int32} (h : same0 a b) (h2 : same0 b c) : same0 a c := ⟨fun j hj => (h2.1 j hj).trans (h.1 j hj), fun l k hl hk => (h2.2 l k hl hk).trans (h.2 l k hl hk)⟩
theorem same0.of {r' : Nat → Int32} (h : same34 r r') : same0 r r' := ⟨fun j hj => h.1 j (by omega), fun l k hl hk => h.2 l k hl (by omega)⟩
theorem same0.set {l k : Nat} (hl : l < 120) (hk : k = 2 ∨ k = 3 ∨ k = 4 ∨ k = 6) (v : Int32) : same0 r (seto r l k v) := by
  refine ⟨fun j hj => ?_, fun m k' hm hk' => ?_⟩
  · unfold seto upd
    rw [if_neg (by omega)]
  · unfold ofr seto upd
    rw [if_neg (by omega)]
theorem same0.ends {l : Nat} (hl : l < 120) (p : Int32) : same0 r (endsr r l p) := (same0.of (same34.puts hl p (nI 0))).tr (same0.set hl (by omega) _)
theorem same0.mis {l : Nat} (hl : l < 120) : same0 r (misr r l) := by
  have h1 : same0 r (mis1 r l) := by
    refine same0.tr (b := upd r 953 (r 953 + nI 1)) ⟨fun j hj => ?_, fun m k' hm hk' => ?_⟩ (same0.set hl (by omega) _)
    · unfold upd
      rw [if_neg (by omega)]
    · unfold ofr upd
      rw [if_neg (by omega)]
  unfold misr
  split
  · exact h1.tr (same0.ends hl _)
  · exact h1.tr (same0.of (same34.puts hl _ _))
theorem same0.okr {r' : Nat → Int32} {N : Nat} (h : same0 r r') (hN2 : N ≤ 120) (hk : okr r N) : okr r' N := fun l hl => by
  obtain ⟨c, w, h1, h2, h3, h4⟩ := hk l hl
  exact ⟨c, w, h1, h2, by rw [h.2 l 0 (by omega) (by omega)]; exact h3, by rw [h.1 c (by omega)]; exact h4⟩
theorem comSt_same {N w can l : Nat} (hl : l < 120) (q : (Nat → Int32) × Nat) : same0 q.1 (comSt N w can l q).1 := by
  unfold comSt
  split
  · split
    · exact same0.ends hl _
    · dsimp only
      split
      · exact same0.of (same34.puts hl _ _)
      · exact same0.of (same34.puts hl _ _)
  · exact same0.mis hl
theorem comSt_2 {N w can l : Nat} (q : (Nat → Int32) × Nat) : (comSt N w can l q).2 ≤ q.2 + 1 := by
  unfold comSt
  split
  · split
    · exact Nat.le_refl _
    · exact Nat.le_succ _
  · exact Nat.le_succ _
theorem comL_same {N w can : Nat} {R : List Nat} (hR : ∀ a, a ∈ R → a < 120) : ∀ k, k ≤ R.length → same0 r (comL r N w R can k).1
  | 0, _ => same0.rf r
  | k + 1, h => (comL_same hR k (by omega)).tr (comSt_same (hR _ (revD_mem R k (by omega))) _)
theorem comL_2 (r : Nat → Int32) (N w can : Nat) (R : List Nat) : ∀ k, (comL r N w R can k).2 ≤ k
  | 0 => Nat.le_refl _
  | k + 1 => Nat.le_trans (comSt_2 _) (Nat.succ_le_succ (comL_2 r N w can R k))
/-- how many of those in hand belong to the walk; how many of them may be delivered -/
def beln (r : Nat → Int32) (w : Nat) (R : List Nat) : Nat := cntB (fun k => decide (wkr r (revD R k) = w)) R.length
def cann (r : Nat → Int32) (c w : Nat) (R : List Nat) : Nat := if r (963 + 8 * c + w) ≤ nI 1 then (beln r w R + 1) / 2 else beln r w R
def comesr (r : Nat → Int32) (N c w : Nat) : Nat → Int32 :=
  let q := comL r N w (atR r N (nI 3) (nI c)) (cann r c w (atR r N (nI 3) (nI c))) (atR r N (nI 3) (nI c)).length
  upd (upd (upd (upd q.1 (1017 + c) (r (1017 + c) + nI q.2)) (963 + 8 * c + w) (r (963 + 8 * c + w) + nI 1)) 954 (r 954 + nI 1)) (1011 + c) (nI 0)
def comesn (r : Nat → Int32) (N c w : Nat) : Nat := (comL r N w (atR r N (nI 3) (nI c)) (cann r c w (atR r N (nI 3) (nI c))) (atR r N (nI 3) (nI c)).length).2
set_option maxHeartbeats 2000000 in
theorem m_comes {N c w : Nat} (hN : r 100 = nI N) (hN2 : N ≤ 120) (hok : okr r N) (hc : c < 6) (hw : walkByr r (nI c) = nI w) (hw8 : w < 8) : FM ε jX9_comes [.inl (nI c)] G r t o x (some (nI (comesn r N c w))) (comesr r N c w) t (ordA (atR r N (nI 3) (nI c)) o) x := by
  have hRl : (atR r N (nI 3) (nI c)).length ≤ N := atR_len
  have hRlt : ∀ a, a ∈ atR r N (nI 3) (nI c) → a < N := atR_lt
  have hlay := fun (G : GG) => m_layByCodes (ε := ε) (G := G) (t := t) (o := o) (x := x) hN hN2 (nI 3) (nI c)
  change ∀ (G : GG), FM ε jX9_layByCodes [.inl (nI 3), .inl (nI c)] G r t o x (some (nI (atR r N (nI 3) (nI c)).length)) r t (ordA (atR r N (nI 3) (nI c)) o) x at hlay
  unfold comesn comesr
  generalize hR : atR r N (nI 3) (nI c) = R at hRl hRlt hlay ⊢
  refine C2.of (ls := [some (.inr (0, 50)), some (.inl (nI c)), none, none, none, none, none, none, none]) okX9_comes rfl rfl ?_
  repeat (first | refine e2_step rfl rfl ?_ | refine e2m_get rfl rfl ?_ | refine e2m_ld _ rfl rfl (by omega) ?_)
  refine e2_fi (m_walkBy (nI c)) rfl rfl ⟨rfl, rfl, rfl⟩ rfl rfl rfl (by first | exact hi | decide) rfl rfl rfl ?_
  rw [hw]
  repeat (first | refine e2_step rfl rfl ?_ | refine e2m_get rfl rfl ?_ | refine e2m_ld _ rfl rfl (by omega) ?_)
  refine e2_fi (hlay G) rfl rfl ⟨rfl, rfl, rfl⟩ rfl rfl rfl (by first | exact hi | decide) rfl rfl rfl ?_
  repeat (first | refine e2_stepS 19 rfl rfl rfl ?_ | refine e2m_getS 19 rfl rfl rfl ?_ | refine e2m_ldS 19 rfl _ rfl rfl (by omega) ?_)
  refine e2_for R.length (fun k => [some (.inr (0, 50)), some (.inl (nI c)), some (.inl (nI w)), some (.inl (nI R.length)), some (.inl (nI (cntB (fun k => decide (wkr r (revD R k) = w)) k))), some (.inl (nI k)), none, none, none]) (fun k => mG G r t (ordA R o) x) (fun k hk K => ?_) (fun M hM => ?_)
  · repeat (first | refine e2_step rfl rfl ?_ | refine e2m_get rfl rfl ?_ | refine e2m_ld _ rfl rfl (by omega) ?_)
    refine e2_if rfl rfl (fun z => absurd z (nI_ge hk (by omega))) (fun _ => ?_)
    repeat (first | refine e2_step rfl rfl ?_ | refine e2m_get rfl rfl ?_ | refine e2m_ld _ rfl rfl (by omega) ?_)
    refine e2m_ldo k rfl rfl (by omega) ?_
    rw [ordA_at hk]
    have hlk := hRlt _ (revD_mem R k hk)
    refine e2_fi (m_walkOfk hok hN2 hlk) rfl rfl ⟨rfl, rfl, rfl⟩ rfl rfl rfl (by first | exact hi | decide) rfl rfl rfl ?_
    repeat (first | refine e2_step rfl rfl ?_ | refine e2m_get rfl rfl ?_ | refine e2m_ld _ rfl rfl (by omega) ?_)
    simp only [cntB] at K
    have hw9 := (wkr_of hok hlk).choose_spec.2.2.2
    refine e2_if rfl rfl (fun z => ?_) (fun z => ?_)
    · rw [nI_eq (by omega) (by omega)] at z
      simp only [z, decide_false, Bool.false_eq_true, if_false] at K
      repeat (first | refine e2_stepS 19 rfl rfl rfl ?_ | refine e2m_getS 19 rfl rfl rfl ?_ | refine e2m_ldS 19 rfl _ rfl rfl (by omega) ?_)
      rw [nI_add', nI_add']
      exact K
    · rw [nI_eq (by omega) (by omega), Classical.not_not] at z
      simp only [z, decide_true, if_true] at K
      repeat (first | refine e2_stepS 19 rfl rfl rfl ?_ | refine e2m_getS 19 rfl rfl rfl ?_ | refine e2m_ldS 19 rfl _ rfl rfl (by omega) ?_)
      rw [nI_add', nI_add']
      exact K
  · repeat (first | refine e2_step rfl rfl ?_ | refine e2m_get rfl rfl ?_ | refine e2m_ld _ rfl rfl (by omega) ?_)
    refine e2_if rfl rfl (fun _ => ?_) (fun z => absurd (by rw [hM]; exact Int32.le_refl _) z)
    have hbel : cntB (fun k => decide (wkr r (revD R k) = w)) M = beln r w R := by rw [hM]; rfl
    have hbl : beln r w R ≤ 120 := Nat.le_trans (cntB_le _ _) (by omega)
    rw [hbel]
    repeat (first | refine e2_step rfl rfl ?_ | refine e2m_get rfl rfl ?_ | refine e2m_ld _ rfl rfl (by omega) ?_)
    rw [pk_mul, nI_add', nI_add']
    repeat (first | refine e2_step rfl rfl ?_ | refine e2m_get rfl rfl ?_ | refine e2m_ld _ rfl rfl (by omega) ?_)
    have hgo : ∀ cv, cv = nI (cann r c w R) → E2 ε jX9_comes 86 [some (.inr (0, 50)), some (.inl (nI c)), some (.inl (nI w)), some (.inl (nI R.length)), none, none, none, none, none] [.inl cv] (mG G r t (ordA R o) x) (fun v' G' => v' = some (nI (comL r N w R (cann r c w R) R.length).2) ∧ G' = mG G (let q := comL r N w R (cann r c w R) R.length
        upd (upd (upd (upd q.1 (1017 + c) (r (1017 + c) + nI q.2)) (963 + 8 * c + w) (r (963 + 8 * c + w) + nI 1)) 954 (r 954 + nI 1)) (1011 + c) (nI 0)) t (ordA R o) x) := by
      intro cv hcv
      subst hcv
      generalize hcan : cann r c w R = can
      have hcan2 : can ≤ 1000 := by
        rw [← hcan]
        unfold cann
        split <;> omega
      repeat (first | refine e2_stepS 94 rfl rfl rfl ?_ | refine e2m_getS 94 rfl rfl rfl ?_ | refine e2m_ldS 94 rfl _ rfl rfl (by omega) ?_)
      refine e2_for R.length (fun k => [some (.inr (0, 50)), some (.inl (nI c)), some (.inl (nI w)), some (.inl (nI R.length)), none, some (.inl (nI can)), some (.inl (nI (comL r N w R can k).2)), some (.inl (nI k)), none]) (fun k => mG G (comL r N w R can k).1 t (ordA R o) x) (fun k hk K => ?_) (fun M hM => ?_)
      · have hsm := comL_same (r := r) (N := N) (w := w) (can := can) (R := R) (fun a h => by have := hRlt a h; omega) k (by omega)
        have h2 := comL_2 r N w can R k
        have hlk := hRlt _ (revD_mem R k hk)
        have hok2 := hsm.okr hN2 hok
        have hN' : (comL r N w R can k).1 100 = nI N := by rw [hsm.1 100 (by omega)]; exact hN
        simp only [comL, comSt] at K
        generalize hq : comL r N w R can k = q at K hok2 h2 hN' ⊢
        obtain ⟨rk, d⟩ := q
        dsimp only at K hok2 h2 hN' ⊢
        have hw9 := (wkr_of hok2 hlk).choose_spec.2.2.2
        repeat (first | refine e2_step rfl rfl ?_ | refine e2m_get rfl rfl ?_ | refine e2m_ld _ rfl rfl (by omega) ?_)
        refine e2_if rfl rfl (fun z => absurd z (nI_ge hk (by omega))) (fun _ => ?_)
        repeat (first | refine e2_step rfl rfl ?_ | refine e2m_get rfl rfl ?_ | refine e2m_ld _ rfl rfl (by omega) ?_)
        refine e2m_ldo k rfl rfl (by omega) ?_
        rw [ordA_at hk]
        repeat (first | refine e2_step rfl rfl ?_ | refine e2m_get rfl rfl ?_ | refine e2m_ld _ rfl rfl (by omega) ?_)
        refine e2_fi (m_walkOfk hok2 hN2 hlk) rfl rfl ⟨rfl, rfl, rfl⟩ rfl rfl rfl (by first | exact hi | decide) rfl rfl rfl ?_
        repeat (first | refine e2_step rfl rfl ?_ | refine e2m_get rfl rfl ?_ | refine e2m_ld _ rfl rfl (by omega) ?_)
        refine e2_if rfl rfl (fun z => ?_) (fun z => ?_)
        · rw [nI_eq (by omega) (by omega)] at z
          rw [if_pos z] at K
          repeat (first | refine e2_step rfl rfl ?_ | refine e2m_get rfl rfl ?_ | refine e2m_ld _ rfl rfl (by omega) ?_)
          refine e2_if rfl rfl (fun z2 => ?_) (fun z2 => ?_)
          · rw [nI_leI (by omega) (by omega)] at z2
            rw [if_neg (by omega)] at K
            dsimp only at K
            repeat (first | refine e2_step rfl rfl ?_ | refine e2m_get rfl rfl ?_ | refine e2m_ld _ rfl rfl (by omega) ?_)
            refine e2_fi (m_free hN' hN2 hw8) rfl rfl ⟨rfl, rfl, rfl⟩ rfl rfl rfl (by first | exact hi | decide) rfl rfl rfl ?_
            refine e2_if rfl rfl (fun z3 => ?_) (fun z3 => ?_)
            · have hf : freer rk N w ≤ 0 := z3
              rw [if_pos hf] at K
              repeat (first | refine e2_step rfl rfl ?_ | refine e2m_get rfl rfl ?_ | refine e2m_ld _ rfl rfl (by omega) ?_)
              refine e2_fv (m_puts (l := revD R k) (by omega) (nI 2) (nI 0)) rfl rfl ⟨rfl, rfl, rfl⟩ rfl rfl rfl (by first | exact hi | decide) rfl rfl rfl ?_
              repeat (first | refine e2_stepS 94 rfl rfl rfl ?_ | refine e2m_getS 94 rfl rfl rfl ?_ | refine e2m_ldS 94 rfl _ rfl rfl (by omega) ?_)
              rw [nI_add']
              exact e2_dropK K ⟨rfl, rfl, rfl, rfl, rfl, rfl, rfl, trivial⟩
            · rw [if_neg z3] at K
              repeat (first | refine e2_step rfl rfl ?_ | refine e2m_get rfl rfl ?_ | refine e2m_ld _ rfl rfl (by omega) ?_)
              refine e2_fv (m_puts (l := revD R k) (by omega) (nI 1) (nI w)) rfl rfl ⟨rfl, rfl, rfl⟩ rfl rfl rfl (by first | exact hi | decide) rfl rfl rfl ?_
              repeat (first | refine e2_stepS 94 rfl rfl rfl ?_ | refine e2m_getS 94 rfl rfl rfl ?_ | refine e2m_ldS 94 rfl _ rfl rfl (by omega) ?_)
              rw [nI_add']
              exact e2_dropK K ⟨rfl, rfl, rfl, rfl, rfl, rfl, rfl, trivial⟩
          · rw [nI_leI (by omega) (by omega)] at z2
            rw [if_pos (by omega)] at K
            dsimp only at K
            repeat (first | refine e2_step rfl rfl ?_ | refine e2m_get rfl rfl ?_ | refine e2m_ld _ rfl rfl (by omega) ?_)
            refine e2_fv (m_ends (l := revD R k) (by omega) (nI 4)) rfl rfl ⟨rfl, rfl, rfl⟩ rfl rfl rfl (by first | exact hi | decide) rfl rfl rfl ?_
            repeat (first | refine e2_stepS 94 rfl rfl rfl ?_ | refine e2m_getS 94 rfl rfl rfl ?_ | refine e2m_ldS 94 rfl _ rfl rfl (by omega) ?_)
            rw [nI_add', nI_add']
            exact e2_dropK K ⟨rfl, rfl, rfl, rfl, rfl, rfl, rfl, trivial⟩
        · rw [nI_eq (by omega) (by omega)] at z
          rw [if_neg z] at K
          repeat (first | refine e2_step rfl rfl ?_ | refine e2m_get rfl rfl ?_ | refine e2m_ld _ rfl rfl (by omega) ?_)
          refine e2_fv (m_misroutes (l := revD R k) (by omega)) rfl rfl ⟨rfl, rfl, rfl⟩ rfl rfl rfl (by first | exact hi | decide) rfl rfl rfl ?_
          repeat (first | refine e2_stepS 94 rfl rfl rfl ?_ | refine e2m_getS 94 rfl rfl rfl ?_ | refine e2m_ldS 94 rfl _ rfl rfl (by omega) ?_)
          rw [nI_add']
          exact e2_dropK K ⟨rfl, rfl, rfl, rfl, rfl, rfl, rfl, trivial⟩
      · subst hM
        have hsm := comL_same (r := r) (N := N) (w := w) (can := can) (R := R) (fun a h => by have := hRlt a h; omega) R.length (Nat.le_refl _)
        dsimp only
        generalize comL r N w R can R.length = q at hsm ⊢
        obtain ⟨rk, d⟩ := q
        dsimp only at hsm ⊢
        repeat (first | refine e2_step rfl rfl ?_ | refine e2m_get rfl rfl ?_ | refine e2m_ld _ rfl rfl (by omega) ?_)
        refine e2_if rfl rfl (fun _ => ?_) (fun z => absurd (Int32.le_refl _) z)
        repeat (first | refine e2_step rfl rfl ?_ | refine e2m_get rfl rfl ?_ | refine e2m_ld _ rfl rfl (by omega) ?_)
        rw [nI_add']
        repeat (first | refine e2_step rfl rfl ?_ | refine e2m_get rfl rfl ?_ | refine e2m_ld _ rfl rfl (by omega) ?_)
        refine e2m_st (1017 + c) rfl rfl (by omega) ?_
        rw [hsm.1 (1017 + c) (by omega)]
        repeat (first | refine e2_step rfl rfl ?_ | refine e2m_get rfl rfl ?_ | refine e2m_ld _ rfl rfl (by omega) ?_)
        rw [pk_mul, nI_add', nI_add']
        repeat (first | refine e2_step rfl rfl ?_ | refine e2m_get rfl rfl ?_ | refine e2m_ld _ rfl rfl (by omega) ?_)
        refine e2m_st (963 + 8 * c + w) rfl rfl (by omega) ?_
        have e1 : upd rk (1017 + c) (r (1017 + c) + nI d) (963 + 8 * c + w) = r (963 + 8 * c + w) := by
          unfold upd
          rw [if_neg (by omega), hsm.1 _ (by omega)]
        rw [e1]
        repeat (first | refine e2_step rfl rfl ?_ | refine e2m_get rfl rfl ?_ | refine e2m_ld _ rfl rfl (by omega) ?_)
        refine e2m_st 954 rfl rfl (by omega) ?_
        have e2 : upd (upd rk (1017 + c) (r (1017 + c) + nI d)) (963 + 8 * c + w) (r (963 + 8 * c + w) + nI 1) 954 = r 954 := by
          unfold upd
          rw [if_neg (by omega), if_neg (by omega), hsm.1 _ (by omega)]
        rw [e2]
        repeat (first | refine e2_step rfl rfl ?_ | refine e2m_get rfl rfl ?_ | refine e2m_ld _ rfl rfl (by omega) ?_)
        refine e2m_st (1011 + c) rfl (by rw [nI_add']) (by omega) ?_
        repeat (first | refine e2_step rfl rfl ?_ | refine e2m_get rfl rfl ?_ | refine e2m_ld _ rfl rfl (by omega) ?_)
        exact e2_iret rfl rfl ⟨rfl, rfl⟩
    refine e2_if rfl rfl (fun z => ?_) (fun z => ?_)
    · have hz : r (963 + 8 * c + w) ≤ nI 1 := z
      repeat (first | refine e2_step rfl rfl ?_ | refine e2m_get rfl rfl ?_ | refine e2m_ld _ rfl rfl (by omega) ?_)
      rw [nI_add']
      refine e2_div rfl (by decide) ?_
      refine e2_dropK (hgo _ ?_) ⟨rfl, rfl, rfl, rfl, trivial⟩
      rw [pk_div (by omega) (by decide) (by decide)]
      unfold cann
      rw [if_pos hz]
    · have hz : ¬ r (963 + 8 * c + w) ≤ nI 1 := z
      repeat (first | refine e2_stepS 86 rfl rfl rfl ?_ | refine e2m_getS 86 rfl rfl rfl ?_ | refine e2m_ldS 86 rfl _ rfl rfl (by omega) ?_)
      refine e2_dropK (hgo _ ?_) ⟨rfl, rfl, rfl, rfl, trivial⟩
      unfold cann
      rw [if_neg hz]
end ML
end
section
/-! The reference: the text is read. -/
section MM
variable {ε : EE} {J : JT} {pc : Nat} {ls : List (Option V0)} {st : List V0} {G : GG} {r t o x : Nat → Int32} {Q : Option Int32 → GG → Prop}
def dgB (t : Nat → Int32) (n a m : Nat) : Bool := decide (a < n) && isInB (t a) (nI 48) (nI (48 + m))
def dgt (t : Nat → Int32) (a : Nat) : Nat := (t a).toNatClampNeg - 48
theorem dgB_of {n a m : Nat} (hm : m ≤ 9) (h : dgB t n a m = true) : a < n ∧ dgt t a ≤ m ∧ t a = nI (48 + dgt t a) := by
  simp only [dgB, isInB, Bool.and_eq_true, decide_eq_true_eq] at h
  obtain ⟨h1, h2, h3⟩ := h
  have e1 : (nI 48).toInt = 48 := nI_toInt (by decide)
  have e2 : (nI (48 + m)).toInt = ((48 + m : Nat) : Int) := nI_toInt (by omega)
  rw [Int32.le_iff_toInt_le, e1] at h2
  rw [Int32.le_iff_toInt_le, e2] at h3
  have h0 : ¬ t a < 0 := by
    rw [Int32.lt_iff_toInt_lt]
    have : (0 : Int32).toInt = 0 := by decide
    omega
  obtain ⟨j, hj, hj2⟩ := nI_of h0
  have e3 : (t a).toInt = (j : Int) := by rw [hj2]; exact nI_toInt hj
  have e4 : dgt t a = j - 48 := by unfold dgt; rw [hj2, nI_clamp hj]
  refine ⟨h1, by omega, ?_⟩
  rw [hj2, e4]
  congr 1
  omega
/-- a number's end and value -/
def tkN (t : Nat → Int32) (n a : Nat) : Option (Nat × Nat) :=
  if dgB t n a 9 then (if dgt t a = 0 then some (a + 1, 0) else if dgB t n (a + 1) 9 then some (a + 2, 10 * dgt t a + dgt t (a + 1)) else some (a + 1, dgt t a)) else none
def tkS (t : Nat → Int32) (n a : Nat) (s : Int32) : Option Nat := if a < n then (if t a = s then some (a + 1) else none) else none
theorem tkN_of {n a a' f : Nat} (h : tkN t n a = some (a', f)) : a < a' ∧ a' ≤ n ∧ f < 100 := by
  unfold tkN at h
  split at h
  · rename_i h1
    obtain ⟨h2, h3, -⟩ := dgB_of (by omega) h1
    split at h
    · cases h
      omega
    · split at h
      · rename_i h4
        obtain ⟨h5, h6, -⟩ := dgB_of (by omega) h4
        cases h
        omega
      · cases h
        omega
  · cases h
theorem tkS_of {n a a' : Nat} {s : Int32} (h : tkS t n a s = some a') : a' = a + 1 ∧ a' ≤ n := by
  unfold tkS at h
  split at h
  · split at h
    · cases h
      omega
    · cases h
  · cases h
/-- the reference's numbers with its place in the text and its last number -/
def pst (x : Nat → Int32) (a : Nat) (u : Int32) : Nat → Int32 := upd (upd x 4 (nI a)) 5 u
theorem pst_4 (a b : Nat) (u : Int32) : upd (pst x a u) 4 (nI b) = pst x b u := by
  funext j
  unfold pst upd
  by_cases h : j = 4
  · simp [h]
  · simp [h]
theorem pst_5 (a : Nat) (u v : Int32) : upd (pst x a u) 5 v = pst x a v := by
  funext j
  unfold pst upd
  by_cases h : j = 5
  · simp [h]
  · simp [h]
theorem pst_1 (a : Nat) (u : Int32) : pst x a u 1 = x 1 := rfl
theorem pst_3 (a : Nat) (u : Int32) : pst x a u 3 = x 3 := rfl
theorem m_isDigit {n a m : Nat} {u : Int32} (hx3 : x 3 = nI n) (hn : n ≤ 80) (ha : a ≤ n) : FM ε jX9_isDigit [.inl (nI m)] G r t o (pst x a u) (some (bI (dgB t n a m))) r t o (pst x a u) := by
  refine C2.of (ls := [some (.inr (0, 50)), some (.inl (nI m))]) okX9_isDigit rfl rfl ?_
  repeat (first | refine e2_step rfl rfl ?_ | refine e2m_get rfl rfl ?_ | refine e2m_ld _ rfl rfl (by omega) ?_)
  have h3 : pst x a u 3 = nI n := hx3
  have h4 : pst x a u 4 = nI a := rfl
  rw [h3, h4]
  refine e2_if rfl rfl (fun z => ?_) (fun z => ?_)
  · rw [nI_leI (by omega) (by omega)] at z
    repeat (first | refine e2_step rfl rfl ?_ | refine e2m_get rfl rfl ?_ | refine e2m_ld _ rfl rfl (by omega) ?_)
    refine e2_zret rfl rfl rfl ⟨?_, rfl⟩
    simp [dgB, show ¬ a < n by omega]; rfl
  · rw [nI_leI (by omega) (by omega)] at z
    repeat (first | refine e2_step rfl rfl ?_ | refine e2m_get rfl rfl ?_ | refine e2m_ld _ rfl rfl (by omega) ?_)
    refine e2m_ldt a rfl h4 (by omega) ?_
    repeat (first | refine e2_step rfl rfl ?_ | refine e2m_get rfl rfl ?_ | refine e2m_ld _ rfl rfl (by omega) ?_)
    rw [nI_add']
    refine e2_fs (m_in (t a) (nI 48) (nI (48 + m))) rfl rfl ⟨rfl, rfl, rfl⟩ rfl rfl rfl ?_
    refine e2_if rfl rfl (fun c => ?_) (fun c => ?_)
    · rw [bI_0] at c
      repeat (first | refine e2_step rfl rfl ?_ | refine e2m_get rfl rfl ?_ | refine e2m_ld _ rfl rfl (by omega) ?_)
      refine e2_zret rfl rfl rfl ⟨?_, rfl⟩
      simp [dgB, c]; rfl
    · rw [bI_0, Bool.not_eq_false] at c
      repeat (first | refine e2_step rfl rfl ?_ | refine e2m_get rfl rfl ?_ | refine e2m_ld _ rfl rfl (by omega) ?_)
      refine e2_zret rfl rfl rfl ⟨?_, rfl⟩
      simp [dgB, c, show a < n by omega]; rfl
theorem m_takes {n a : Nat} {u s : Int32} (hx3 : x 3 = nI n) (hn : n ≤ 80) (ha : a ≤ n) : FM ε jX9_takes [.inl s] G r t o (pst x a u) (some (bI (tkS t n a s).isSome)) r t o (pst x ((tkS t n a s).getD a) u) := by
  refine C2.of (ls := [some (.inr (0, 50)), some (.inl s), none]) okX9_takes rfl rfl ?_
  repeat (first | refine e2_step rfl rfl ?_ | refine e2m_get rfl rfl ?_ | refine e2m_ld _ rfl rfl (by omega) ?_)
  have h3 : pst x a u 3 = nI n := hx3
  have h4 : pst x a u 4 = nI a := rfl
  have hno : tkS t n a s = none → E2 ε jX9_takes 28 [some (.inr (0, 50)), some (.inl s), none] [] (mG G r t o (pst x a u)) (fun v' G' => v' = some (bI (tkS t n a s).isSome) ∧ G' = mG G r t o (pst x ((tkS t n a s).getD a) u)) := by
    intro hz
    rw [hz]
    repeat (first | refine e2_step rfl rfl ?_ | refine e2m_get rfl rfl ?_ | refine e2m_ld _ rfl rfl (by omega) ?_)
    refine e2_if rfl rfl (fun c => ?_) (fun c => absurd rfl c)
    repeat (first | refine e2_step rfl rfl ?_ | refine e2m_get rfl rfl ?_ | refine e2m_ld _ rfl rfl (by omega) ?_)
    rw [h4, nI_add']
    refine e2m_put rfl (by omega) ?_
    rw [pst_4]
    repeat (first | refine e2_step rfl rfl ?_ | refine e2m_get rfl rfl ?_ | refine e2m_ld _ rfl rfl (by omega) ?_)
    exact e2_zret rfl rfl rfl ⟨rfl, rfl⟩
  rw [h3, h4]
  refine e2_if rfl rfl (fun z => ?_) (fun z => ?_)
  · rw [nI_leI (by omega) (by omega)] at z
    exact hno (by unfold tkS; rw [if_neg (by omega)])
  · rw [nI_leI (by omega) (by omega)] at z
    repeat (first | refine e2_step rfl rfl ?_ | refine e2m_get rfl rfl ?_ | refine e2m_ld _ rfl rfl (by omega) ?_)
    refine e2m_ldt a rfl h4 (by omega) ?_
    repeat (first | refine e2_step rfl rfl ?_ | refine e2m_get rfl rfl ?_ | refine e2m_ld _ rfl rfl (by omega) ?_)
    refine e2_if rfl rfl (fun c => ?_) (fun c => ?_)
    · exact hno (by unfold tkS; rw [if_pos (by omega), if_neg c])
    · have hz : tkS t n a s = some (a + 1) := by unfold tkS; rw [if_pos (by omega), if_pos (Classical.not_not.1 c)]
      rw [hz]
      repeat (first | refine e2_step rfl rfl ?_ | refine e2m_get rfl rfl ?_ | refine e2m_ld _ rfl rfl (by omega) ?_)
      refine e2_if rfl rfl (fun c => absurd c (by decide)) (fun c => ?_)
      repeat (first | refine e2_step rfl rfl ?_ | refine e2m_get rfl rfl ?_ | refine e2m_ld _ rfl rfl (by omega) ?_)
      rw [h4, nI_add']
      refine e2m_put rfl (by omega) ?_
      rw [pst_4]
      repeat (first | refine e2_step rfl rfl ?_ | refine e2m_get rfl rfl ?_ | refine e2m_ld _ rfl rfl (by omega) ?_)
      exact e2_zret rfl rfl rfl ⟨rfl, rfl⟩
def CM (ε : EE) (J : JT) (As : List V0) (G : GG) (r t o x : Nat → Int32) (Q : Option Int32 → GG → Prop) : Prop := C2 ε J (.inr (0, 50) :: As) (mG G r t o x) Q
theorem m_takesNumber {n a : Nat} {u : Int32} (hx3 : x 3 = nI n) (hn : n ≤ 80) (ha : a ≤ n) : CM ε jX9_takesNumber [] G r t o (pst x a u) (fun v' G' => (tkN t n a = none ∧ v' = some (nI 0) ∧ G' = mG G r t o (pst x a u)) ∨ ∃ a' f, tkN t n a = some (a', f) ∧ v' = some (nI 1) ∧ G' = mG G r t o (pst x a' (nI f))) := by
  refine C2.of (ls := [some (.inr (0, 50))]) okX9_takesNumber rfl rfl ?_
  repeat (first | refine e2_step rfl rfl ?_ | refine e2m_get rfl rfl ?_ | refine e2m_ld _ rfl rfl (by omega) ?_)
  refine e2_fi (m_isDigit (m := 9) hx3 hn ha) rfl rfl ⟨rfl, rfl, rfl⟩ rfl rfl rfl (by first | exact hi | decide) rfl rfl rfl ?_
  refine e2_if rfl rfl (fun c => ?_) (fun c => ?_)
  · rw [bI_0, Bool.not_eq_false] at c
    obtain ⟨d1, d2, d3⟩ := dgB_of (by omega) c
    have h4 : pst x a u 4 = nI a := rfl
    repeat (first | refine e2_step rfl rfl ?_ | refine e2m_get rfl rfl ?_ | refine e2m_ld _ rfl rfl (by omega) ?_)
    refine e2m_ldt a rfl h4 (by omega) ?_
    rw [d3]
    repeat (first | refine e2_step rfl rfl ?_ | refine e2m_get rfl rfl ?_ | refine e2m_ld _ rfl rfl (by omega) ?_)
    rw [pk_sub (by omega), Nat.add_sub_cancel_left]
    refine e2m_put rfl (by omega) ?_
    rw [pst_5]
    repeat (first | refine e2_step rfl rfl ?_ | refine e2m_get rfl rfl ?_ | refine e2m_ld _ rfl rfl (by omega) ?_)
    rw [show pst x a (nI (dgt t a)) 4 = nI a from rfl, nI_add']
    refine e2m_put rfl (by omega) ?_
    rw [pst_4]
    repeat (first | refine e2_step rfl rfl ?_ | refine e2m_get rfl rfl ?_ | refine e2m_ld _ rfl rfl (by omega) ?_)
    rw [show pst x (a + 1) (nI (dgt t a)) 5 = nI (dgt t a) from rfl]
    have hone : ∀ f, tkN t n a = some (a + 1, f) → E2 ε jX9_takesNumber 87 [some (.inr (0, 50))] [] (mG G r t o (pst x (a + 1) (nI f))) (fun v' G' => (tkN t n a = none ∧ v' = some (nI 0) ∧ G' = mG G r t o (pst x a u)) ∨ ∃ a' f, tkN t n a = some (a', f) ∧ v' = some (nI 1) ∧ G' = mG G r t o (pst x a' (nI f))) := by
      intro f hf
      repeat (first | refine e2_step rfl rfl ?_ | refine e2m_get rfl rfl ?_ | refine e2m_ld _ rfl rfl (by omega) ?_)
      exact e2_zret rfl rfl rfl (Or.inr ⟨a + 1, f, hf, rfl, rfl⟩)
    refine e2_if rfl rfl (fun z => ?_) (fun z => ?_)
    · have hd0 : dgt t a = 0 := by
        have z2 : nI (dgt t a) ≤ nI 0 := z
        rw [nI_leI (by omega) (by omega)] at z2
        omega
      rw [hd0]
      exact hone 0 (by unfold tkN; rw [if_pos c, if_pos hd0])
    · have hd0 : ¬ dgt t a = 0 := by
        intro hz
        rw [hz] at z
        exact z (Int32.le_refl _)
      repeat (first | refine e2_step rfl rfl ?_ | refine e2m_get rfl rfl ?_ | refine e2m_ld _ rfl rfl (by omega) ?_)
      refine e2_fi (m_isDigit (a := a + 1) (m := 9) hx3 hn (by omega)) rfl rfl ⟨rfl, rfl, rfl⟩ rfl rfl rfl (by first | exact hi | decide) rfl rfl rfl ?_
      refine e2_if rfl rfl (fun c2 => ?_) (fun c2 => ?_)
      · rw [bI_0] at c2
        exact hone _ (by unfold tkN; rw [if_pos c, if_neg hd0, if_neg (by rw [c2]; decide)])
      · rw [bI_0, Bool.not_eq_false] at c2
        obtain ⟨f1, f2, f3⟩ := dgB_of (by omega) c2
        repeat (first | refine e2_step rfl rfl ?_ | refine e2m_get rfl rfl ?_ | refine e2m_ld _ rfl rfl (by omega) ?_)
        rw [show pst x (a + 1) (nI (dgt t a)) 5 = nI (dgt t a) from rfl, pk_mul]
        refine e2m_ldt (a + 1) rfl rfl (by omega) ?_
        rw [f3]
        repeat (first | refine e2_step rfl rfl ?_ | refine e2m_get rfl rfl ?_ | refine e2m_ld _ rfl rfl (by omega) ?_)
        rw [nI_add', pk_sub (by omega)]
        refine e2m_put rfl (by omega) ?_
        rw [pst_5]
        repeat (first | refine e2_step rfl rfl ?_ | refine e2m_get rfl rfl ?_ | refine e2m_ld _ rfl rfl (by omega) ?_)
        rw [show ∀ z, pst x (a + 1) z 4 = nI (a + 1) from fun _ => rfl, nI_add']
        refine e2m_put rfl (by omega) ?_
        rw [pst_4]
        repeat (first | refine e2_step rfl rfl ?_ | refine e2m_get rfl rfl ?_ | refine e2m_ld _ rfl rfl (by omega) ?_)
        refine e2_zret rfl rfl rfl (Or.inr ⟨a + 2, 10 * dgt t a + dgt t (a + 1), ?_, rfl, ?_⟩)
        · unfold tkN
          rw [if_pos c, if_neg hd0, if_pos c2]
        · rw [show 10 * dgt t a + (48 + dgt t (a + 1)) - 48 = 10 * dgt t a + dgt t (a + 1) by omega]
  · rw [bI_0, Classical.not_not] at c
    repeat (first | refine e2_step rfl rfl ?_ | refine e2m_get rfl rfl ?_ | refine e2m_ld _ rfl rfl (by omega) ?_)
    exact e2_zret rfl rfl rfl (Or.inl ⟨by unfold tkN; rw [if_neg (by rw [c]; decide)], rfl, rfl⟩)
/-- one range from a: where it stops, and what it says if it is one -/
def rd1 (t : Nat → Int32) (n a : Nat) : Nat × Option (Nat × Nat × Nat) :=
  match tkN t n a with
  | none => (a, none)
  | some (a1, f) => match tkS t n a1 (nI 45) with
    | none => (a1, none)
    | some a2 => match tkN t n a2 with
      | none => (a2, none)
      | some (a3, g) => match tkS t n a3 (nI 61) with
        | none => (a3, none)
        | some a4 => if dgB t n a4 7 then (a4 + 1, some (f, g, dgt t a4)) else (a4, none)
/-- the ranges from a, and the fault -/
def prs (t : Nat → Int32) (n : Nat) : Nat → Nat → List (Nat × Nat × Nat) × Option Nat
  | 0, a => ([], some a)
  | k + 1, a => match rd1 t n a with
    | (a', none) => ([], some a')
    | (a', some q) => match tkS t n a' (nI 59) with
      | some a'' => (q :: (prs t n k a'').1, (prs t n k a'').2)
      | none => ([q], if a' < n then some a' else none)
def aplR (r : Nat → Int32) : List (Nat × Nat × Nat) → Nat → Int32
  | [] => r
  | q :: l => aplR (rngr r q.1 (q.2.1 + 1) (nI q.2.2)) l
def dwnB (l : List (Nat × Nat × Nat)) : Bool := l.any (fun q => decide (q.2.1 < q.1))
theorem rd1_of {n a a' : Nat} {q : Nat × Nat × Nat} (h : rd1 t n a = (a', some q)) : a < a' ∧ a' ≤ n ∧ q.1 < 100 ∧ q.2.1 < 100 ∧ q.2.2 < 8 := by
  unfold rd1 at h
  split at h
  · cases h
  · rename_i a1 f h1
    split at h
    · cases h
    · rename_i a2 h2
      split at h
      · cases h
      · rename_i a3 g h3
        split at h
        · cases h
        · rename_i a4 h4
          split at h
          · rename_i h5
            cases h
            have e1 := tkN_of h1
            have e2 := tkS_of h2
            have e3 := tkN_of h3
            have e4 := tkS_of h4
            obtain ⟨d1, d2, d3⟩ := dgB_of (by omega) h5
            exact ⟨by omega, by omega, e1.2.2, e3.2.2, Nat.lt_succ_of_le d2⟩
          · cases h
theorem rd1_le {n a : Nat} (ha : a ≤ n) : (rd1 t n a).1 ≤ n := by
  unfold rd1
  split
  · exact ha
  · rename_i a1 f h1
    have e1 := tkN_of h1
    split
    · exact e1.2.1
    · rename_i a2 h2
      have e2 := tkS_of h2
      split
      · exact e2.2
      · rename_i a3 g h3
        have e3 := tkN_of h3
        split
        · exact e3.2.1
        · rename_i a4 h4
          have e4 := tkS_of h4
          split
          · rename_i h5
            obtain ⟨d1, -, -⟩ := dgB_of (by omega) h5
            exact d1
          · exact e4.2
/-- how reads answers: (answer, row, place) of the ranges and the fault -/
def rdEnd (r : Nat → Int32) (how cnt : Nat) (down : Bool) (q : List (Nat × Nat × Nat) × Option Nat) (r' : Nat → Int32) (v : Int32) (a' : Nat) : Prop :=
  r' = (if how = 1 then aplR r q.1 else r) ∧ (match q.2 with
  | some p => v = -1 ∧ a' = p
  | none => v = if (down || dwnB q.1) then -2 else nI (cnt + q.1.length))
set_option maxHeartbeats 4000000 in
theorem m_readsL {n how : Nat} (hx3 : x 3 = nI n) (hn : n ≤ 80) (hhow : how < 2) : ∀ (k a : Nat) (u : Int32) (cnt : Nat) (down : Bool) (r : Nat → Int32), a ≤ n → n < a + k → cnt < 1000 + a →
    E2 ε jX9_reads 12 [some (.inr (0, 50)), some (.inl (nI how)), some (.inl (nI cnt)), some (.inl (bI down)), some (.inl (nI 1)), none, none] [] (mG G r t o (pst x a u)) (fun v' G' => ∃ v a' u' r', v' = some v ∧ a' ≤ n ∧ G' = mG G r' t o (pst x a' u') ∧ rdEnd r how cnt down (prs t n k a) r' v a') := by
  intro k
  induction k with
  | zero =>
    intro a u cnt down r ha hk
    omega
  | succ k ih =>
    intro a u cnt down r ha hk hcnt
    have hfail : ∀ a' u', a' ≤ n → rd1 t n a = (a', none) → ∀ ls', E2 ε jX9_reads 24 ls' [] (mG G r t o (pst x a' u')) (fun v' G' => ∃ v a' u' r', v' = some v ∧ a' ≤ n ∧ G' = mG G r' t o (pst x a' u') ∧ rdEnd r how cnt down (prs t n (k + 1) a) r' v a') := by
      intro a' u' ha' hr ls'
      repeat (first | refine e2_step rfl rfl ?_ | refine e2m_get rfl rfl ?_ | refine e2m_ld _ rfl rfl (by omega) ?_)
      refine e2_iret rfl rfl ⟨-1, a', u', r, rfl, ha', rfl, ?_⟩
      unfold prs
      rw [hr]
      exact ⟨by unfold aplR; split <;> rfl, rfl, rfl⟩
    have hfail2 : ∀ a' u', a' ≤ n → rd1 t n a = (a', none) → ∀ ls', E2 ε jX9_reads 48 ls' [] (mG G r t o (pst x a' u')) (fun v' G' => ∃ v a' u' r', v' = some v ∧ a' ≤ n ∧ G' = mG G r' t o (pst x a' u') ∧ rdEnd r how cnt down (prs t n (k + 1) a) r' v a') := by
      intro a' u' ha' hr ls'
      repeat (first | refine e2_step rfl rfl ?_ | refine e2m_get rfl rfl ?_ | refine e2m_ld _ rfl rfl (by omega) ?_)
      refine e2_iret rfl rfl ⟨-1, a', u', r, rfl, ha', rfl, ?_⟩
      unfold prs
      rw [hr]
      exact ⟨by unfold aplR; split <;> rfl, rfl, rfl⟩
    have hfail3 : ∀ a' u', a' ≤ n → rd1 t n a = (a', none) → ∀ ls', E2 ε jX9_reads 74 ls' [] (mG G r t o (pst x a' u')) (fun v' G' => ∃ v a' u' r', v' = some v ∧ a' ≤ n ∧ G' = mG G r' t o (pst x a' u') ∧ rdEnd r how cnt down (prs t n (k + 1) a) r' v a') := by
      intro a' u' ha' hr ls'
      repeat (first | refine e2_step rfl rfl ?_ | refine e2m_get rfl rfl ?_ | refine e2m_ld _ rfl rfl (by omega) ?_)
      refine e2_iret rfl rfl ⟨-1, a', u', r, rfl, ha', rfl, ?_⟩
      unfold prs
      rw [hr]
      exact ⟨by unfold aplR; split <;> rfl, rfl, rfl⟩
    repeat (first | refine e2_step rfl rfl ?_ | refine e2m_get rfl rfl ?_ | refine e2m_ld _ rfl rfl (by omega) ?_)
    refine e2_if rfl rfl (fun z => absurd (show nI 1 = 0 from z) (by decide)) (fun _ => ?_)
    repeat (first | refine e2_step rfl rfl ?_ | refine e2m_get rfl rfl ?_ | refine e2m_ld _ rfl rfl (by omega) ?_)
    refine e2_callVi rfl ⟨rfl, rfl, rfl⟩ rfl (As := []) rfl rfl rfl (by decide) rfl rfl rfl (m_takesNumber (u := u) hx3 hn ha) (fun v1 G1 h1 => ?_)
    rcases h1 with ⟨e1, hv, rfl⟩ | ⟨a1, f, e1, hv, rfl⟩
    · cases hv
      refine e2_if rfl rfl (fun z => absurd rfl z) (fun _ => ?_)
      exact hfail a u ha (by unfold rd1; rw [e1]) _
    cases hv
    refine e2_if rfl rfl (fun _ => ?_) (fun z => absurd (show ¬ nI 1 = 0 by decide) z)
    have b1 := tkN_of e1
    repeat (first | refine e2_step rfl rfl ?_ | refine e2m_get rfl rfl ?_ | refine e2m_ld _ rfl rfl (by omega) ?_)
    rw [show pst x a1 (nI f) 5 = nI f from rfl]
    refine e2_fi (m_takes (s := nI 45) hx3 hn b1.2.1) rfl rfl ⟨rfl, rfl, rfl⟩ rfl rfl rfl (by decide) rfl rfl rfl ?_
    cases e2 : tkS t n a1 (nI 45) with
    | none =>
      refine e2_if rfl rfl (fun _ => ?_) (fun z => absurd rfl z)
      exact hfail2 a1 (nI f) b1.2.1 (by unfold rd1; rw [e1]; dsimp only; rw [e2]) _
    | some a2 =>
      have b2 := tkS_of e2
      refine e2_if rfl rfl (fun z => absurd (show nI 1 = 0 from z) (by decide)) (fun _ => ?_)
      repeat (first | refine e2_step rfl rfl ?_ | refine e2m_get rfl rfl ?_ | refine e2m_ld _ rfl rfl (by omega) ?_)
      refine e2_callVi rfl ⟨rfl, rfl, rfl⟩ rfl (As := []) rfl rfl rfl (by decide) rfl rfl rfl (m_takesNumber (a := a2) (u := nI f) hx3 hn b2.2) (fun v1 G1 h1 => ?_)
      rcases h1 with ⟨e3, hv, rfl⟩ | ⟨a3, g, e3, hv, rfl⟩
      · cases hv
        refine e2_if rfl rfl (fun z => absurd rfl z) (fun _ => ?_)
        exact hfail2 a2 (nI f) b2.2 (by unfold rd1; rw [e1]; dsimp only; rw [e2]; dsimp only; rw [e3]) _
      cases hv
      refine e2_if rfl rfl (fun _ => ?_) (fun z => absurd (show ¬ nI 1 = 0 by decide) z)
      have b3 := tkN_of e3
      repeat (first | refine e2_step rfl rfl ?_ | refine e2m_get rfl rfl ?_ | refine e2m_ld _ rfl rfl (by omega) ?_)
      rw [show pst x a3 (nI g) 5 = nI g from rfl]
      refine e2_fi (m_takes (s := nI 61) hx3 hn b3.2.1) rfl rfl ⟨rfl, rfl, rfl⟩ rfl rfl rfl (by decide) rfl rfl rfl ?_
      cases e4 : tkS t n a3 (nI 61) with
      | none =>
        refine e2_if rfl rfl (fun _ => ?_) (fun z => absurd rfl z)
        exact hfail3 a3 (nI g) b3.2.1 (by unfold rd1; rw [e1]; dsimp only; rw [e2]; dsimp only; rw [e3]; dsimp only; rw [e4]) _
      | some a4 =>
        have b4 := tkS_of e4
        refine e2_if rfl rfl (fun z => absurd (show nI 1 = 0 from z) (by decide)) (fun _ => ?_)
        repeat (first | refine e2_step rfl rfl ?_ | refine e2m_get rfl rfl ?_ | refine e2m_ld _ rfl rfl (by omega) ?_)
        refine e2_fi (m_isDigit (a := a4) (u := nI g) (m := 7) hx3 hn b4.2) rfl rfl ⟨rfl, rfl, rfl⟩ rfl rfl rfl (by decide) rfl rfl rfl ?_
        cases e5 : dgB t n a4 7 with
        | false =>
          refine e2_if rfl rfl (fun z => absurd rfl z) (fun _ => ?_)
          exact hfail3 a4 (nI g) b4.2 (by unfold rd1; rw [e1]; dsimp only; rw [e2]; dsimp only; rw [e3]; dsimp only; rw [e4]; dsimp only; rw [e5]; rfl) _
        | true =>
          refine e2_if rfl rfl (fun _ => ?_) (fun z => absurd (show ¬ nI 1 = 0 by decide) z)
          obtain ⟨d1, d2, d3⟩ := dgB_of (by omega) e5
          have hr1 : rd1 t n a = (a4 + 1, some (f, g, dgt t a4)) := by unfold rd1; rw [e1]; dsimp only; rw [e2]; dsimp only; rw [e3]; dsimp only; rw [e4]; dsimp only; rw [e5]; rfl
          repeat (first | refine e2_step rfl rfl ?_ | refine e2m_get rfl rfl ?_ | refine e2m_ld _ rfl rfl (by omega) ?_)
          have hnext : ∀ (r1 : Nat → Int32), r1 = (if how = 1 then rngr r f (g + 1) (nI (dgt t a4)) else r) → E2 ε jX9_reads 101 [some (.inr (0, 50)), some (.inl (nI how)), some (.inl (nI cnt)), some (.inl (bI down)), some (.inl (nI 1)), some (.inl (nI f)), some (.inl (nI g))] [] (mG G r1 t o (pst x a4 (nI g))) (fun v' G' => ∃ v a' u' r', v' = some v ∧ a' ≤ n ∧ G' = mG G r' t o (pst x a' u') ∧ rdEnd r how cnt down (prs t n (k + 1) a) r' v a') := by
            intro r1 hr1e
            repeat (first | refine e2_step rfl rfl ?_ | refine e2m_get rfl rfl ?_ | refine e2m_ld _ rfl rfl (by omega) ?_)
            rw [show pst x a4 (nI g) 4 = nI a4 from rfl, nI_add']
            refine e2m_put rfl (by omega) ?_
            rw [pst_4]
            have hdown : ∀ dv, dv = bI (down || decide (g < f)) → E2 ε jX9_reads 127 [some (.inr (0, 50)), some (.inl (nI how)), some (.inl (nI cnt)), none, none, none, none] [.inl dv] (mG G r1 t o (pst x (a4 + 1) (nI g))) (fun v' G' => ∃ v a' u' r', v' = some v ∧ a' ≤ n ∧ G' = mG G r' t o (pst x a' u') ∧ rdEnd r how cnt down (prs t n (k + 1) a) r' v a') := by
              intro dv hdv
              subst hdv
              repeat (first | refine e2_step rfl rfl ?_ | refine e2m_get rfl rfl ?_ | refine e2m_ld _ rfl rfl (by omega) ?_)
              refine e2_fi (m_takes (a := a4 + 1) (s := nI 59) hx3 hn d1) rfl rfl ⟨rfl, rfl, rfl⟩ rfl rfl rfl (by decide) rfl rfl rfl ?_
              repeat (first | refine e2_stepS 12 rfl rfl rfl ?_ | refine e2m_getS 12 rfl rfl rfl ?_ | refine e2m_ldS 12 rfl _ rfl rfl (by omega) ?_)
              rw [nI_add']
              cases e6 : tkS t n (a4 + 1) (nI 59) with
              | some a6 =>
                have b6 := tkS_of e6
                have K := ih a6 (nI g) (cnt + 1) (down || decide (g < f)) r1 b6.2 (by omega) (by omega)
                refine e2_dropK (ls' := [some (.inr (0, 50)), some (.inl (nI how)), some (.inl (nI (cnt + 1))), some (.inl (bI (down || decide (g < f)))), some (.inl (nI 1)), none, none]) ?_ ⟨rfl, rfl, rfl, rfl, rfl, trivial⟩
                have hQ : (fun (v' : Option Int32) (G' : GG) => ∃ v a' u' r', v' = some v ∧ a' ≤ n ∧ G' = mG G r' t o (pst x a' u') ∧ rdEnd r how cnt down (prs t n (k + 1) a) r' v a') = (fun v' G' => ∃ v a' u' r', v' = some v ∧ a' ≤ n ∧ G' = mG G r' t o (pst x a' u') ∧ rdEnd r1 how (cnt + 1) (down || decide (g < f)) (prs t n k a6) r' v a') := by
                  have hp : prs t n (k + 1) a = ((f, g, dgt t a4) :: (prs t n k a6).1, (prs t n k a6).2) := by
                    conv => lhs; unfold prs
                    rw [hr1]
                    dsimp only
                    rw [e6]
                  have he : ∀ r' v a', rdEnd r how cnt down (prs t n (k + 1) a) r' v a' = rdEnd r1 how (cnt + 1) (down || decide (g < f)) (prs t n k a6) r' v a' := by
                    intro r' v a'
                    rw [hp]
                    unfold rdEnd
                    dsimp only
                    have e7 : (if how = 1 then aplR r ((f, g, dgt t a4) :: (prs t n k a6).1) else r) = (if how = 1 then aplR r1 (prs t n k a6).1 else r1) := by
                      rw [hr1e]
                      by_cases hh : how = 1
                      · simp only [hh, if_true]; rfl
                      · simp only [hh, if_false]
                    rw [e7]
                    have e8 : (down || dwnB ((f, g, dgt t a4) :: (prs t n k a6).1)) = ((down || decide (g < f)) || dwnB (prs t n k a6).1) := by
                      simp [dwnB, Bool.or_assoc]
                    rw [e8, List.length_cons, show cnt + ((prs t n k a6).1.length + 1) = cnt + 1 + (prs t n k a6).1.length by omega]
                  funext v' G'
                  simp only [he]
                rw [hQ]
                exact K
              | none =>
                have hp : prs t n (k + 1) a = ([(f, g, dgt t a4)], if a4 + 1 < n then some (a4 + 1) else none) := by
                  conv => lhs; unfold prs
                  rw [hr1]
                  dsimp only
                  rw [e6]
                rw [hp]
                have e7 : r1 = (if how = 1 then aplR r [(f, g, dgt t a4)] else r) := hr1e
                have e8 : (down || dwnB [(f, g, dgt t a4)]) = (down || decide (g < f)) := by simp [dwnB]
                repeat (first | refine e2_step rfl rfl ?_ | refine e2m_get rfl rfl ?_ | refine e2m_ld _ rfl rfl (by omega) ?_)
                refine e2_if rfl rfl (fun _ => ?_) (fun z => absurd rfl z)
                repeat (first | refine e2_step rfl rfl ?_ | refine e2m_get rfl rfl ?_ | refine e2m_ld _ rfl rfl (by omega) ?_)
                rw [show pst x ((none : Option Nat).getD (a4 + 1)) (nI g) 4 = nI (a4 + 1) from rfl, show pst x ((none : Option Nat).getD (a4 + 1)) (nI g) 3 = nI n from hx3]
                refine e2_if rfl rfl (fun z => ?_) (fun z => ?_)
                · rw [nI_leI (by omega) (by omega)] at z
                  rw [if_neg (by omega)]
                  repeat (first | refine e2_step rfl rfl ?_ | refine e2m_get rfl rfl ?_ | refine e2m_ld _ rfl rfl (by omega) ?_)
                  refine e2_if rfl rfl (fun z2 => ?_) (fun z2 => ?_)
                  · rw [bI_0] at z2
                    repeat (first | refine e2_step rfl rfl ?_ | refine e2m_get rfl rfl ?_ | refine e2m_ld _ rfl rfl (by omega) ?_)
                    refine e2_iret rfl rfl ⟨_, a4 + 1, nI g, r1, rfl, d1, rfl, e7, ?_⟩
                    dsimp only
                    rw [e8, z2]
                    rfl
                  · rw [bI_0, Bool.not_eq_false] at z2
                    repeat (first | refine e2_step rfl rfl ?_ | refine e2m_get rfl rfl ?_ | refine e2m_ld _ rfl rfl (by omega) ?_)
                    refine e2_iret rfl rfl ⟨_, a4 + 1, nI g, r1, rfl, d1, rfl, e7, ?_⟩
                    dsimp only
                    rw [e8, z2]
                    rfl
                · rw [nI_leI (by omega) (by omega)] at z
                  rw [if_pos (by omega)]
                  repeat (first | refine e2_step rfl rfl ?_ | refine e2m_get rfl rfl ?_ | refine e2m_ld _ rfl rfl (by omega) ?_)
                  exact e2_iret rfl rfl ⟨_, a4 + 1, nI g, r1, rfl, d1, rfl, e7, rfl, rfl⟩
            repeat (first | refine e2_step rfl rfl ?_ | refine e2m_get rfl rfl ?_ | refine e2m_ld _ rfl rfl (by omega) ?_)
            refine e2_if rfl rfl (fun z => ?_) (fun z => ?_)
            · have hd : down = true := by cases down with | true => rfl | false => exact absurd rfl z
              repeat (first | refine e2_stepS 127 rfl rfl rfl ?_ | refine e2m_getS 127 rfl rfl rfl ?_ | refine e2m_ldS 127 rfl _ rfl rfl (by omega) ?_)
              exact e2_dropK (hdown _ (by rw [hd]; rfl)) ⟨rfl, rfl, rfl, trivial⟩
            · have hd : down = false := by cases down with | true => exact absurd (by decide) z | false => rfl
              repeat (first | refine e2_step rfl rfl ?_ | refine e2m_get rfl rfl ?_ | refine e2m_ld _ rfl rfl (by omega) ?_)
              refine e2_if rfl rfl (fun z2 => ?_) (fun z2 => ?_)
              · rw [nI_leI (by omega) (by omega)] at z2
                repeat (first | refine e2_stepS 127 rfl rfl rfl ?_ | refine e2m_getS 127 rfl rfl rfl ?_ | refine e2m_ldS 127 rfl _ rfl rfl (by omega) ?_)
                exact e2_dropK (hdown _ (by rw [hd, decide_eq_false (by omega)]; rfl)) ⟨rfl, rfl, rfl, trivial⟩
              · rw [nI_leI (by omega) (by omega)] at z2
                repeat (first | refine e2_stepS 127 rfl rfl rfl ?_ | refine e2m_getS 127 rfl rfl rfl ?_ | refine e2m_ldS 127 rfl _ rfl rfl (by omega) ?_)
                exact e2_dropK (hdown _ (by rw [hd, decide_eq_true (by omega)]; rfl)) ⟨rfl, rfl, rfl, trivial⟩
          refine e2_if rfl rfl (fun z => ?_) (fun z => ?_)
          · have hh : ¬ how = 1 := fun e => z (by rw [e])
            exact hnext r (by rw [if_neg hh])
          · have hh : how = 1 := by
              have z2 : nI how = nI 1 := Classical.not_not.1 z
              rwa [nI_eq (by omega) (by omega)] at z2
            repeat (first | refine e2_step rfl rfl ?_ | refine e2m_get rfl rfl ?_ | refine e2m_ld _ rfl rfl (by omega) ?_)
            refine e2m_ldt a4 rfl rfl (by omega) ?_
            rw [d3]
            repeat (first | refine e2_step rfl rfl ?_ | refine e2m_get rfl rfl ?_ | refine e2m_ld _ rfl rfl (by omega) ?_)
            rw [pk_sub (by omega), Nat.add_sub_cancel_left]
            refine e2_fv (m_ranges (a := f) (b := g) b1.2.2 b3.2.2 (nI (dgt t a4))) rfl rfl ⟨rfl, rfl, rfl⟩ rfl rfl rfl (by decide) rfl rfl rfl ?_
            exact hnext _ (by rw [if_pos hh])
theorem m_reads {n how : Nat} (hx3 : x 3 = nI n) (hn : n ≤ 80) (hhow : how < 2) {a0 : Nat} {u0 : Int32} : CM ε jX9_reads [.inl (nI how)] G r t o (pst x a0 u0) (fun v' G' => ∃ v a' u' r', v' = some v ∧ a' ≤ n ∧ G' = mG G r' t o (pst x a' u') ∧ rdEnd r how 0 false (prs t n (n + 1) 0) r' v a') := by
  refine C2.of (ls := [some (.inr (0, 50)), some (.inl (nI how)), none, none, none, none, none]) okX9_reads rfl rfl ?_
  repeat (first | refine e2_step rfl rfl ?_ | refine e2m_get rfl rfl ?_ | refine e2m_ld _ rfl rfl (by omega) ?_)
  refine e2m_put rfl (by omega) ?_
  rw [pst_4]
  repeat (first | refine e2_stepS 12 rfl rfl rfl ?_ | refine e2m_getS 12 rfl rfl rfl ?_ | refine e2m_ldS 12 rfl _ rfl rfl (by omega) ?_)
  exact m_readsL hx3 hn hhow (n + 1) 0 u0 0 false r (by omega) (by omega) (by omega)
end MM
end
section
/-! The class's office i as numbers V (V kk = its part kk), with the line (s letters o): cG; rules over it; Line and Letters. -/
section NA
variable {ε : EE} {J : JT} {pc : Nat} {ls : List (Option V0)} {st : List V0} {G : GG} {i : Nat} {V V' : Nat → Nat → Int32} {s s' : Int32} {o o' : Nat → Int32} {Q : Option Int32 → GG → Prop}
abbrev VV : Type := Nat → Nat → Int32
def cG (G : GG) (i : Nat) (V : VV) (s : Int32) (o : Nat → Int32) : GG := fun i' kk => if i' = i ∧ kk < 18 then V kk else if i' = 0 ∧ kk = 40 then upd (G 0 40) 1 s else if i' = 0 ∧ kk = 41 then o else G i' kk
def sv (V : VV) (kk : Nat) (g : Nat → Int32) : VV := fun kk' => if kk' = kk then g else V kk'
def wv (V : VV) (kk j : Nat) (x : Int32) : VV := sv V kk (upd (V kk) j x)
theorem cG_at {kk : Nat} (h : kk < 18) : cG G i V s o i kk = V kk := by simp [cG, h]
theorem cG_40 : cG G i V s o 0 40 = upd (G 0 40) 1 s := by simp [cG]
theorem cG_41 : cG G i V s o 0 41 = o := by simp [cG]
theorem cG_o {i' kk : Nat} (h : i' ≠ i ∨ 18 ≤ kk) (h2 : kk ≠ 40) (h3 : kk ≠ 41) : cG G i V s o i' kk = G i' kk := by
  unfold cG
  rw [if_neg (by omega), if_neg (by omega), if_neg (by omega)]
theorem cG_set {kk : Nat} (h : kk < 18) (g : Nat → Int32) : setA (cG G i V s o) i kk g = cG G i (sv V kk g) s o := by
  funext a b
  simp only [setA, cG, sv]
  by_cases h1 : a = i ∧ b = kk
  · rw [if_pos h1, if_pos (by omega), if_pos h1.2]
  · rw [if_neg h1]
    by_cases h2 : a = i ∧ b < 18
    · rw [if_pos h2, if_pos h2, if_neg (by omega)]
    · rw [if_neg h2, if_neg h2]
theorem cG_set40 (x : Int32) : setA (cG G i V s o) 0 40 (upd (upd (G 0 40) 1 s) 1 x) = cG G i V x o := by
  funext a b
  simp only [setA, cG]
  by_cases h1 : a = 0 ∧ b = 40
  · rw [if_pos h1, if_neg (by omega), if_pos h1]
    funext j
    simp only [upd]
    split <;> rfl
  · rw [if_neg h1]
    by_cases h2 : a = i ∧ b < 18
    · rw [if_pos h2, if_pos h2]
    · rw [if_neg h2, if_neg h2, if_neg h1, if_neg h1]
theorem cG_set41 (g : Nat → Int32) : setA (cG G i V s o) 0 41 g = cG G i V s g := by
  funext a b
  simp only [setA, cG]
  by_cases h1 : a = 0 ∧ b = 41
  · rw [if_pos h1, if_neg (by omega), if_neg (by omega), if_pos h1]
  · rw [if_neg h1]
    by_cases h2 : a = i ∧ b < 18
    · rw [if_pos h2, if_pos h2]
    · rw [if_neg h2, if_neg h2]
      by_cases h3 : a = 0 ∧ b = 40
      · rw [if_pos h3, if_pos h3]
      · rw [if_neg h3, if_neg h3, if_neg h1, if_neg h1]
theorem cG_self (G : GG) (i : Nat) : cG G i (G i) (G 0 40 1) (G 0 41) = G := by
  funext a b
  simp only [cG]
  by_cases h2 : a = i ∧ b < 18
  · rw [if_pos h2, h2.1]
  · rw [if_neg h2]
    by_cases h3 : a = 0 ∧ b = 40
    · rw [if_pos h3, h3.1, h3.2]
      funext j
      simp only [upd]
      split
      · rename_i h; rw [h]
      · rfl
    · rw [if_neg h3]
      by_cases h4 : a = 0 ∧ b = 41
      · rw [if_pos h4, h4.1, h4.2]
      · rw [if_neg h4]
theorem lim18 {kk : Nat} (hi : i < 19) (hk : Nat.blt kk 18 = true) : i < lim kk ∧ kk < 18 := by
  have h : kk < 18 := by
    have h0 := hk
    simp [Nat.blt] at h0
    omega
  refine ⟨?_, h⟩
  unfold lim
  rw [if_pos h]
  exact hi
theorem e2c_get {kf t nx idx kk : Nat} {v : Int32} {fs : List V0} {w : V0} (hi : i < 19) (hk : Nat.blt kk 18 = true) (h : lk (jt J) pc = (30, kf, t, v, nx, idx)) (ho : objV i kk (V kk) = some (t, fs)) (hw : fs[kf]? = some w) (k : E2 ε J nx ls (w :: st) (cG G i V s o) Q) : E2 ε J pc ls (.inr (i, kk) :: st) (cG G i V s o) Q :=
  e2_get h (lim18 hi hk).1 (by rw [cG_at (lim18 hi hk).2]; exact ho) hw k
theorem e2c_getS {kf t nx idx kk : Nat} {v : Int32} {fs : List V0} {w : V0} (stop : Nat) (_ : Nat.beq pc stop = false) (hi : i < 19) (hk : Nat.blt kk 18 = true) (h : lk (jt J) pc = (30, kf, t, v, nx, idx)) (ho : objV i kk (V kk) = some (t, fs)) (hw : fs[kf]? = some w) (k : E2 ε J nx ls (w :: st) (cG G i V s o) Q) : E2 ε J pc ls (.inr (i, kk) :: st) (cG G i V s o) Q := e2c_get hi hk h ho hw k
theorem e2c_lget {kf nx idx : Nat} {v : Int32} {w : V0} (h : lk (jt J) pc = (30, kf, 3, v, nx, idx)) (hw : ([.inr (0, 41), .inl s] : List V0)[kf]? = some w) (k : E2 ε J nx ls (w :: st) (cG G i V s o) Q) : E2 ε J pc ls (.inr (0, 40) :: st) (cG G i V s o) Q :=
  e2_get (fs := [.inr (0, 41), .inl s]) h (by decide) (by rw [cG_40]; rfl) hw k
theorem e2c_lgetS {kf nx idx : Nat} {v : Int32} {w : V0} (stop : Nat) (_ : Nat.beq pc stop = false) (h : lk (jt J) pc = (30, kf, 3, v, nx, idx)) (hw : ([.inr (0, 41), .inl s] : List V0)[kf]? = some w) (k : E2 ε J nx ls (w :: st) (cG G i V s o) Q) : E2 ε J pc ls (.inr (0, 40) :: st) (cG G i V s o) Q := e2c_lget h hw k
theorem e2c_iald {a b nx idx kk n : Nat} {v x : Int32} (j : Nat) (hi : i < 19) (hk : Nat.blt kk 18 = true) (h : lk (jt J) pc = (32, a, b, v, nx, idx)) (hx : x = nI j) (ha : arrI kk = some (0, n)) (hj : j < n) (k : E2 ε J nx ls (.inl (V kk j) :: st) (cG G i V s o) Q) : E2 ε J pc ls (.inl x :: .inr (i, kk) :: st) (cG G i V s o) Q :=
  e2_iald j h hx (lim18 hi hk).1 ha hj (by rw [cG_at (lim18 hi hk).2]; exact k)
theorem e2c_ialdS {a b nx idx kk n : Nat} {v x : Int32} (stop : Nat) (_ : Nat.beq pc stop = false) (j : Nat) (hi : i < 19) (hk : Nat.blt kk 18 = true) (h : lk (jt J) pc = (32, a, b, v, nx, idx)) (hx : x = nI j) (ha : arrI kk = some (0, n)) (hj : j < n) (k : E2 ε J nx ls (.inl (V kk j) :: st) (cG G i V s o) Q) : E2 ε J pc ls (.inl x :: .inr (i, kk) :: st) (cG G i V s o) Q := e2c_iald j hi hk h hx ha hj k
theorem e2c_zald {a b nx idx kk n : Nat} {v x : Int32} (j : Nat) (hi : i < 19) (hk : Nat.blt kk 18 = true) (h : lk (jt J) pc = (33, a, b, v, nx, idx)) (hx : x = nI j) (ha : arrI kk = some (1, n)) (hj : j < n) (k : E2 ε J nx ls (.inl (V kk j) :: st) (cG G i V s o) Q) : E2 ε J pc ls (.inl x :: .inr (i, kk) :: st) (cG G i V s o) Q :=
  e2_zald j h hx (lim18 hi hk).1 ha hj (by rw [cG_at (lim18 hi hk).2]; exact k)
theorem e2c_lald {a b nx idx : Nat} {v x : Int32} (j : Nat) (h : lk (jt J) pc = (32, a, b, v, nx, idx)) (hx : x = nI j) (hj : j < 120) (k : E2 ε J nx ls (.inl (o j) :: st) (cG G i V s o) Q) : E2 ε J pc ls (.inl x :: .inr (0, 41) :: st) (cG G i V s o) Q :=
  e2_iald j h hx (by decide) rfl hj (by rw [cG_41]; exact k)
theorem e2c_iast {a b nx idx kk n : Nat} {v x y : Int32} (j : Nat) (hi : i < 19) (hk : Nat.blt kk 18 = true) (h : lk (jt J) pc = (36, a, b, v, nx, idx)) (hx : x = nI j) (ha : arrI kk = some (0, n)) (hj : j < n) (k : E2 ε J nx ls st (cG G i (wv V kk j y) s o) Q) : E2 ε J pc ls (.inl y :: .inl x :: .inr (i, kk) :: st) (cG G i V s o) Q :=
  e2_iast j h hx (lim18 hi hk).1 ha hj (by
    show E2 ε J nx ls st (setA _ i kk (upd (cG G i V s o i kk) j y)) Q
    rw [cG_at (lim18 hi hk).2, cG_set (lim18 hi hk).2]
    exact k)
theorem e2c_zast {a b nx idx kk n : Nat} {v x y : Int32} (j : Nat) (hi : i < 19) (hk : Nat.blt kk 18 = true) (h : lk (jt J) pc = (37, a, b, v, nx, idx)) (hx : x = nI j) (ha : arrI kk = some (1, n)) (hj : j < n) (hy : y = 0 ∨ y = 1) (k : E2 ε J nx ls st (cG G i (wv V kk j y) s o) Q) : E2 ε J pc ls (.inl y :: .inl x :: .inr (i, kk) :: st) (cG G i V s o) Q :=
  e2_zast j h hx (lim18 hi hk).1 ha hj hy (by
    show E2 ε J nx ls st (setA _ i kk (upd (cG G i V s o i kk) j y)) Q
    rw [cG_at (lim18 hi hk).2, cG_set (lim18 hi hk).2]
    exact k)
theorem e2c_last {a b nx idx : Nat} {v x y : Int32} (j : Nat) (h : lk (jt J) pc = (36, a, b, v, nx, idx)) (hx : x = nI j) (hj : j < 120) (k : E2 ε J nx ls st (cG G i V s (upd o j y)) Q) : E2 ε J pc ls (.inl y :: .inl x :: .inr (0, 41) :: st) (cG G i V s o) Q :=
  e2_iast j h hx (by decide) rfl hj (by
    show E2 ε J nx ls st (setA _ 0 41 (upd (cG G i V s o 0 41) j y)) Q
    rw [cG_41, cG_set41]
    exact k)
theorem e2c_put {kf t nx idx kk : Nat} {v x : Int32} {fs : List V0} (hi : i < 19) (hk : Nat.blt kk 18 = true) (h : lk (jt J) pc = (31, kf, t, v, nx, idx)) (ho : objV i kk (V kk) = some (t, fs)) (ho2 : objV i kk (upd (V kk) kf x) = some (t, fs.set kf (.inl x))) (hfin : (tbC t kf).2.2.2 = false) (hty : tyC t kf = .int) (hl0 : Nat.ble (kf + 1) fs.length = true) (k : E2 ε J nx ls st (cG G i (wv V kk kf x) s o) Q) : E2 ε J pc ls (.inl x :: .inr (i, kk) :: st) (cG G i V s o) Q :=
  e2_put h (lim18 hi hk).1 (by rw [cG_at (lim18 hi hk).2]; exact ho) (by rw [cG_at (lim18 hi hk).2]; exact ho2) hfin hty hl0 (by
    show E2 ε J nx ls st (setA _ i kk (upd (cG G i V s o i kk) kf x)) Q
    rw [cG_at (lim18 hi hk).2, cG_set (lim18 hi hk).2]
    exact k)
theorem e2c_lput {nx idx : Nat} {v x : Int32} (h : lk (jt J) pc = (31, 1, 3, v, nx, idx)) (k : E2 ε J nx ls st (cG G i V x o) Q) : E2 ε J pc ls (.inl x :: .inr (0, 40) :: st) (cG G i V s o) Q :=
  e2_put (fs := [.inr (0, 41), .inl s]) h (by decide) (by rw [cG_40]; rfl) (by rw [cG_40]; rfl) rfl rfl rfl (by
    show E2 ε J nx ls st (setA _ 0 40 (upd (cG G i V s o 0 40) 1 x)) Q
    rw [cG_40, cG_set40]
    exact k)
/-- a method of a part of office i -/
def FC (ε : EE) (J : JT) (As : List V0) (G : GG) (i : Nat) (V : VV) (s : Int32) (o : Nat → Int32) (v : Option Int32) (V' : VV) (s' : Int32) (o' : Nat → Int32) : Prop := F2 ε J As (cG G i V s o) v (cG G i V' s' o')
theorem e2c_fi {J' : JT} {n idx nx kk ci : Nat} {v r : Int32} {As rest : List V0} {fs : List V0} {ty : FieldType} (hC : FC ε J' (.inr (i, kk) :: As) G i V s o (some r) V' s' o') (hst : st = As.reverse ++ .inr (i, kk) :: rest) (h : lk (jt J) pc = (44, n, jn J', v, nx, idx)) (hT : e_fit J J') (hr : jr J' = some ty) (hn : As.length = n) (hrest : Nat.ble rest.length 8 = true) (hi : i < 19) (hk : Nat.blt kk 18 = true) (ho : objV i kk (V kk) = some (ci, fs)) (hci : Nat.ble ci 9 = true) (hcn : nmC ci = (jy J').cls)
    (k : E2 ε J nx ls (.inl r :: rest) (cG G i V' s' o') Q) : E2 ε J pc ls st (cG G i V s o) Q := e2_fi hC hst h hT hr hn hrest (lim18 hi hk).1 (by rw [cG_at (lim18 hi hk).2]; exact ho) hci hcn k
theorem e2c_fv {J' : JT} {n idx nx kk ci : Nat} {v : Int32} {As rest : List V0} {fs : List V0} (hC : FC ε J' (.inr (i, kk) :: As) G i V s o none V' s' o') (hst : st = As.reverse ++ .inr (i, kk) :: rest) (h : lk (jt J) pc = (44, n, jn J', v, nx, idx)) (hT : e_fit J J') (hr : jr J' = none) (hn : As.length = n) (hrest : Nat.ble rest.length 8 = true) (hi : i < 19) (hk : Nat.blt kk 18 = true) (ho : objV i kk (V kk) = some (ci, fs)) (hci : Nat.ble ci 9 = true) (hcn : nmC ci = (jy J').cls)
    (k : E2 ε J nx ls rest (cG G i V' s' o') Q) : E2 ε J pc ls st (cG G i V s o) Q := e2_fv hC hst h hT hr hn hrest (lim18 hi hk).1 (by rw [cG_at (lim18 hi hk).2]; exact ho) hci hcn k
theorem e2c_lfi {J' : JT} {n idx nx : Nat} {v r : Int32} {As rest : List V0} {ty : FieldType} (hC : FC ε J' (.inr (0, 40) :: As) G i V s o (some r) V' s' o') (hst : st = As.reverse ++ .inr (0, 40) :: rest) (h : lk (jt J) pc = (44, n, jn J', v, nx, idx)) (hT : e_fit J J') (hr : jr J' = some ty) (hn : As.length = n) (hrest : Nat.ble rest.length 8 = true) (hcn : nmC 3 = (jy J').cls)
    (k : E2 ε J nx ls (.inl r :: rest) (cG G i V' s' o') Q) : E2 ε J pc ls st (cG G i V s o) Q := e2_fi (fs := [.inr (0, 41), .inl s]) hC hst h hT hr hn hrest (by decide) (by rw [cG_40]; rfl) (by decide) hcn k
theorem e2c_lfv {J' : JT} {n idx nx : Nat} {v : Int32} {As rest : List V0} (hC : FC ε J' (.inr (0, 40) :: As) G i V s o none V' s' o') (hst : st = As.reverse ++ .inr (0, 40) :: rest) (h : lk (jt J) pc = (44, n, jn J', v, nx, idx)) (hT : e_fit J J') (hr : jr J' = none) (hn : As.length = n) (hrest : Nat.ble rest.length 8 = true) (hcn : nmC 3 = (jy J').cls)
    (k : E2 ε J nx ls rest (cG G i V' s' o') Q) : E2 ε J pc ls st (cG G i V s o) Q := e2_fv (fs := [.inr (0, 41), .inl s]) hC hst h hT hr hn hrest (by decide) (by rw [cG_40]; rfl) (by decide) hcn k
-- Line
theorem l_addLast {n : Nat} (hn : n < 120) (y : Int32) : FC ε jX3_addLast [.inr (0, 40), .inl y] G i V (nI n) o none V (nI (n + 1)) (upd o n y) := by
  refine C2.of (ls := [some (.inr (0, 40)), some (.inl y)]) okX3_addLast rfl rfl ?_
  repeat (first | refine e2_step rfl rfl ?_ | refine e2c_lget rfl rfl ?_)
  refine e2_alen (n := 120) rfl (by decide) rfl (by decide) ?_
  refine e2_if rfl rfl (fun c => absurd c (nI_ge hn (by decide))) (fun _ => ?_)
  repeat (first | refine e2_step rfl rfl ?_ | refine e2c_lget rfl rfl ?_)
  refine e2c_last n rfl rfl hn ?_
  repeat (first | refine e2_step rfl rfl ?_ | refine e2c_lget rfl rfl ?_)
  rw [nI_add']
  refine e2c_lput rfl ?_
  exact e2_vret rfl rfl ⟨rfl, rfl⟩
theorem l_swap {n k : Nat} (hn : n ≤ 120) (hk : k + 1 < n) : FC ε jX3_swapWithPrevious [.inr (0, 40), .inl (nI (k + 1))] G i V (nI n) o none V (nI n) (upd (upd o (k + 1) (o k)) k (o (k + 1))) := by
  refine C2.of (ls := [some (.inr (0, 40)), some (.inl (nI (k + 1))), none]) okX3_swapWithPrevious rfl rfl ?_
  repeat (first | refine e2_step rfl rfl ?_ | refine e2c_lget rfl rfl ?_)
  refine e2_if rfl rfl (fun c => absurd c (nI_nle (by omega) (by omega))) (fun _ => ?_)
  repeat (first | refine e2_step rfl rfl ?_ | refine e2c_lget rfl rfl ?_)
  refine e2_if rfl rfl (fun c => absurd c (nI_ge hk (by omega))) (fun _ => ?_)
  repeat (first | refine e2_step rfl rfl ?_ | refine e2c_lget rfl rfl ?_)
  refine e2c_lald (k + 1) rfl rfl (by omega) ?_
  repeat (first | refine e2_step rfl rfl ?_ | refine e2c_lget rfl rfl ?_)
  refine e2c_lald k rfl (by rw [pk_sub (by omega), Nat.add_sub_cancel]) (by omega) ?_
  refine e2c_last (k + 1) rfl rfl (by omega) ?_
  repeat (first | refine e2_step rfl rfl ?_ | refine e2c_lget rfl rfl ?_)
  refine e2c_last k rfl (by rw [pk_sub (by omega), Nat.add_sub_cancel]) (by omega) ?_
  exact e2_vret rfl rfl ⟨rfl, rfl⟩
def atV (V : VV) (p k : Int32) (l : Nat) : Bool := decide (V 7 l = p) && decide (V 8 l = k)
theorem l_letterAt {n j : Nat} (hn : n ≤ 120) (hj : j < 2 ^ 31) : FC ε jX3_letterAt [.inr (0, 40), .inl (nI j)] G i V (nI n) o (some (if n ≤ j then -9 else o j)) V (nI n) o := by
  refine C2.of (ls := [some (.inr (0, 40)), some (.inl (nI j))]) okX3_letterAt rfl rfl ?_
  repeat (first | refine e2_step rfl rfl ?_ | refine e2c_lget rfl rfl ?_)
  refine e2_if rfl rfl (fun z => absurd z (nI_pos hj)) (fun _ => ?_)
  repeat (first | refine e2_step rfl rfl ?_ | refine e2c_lget rfl rfl ?_)
  refine e2_if rfl rfl (fun z => ?_) (fun z => ?_)
  · rw [nI_leI (by omega) hj] at z
    rw [if_pos z]
    repeat (first | refine e2_step rfl rfl ?_ | refine e2c_lget rfl rfl ?_)
    exact e2_iret rfl rfl ⟨rfl, rfl⟩
  · rw [nI_leI (by omega) hj] at z
    rw [if_neg z]
    repeat (first | refine e2_step rfl rfl ?_ | refine e2c_lget rfl rfl ?_)
    refine e2c_lald j rfl rfl (by omega) ?_
    repeat (first | refine e2_step rfl rfl ?_ | refine e2c_lget rfl rfl ?_)
    exact e2_iret rfl rfl ⟨rfl, rfl⟩
theorem v_has {N l : Nat} (hi : i < 19) (hN : N ≤ 120) (hc : V 3 8 = nI N) (hl : l < N) : FC ε jX2_has [.inr (i, 3), .inl (nI l)] G i V s o (some (nI 1)) V s o := by
  refine C2.of (ls := [some (.inr (i, 3)), some (.inl (nI l))]) okX2_has rfl rfl ?_
  repeat (first | refine e2_step rfl rfl ?_ | refine e2c_get hi rfl rfl rfl rfl ?_ | refine e2c_lget rfl rfl ?_ | refine e2c_iald _ hi rfl rfl rfl rfl (by omega) ?_ | refine e2c_lald _ rfl rfl (by omega) ?_)
  refine e2_if rfl rfl (fun c => absurd c (nI_pos (by omega))) (fun _ => ?_)
  repeat (first | refine e2_step rfl rfl ?_ | refine e2c_get hi rfl rfl rfl rfl ?_ | refine e2c_lget rfl rfl ?_ | refine e2c_iald _ hi rfl rfl rfl rfl (by omega) ?_ | refine e2c_lald _ rfl rfl (by omega) ?_)
  rw [hc]
  refine e2_if rfl rfl (fun c => absurd c (nI_ge hl (by omega))) (fun _ => ?_)
  repeat (first | refine e2_step rfl rfl ?_ | refine e2c_get hi rfl rfl rfl rfl ?_ | refine e2c_lget rfl rfl ?_ | refine e2c_iald _ hi rfl rfl rfl rfl (by omega) ?_ | refine e2c_lald _ rfl rfl (by omega) ?_)
  exact e2_zret rfl rfl rfl ⟨rfl, rfl⟩
theorem v_hasF {N : Nat} {x : Int32} (hi : i < 19) (hN : N ≤ 120) (hc : V 3 8 = nI N) (h : isInB x (nI 0) (nI N - nI 1) = false) : FC ε jX2_has [.inr (i, 3), .inl x] G i V s o (some (nI 0)) V s o := by
  refine C2.of (ls := [some (.inr (i, 3)), some (.inl x)]) okX2_has rfl rfl ?_
  repeat (first | refine e2_step rfl rfl ?_ | refine e2c_get hi rfl rfl rfl rfl ?_ | refine e2c_lget rfl rfl ?_ | refine e2c_iald _ hi rfl rfl rfl rfl (by omega) ?_ | refine e2c_lald _ rfl rfl (by omega) ?_)
  refine e2_if rfl rfl (fun c => ?_) (fun c => ?_)
  · repeat (first | refine e2_step rfl rfl ?_ | refine e2c_get hi rfl rfl rfl rfl ?_ | refine e2c_lget rfl rfl ?_ | refine e2c_iald _ hi rfl rfl rfl rfl (by omega) ?_ | refine e2c_lald _ rfl rfl (by omega) ?_)
    exact e2_zret rfl rfl rfl ⟨rfl, rfl⟩
  · repeat (first | refine e2_step rfl rfl ?_ | refine e2c_get hi rfl rfl rfl rfl ?_ | refine e2c_lget rfl rfl ?_ | refine e2c_iald _ hi rfl rfl rfl rfl (by omega) ?_ | refine e2c_lald _ rfl rfl (by omega) ?_)
    rw [hc]
    refine e2_if rfl rfl (fun c2 => ?_) (fun c2 => ?_)
    · repeat (first | refine e2_step rfl rfl ?_ | refine e2c_get hi rfl rfl rfl rfl ?_ | refine e2c_lget rfl rfl ?_ | refine e2c_iald _ hi rfl rfl rfl rfl (by omega) ?_ | refine e2c_lald _ rfl rfl (by omega) ?_)
      exact e2_zret rfl rfl rfl ⟨rfl, rfl⟩
    · exfalso
      cases N with
      | zero => exact c2 (Int32.not_lt.1 c)
      | succ k =>
        rw [pk_sub (by omega), Nat.add_sub_cancel, isIn_mid (by omega) c c2] at h
        cases h
theorem v_isAt {N l : Nat} (hi : i < 19) (hN : N ≤ 120) (hc : V 3 8 = nI N) (hl : l < N) (p k : Int32) : FC ε jX2_isAt [.inr (i, 3), .inl (nI l), .inl p, .inl k] G i V s o (some (bI (atV V p k l))) V s o := by
  refine C2.of (ls := [some (.inr (i, 3)), some (.inl (nI l)), some (.inl p), some (.inl k)]) okX2_isAt rfl rfl ?_
  repeat (first | refine e2_step rfl rfl ?_ | refine e2c_get hi rfl rfl rfl rfl ?_ | refine e2c_lget rfl rfl ?_ | refine e2c_iald _ hi rfl rfl rfl rfl (by omega) ?_ | refine e2c_lald _ rfl rfl (by omega) ?_)
  refine e2c_fi (v_has hi hN hc hl) rfl rfl ⟨rfl, rfl, rfl⟩ rfl rfl rfl hi rfl rfl rfl rfl ?_
  refine e2_if rfl rfl (fun z => absurd z (by decide)) (fun _ => ?_)
  repeat (first | refine e2_step rfl rfl ?_ | refine e2c_get hi rfl rfl rfl rfl ?_ | refine e2c_lget rfl rfl ?_ | refine e2c_iald _ hi rfl rfl rfl rfl (by omega) ?_ | refine e2c_lald _ rfl rfl (by omega) ?_)
  refine e2_if rfl rfl (fun c => ?_) (fun c => ?_)
  · have e : atV V p k l = false := by unfold atV; rw [decide_eq_false c, Bool.false_and]
    rw [e]
    repeat (first | refine e2_step rfl rfl ?_ | refine e2c_get hi rfl rfl rfl rfl ?_ | refine e2c_lget rfl rfl ?_ | refine e2c_iald _ hi rfl rfl rfl rfl (by omega) ?_ | refine e2c_lald _ rfl rfl (by omega) ?_)
    exact e2_zret rfl rfl rfl ⟨rfl, rfl⟩
  · repeat (first | refine e2_step rfl rfl ?_ | refine e2c_get hi rfl rfl rfl rfl ?_ | refine e2c_lget rfl rfl ?_ | refine e2c_iald _ hi rfl rfl rfl rfl (by omega) ?_ | refine e2c_lald _ rfl rfl (by omega) ?_)
    refine e2_if rfl rfl (fun c2 => ?_) (fun c2 => ?_)
    · have e : atV V p k l = false := by unfold atV; rw [decide_eq_false c2, Bool.and_false]
      rw [e]
      repeat (first | refine e2_step rfl rfl ?_ | refine e2c_get hi rfl rfl rfl rfl ?_ | refine e2c_lget rfl rfl ?_ | refine e2c_iald _ hi rfl rfl rfl rfl (by omega) ?_ | refine e2c_lald _ rfl rfl (by omega) ?_)
      exact e2_zret rfl rfl rfl ⟨rfl, rfl⟩
    · have e : atV V p k l = true := by unfold atV; rw [decide_eq_true (Classical.not_not.1 c), decide_eq_true (Classical.not_not.1 c2)]; rfl
      rw [e]
      repeat (first | refine e2_step rfl rfl ?_ | refine e2c_get hi rfl rfl rfl rfl ?_ | refine e2c_lget rfl rfl ?_ | refine e2c_iald _ hi rfl rfl rfl rfl (by omega) ?_ | refine e2c_lald _ rfl rfl (by omega) ?_)
      exact e2_zret rfl rfl rfl ⟨rfl, rfl⟩
theorem v_isFirst {N l : Nat} (hi : i < 19) (hN : N ≤ 120) (hc : V 3 8 = nI N) (hl : l < N) : FC ε jX2_isFirstClass [.inr (i, 3), .inl (nI l)] G i V s o (some (bI (decide (V 5 l = nI 1)))) V s o := by
  refine C2.of (ls := [some (.inr (i, 3)), some (.inl (nI l))]) okX2_isFirstClass rfl rfl ?_
  repeat (first | refine e2_step rfl rfl ?_ | refine e2c_get hi rfl rfl rfl rfl ?_ | refine e2c_lget rfl rfl ?_ | refine e2c_iald _ hi rfl rfl rfl rfl (by omega) ?_ | refine e2c_lald _ rfl rfl (by omega) ?_)
  refine e2c_fi (v_has hi hN hc hl) rfl rfl ⟨rfl, rfl, rfl⟩ rfl rfl rfl hi rfl rfl rfl rfl ?_
  refine e2_if rfl rfl (fun z => absurd z (by decide)) (fun _ => ?_)
  repeat (first | refine e2_step rfl rfl ?_ | refine e2c_get hi rfl rfl rfl rfl ?_ | refine e2c_lget rfl rfl ?_ | refine e2c_iald _ hi rfl rfl rfl rfl (by omega) ?_ | refine e2c_lald _ rfl rfl (by omega) ?_)
  refine e2_if rfl rfl (fun c => ?_) (fun c => ?_)
  · rw [decide_eq_false c]
    repeat (first | refine e2_step rfl rfl ?_ | refine e2c_get hi rfl rfl rfl rfl ?_ | refine e2c_lget rfl rfl ?_ | refine e2c_iald _ hi rfl rfl rfl rfl (by omega) ?_ | refine e2c_lald _ rfl rfl (by omega) ?_)
    exact e2_zret rfl rfl rfl ⟨rfl, rfl⟩
  · rw [decide_eq_true (Classical.not_not.1 c)]
    repeat (first | refine e2_step rfl rfl ?_ | refine e2c_get hi rfl rfl rfl rfl ?_ | refine e2c_lget rfl rfl ?_ | refine e2c_iald _ hi rfl rfl rfl rfl (by omega) ?_ | refine e2c_lald _ rfl rfl (by omega) ?_)
    exact e2_zret rfl rfl rfl ⟨rfl, rfl⟩
theorem v_countIn {N : Nat} (hi : i < 19) (hN : N ≤ 120) (hc : V 3 8 = nI N) (p : Int32) : FC ε jX2_countIn [.inr (i, 3), .inl p] G i V s o (some (nI (cntB (fun l => decide (V 7 l = p)) N))) V s o := by
  have h := c_countIn (ε := ε) (G := cG G i V s o) hi hN (by rw [cG_at (by decide)]; exact hc) p
  rw [cG_at (by decide)] at h
  exact h
def dnV (V : VV) (l : Nat) : VV := if V 7 l = nI 1 then wv V 11 (V 8 l).toNatClampNeg (V 11 (V 8 l).toNatClampNeg - nI 1) else V
def upV (V : VV) (p k : Int32) : VV := if p = nI 1 then wv V 11 k.toNatClampNeg (V 11 k.toNatClampNeg + nI 1) else V
def moveV (V : VV) (l : Nat) (p k : Int32) : VV := upV (wv (wv (dnV V l) 7 l p) 8 l k) p k
theorem v_moveTo {N l : Nat} (hi : i < 19) (hN : N ≤ 120) (hc : V 3 8 = nI N) (hl : l < N) (p k : Int32) (h1 : V 7 l = nI 1 → ∃ w, w < 8 ∧ V 8 l = nI w) (h2 : p = nI 1 → ∃ w, w < 8 ∧ k = nI w) : FC ε jX2_moveTo [.inr (i, 3), .inl (nI l), .inl p, .inl k] G i V s o none (moveV V l p k) s o := by
  refine C2.of (ls := [some (.inr (i, 3)), some (.inl (nI l)), some (.inl p), some (.inl k)]) okX2_moveTo rfl rfl ?_
  repeat (first | refine e2_step rfl rfl ?_ | refine e2c_get hi rfl rfl rfl rfl ?_ | refine e2c_lget rfl rfl ?_ | refine e2c_iald _ hi rfl rfl rfl rfl (by omega) ?_ | refine e2c_lald _ rfl rfl (by omega) ?_)
  refine e2c_fi (v_has hi hN hc hl) rfl rfl ⟨rfl, rfl, rfl⟩ rfl rfl rfl hi rfl rfl rfl rfl ?_
  refine e2_if rfl rfl (fun _ => ?_) (fun z => absurd (by decide) z)
  repeat (first | refine e2_step rfl rfl ?_ | refine e2c_get hi rfl rfl rfl rfl ?_ | refine e2c_lget rfl rfl ?_ | refine e2c_iald _ hi rfl rfl rfl rfl (by omega) ?_ | refine e2c_lald _ rfl rfl (by omega) ?_)
  have hrest : ∀ V1 : VV, V1 = dnV V l → E2 ε jX2_moveTo 46 [some (.inr (i, 3)), some (.inl (nI l)), some (.inl p), some (.inl k)] [] (cG G i V1 s o) (fun v' G' => v' = none ∧ G' = cG G i (moveV V l p k) s o) := by
    intro V1 hV1
    repeat (first | refine e2_step rfl rfl ?_ | refine e2c_get hi rfl rfl rfl rfl ?_ | refine e2c_lget rfl rfl ?_ | refine e2c_iald _ hi rfl rfl rfl rfl (by omega) ?_ | refine e2c_lald _ rfl rfl (by omega) ?_)
    refine e2c_iast l hi rfl rfl rfl rfl (by omega) ?_
    repeat (first | refine e2_step rfl rfl ?_ | refine e2c_get hi rfl rfl rfl rfl ?_ | refine e2c_lget rfl rfl ?_ | refine e2c_iald _ hi rfl rfl rfl rfl (by omega) ?_ | refine e2c_lald _ rfl rfl (by omega) ?_)
    refine e2c_iast l hi rfl rfl rfl rfl (by omega) ?_
    repeat (first | refine e2_step rfl rfl ?_ | refine e2c_get hi rfl rfl rfl rfl ?_ | refine e2c_lget rfl rfl ?_ | refine e2c_iald _ hi rfl rfl rfl rfl (by omega) ?_ | refine e2c_lald _ rfl rfl (by omega) ?_)
    unfold moveV upV
    rw [← hV1]
    refine e2_if rfl rfl (fun c => ?_) (fun c => ?_)
    · rw [if_neg c]
      exact e2_vret rfl rfl ⟨rfl, rfl⟩
    · have c := Classical.not_not.1 c
      obtain ⟨w, hw, hk⟩ := h2 c
      rw [if_pos c, hk, nI_clamp (by omega)]
      repeat (first | refine e2_step rfl rfl ?_ | refine e2c_get hi rfl rfl rfl rfl ?_ | refine e2c_lget rfl rfl ?_ | refine e2c_iald _ hi rfl rfl rfl rfl (by omega) ?_ | refine e2c_lald _ rfl rfl (by omega) ?_)
      refine e2_fs (c_isWalkT hw) rfl rfl ⟨rfl, rfl, rfl⟩ rfl rfl rfl ?_
      refine e2_if rfl rfl (fun z => absurd z (by decide)) (fun _ => ?_)
      repeat (first | refine e2_step rfl rfl ?_ | refine e2c_get hi rfl rfl rfl rfl ?_ | refine e2c_lget rfl rfl ?_ | refine e2c_iald _ hi rfl rfl rfl rfl (by omega) ?_ | refine e2c_lald _ rfl rfl (by omega) ?_)
      refine e2c_iast w hi rfl rfl rfl rfl hw ?_
      exact e2_vret rfl rfl ⟨rfl, rfl⟩
  refine e2_if rfl rfl (fun c => ?_) (fun c => ?_)
  · exact hrest V (by unfold dnV; rw [if_neg c])
  · have c := Classical.not_not.1 c
    obtain ⟨w, hw, hk⟩ := h1 c
    repeat (first | refine e2_step rfl rfl ?_ | refine e2c_get hi rfl rfl rfl rfl ?_ | refine e2c_lget rfl rfl ?_ | refine e2c_iald _ hi rfl rfl rfl rfl (by omega) ?_ | refine e2c_lald _ rfl rfl (by omega) ?_)
    rw [hk]
    refine e2_fs (c_isWalkT hw) rfl rfl ⟨rfl, rfl, rfl⟩ rfl rfl rfl ?_
    refine e2_if rfl rfl (fun z => absurd z (by decide)) (fun _ => ?_)
    repeat (first | refine e2_step rfl rfl ?_ | refine e2c_get hi rfl rfl rfl rfl ?_ | refine e2c_lget rfl rfl ?_ | refine e2c_iald _ hi rfl rfl rfl rfl (by omega) ?_ | refine e2c_lald _ rfl rfl (by omega) ?_)
    refine e2c_iald w hi rfl rfl hk rfl hw ?_
    repeat (first | refine e2_step rfl rfl ?_ | refine e2c_get hi rfl rfl rfl rfl ?_ | refine e2c_lget rfl rfl ?_ | refine e2c_iald _ hi rfl rfl rfl rfl (by omega) ?_ | refine e2c_lald _ rfl rfl (by omega) ?_)
    refine e2c_iast w hi rfl rfl hk rfl hw ?_
    exact hrest _ (by unfold dnV; rw [if_pos c, hk, nI_clamp (by omega)])
end NA
end
section
/-! Letters of office i. -/
section NB
variable {ε : EE} {J : JT} {pc : Nat} {ls : List (Option V0)} {st : List V0} {G : GG} {i : Nat} {V : VV} {s : Int32} {o : Nat → Int32} {Q : Option Int32 → GG → Prop}
def finV (V : VV) (l : Nat) (p h : Int32) : VV := wv (moveV V l p (-9)) 10 l h
theorem v_finish {N l : Nat} (hi : i < 19) (hN : N ≤ 120) (hc : V 3 8 = nI N) (hl : l < N) (p h : Int32) (h1 : V 7 l = nI 1 → ∃ w, w < 8 ∧ V 8 l = nI w) (h2 : ¬ p = nI 1) : FC ε jX2_finish [.inr (i, 3), .inl (nI l), .inl p, .inl h] G i V s o none (finV V l p h) s o := by
  refine C2.of (ls := [some (.inr (i, 3)), some (.inl (nI l)), some (.inl p), some (.inl h)]) okX2_finish rfl rfl ?_
  repeat (first | refine e2_step rfl rfl ?_ | refine e2c_get hi rfl rfl rfl rfl ?_ | refine e2c_lget rfl rfl ?_ | refine e2c_iald _ hi rfl rfl rfl rfl (by omega) ?_ | refine e2c_lald _ rfl rfl (by omega) ?_)
  refine e2c_fi (v_has hi hN hc hl) rfl rfl ⟨rfl, rfl, rfl⟩ rfl rfl rfl hi rfl rfl rfl rfl ?_
  refine e2_if rfl rfl (fun z => absurd z (by decide)) (fun _ => ?_)
  repeat (first | refine e2_step rfl rfl ?_ | refine e2c_get hi rfl rfl rfl rfl ?_ | refine e2c_lget rfl rfl ?_ | refine e2c_iald _ hi rfl rfl rfl rfl (by omega) ?_ | refine e2c_lald _ rfl rfl (by omega) ?_)
  refine e2c_fv (v_moveTo hi hN hc hl p (-9) h1 (fun z => absurd z h2)) rfl rfl ⟨rfl, rfl, rfl⟩ rfl rfl rfl hi rfl rfl rfl rfl ?_
  repeat (first | refine e2_step rfl rfl ?_ | refine e2c_get hi rfl rfl rfl rfl ?_ | refine e2c_lget rfl rfl ?_ | refine e2c_iald _ hi rfl rfl rfl rfl (by omega) ?_ | refine e2c_lald _ rfl rfl (by omega) ?_)
  refine e2c_iast l hi rfl rfl rfl rfl (by omega) ?_
  exact e2_vret rfl rfl ⟨rfl, rfl⟩
def ovV (V : VV) : Nat → VV
  | 0 => V
  | n + 1 => if ovV V n 7 n = nI 2 then moveV (ovV V n) n (nI 0) (-9) else ovV V n
theorem moveV_o {l : Nat} {p k : Int32} {kk : Nat} (h7 : kk ≠ 7) (h8 : kk ≠ 8) (h11 : kk ≠ 11) : moveV V l p k kk = V kk := by
  unfold moveV upV dnV wv sv
  repeat' split
  all_goals simp_all
theorem ovV_o {kk : Nat} (h7 : kk ≠ 7) (h8 : kk ≠ 8) (h11 : kk ≠ 11) : ∀ n, ovV V n kk = V kk
  | 0 => rfl
  | n + 1 => by
    unfold ovV
    split
    · rw [moveV_o h7 h8 h11, ovV_o h7 h8 h11 n]
    · exact ovV_o h7 h8 h11 n
theorem n21 : ¬ nI 2 = nI 1 := by decide
theorem n01 : ¬ nI 0 = nI 1 := by decide
theorem v_emptyOverflow {N : Nat} (hi : i < 19) (hN : N ≤ 120) (hc : V 3 8 = nI N) : FC ε jX2_emptyOverflow [.inr (i, 3)] G i V s o none (ovV V N) s o := by
  refine C2.of (ls := [some (.inr (i, 3)), none]) okX2_emptyOverflow rfl rfl ?_
  repeat (first | refine e2_stepS 2 rfl rfl rfl ?_ | refine e2c_getS 2 rfl hi rfl rfl rfl rfl ?_ | refine e2c_lgetS 2 rfl rfl rfl ?_ | refine e2c_ialdS 2 rfl _ hi rfl rfl rfl rfl (by omega) ?_)
  refine e2_for N (fun l => [some (.inr (i, 3)), some (.inl (nI l))]) (fun l => cG G i (ovV V l) s o) (fun l hl K => ?_) (fun M hM => ?_)
  · repeat (first | refine e2_step rfl rfl ?_ | refine e2c_get hi rfl rfl rfl rfl ?_ | refine e2c_lget rfl rfl ?_ | refine e2c_iald _ hi rfl rfl rfl rfl (by omega) ?_ | refine e2c_lald _ rfl rfl (by omega) ?_)
    rw [ovV_o (by decide) (by decide) (by decide), hc]
    refine e2_if rfl rfl (fun c => absurd c (nI_ge hl (by omega))) (fun _ => ?_)
    repeat (first | refine e2_step rfl rfl ?_ | refine e2c_get hi rfl rfl rfl rfl ?_ | refine e2c_lget rfl rfl ?_ | refine e2c_iald _ hi rfl rfl rfl rfl (by omega) ?_ | refine e2c_lald _ rfl rfl (by omega) ?_)
    simp only [ovV] at K
    refine e2_if rfl rfl (fun c => ?_) (fun c => ?_)
    · rw [if_neg c] at K
      repeat (first | refine e2_stepS 2 rfl rfl rfl ?_ | refine e2c_getS 2 rfl hi rfl rfl rfl rfl ?_ | refine e2c_lgetS 2 rfl rfl rfl ?_ | refine e2c_ialdS 2 rfl _ hi rfl rfl rfl rfl (by omega) ?_)
      rw [nI_add']
      exact K
    · have c := Classical.not_not.1 c
      rw [if_pos c] at K
      repeat (first | refine e2_step rfl rfl ?_ | refine e2c_get hi rfl rfl rfl rfl ?_ | refine e2c_lget rfl rfl ?_ | refine e2c_iald _ hi rfl rfl rfl rfl (by omega) ?_ | refine e2c_lald _ rfl rfl (by omega) ?_)
      refine e2c_fv (v_moveTo hi hN (by rw [ovV_o (by decide) (by decide) (by decide)]; exact hc) hl (nI 0) (-9) (fun z => absurd (c.symm.trans z) n21) (fun z => absurd z n01)) rfl rfl ⟨rfl, rfl, rfl⟩ rfl rfl rfl hi rfl rfl rfl rfl ?_
      repeat (first | refine e2_stepS 2 rfl rfl rfl ?_ | refine e2c_getS 2 rfl hi rfl rfl rfl rfl ?_ | refine e2c_lgetS 2 rfl rfl rfl ?_ | refine e2c_ialdS 2 rfl _ hi rfl rfl rfl rfl (by omega) ?_)
      rw [nI_add']
      exact K
  · repeat (first | refine e2_step rfl rfl ?_ | refine e2c_get hi rfl rfl rfl rfl ?_ | refine e2c_lget rfl rfl ?_ | refine e2c_iald _ hi rfl rfl rfl rfl (by omega) ?_ | refine e2c_lald _ rfl rfl (by omega) ?_)
    rw [ovV_o (by decide) (by decide) (by decide), hc]
    refine e2_if rfl rfl (fun _ => ?_) (fun c => absurd (by rw [hM]; exact Int32.le_refl _) c)
    exact e2_vret rfl rfl ⟨rfl, by rw [hM]⟩
theorem v_countInHand {N : Nat} (hi : i < 19) (hN : N ≤ 120) (hc : V 3 8 = nI N) (k : Int32) : FC ε jX2_countInHand [.inr (i, 3), .inl k] G i V s o (some (nI (cntB (atV V (nI 3) k) N))) V s o := by
  refine C2.of (ls := [some (.inr (i, 3)), some (.inl k), none, none]) okX2_countInHand rfl rfl ?_
  repeat (first | refine e2_stepS 4 rfl rfl rfl ?_ | refine e2c_getS 4 rfl hi rfl rfl rfl rfl ?_ | refine e2c_lgetS 4 rfl rfl rfl ?_ | refine e2c_ialdS 4 rfl _ hi rfl rfl rfl rfl (by omega) ?_)
  refine e2_for N (fun l => [some (.inr (i, 3)), some (.inl k), some (.inl (nI (cntB (atV V (nI 3) k) l))), some (.inl (nI l))]) (fun l => cG G i V s o) (fun l hl K => ?_) (fun M hM => ?_)
  · repeat (first | refine e2_step rfl rfl ?_ | refine e2c_get hi rfl rfl rfl rfl ?_ | refine e2c_lget rfl rfl ?_ | refine e2c_iald _ hi rfl rfl rfl rfl (by omega) ?_ | refine e2c_lald _ rfl rfl (by omega) ?_)
    rw [hc]
    refine e2_if rfl rfl (fun c => absurd c (nI_ge hl (by omega))) (fun _ => ?_)
    repeat (first | refine e2_step rfl rfl ?_ | refine e2c_get hi rfl rfl rfl rfl ?_ | refine e2c_lget rfl rfl ?_ | refine e2c_iald _ hi rfl rfl rfl rfl (by omega) ?_ | refine e2c_lald _ rfl rfl (by omega) ?_)
    refine e2c_fi (v_isAt hi hN hc hl (nI 3) k) rfl rfl ⟨rfl, rfl, rfl⟩ rfl rfl rfl hi rfl rfl rfl rfl ?_
    simp only [cntB] at K
    refine e2_if rfl rfl (fun c => ?_) (fun c => ?_)
    · rw [bI_0] at c
      rw [c] at K
      repeat (first | refine e2_stepS 4 rfl rfl rfl ?_ | refine e2c_getS 4 rfl hi rfl rfl rfl rfl ?_ | refine e2c_lgetS 4 rfl rfl rfl ?_ | refine e2c_ialdS 4 rfl _ hi rfl rfl rfl rfl (by omega) ?_)
      rw [nI_add']
      exact K
    · rw [bI_0, Bool.not_eq_false] at c
      rw [c] at K
      repeat (first | refine e2_stepS 4 rfl rfl rfl ?_ | refine e2c_getS 4 rfl hi rfl rfl rfl rfl ?_ | refine e2c_lgetS 4 rfl rfl rfl ?_ | refine e2c_ialdS 4 rfl _ hi rfl rfl rfl rfl (by omega) ?_)
      rw [nI_add', nI_add']
      exact K
  · repeat (first | refine e2_step rfl rfl ?_ | refine e2c_get hi rfl rfl rfl rfl ?_ | refine e2c_lget rfl rfl ?_ | refine e2c_iald _ hi rfl rfl rfl rfl (by omega) ?_ | refine e2c_lald _ rfl rfl (by omega) ?_)
    rw [hc]
    refine e2_if rfl rfl (fun _ => ?_) (fun c => absurd (by rw [hM]; exact Int32.le_refl _) c)
    repeat (first | refine e2_step rfl rfl ?_ | refine e2c_get hi rfl rfl rfl rfl ?_ | refine e2c_lget rfl rfl ?_ | refine e2c_iald _ hi rfl rfl rfl rfl (by omega) ?_ | refine e2c_lald _ rfl rfl (by omega) ?_)
    exact e2_iret rfl rfl ⟨by rw [hM], rfl⟩
theorem v_countFirstClass {N : Nat} (hi : i < 19) (hN : N ≤ 120) (hc : V 3 8 = nI N) (k : Int32) : FC ε jX2_countFirstClass [.inr (i, 3), .inl k] G i V s o (some (nI (cntB (fun l => atV V (nI 1) k l && decide (V 5 l = nI 1)) N))) V s o := by
  refine C2.of (ls := [some (.inr (i, 3)), some (.inl k), none, none]) okX2_countFirstClass rfl rfl ?_
  repeat (first | refine e2_stepS 4 rfl rfl rfl ?_ | refine e2c_getS 4 rfl hi rfl rfl rfl rfl ?_ | refine e2c_lgetS 4 rfl rfl rfl ?_ | refine e2c_ialdS 4 rfl _ hi rfl rfl rfl rfl (by omega) ?_)
  refine e2_for N (fun l => [some (.inr (i, 3)), some (.inl k), some (.inl (nI (cntB (fun l => atV V (nI 1) k l && decide (V 5 l = nI 1)) l))), some (.inl (nI l))]) (fun l => cG G i V s o) (fun l hl K => ?_) (fun M hM => ?_)
  · repeat (first | refine e2_step rfl rfl ?_ | refine e2c_get hi rfl rfl rfl rfl ?_ | refine e2c_lget rfl rfl ?_ | refine e2c_iald _ hi rfl rfl rfl rfl (by omega) ?_ | refine e2c_lald _ rfl rfl (by omega) ?_)
    rw [hc]
    refine e2_if rfl rfl (fun c => absurd c (nI_ge hl (by omega))) (fun _ => ?_)
    repeat (first | refine e2_step rfl rfl ?_ | refine e2c_get hi rfl rfl rfl rfl ?_ | refine e2c_lget rfl rfl ?_ | refine e2c_iald _ hi rfl rfl rfl rfl (by omega) ?_ | refine e2c_lald _ rfl rfl (by omega) ?_)
    refine e2c_fi (v_isAt hi hN hc hl (nI 1) k) rfl rfl ⟨rfl, rfl, rfl⟩ rfl rfl rfl hi rfl rfl rfl rfl ?_
    simp only [cntB] at K
    refine e2_if rfl rfl (fun c => ?_) (fun c => ?_)
    · rw [bI_0] at c
      simp only [c, Bool.false_and, Bool.false_eq_true, if_false] at K
      repeat (first | refine e2_stepS 4 rfl rfl rfl ?_ | refine e2c_getS 4 rfl hi rfl rfl rfl rfl ?_ | refine e2c_lgetS 4 rfl rfl rfl ?_ | refine e2c_ialdS 4 rfl _ hi rfl rfl rfl rfl (by omega) ?_)
      rw [nI_add']
      exact K
    · rw [bI_0, Bool.not_eq_false] at c
      repeat (first | refine e2_step rfl rfl ?_ | refine e2c_get hi rfl rfl rfl rfl ?_ | refine e2c_lget rfl rfl ?_ | refine e2c_iald _ hi rfl rfl rfl rfl (by omega) ?_ | refine e2c_lald _ rfl rfl (by omega) ?_)
      refine e2c_fi (v_isFirst hi hN hc hl) rfl rfl ⟨rfl, rfl, rfl⟩ rfl rfl rfl hi rfl rfl rfl rfl ?_
      refine e2_if rfl rfl (fun c2 => ?_) (fun c2 => ?_)
      · rw [bI_0, decide_eq_false_iff_not] at c2
        simp only [c, c2, decide_false, Bool.and_false, Bool.false_eq_true, if_false] at K
        repeat (first | refine e2_stepS 4 rfl rfl rfl ?_ | refine e2c_getS 4 rfl hi rfl rfl rfl rfl ?_ | refine e2c_lgetS 4 rfl rfl rfl ?_ | refine e2c_ialdS 4 rfl _ hi rfl rfl rfl rfl (by omega) ?_)
        rw [nI_add']
        exact K
      · rw [bI_0, decide_eq_false_iff_not, Classical.not_not] at c2
        simp only [c, c2, decide_true, Bool.and_true, if_true] at K
        repeat (first | refine e2_stepS 4 rfl rfl rfl ?_ | refine e2c_getS 4 rfl hi rfl rfl rfl rfl ?_ | refine e2c_lgetS 4 rfl rfl rfl ?_ | refine e2c_ialdS 4 rfl _ hi rfl rfl rfl rfl (by omega) ?_)
        rw [nI_add', nI_add']
        exact K
  · repeat (first | refine e2_step rfl rfl ?_ | refine e2c_get hi rfl rfl rfl rfl ?_ | refine e2c_lget rfl rfl ?_ | refine e2c_iald _ hi rfl rfl rfl rfl (by omega) ?_ | refine e2c_lald _ rfl rfl (by omega) ?_)
    rw [hc]
    refine e2_if rfl rfl (fun _ => ?_) (fun c => absurd (by rw [hM]; exact Int32.le_refl _) c)
    repeat (first | refine e2_step rfl rfl ?_ | refine e2c_get hi rfl rfl rfl rfl ?_ | refine e2c_lget rfl rfl ?_ | refine e2c_iald _ hi rfl rfl rfl rfl (by omega) ?_ | refine e2c_lald _ rfl rfl (by omega) ?_)
    exact e2_iret rfl rfl ⟨by rw [hM], rfl⟩
theorem v_countMisroutes {N : Nat} (hi : i < 19) (hN : N ≤ 120) (hc : V 3 8 = nI N) : FC ε jX2_countMisroutes [.inr (i, 3)] G i V s o (some (sumI (V 6) N)) V s o := by
  refine C2.of (ls := [some (.inr (i, 3)), none, none]) okX2_countMisroutes rfl rfl ?_
  repeat (first | refine e2_stepS 4 rfl rfl rfl ?_ | refine e2c_getS 4 rfl hi rfl rfl rfl rfl ?_ | refine e2c_lgetS 4 rfl rfl rfl ?_ | refine e2c_ialdS 4 rfl _ hi rfl rfl rfl rfl (by omega) ?_)
  refine e2_for N (fun l => [some (.inr (i, 3)), some (.inl (sumI (V 6) l)), some (.inl (nI l))]) (fun l => cG G i V s o) (fun l hl K => ?_) (fun M hM => ?_)
  · repeat (first | refine e2_step rfl rfl ?_ | refine e2c_get hi rfl rfl rfl rfl ?_ | refine e2c_lget rfl rfl ?_ | refine e2c_iald _ hi rfl rfl rfl rfl (by omega) ?_ | refine e2c_lald _ rfl rfl (by omega) ?_)
    rw [hc]
    refine e2_if rfl rfl (fun c => absurd c (nI_ge hl (by omega))) (fun _ => ?_)
    repeat (first | refine e2_stepS 4 rfl rfl rfl ?_ | refine e2c_getS 4 rfl hi rfl rfl rfl rfl ?_ | refine e2c_lgetS 4 rfl rfl rfl ?_ | refine e2c_ialdS 4 rfl _ hi rfl rfl rfl rfl (by omega) ?_)
    rw [nI_add']
    exact K
  · repeat (first | refine e2_step rfl rfl ?_ | refine e2c_get hi rfl rfl rfl rfl ?_ | refine e2c_lget rfl rfl ?_ | refine e2c_iald _ hi rfl rfl rfl rfl (by omega) ?_ | refine e2c_lald _ rfl rfl (by omega) ?_)
    rw [hc]
    refine e2_if rfl rfl (fun _ => ?_) (fun c => absurd (by rw [hM]; exact Int32.le_refl _) c)
    repeat (first | refine e2_step rfl rfl ?_ | refine e2c_get hi rfl rfl rfl rfl ?_ | refine e2c_lget rfl rfl ?_ | refine e2c_iald _ hi rfl rfl rfl rfl (by omega) ?_ | refine e2c_lald _ rfl rfl (by omega) ?_)
    exact e2_iret rfl rfl ⟨by rw [hM], rfl⟩
def secV (V : VV) (w : Int32) (l : Nat) : Bool := atV V (nI 1) w l && decide (V 5 l = 0)
-- the bag, by six passes
def passR (p : Nat → Bool) (R : List Nat) : Nat → List Nat
  | 0 => R
  | n + 1 => if p n then n :: passR p R n else passR p R n
theorem ordA_cons (R : List Nat) (y : Nat) (o : Nat → Int32) : upd (ordA R o) R.length (nI y) = ordA (y :: R) o := by
  funext j
  simp only [upd, ordA, List.length_cons, revD]
  by_cases h : j = R.length
  · rw [if_pos h, if_pos (by omega), if_pos h]
  · rw [if_neg h]
    by_cases h2 : j < R.length
    · rw [if_pos h2, if_pos (by omega), if_neg h]
    · rw [if_neg h2, if_neg (by omega)]
def bagP (V : VV) (c m : Int32) (l : Nat) : Bool := decide (V 7 l = 0) && (decide (V 5 l = c) && decide (V 6 l = m))
theorem v_addFromBag {N : Nat} (hi : i < 19) (hN : N ≤ 120) (hc : V 3 8 = nI N) (c m : Int32) (R : List Nat) (hR : (passR (bagP V c m) R N).length ≤ 120) : FC ε jX2_addFromBag [.inr (i, 3), .inl c, .inl m, .inr (0, 40)] G i V (nI R.length) (ordA R o) none V (nI (passR (bagP V c m) R N).length) (ordA (passR (bagP V c m) R N) o) := by
  have hmono : ∀ l, l ≤ N → (passR (bagP V c m) R l).length ≤ (passR (bagP V c m) R N).length := by
    intro l hl
    have : ∀ k, (passR (bagP V c m) R l).length ≤ (passR (bagP V c m) R (l + k)).length := by
      intro k
      induction k with
      | zero => exact Nat.le_refl _
      | succ k ih =>
        refine Nat.le_trans ih ?_
        show _ ≤ (if bagP V c m (l + k) then (l + k) :: passR (bagP V c m) R (l + k) else passR (bagP V c m) R (l + k)).length
        split
        · rw [List.length_cons]; omega
        · exact Nat.le_refl _
    have h2 := this (N - l)
    rwa [show l + (N - l) = N by omega] at h2
  refine C2.of (ls := [some (.inr (i, 3)), some (.inl c), some (.inl m), some (.inr (0, 40)), none]) okX2_addFromBag rfl rfl ?_
  repeat (first | refine e2_stepS 3 rfl rfl rfl ?_ | refine e2c_getS 3 rfl hi rfl rfl rfl rfl ?_ | refine e2c_lgetS 3 rfl rfl rfl ?_ | refine e2c_ialdS 3 rfl _ hi rfl rfl rfl rfl (by omega) ?_)
  refine e2_for N (fun l => [some (.inr (i, 3)), some (.inl c), some (.inl m), some (.inr (0, 40)), some (.inl (nI l))]) (fun l => cG G i V (nI (passR (bagP V c m) R l).length) (ordA (passR (bagP V c m) R l) o)) (fun l hl K => ?_) (fun M hM => ?_)
  · have hm1 := hmono (l + 1) (by omega)
    have hs : passR (bagP V c m) R (l + 1) = if bagP V c m l then l :: passR (bagP V c m) R l else passR (bagP V c m) R l := rfl
    rw [hs] at K hm1
    repeat (first | refine e2_step rfl rfl ?_ | refine e2c_get hi rfl rfl rfl rfl ?_ | refine e2c_lget rfl rfl ?_ | refine e2c_iald _ hi rfl rfl rfl rfl (by omega) ?_ | refine e2c_lald _ rfl rfl (by omega) ?_)
    rw [hc]
    refine e2_if rfl rfl (fun z => absurd z (nI_ge hl (by omega))) (fun _ => ?_)
    repeat (first | refine e2_step rfl rfl ?_ | refine e2c_get hi rfl rfl rfl rfl ?_ | refine e2c_lget rfl rfl ?_ | refine e2c_iald _ hi rfl rfl rfl rfl (by omega) ?_ | refine e2c_lald _ rfl rfl (by omega) ?_)
    refine e2_if rfl rfl (fun z => ?_) (fun z => ?_)
    · rw [if_neg (by unfold bagP; rw [decide_eq_false z]; simp)] at K
      repeat (first | refine e2_stepS 3 rfl rfl rfl ?_ | refine e2c_getS 3 rfl hi rfl rfl rfl rfl ?_ | refine e2c_lgetS 3 rfl rfl rfl ?_ | refine e2c_ialdS 3 rfl _ hi rfl rfl rfl rfl (by omega) ?_)
      rw [nI_add']
      exact K
    · have z := Classical.not_not.1 z
      repeat (first | refine e2_step rfl rfl ?_ | refine e2c_get hi rfl rfl rfl rfl ?_ | refine e2c_lget rfl rfl ?_ | refine e2c_iald _ hi rfl rfl rfl rfl (by omega) ?_ | refine e2c_lald _ rfl rfl (by omega) ?_)
      refine e2_if rfl rfl (fun z2 => ?_) (fun z2 => ?_)
      · rw [if_neg (by unfold bagP; rw [decide_eq_false z2]; simp)] at K
        repeat (first | refine e2_stepS 3 rfl rfl rfl ?_ | refine e2c_getS 3 rfl hi rfl rfl rfl rfl ?_ | refine e2c_lgetS 3 rfl rfl rfl ?_ | refine e2c_ialdS 3 rfl _ hi rfl rfl rfl rfl (by omega) ?_)
        rw [nI_add']
        exact K
      · have z2 := Classical.not_not.1 z2
        repeat (first | refine e2_step rfl rfl ?_ | refine e2c_get hi rfl rfl rfl rfl ?_ | refine e2c_lget rfl rfl ?_ | refine e2c_iald _ hi rfl rfl rfl rfl (by omega) ?_ | refine e2c_lald _ rfl rfl (by omega) ?_)
        refine e2_if rfl rfl (fun z3 => ?_) (fun z3 => ?_)
        · rw [if_neg (by unfold bagP; rw [decide_eq_false z3]; simp)] at K
          repeat (first | refine e2_stepS 3 rfl rfl rfl ?_ | refine e2c_getS 3 rfl hi rfl rfl rfl rfl ?_ | refine e2c_lgetS 3 rfl rfl rfl ?_ | refine e2c_ialdS 3 rfl _ hi rfl rfl rfl rfl (by omega) ?_)
          rw [nI_add']
          exact K
        · have z3 := Classical.not_not.1 z3
          have hb : bagP V c m l = true := by unfold bagP; rw [decide_eq_true z, decide_eq_true z2, decide_eq_true z3]; rfl
          rw [if_pos hb] at K hm1
          rw [List.length_cons] at hm1 K
          repeat (first | refine e2_step rfl rfl ?_ | refine e2c_get hi rfl rfl rfl rfl ?_ | refine e2c_lget rfl rfl ?_ | refine e2c_iald _ hi rfl rfl rfl rfl (by omega) ?_ | refine e2c_lald _ rfl rfl (by omega) ?_)
          refine e2c_lfv (l_addLast (n := (passR (bagP V c m) R l).length) (by omega) (nI l)) rfl rfl ⟨rfl, rfl, rfl⟩ rfl rfl rfl rfl ?_
          rw [ordA_cons]
          repeat (first | refine e2_stepS 3 rfl rfl rfl ?_ | refine e2c_getS 3 rfl hi rfl rfl rfl rfl ?_ | refine e2c_lgetS 3 rfl rfl rfl ?_ | refine e2c_ialdS 3 rfl _ hi rfl rfl rfl rfl (by omega) ?_)
          rw [nI_add']
          exact K
  · repeat (first | refine e2_step rfl rfl ?_ | refine e2c_get hi rfl rfl rfl rfl ?_ | refine e2c_lget rfl rfl ?_ | refine e2c_iald _ hi rfl rfl rfl rfl (by omega) ?_ | refine e2c_lald _ rfl rfl (by omega) ?_)
    rw [hc]
    refine e2_if rfl rfl (fun _ => ?_) (fun z => absurd (by rw [hM]; exact Int32.le_refl _) z)
    exact e2_vret rfl rfl ⟨rfl, by rw [hM]⟩
end NB
end
section
/-! Letters of office i: the bag's list and lists by codes. -/
section NC
variable {ε : EE} {G : GG} {i : Nat} {V : VV} {s : Int32} {o : Nat → Int32} {Q : Option Int32 → GG → Prop}
theorem passR_le (p : Nat → Bool) (R : List Nat) : ∀ n, R.length ≤ (passR p R n).length
  | 0 => Nat.le_refl _
  | n + 1 => by
    refine Nat.le_trans (passR_le p R n) ?_
    show _ ≤ (if p n then n :: passR p R n else passR p R n).length
    split
    · rw [List.length_cons]; omega
    · exact Nat.le_refl _
def bagC (V : VV) (N : Nat) (c : Int32) (R : List Nat) : List Nat := passR (bagP V c (nI 0)) (passR (bagP V c (nI 1)) (passR (bagP V c (nI 2)) R N) N) N
def bagVR (V : VV) (N : Nat) : List Nat := bagC V N (nI 0) (bagC V N (nI 1) [])
theorem bagC_le (N : Nat) (c : Int32) (R : List Nat) : R.length ≤ (bagC V N c R).length := Nat.le_trans (passR_le _ _ _) (Nat.le_trans (passR_le _ _ _) (passR_le _ _ _))
theorem v_bagIn {N : Nat} (hi : i < 19) (hN : N ≤ 120) (hc : V 3 8 = nI N) (c : Int32) (R : List Nat) (hR : (bagC V N c R).length ≤ 120) (K : E2 ε jX2_listBag 30 [some (.inr (i, 3)), some (.inr (0, 40)), some (.inl c), none] [] (cG G i V (nI (bagC V N c R).length) (ordA (bagC V N c R) o)) Q) : E2 ε jX2_listBag 11 [some (.inr (i, 3)), some (.inr (0, 40)), some (.inl c), none] [] (cG G i V (nI R.length) (ordA R o)) Q := by
  unfold bagC at hR K
  have h1 : (passR (bagP V c (nI 2)) R N).length ≤ 120 := Nat.le_trans (Nat.le_trans (passR_le _ _ _) (passR_le _ _ _)) hR
  have h2 : (passR (bagP V c (nI 1)) (passR (bagP V c (nI 2)) R N) N).length ≤ 120 := Nat.le_trans (passR_le _ _ _) hR
  repeat (first | refine e2_step rfl rfl ?_ | refine e2c_get hi rfl rfl rfl rfl ?_ | refine e2c_lget rfl rfl ?_ | refine e2c_iald _ hi rfl rfl rfl rfl (by omega) ?_ | refine e2c_lald _ rfl rfl (by omega) ?_)
  refine e2_if rfl rfl (fun z => absurd z (by decide)) (fun _ => ?_)
  repeat (first | refine e2_step rfl rfl ?_ | refine e2c_get hi rfl rfl rfl rfl ?_ | refine e2c_lget rfl rfl ?_ | refine e2c_iald _ hi rfl rfl rfl rfl (by omega) ?_ | refine e2c_lald _ rfl rfl (by omega) ?_)
  refine e2c_fv (v_addFromBag hi hN hc c (nI 2) R h1) rfl rfl ⟨rfl, rfl, rfl⟩ rfl rfl rfl hi rfl rfl rfl rfl ?_
  repeat (first | refine e2_step rfl rfl ?_ | refine e2c_get hi rfl rfl rfl rfl ?_ | refine e2c_lget rfl rfl ?_ | refine e2c_iald _ hi rfl rfl rfl rfl (by omega) ?_ | refine e2c_lald _ rfl rfl (by omega) ?_)
  refine e2_if rfl rfl (fun z => absurd z (by decide)) (fun _ => ?_)
  repeat (first | refine e2_step rfl rfl ?_ | refine e2c_get hi rfl rfl rfl rfl ?_ | refine e2c_lget rfl rfl ?_ | refine e2c_iald _ hi rfl rfl rfl rfl (by omega) ?_ | refine e2c_lald _ rfl rfl (by omega) ?_)
  rw [show nI 2 + -1 = nI 1 by decide]
  refine e2c_fv (v_addFromBag hi hN hc c (nI 1) _ h2) rfl rfl ⟨rfl, rfl, rfl⟩ rfl rfl rfl hi rfl rfl rfl rfl ?_
  repeat (first | refine e2_step rfl rfl ?_ | refine e2c_get hi rfl rfl rfl rfl ?_ | refine e2c_lget rfl rfl ?_ | refine e2c_iald _ hi rfl rfl rfl rfl (by omega) ?_ | refine e2c_lald _ rfl rfl (by omega) ?_)
  refine e2_if rfl rfl (fun z => absurd z (by decide)) (fun _ => ?_)
  repeat (first | refine e2_step rfl rfl ?_ | refine e2c_get hi rfl rfl rfl rfl ?_ | refine e2c_lget rfl rfl ?_ | refine e2c_iald _ hi rfl rfl rfl rfl (by omega) ?_ | refine e2c_lald _ rfl rfl (by omega) ?_)
  rw [show nI 1 + -1 = nI 0 by decide]
  refine e2c_fv (v_addFromBag hi hN hc c (nI 0) _ hR) rfl rfl ⟨rfl, rfl, rfl⟩ rfl rfl rfl hi rfl rfl rfl rfl ?_
  repeat (first | refine e2_step rfl rfl ?_ | refine e2c_get hi rfl rfl rfl rfl ?_ | refine e2c_lget rfl rfl ?_ | refine e2c_iald _ hi rfl rfl rfl rfl (by omega) ?_ | refine e2c_lald _ rfl rfl (by omega) ?_)
  refine e2_if rfl rfl (fun _ => ?_) (fun z => absurd (by decide) z)
  exact e2_dropK K ⟨rfl, rfl, rfl, trivial⟩
theorem v_listBag {N : Nat} (hi : i < 19) (hN : N ≤ 120) (hc : V 3 8 = nI N) (hR : (bagVR V N).length ≤ 120) : FC ε jX2_listBag [.inr (i, 3), .inr (0, 40)] G i V s o none V (nI (bagVR V N).length) (ordA (bagVR V N) o) := by
  refine C2.of (ls := [some (.inr (i, 3)), some (.inr (0, 40)), none, none]) okX2_listBag rfl rfl ?_
  repeat (first | refine e2_step rfl rfl ?_ | refine e2c_get hi rfl rfl rfl rfl ?_ | refine e2c_lget rfl rfl ?_ | refine e2c_iald _ hi rfl rfl rfl rfl (by omega) ?_ | refine e2c_lald _ rfl rfl (by omega) ?_)
  refine e2c_lput rfl ?_
  refine Eq.mp (congrArg (fun q => E2 ε jX2_listBag 5 _ [] (cG G i V (nI 0) q) _) (ordA_nil o)) ?_
  repeat (first | refine e2_step rfl rfl ?_ | refine e2c_get hi rfl rfl rfl rfl ?_ | refine e2c_lget rfl rfl ?_ | refine e2c_iald _ hi rfl rfl rfl rfl (by omega) ?_ | refine e2c_lald _ rfl rfl (by omega) ?_)
  refine e2_if rfl rfl (fun z => absurd z (by decide)) (fun _ => ?_)
  refine v_bagIn hi hN hc (nI 1) [] (Nat.le_trans (bagC_le N (nI 0) _) hR) ?_
  repeat (first | refine e2_step rfl rfl ?_ | refine e2c_get hi rfl rfl rfl rfl ?_ | refine e2c_lget rfl rfl ?_ | refine e2c_iald _ hi rfl rfl rfl rfl (by omega) ?_ | refine e2c_lald _ rfl rfl (by omega) ?_)
  refine e2_if rfl rfl (fun z => absurd z (by decide)) (fun _ => ?_)
  rw [show nI 1 + -1 = nI 0 by decide]
  refine v_bagIn hi hN hc (nI 0) _ hR ?_
  repeat (first | refine e2_step rfl rfl ?_ | refine e2c_get hi rfl rfl rfl rfl ?_ | refine e2c_lget rfl rfl ?_ | refine e2c_iald _ hi rfl rfl rfl rfl (by omega) ?_ | refine e2c_lald _ rfl rfl (by omega) ?_)
  refine e2_if rfl rfl (fun _ => ?_) (fun z => absurd (by decide) z)
  exact e2_vret rfl rfl ⟨rfl, rfl⟩
-- by codes
def gtV (V : VV) (a y : Nat) : Bool := decide (V 4 y < V 4 a)
theorem insOk_congr {gt : Nat → Nat → Bool} {R : List Nat} {y : Nat} {o1 o2 o' : Nat → Int32} (h : ∀ j, R.length < j → o1 j = o2 j) (hk : insOk gt R y o1 o') : insOk gt R y o2 o' := ⟨hk.1, fun j hj => (hk.2 j hj).trans (h j hj)⟩
theorem insOk_nil' (gt : Nat → Nat → Bool) {y : Nat} {o : Nat → Int32} (h : o 0 = nI y) : insOk gt [] y o o := ⟨fun j hj => by
  have : j = 0 := by simp at hj; omega
  subst this
  simpa [insR, revD] using h, fun _ _ => rfl⟩
theorem insOk_stay {gt : Nat → Nat → Bool} {a y : Nat} {t : List Nat} {o : Nat → Int32} (h : gt a y = false) (ho : ∀ j, j < t.length + 1 → o j = nI (revD (a :: t) j)) (hy : o (t.length + 1) = nI y) : insOk gt (a :: t) y o o := by
  have h1 := insOk_stop (o := o) h ho
  have h2 : upd o (t.length + 1) (nI y) = o := by
    funext j
    unfold upd
    split
    · rename_i hj; rw [hj, hy]
    · rfl
  rwa [h2] at h1
theorem v_hasGt {N a l : Nat} (hi : i < 19) (hN : N ≤ 120) (hc : V 3 8 = nI N) (ha : a < N) (hl : l < N) : FC ε jX2_hasGreaterCode [.inr (i, 3), .inl (nI a), .inl (nI l)] G i V s o (some (bI (gtV V a l))) V s o := by
  refine C2.of (ls := [some (.inr (i, 3)), some (.inl (nI a)), some (.inl (nI l))]) okX2_hasGreaterCode rfl rfl ?_
  repeat (first | refine e2_step rfl rfl ?_ | refine e2c_get hi rfl rfl rfl rfl ?_ | refine e2c_lget rfl rfl ?_ | refine e2c_iald _ hi rfl rfl rfl rfl (by omega) ?_ | refine e2c_lald _ rfl rfl (by omega) ?_)
  refine e2c_fi (v_has hi hN hc ha) rfl rfl ⟨rfl, rfl, rfl⟩ rfl rfl rfl hi rfl rfl rfl rfl ?_
  refine e2_if rfl rfl (fun z => absurd z (by decide)) (fun _ => ?_)
  repeat (first | refine e2_step rfl rfl ?_ | refine e2c_get hi rfl rfl rfl rfl ?_ | refine e2c_lget rfl rfl ?_ | refine e2c_iald _ hi rfl rfl rfl rfl (by omega) ?_ | refine e2c_lald _ rfl rfl (by omega) ?_)
  refine e2c_fi (v_has hi hN hc hl) rfl rfl ⟨rfl, rfl, rfl⟩ rfl rfl rfl hi rfl rfl rfl rfl ?_
  refine e2_if rfl rfl (fun z => absurd z (by decide)) (fun _ => ?_)
  repeat (first | refine e2_step rfl rfl ?_ | refine e2c_get hi rfl rfl rfl rfl ?_ | refine e2c_lget rfl rfl ?_ | refine e2c_iald _ hi rfl rfl rfl rfl (by omega) ?_ | refine e2c_lald _ rfl rfl (by omega) ?_)
  unfold gtV
  refine e2_if rfl rfl (fun c => ?_) (fun c => ?_)
  · rw [decide_eq_false (Int32.not_lt.2 c)]
    repeat (first | refine e2_step rfl rfl ?_ | refine e2c_get hi rfl rfl rfl rfl ?_ | refine e2c_lget rfl rfl ?_ | refine e2c_iald _ hi rfl rfl rfl rfl (by omega) ?_ | refine e2c_lald _ rfl rfl (by omega) ?_)
    exact e2_zret rfl rfl rfl ⟨rfl, rfl⟩
  · rw [decide_eq_true (Int32.not_le.1 c)]
    repeat (first | refine e2_step rfl rfl ?_ | refine e2c_get hi rfl rfl rfl rfl ?_ | refine e2c_lget rfl rfl ?_ | refine e2c_iald _ hi rfl rfl rfl rfl (by omega) ?_ | refine e2c_lald _ rfl rfl (by omega) ?_)
    exact e2_zret rfl rfl rfl ⟨rfl, rfl⟩
theorem v_ins1 {N l n : Nat} (hi : i < 19) (hN : N ≤ 120) (hc : V 3 8 = nI N) (hl : l < N) (hn : n ≤ 120) : ∀ (R : List Nat), (∀ a, a ∈ R → a < N) → R.length < n → ∀ (o : Nat → Int32), (∀ j, j < R.length → o j = nI (revD R j)) → o R.length = nI l →
    (∀ o', insOk (gtV V) R l o o' → E2 ε jX2_insertByCode 42 [some (.inr (i, 3)), some (.inl (nI l)), some (.inr (0, 40)), none] [] (cG G i V (nI n) o') Q) →
    E2 ε jX2_insertByCode 12 [some (.inr (i, 3)), some (.inl (nI l)), some (.inr (0, 40)), some (.inl (nI R.length))] [] (cG G i V (nI n) o) Q
  | [], hR, hlen, o, ho, hol, K => by
    repeat (first | refine e2_step rfl rfl ?_ | refine e2c_get hi rfl rfl rfl rfl ?_ | refine e2c_lget rfl rfl ?_ | refine e2c_iald _ hi rfl rfl rfl rfl (by omega) ?_ | refine e2c_lald _ rfl rfl (by omega) ?_)
    refine e2_if rfl rfl (fun _ => ?_) (fun c => absurd (Int32.le_refl _) c)
    exact e2_dropK (K o (insOk_nil' _ hol)) ⟨rfl, rfl, rfl, trivial⟩
  | a :: t', hR, hlen, o, ho, hol, K => by
    rw [List.length_cons] at hlen hol
    have ha : a < N := hR a List.mem_cons_self
    have hoa : o t'.length = nI a := by rw [ho _ (by rw [List.length_cons]; omega)]; simp [revD]
    have ho2 : ∀ j, j < t'.length + 1 → o j = nI (revD (a :: t') j) := fun j hj => ho j (by rw [List.length_cons]; exact hj)
    repeat (first | refine e2_step rfl rfl ?_ | refine e2c_get hi rfl rfl rfl rfl ?_ | refine e2c_lget rfl rfl ?_ | refine e2c_iald _ hi rfl rfl rfl rfl (by omega) ?_ | refine e2c_lald _ rfl rfl (by omega) ?_)
    refine e2_if rfl rfl (fun c => absurd c (nI_nle (by rw [List.length_cons]; omega) (by rw [List.length_cons]; omega))) (fun _ => ?_)
    repeat (first | refine e2_step rfl rfl ?_ | refine e2c_get hi rfl rfl rfl rfl ?_ | refine e2c_lget rfl rfl ?_ | refine e2c_iald _ hi rfl rfl rfl rfl (by omega) ?_ | refine e2c_lald _ rfl rfl (by omega) ?_)
    rw [List.length_cons, pk_sub (by omega), Nat.add_sub_cancel]
    refine e2c_lfi (l_letterAt (n := n) (j := t'.length) hn (by omega)) rfl rfl ⟨rfl, rfl, rfl⟩ rfl rfl rfl rfl ?_
    rw [if_neg (by omega), hoa]
    repeat (first | refine e2_step rfl rfl ?_ | refine e2c_get hi rfl rfl rfl rfl ?_ | refine e2c_lget rfl rfl ?_ | refine e2c_iald _ hi rfl rfl rfl rfl (by omega) ?_ | refine e2c_lald _ rfl rfl (by omega) ?_)
    refine e2c_fi (v_hasGt hi hN hc ha hl) rfl rfl ⟨rfl, rfl, rfl⟩ rfl rfl rfl hi rfl rfl rfl rfl ?_
    refine e2_if rfl rfl (fun c => ?_) (fun c => ?_)
    · rw [bI_0] at c
      exact e2_dropK (K o (insOk_stay c ho2 hol)) ⟨rfl, rfl, rfl, trivial⟩
    · rw [bI_0, Bool.not_eq_false] at c
      repeat (first | refine e2_step rfl rfl ?_ | refine e2c_get hi rfl rfl rfl rfl ?_ | refine e2c_lget rfl rfl ?_ | refine e2c_iald _ hi rfl rfl rfl rfl (by omega) ?_ | refine e2c_lald _ rfl rfl (by omega) ?_)
      refine e2c_lfv (l_swap (k := t'.length) hn (by omega)) rfl rfl ⟨rfl, rfl, rfl⟩ rfl rfl rfl rfl ?_
      rw [hoa, hol]
      repeat (first | refine e2_stepS 12 rfl rfl rfl ?_ | refine e2c_getS 12 rfl hi rfl rfl rfl rfl ?_ | refine e2c_lgetS 12 rfl rfl rfl ?_ | refine e2c_ialdS 12 rfl _ hi rfl rfl rfl rfl (by omega) ?_)
      rw [pk_m1]
      refine v_ins1 hi hN hc hl hn t' (fun b hb => hR b (List.mem_cons_of_mem _ hb)) (by omega) _ (fun j hj => ?_) ?_ (fun o' ho' => K o' (insOk_go ?_ (insOk_congr (fun j hj => ?_) ho')))
      · unfold upd
        rw [if_neg (by omega), if_neg (by omega), ho2 j (by omega)]
        conv => lhs; unfold revD
        rw [if_neg (by omega)]
      · simp [upd]
      · exact c
      · unfold upd
        rw [if_neg (by omega)]
theorem v_insertByCode {N l : Nat} (hi : i < 19) (hN : N ≤ 120) (hc : V 3 8 = nI N) (hl : l < N) (R : List Nat) (hR : ∀ a, a ∈ R → a < N) (hlen : R.length < 120) : FC ε jX2_insertByCode [.inr (i, 3), .inl (nI l), .inr (0, 40)] G i V (nI R.length) (ordA R o) none V (nI (R.length + 1)) (ordA (insR (gtV V) R l) o) := by
  refine C2.of (ls := [some (.inr (i, 3)), some (.inl (nI l)), some (.inr (0, 40)), none]) okX2_insertByCode rfl rfl ?_
  repeat (first | refine e2_step rfl rfl ?_ | refine e2c_get hi rfl rfl rfl rfl ?_ | refine e2c_lget rfl rfl ?_ | refine e2c_iald _ hi rfl rfl rfl rfl (by omega) ?_ | refine e2c_lald _ rfl rfl (by omega) ?_)
  refine e2c_lfv (l_addLast (n := R.length) hlen (nI l)) rfl rfl ⟨rfl, rfl, rfl⟩ rfl rfl rfl rfl ?_
  repeat (first | refine e2_stepS 12 rfl rfl rfl ?_ | refine e2c_getS 12 rfl hi rfl rfl rfl rfl ?_ | refine e2c_lgetS 12 rfl rfl rfl ?_ | refine e2c_ialdS 12 rfl _ hi rfl rfl rfl rfl (by omega) ?_)
  rw [pk_sub (by omega), Nat.add_sub_cancel]
  refine v_ins1 hi hN hc hl (by omega) R hR (by omega) _ (fun j hj => ?_) ?_ (fun o' ho' => ?_)
  · unfold upd
    rw [if_neg (by omega)]
    exact ordA_at hj
  · simp [upd]
  · refine e2_vret rfl rfl ⟨rfl, ?_⟩
    have h2 : insOk (gtV V) R l (ordA R o) o' := insOk_congr (fun j hj => by unfold upd; rw [if_neg (by omega)]) ho'
    rw [insOk_ord h2]
theorem v_listByCode {N : Nat} (hi : i < 19) (hN : N ≤ 120) (hc : V 3 8 = nI N) (p k : Int32) : FC ε jX2_listByCode [.inr (i, 3), .inl p, .inl k, .inr (0, 40)] G i V s o none V (nI (layR (gtV V) (atV V p k) N).length) (ordA (layR (gtV V) (atV V p k) N) o) := by
  refine C2.of (ls := [some (.inr (i, 3)), some (.inl p), some (.inl k), some (.inr (0, 40)), none]) okX2_listByCode rfl rfl ?_
  repeat (first | refine e2_step rfl rfl ?_ | refine e2c_get hi rfl rfl rfl rfl ?_ | refine e2c_lget rfl rfl ?_ | refine e2c_iald _ hi rfl rfl rfl rfl (by omega) ?_ | refine e2c_lald _ rfl rfl (by omega) ?_)
  refine e2c_lput rfl ?_
  refine Eq.mp (congrArg (fun q => E2 ε jX2_listByCode 5 _ [] (cG G i V (nI 0) q) _) (ordA_nil o)) ?_
  repeat (first | refine e2_stepS 8 rfl rfl rfl ?_ | refine e2c_getS 8 rfl hi rfl rfl rfl rfl ?_ | refine e2c_lgetS 8 rfl rfl rfl ?_ | refine e2c_ialdS 8 rfl _ hi rfl rfl rfl rfl (by omega) ?_)
  refine e2_for N (fun l => [some (.inr (i, 3)), some (.inl p), some (.inl k), some (.inr (0, 40)), some (.inl (nI l))]) (fun l => cG G i V (nI (layR (gtV V) (atV V p k) l).length) (ordA (layR (gtV V) (atV V p k) l) o)) (fun l hl K => ?_) (fun M hM => ?_)
  · have hlen : (layR (gtV V) (atV V p k) l).length ≤ l := by rw [layR_len]; exact cntB_le _ _
    repeat (first | refine e2_step rfl rfl ?_ | refine e2c_get hi rfl rfl rfl rfl ?_ | refine e2c_lget rfl rfl ?_ | refine e2c_iald _ hi rfl rfl rfl rfl (by omega) ?_ | refine e2c_lald _ rfl rfl (by omega) ?_)
    rw [hc]
    refine e2_if rfl rfl (fun c => absurd c (nI_ge hl (by omega))) (fun _ => ?_)
    repeat (first | refine e2_step rfl rfl ?_ | refine e2c_get hi rfl rfl rfl rfl ?_ | refine e2c_lget rfl rfl ?_ | refine e2c_iald _ hi rfl rfl rfl rfl (by omega) ?_ | refine e2c_lald _ rfl rfl (by omega) ?_)
    refine e2c_fi (v_isAt hi hN hc hl p k) rfl rfl ⟨rfl, rfl, rfl⟩ rfl rfl rfl hi rfl rfl rfl rfl ?_
    simp only [layR] at K
    refine e2_if rfl rfl (fun c => ?_) (fun c => ?_)
    · rw [bI_0] at c
      rw [c] at K
      repeat (first | refine e2_stepS 8 rfl rfl rfl ?_ | refine e2c_getS 8 rfl hi rfl rfl rfl rfl ?_ | refine e2c_lgetS 8 rfl rfl rfl ?_ | refine e2c_ialdS 8 rfl _ hi rfl rfl rfl rfl (by omega) ?_)
      rw [nI_add']
      exact K
    · rw [bI_0, Bool.not_eq_false] at c
      rw [if_pos c, insR_len] at K
      repeat (first | refine e2_step rfl rfl ?_ | refine e2c_get hi rfl rfl rfl rfl ?_ | refine e2c_lget rfl rfl ?_ | refine e2c_iald _ hi rfl rfl rfl rfl (by omega) ?_ | refine e2c_lald _ rfl rfl (by omega) ?_)
      refine e2c_fv (v_insertByCode hi hN hc hl (layR (gtV V) (atV V p k) l) (fun a ha => by have := (layR_mem _ _ l a).1 ha; omega) (by omega)) rfl rfl ⟨rfl, rfl, rfl⟩ rfl rfl rfl hi rfl rfl rfl rfl ?_
      repeat (first | refine e2_stepS 8 rfl rfl rfl ?_ | refine e2c_getS 8 rfl hi rfl rfl rfl rfl ?_ | refine e2c_lgetS 8 rfl rfl rfl ?_ | refine e2c_ialdS 8 rfl _ hi rfl rfl rfl rfl (by omega) ?_)
      rw [nI_add']
      exact K
  · repeat (first | refine e2_step rfl rfl ?_ | refine e2c_get hi rfl rfl rfl rfl ?_ | refine e2c_lget rfl rfl ?_ | refine e2c_iald _ hi rfl rfl rfl rfl (by omega) ?_ | refine e2c_lald _ rfl rfl (by omega) ?_)
    rw [hc]
    refine e2_if rfl rfl (fun _ => ?_) (fun c => absurd (by rw [hM]; exact Int32.le_refl _) c)
    exact e2_vret rfl rfl ⟨rfl, by rw [hM]⟩
end NC
end
section
/-! Office i: a letter is sorted, an hour passes. -/
section ND
variable {ε : EE} {G : GG} {i : Nat} {V : VV} {s : Int32} {o : Nat → Int32} {Q : Option Int32 → GG → Prop}
/-- codes, walks, classes and keepers of the letters below N are in range, and there are N -/
def okV (V : VV) (N : Nat) : Prop := ∀ l, l < N → (∃ c w, c < 100 ∧ w < 8 ∧ V 4 l = nI c ∧ V 2 c = nI w ∧ (V 5 l = nI 0 ∨ V 5 l = nI 1) ∧ V 3 8 = nI N) ∧ (V 7 l = nI 1 → ∃ w, w < 8 ∧ V 8 l = nI w)
def wkV (V : VV) (l : Nat) : Nat := (V 2 (V 4 l).toNatClampNeg).toNatClampNeg
theorem wkV_of {N l : Nat} (hok : okV V N) (hl : l < N) : ∃ c, c < 100 ∧ V 4 l = nI c ∧ V 2 c = nI (wkV V l) ∧ wkV V l < 8 := by
  obtain ⟨⟨c, w, h1, h2, h3, h4, -⟩, -⟩ := hok l hl
  have hwk : wkV V l = w := by unfold wkV; rw [h3, nI_clamp (by omega), h4, nI_clamp (by omega)]
  exact ⟨c, h1, h3, by rw [hwk]; exact h4, by rw [hwk]; exact h2⟩
theorem okV_cnt {N l : Nat} (hok : okV V N) (hl : l < N) : V 3 8 = nI N := by
  obtain ⟨⟨c, w, h1, h2, h3, h4, h5, h6⟩, -⟩ := hok l hl
  exact h6
theorem okV_cat {N l : Nat} (hok : okV V N) (hl : l < N) : V 5 l = nI 0 ∨ V 5 l = nI 1 := by
  obtain ⟨⟨c, w, h1, h2, h3, h4, h5, h6⟩, -⟩ := hok l hl
  exact h5
theorem upV_o {p k : Int32} {kk : Nat} (h : kk ≠ 11) : upV V p k kk = V kk := by
  unfold upV
  split
  · unfold wv sv
    rw [if_neg h]
  · rfl
theorem dnV_o {l kk : Nat} (h : kk ≠ 11) : dnV V l kk = V kk := by
  unfold dnV
  split
  · unfold wv sv
    rw [if_neg h]
  · rfl
theorem moveV_7 {l m : Nat} {p k : Int32} : moveV V l p k 7 m = if m = l then p else V 7 m := by
  unfold moveV
  rw [upV_o (by decide)]
  unfold wv sv
  rw [if_neg (by decide), if_pos rfl]
  unfold upd
  split
  · rfl
  · rw [dnV_o (by decide)]
theorem moveV_8 {l m : Nat} {p k : Int32} : moveV V l p k 8 m = if m = l then k else V 8 m := by
  unfold moveV
  rw [upV_o (by decide)]
  unfold wv sv
  rw [if_pos rfl]
  unfold upd
  split
  · rfl
  · rw [if_neg (by decide), dnV_o (by decide)]
theorem okV_move {N l : Nat} {p k : Int32} (h : okV V N) (hk : p = nI 1 → ∃ w, w < 8 ∧ k = nI w) : okV (moveV V l p k) N := fun m hm => by
  obtain ⟨h1, h2⟩ := h m hm
  refine ⟨?_, fun z => ?_⟩
  · rw [moveV_o (kk := 4) (by decide) (by decide) (by decide), moveV_o (kk := 2) (by decide) (by decide) (by decide), moveV_o (kk := 5) (by decide) (by decide) (by decide), moveV_o (kk := 3) (by decide) (by decide) (by decide)]
    exact h1
  · rw [moveV_7] at z
    rw [moveV_8]
    by_cases hml : m = l
    · rw [if_pos hml] at z ⊢
      exact hk z
    · rw [if_neg hml] at z ⊢
      exact h2 z
theorem g_walkOf {c : Nat} (hi : i < 19) (hc : c < 100) : FC ε jX7_walkOf [.inr (i, 1), .inl (nI c)] G i V s o (some (V 2 c)) V s o := by
  refine C2.of (ls := [some (.inr (i, 1)), some (.inl (nI c))]) okX7_walkOf rfl rfl ?_
  repeat (first | refine e2_step rfl rfl ?_ | refine e2c_get hi rfl rfl rfl rfl ?_ | refine e2c_lget rfl rfl ?_ | refine e2c_iald _ hi rfl rfl rfl rfl (by omega) ?_ | refine e2c_lald _ rfl rfl (by omega) ?_)
  refine e2_fs (c_isIn (nI c) (nI 0) (nI 99)) rfl rfl ⟨rfl, rfl, rfl⟩ rfl rfl rfl ?_
  rw [isIn_T (by omega) (by decide)]
  refine e2_if rfl rfl (fun z => absurd z (by decide)) (fun _ => ?_)
  repeat (first | refine e2_step rfl rfl ?_ | refine e2c_get hi rfl rfl rfl rfl ?_ | refine e2c_lget rfl rfl ?_ | refine e2c_iald _ hi rfl rfl rfl rfl (by omega) ?_ | refine e2c_lald _ rfl rfl (by omega) ?_)
  exact e2_iret rfl rfl ⟨rfl, rfl⟩
theorem w_walkOf {N l : Nat} (hi : i < 19) (hN : N ≤ 120) (hok : okV V N) (hl : l < N) : FC ε jX5_walkOf [.inr (i, 0), .inl (nI l)] G i V s o (some (nI (wkV V l))) V s o := by
  obtain ⟨c, h1, h2, h3, h4⟩ := wkV_of hok hl
  refine C2.of (ls := [some (.inr (i, 0)), some (.inl (nI l))]) okX5_walkOf rfl rfl ?_
  repeat (first | refine e2_step rfl rfl ?_ | refine e2c_get hi rfl rfl rfl rfl ?_ | refine e2c_lget rfl rfl ?_ | refine e2c_iald _ hi rfl rfl rfl rfl (by omega) ?_ | refine e2c_lald _ rfl rfl (by omega) ?_)
  refine e2c_fi (v_has hi hN (okV_cnt hok hl) hl) rfl rfl ⟨rfl, rfl, rfl⟩ rfl rfl rfl hi rfl rfl rfl rfl ?_
  refine e2_if rfl rfl (fun z => absurd z (by decide)) (fun _ => ?_)
  repeat (first | refine e2_step rfl rfl ?_ | refine e2c_get hi rfl rfl rfl rfl ?_ | refine e2c_lget rfl rfl ?_ | refine e2c_iald _ hi rfl rfl rfl rfl (by omega) ?_ | refine e2c_lald _ rfl rfl (by omega) ?_)
  rw [h2]
  refine e2c_fi (g_walkOf hi h1) rfl rfl ⟨rfl, rfl, rfl⟩ rfl rfl rfl hi rfl rfl rfl rfl ?_
  rw [h3]
  repeat (first | refine e2_step rfl rfl ?_ | refine e2c_get hi rfl rfl rfl rfl ?_ | refine e2c_lget rfl rfl ?_ | refine e2c_iald _ hi rfl rfl rfl rfl (by omega) ?_ | refine e2c_lald _ rfl rfl (by omega) ?_)
  exact e2_iret rfl rfl ⟨rfl, rfl⟩
def freV (V : VV) (w : Nat) : Int32 := if V 17 w - V 11 w < nI 0 then nI 0 else V 17 w - V 11 w
theorem w_freeHoles {w : Nat} (hi : i < 19) (hw : w < 8) : FC ε jX5_freeHoles [.inr (i, 0), .inl (nI w)] G i V s o (some (freV V w)) V s o := by
  refine C2.of (ls := [some (.inr (i, 0)), some (.inl (nI w))]) okX5_freeHoles rfl rfl ?_
  repeat (first | refine e2_step rfl rfl ?_ | refine e2c_get hi rfl rfl rfl rfl ?_ | refine e2c_lget rfl rfl ?_ | refine e2c_iald _ hi rfl rfl rfl rfl (by omega) ?_ | refine e2c_lald _ rfl rfl (by omega) ?_)
  refine e2_fs (c_isWalkT hw) rfl rfl ⟨rfl, rfl, rfl⟩ rfl rfl rfl ?_
  refine e2_if rfl rfl (fun z => absurd z (by decide)) (fun _ => ?_)
  repeat (first | refine e2_step rfl rfl ?_ | refine e2c_get hi rfl rfl rfl rfl ?_ | refine e2c_lget rfl rfl ?_ | refine e2c_iald _ hi rfl rfl rfl rfl (by omega) ?_ | refine e2c_lald _ rfl rfl (by omega) ?_)
  refine e2_max rfl rfl rfl ?_
  repeat (first | refine e2_step rfl rfl ?_ | refine e2c_get hi rfl rfl rfl rfl ?_ | refine e2c_lget rfl rfl ?_ | refine e2c_iald _ hi rfl rfl rfl rfl (by omega) ?_ | refine e2c_lald _ rfl rfl (by omega) ?_)
  exact e2_iret rfl rfl ⟨rfl, rfl⟩
theorem bestF_c (f : Nat → Int32) : ∀ n, (bestF f n).1 = -9 ∨ ∃ k, k < n ∧ (bestF f n).1 = nI k
  | 0 => Or.inl rfl
  | n + 1 => by
    unfold bestF
    split
    · exact Or.inr ⟨n, by omega, rfl⟩
    · rcases bestF_c f n with h | ⟨k, h1, h2⟩
      · exact Or.inl h
      · exact Or.inr ⟨k, by omega, h2⟩
theorem w_mostFree (hi : i < 19) : FC ε jX5_walkWithMostFree [.inr (i, 0)] G i V s o (some (bestF (freV V) 8).1) V s o := by
  obtain ⟨n8, h8⟩ : ∃ n, n = 8 := ⟨_, rfl⟩
  rw [← h8]
  refine C2.of (ls := [some (.inr (i, 0)), none, none, none]) okX5_walkWithMostFree rfl rfl ?_
  repeat (first | refine e2_stepS 7 rfl rfl rfl ?_ | refine e2c_getS 7 rfl hi rfl rfl rfl rfl ?_ | refine e2c_lgetS 7 rfl rfl rfl ?_ | refine e2c_ialdS 7 rfl _ hi rfl rfl rfl rfl (by omega) ?_)
  refine e2_for n8 (fun w => [some (.inr (i, 0)), some (.inl (bestF (freV V) w).1), some (.inl (bestF (freV V) w).2), some (.inl (nI w))]) (fun _ => cG G i V s o) (fun w hw K => ?_) (fun M hM => ?_)
  · repeat (first | refine e2_step rfl rfl ?_ | refine e2c_get hi rfl rfl rfl rfl ?_ | refine e2c_lget rfl rfl ?_ | refine e2c_iald _ hi rfl rfl rfl rfl (by omega) ?_ | refine e2c_lald _ rfl rfl (by omega) ?_)
    refine e2_if rfl rfl (fun c => absurd c (nI_ge (by omega) (by omega))) (fun _ => ?_)
    repeat (first | refine e2_step rfl rfl ?_ | refine e2c_get hi rfl rfl rfl rfl ?_ | refine e2c_lget rfl rfl ?_ | refine e2c_iald _ hi rfl rfl rfl rfl (by omega) ?_ | refine e2c_lald _ rfl rfl (by omega) ?_)
    refine e2c_fi (w_freeHoles hi (w := w) (by omega)) rfl rfl ⟨rfl, rfl, rfl⟩ rfl rfl rfl hi rfl rfl rfl rfl ?_
    repeat (first | refine e2_step rfl rfl ?_ | refine e2c_get hi rfl rfl rfl rfl ?_ | refine e2c_lget rfl rfl ?_ | refine e2c_iald _ hi rfl rfl rfl rfl (by omega) ?_ | refine e2c_lald _ rfl rfl (by omega) ?_)
    simp only [bestF] at K
    refine e2_if rfl rfl (fun c => ?_) (fun c => ?_)
    · rw [if_neg (Int32.not_lt.2 c)] at K
      repeat (first | refine e2_stepS 7 rfl rfl rfl ?_ | refine e2c_getS 7 rfl hi rfl rfl rfl rfl ?_ | refine e2c_lgetS 7 rfl rfl rfl ?_ | refine e2c_ialdS 7 rfl _ hi rfl rfl rfl rfl (by omega) ?_)
      rw [nI_add']
      exact K
    · rw [if_pos (Int32.not_le.1 c)] at K
      repeat (first | refine e2_step rfl rfl ?_ | refine e2c_get hi rfl rfl rfl rfl ?_ | refine e2c_lget rfl rfl ?_ | refine e2c_iald _ hi rfl rfl rfl rfl (by omega) ?_ | refine e2c_lald _ rfl rfl (by omega) ?_)
      refine e2c_fi (w_freeHoles hi (w := w) (by omega)) rfl rfl ⟨rfl, rfl, rfl⟩ rfl rfl rfl hi rfl rfl rfl rfl ?_
      repeat (first | refine e2_stepS 7 rfl rfl rfl ?_ | refine e2c_getS 7 rfl hi rfl rfl rfl rfl ?_ | refine e2c_lgetS 7 rfl rfl rfl ?_ | refine e2c_ialdS 7 rfl _ hi rfl rfl rfl rfl (by omega) ?_)
      rw [nI_add']
      exact K
  · repeat (first | refine e2_step rfl rfl ?_ | refine e2c_get hi rfl rfl rfl rfl ?_ | refine e2c_lget rfl rfl ?_ | refine e2c_iald _ hi rfl rfl rfl rfl (by omega) ?_ | refine e2c_lald _ rfl rfl (by omega) ?_)
    refine e2_if rfl rfl (fun _ => ?_) (fun c => absurd (by rw [hM, h8]; exact Int32.le_refl _) c)
    repeat (first | refine e2_step rfl rfl ?_ | refine e2c_get hi rfl rfl rfl rfl ?_ | refine e2c_lget rfl rfl ?_ | refine e2c_iald _ hi rfl rfl rfl rfl (by omega) ?_ | refine e2c_lald _ rfl rfl (by omega) ?_)
    exact e2_iret rfl rfl ⟨by rw [hM], rfl⟩
theorem secV_of {w : Int32} {l : Nat} (h : secV V w l = true) : V 7 l = nI 1 ∧ V 8 l = w := by
  simp only [secV, atV, Bool.and_eq_true, decide_eq_true_eq] at h
  exact h.1
def dspV (V : VV) (N : Nat) (w : Int32) : VV := if lastB (secV V w) N = -9 then V else moveV V (lastB (secV V w) N).toNatClampNeg (nI 2) (-9)
theorem v_displace {N : Nat} (hi : i < 19) (hN : N ≤ 120) (hc : V 3 8 = nI N) (hok : okV V N) (w : Int32) : FC ε jX2_displaceSecondClass [.inr (i, 3), .inl w] G i V s o (some (bI (decide (¬ lastB (secV V w) N = -9)))) (dspV V N w) s o := by
  refine C2.of (ls := [some (.inr (i, 3)), some (.inl w), none]) okX2_displaceSecondClass rfl rfl ?_
  repeat (first | refine e2_stepS 7 rfl rfl rfl ?_ | refine e2c_getS 7 rfl hi rfl rfl rfl rfl ?_ | refine e2c_lgetS 7 rfl rfl rfl ?_ | refine e2c_ialdS 7 rfl _ hi rfl rfl rfl rfl (by omega) ?_)
  rw [hc]
  have h : ∀ n, n ≤ N → ∀ y, y + nI 1 = nI n → E2 ε jX2_displaceSecondClass 7 [some (.inr (i, 3)), some (.inl w), some (.inl y)] [] (cG G i V s o) (fun v' G' => v' = some (bI (decide (¬ lastB (secV V w) n = -9))) ∧ G' = cG G i (dspV V n w) s o) := by
    intro n
    induction n with
    | zero =>
      intro _ y hy
      have hy1 : y = -1 := by
        have : y = nI 0 - nI 1 := by rw [← hy]; simp
        rw [this]
        decide
      subst hy1
      have e : lastB (secV V w) 0 = -9 := rfl
      unfold dspV
      rw [e, if_pos rfl, decide_eq_false (by decide)]
      repeat (first | refine e2_step rfl rfl ?_ | refine e2c_get hi rfl rfl rfl rfl ?_ | refine e2c_lget rfl rfl ?_ | refine e2c_iald _ hi rfl rfl rfl rfl (by omega) ?_ | refine e2c_lald _ rfl rfl (by omega) ?_)
      refine e2_if rfl rfl (fun _ => ?_) (fun c => absurd (by decide) c)
      repeat (first | refine e2_step rfl rfl ?_ | refine e2c_get hi rfl rfl rfl rfl ?_ | refine e2c_lget rfl rfl ?_ | refine e2c_iald _ hi rfl rfl rfl rfl (by omega) ?_ | refine e2c_lald _ rfl rfl (by omega) ?_)
      exact e2_zret rfl rfl rfl ⟨rfl, rfl⟩
    | succ n ih =>
      intro hn y hy
      have hy1 : y = nI n := by
        have : y = nI (n + 1) - nI 1 := by rw [← hy]; simp
        rw [this, pk_sub (by omega), Nat.add_sub_cancel]
      subst hy1
      have hback : secV V w n = false → E2 ε jX2_displaceSecondClass 39 [some (.inr (i, 3)), some (.inl w), some (.inl (nI n))] [] (cG G i V s o) (fun v' G' => v' = some (bI (decide (¬ lastB (secV V w) (n + 1) = -9))) ∧ G' = cG G i (dspV V (n + 1) w) s o) := by
        intro hs
        have e : lastB (secV V w) (n + 1) = lastB (secV V w) n := by rw [lastB, hs]; rfl
        have e2 : dspV V (n + 1) w = dspV V n w := by unfold dspV; rw [e]
        rw [e, e2]
        repeat (first | refine e2_stepS 7 rfl rfl rfl ?_ | refine e2c_getS 7 rfl hi rfl rfl rfl rfl ?_ | refine e2c_lgetS 7 rfl rfl rfl ?_ | refine e2c_ialdS 7 rfl _ hi rfl rfl rfl rfl (by omega) ?_)
        exact ih (by omega) (nI n + -1) (by simp [Int32.add_assoc]; decide)
      repeat (first | refine e2_step rfl rfl ?_ | refine e2c_get hi rfl rfl rfl rfl ?_ | refine e2c_lget rfl rfl ?_ | refine e2c_iald _ hi rfl rfl rfl rfl (by omega) ?_ | refine e2c_lald _ rfl rfl (by omega) ?_)
      refine e2_if rfl rfl (fun c => absurd c (nI_pos (by omega))) (fun _ => ?_)
      repeat (first | refine e2_step rfl rfl ?_ | refine e2c_get hi rfl rfl rfl rfl ?_ | refine e2c_lget rfl rfl ?_ | refine e2c_iald _ hi rfl rfl rfl rfl (by omega) ?_ | refine e2c_lald _ rfl rfl (by omega) ?_)
      refine e2c_fi (v_isAt hi hN hc (l := n) (by omega) (nI 1) w) rfl rfl ⟨rfl, rfl, rfl⟩ rfl rfl rfl hi rfl rfl rfl rfl ?_
      refine e2_if rfl rfl (fun c => ?_) (fun c => ?_)
      · rw [bI_0] at c
        exact hback (by unfold secV; rw [c]; rfl)
      · rw [bI_0, Bool.not_eq_false] at c
        repeat (first | refine e2_step rfl rfl ?_ | refine e2c_get hi rfl rfl rfl rfl ?_ | refine e2c_lget rfl rfl ?_ | refine e2c_iald _ hi rfl rfl rfl rfl (by omega) ?_ | refine e2c_lald _ rfl rfl (by omega) ?_)
        refine e2c_fi (v_isFirst hi hN hc (l := n) (by omega)) rfl rfl ⟨rfl, rfl, rfl⟩ rfl rfl rfl hi rfl rfl rfl rfl ?_
        refine e2_if rfl rfl (fun c2 => ?_) (fun c2 => ?_)
        · rw [bI_0, decide_eq_false_iff_not, Classical.not_not] at c2
          exact hback (by unfold secV; rw [c2, decide_eq_false (p := nI 1 = 0) (by decide), Bool.and_false])
        · have c2 := Classical.not_not.1 c2
          rw [bI_0, decide_eq_false_iff_not] at c2
          have c0 : V 5 n = nI 0 := (okV_cat hok (by omega)).resolve_right c2
          have hs : secV V w n = true := by unfold secV; rw [c, decide_eq_true (show V 5 n = 0 from c0)]; rfl
          have e : lastB (secV V w) (n + 1) = nI n := by rw [lastB, if_pos hs]
          have hne : ¬ nI n = -9 := nI_n9 (by omega)
          unfold dspV
          rw [e, if_neg hne, decide_eq_true hne, nI_clamp (by omega)]
          repeat (first | refine e2_step rfl rfl ?_ | refine e2c_get hi rfl rfl rfl rfl ?_ | refine e2c_lget rfl rfl ?_ | refine e2c_iald _ hi rfl rfl rfl rfl (by omega) ?_ | refine e2c_lald _ rfl rfl (by omega) ?_)
          refine e2c_fv (v_moveTo hi hN hc (l := n) (by omega) (nI 2) (-9) (hok n (by omega)).2 (fun z => absurd z n21)) rfl rfl ⟨rfl, rfl, rfl⟩ rfl rfl rfl hi rfl rfl rfl rfl ?_
          repeat (first | refine e2_step rfl rfl ?_ | refine e2c_get hi rfl rfl rfl rfl ?_ | refine e2c_lget rfl rfl ?_ | refine e2c_iald _ hi rfl rfl rfl rfl (by omega) ?_ | refine e2c_lald _ rfl rfl (by omega) ?_)
          exact e2_zret rfl rfl rfl ⟨rfl, rfl⟩
  exact h N (Nat.le_refl _) _ (by simp)
/-- the frame that a letter gets, and the office behind the search -/
def frmT (V : VV) (N l : Nat) : Int32 :=
  if freV V (wkV V l) ≤ 0 then (if V 0 5 = nI 1 ∧ V 5 l = nI 1 then (if lastB (secV V (nI (wkV V l))) N = -9 then -9 else nI (wkV V l)) else if V 0 5 = nI 2 then (bestF (freV V) 8).1 else -9) else nI (wkV V l)
def frmV (V : VV) (N l : Nat) : VV :=
  if freV V (wkV V l) ≤ 0 then (if V 0 5 = nI 1 ∧ V 5 l = nI 1 then dspV V N (nI (wkV V l)) else V) else V
theorem frmT_c {N l : Nat} (hw : wkV V l < 8) : frmT V N l = -9 ∨ ∃ w, w < 8 ∧ frmT V N l = nI w := by
  unfold frmT
  repeat' split
  · exact Or.inl rfl
  · exact Or.inr ⟨_, hw, rfl⟩
  · exact bestF_c (freV V) 8
  · exact Or.inl rfl
  · exact Or.inr ⟨_, hw, rfl⟩
theorem w_frameFor {N l : Nat} (hi : i < 19) (hN : N ≤ 120) (hc : V 3 8 = nI N) (hok : okV V N) (hl : l < N) : FC ε jX5_frameFor [.inr (i, 0), .inl (nI l)] G i V s o (some (frmT V N l)) (frmV V N l) s o := by
  have hw := (wkV_of hok hl).choose_spec.2.2.2
  refine C2.of (ls := [some (.inr (i, 0)), some (.inl (nI l)), none]) okX5_frameFor rfl rfl ?_
  repeat (first | refine e2_step rfl rfl ?_ | refine e2c_get hi rfl rfl rfl rfl ?_ | refine e2c_lget rfl rfl ?_ | refine e2c_iald _ hi rfl rfl rfl rfl (by omega) ?_ | refine e2c_lald _ rfl rfl (by omega) ?_)
  refine e2c_fi (w_walkOf hi hN hok hl) rfl rfl ⟨rfl, rfl, rfl⟩ rfl rfl rfl hi rfl rfl rfl rfl ?_
  repeat (first | refine e2_step rfl rfl ?_ | refine e2c_get hi rfl rfl rfl rfl ?_ | refine e2c_lget rfl rfl ?_ | refine e2c_iald _ hi rfl rfl rfl rfl (by omega) ?_ | refine e2c_lald _ rfl rfl (by omega) ?_)
  refine e2c_fi (w_freeHoles hi hw) rfl rfl ⟨rfl, rfl, rfl⟩ rfl rfl rfl hi rfl rfl rfl rfl ?_
  have h53 : ¬ (V 0 5 = nI 1 ∧ V 5 l = nI 1) → freV V (wkV V l) ≤ 0 → E2 ε jX5_frameFor 53 [some (.inr (i, 0)), some (.inl (nI l)), some (.inl (nI (wkV V l)))] [] (cG G i V s o) (fun v' G' => v' = some (frmT V N l) ∧ G' = cG G i (frmV V N l) s o) := by
    intro z1 z2
    have e2 : frmV V N l = V := by unfold frmV; rw [if_pos z2, if_neg z1]
    rw [e2]
    repeat (first | refine e2_step rfl rfl ?_ | refine e2c_get hi rfl rfl rfl rfl ?_ | refine e2c_lget rfl rfl ?_ | refine e2c_iald _ hi rfl rfl rfl rfl (by omega) ?_ | refine e2c_lald _ rfl rfl (by omega) ?_)
    refine e2_if rfl rfl (fun c => ?_) (fun c => ?_)
    · have e1 : frmT V N l = -9 := by unfold frmT; rw [if_pos z2, if_neg z1, if_neg c]
      rw [e1]
      repeat (first | refine e2_step rfl rfl ?_ | refine e2c_get hi rfl rfl rfl rfl ?_ | refine e2c_lget rfl rfl ?_ | refine e2c_iald _ hi rfl rfl rfl rfl (by omega) ?_ | refine e2c_lald _ rfl rfl (by omega) ?_)
      exact e2_iret rfl rfl ⟨rfl, rfl⟩
    · have e1 : frmT V N l = (bestF (freV V) 8).1 := by unfold frmT; rw [if_pos z2, if_neg z1, if_pos (Classical.not_not.1 c)]
      rw [e1]
      repeat (first | refine e2_step rfl rfl ?_ | refine e2c_get hi rfl rfl rfl rfl ?_ | refine e2c_lget rfl rfl ?_ | refine e2c_iald _ hi rfl rfl rfl rfl (by omega) ?_ | refine e2c_lald _ rfl rfl (by omega) ?_)
      refine e2c_fi (w_mostFree hi) rfl rfl ⟨rfl, rfl, rfl⟩ rfl rfl rfl hi rfl rfl rfl rfl ?_
      generalize (bestF (freV V) 8).1 = bf
      repeat (first | refine e2_step rfl rfl ?_ | refine e2c_get hi rfl rfl rfl rfl ?_ | refine e2c_lget rfl rfl ?_ | refine e2c_iald _ hi rfl rfl rfl rfl (by omega) ?_ | refine e2c_lald _ rfl rfl (by omega) ?_)
      exact e2_iret rfl rfl ⟨rfl, rfl⟩
  refine e2_if rfl rfl (fun z => ?_) (fun z => ?_)
  · have z2 : freV V (wkV V l) ≤ 0 := z
    repeat (first | refine e2_step rfl rfl ?_ | refine e2c_get hi rfl rfl rfl rfl ?_ | refine e2c_lget rfl rfl ?_ | refine e2c_iald _ hi rfl rfl rfl rfl (by omega) ?_ | refine e2c_lald _ rfl rfl (by omega) ?_)
    refine e2_if rfl rfl (fun c => ?_) (fun c => ?_)
    · exact h53 (fun h => c h.1) z2
    · have c := Classical.not_not.1 c
      repeat (first | refine e2_step rfl rfl ?_ | refine e2c_get hi rfl rfl rfl rfl ?_ | refine e2c_lget rfl rfl ?_ | refine e2c_iald _ hi rfl rfl rfl rfl (by omega) ?_ | refine e2c_lald _ rfl rfl (by omega) ?_)
      refine e2c_fi (v_isFirst hi hN hc hl) rfl rfl ⟨rfl, rfl, rfl⟩ rfl rfl rfl hi rfl rfl rfl rfl ?_
      refine e2_if rfl rfl (fun c2 => ?_) (fun c2 => ?_)
      · rw [bI_0, decide_eq_false_iff_not] at c2
        exact h53 (fun h => c2 h.2) z2
      · rw [bI_0, decide_eq_false_iff_not, Classical.not_not] at c2
        have e2 : frmV V N l = dspV V N (nI (wkV V l)) := by unfold frmV; rw [if_pos z2, if_pos ⟨c, c2⟩]
        rw [e2]
        repeat (first | refine e2_step rfl rfl ?_ | refine e2c_get hi rfl rfl rfl rfl ?_ | refine e2c_lget rfl rfl ?_ | refine e2c_iald _ hi rfl rfl rfl rfl (by omega) ?_ | refine e2c_lald _ rfl rfl (by omega) ?_)
        refine e2c_fi (v_displace hi hN hc hok (nI (wkV V l))) rfl rfl ⟨rfl, rfl, rfl⟩ rfl rfl rfl hi rfl rfl rfl rfl ?_
        refine e2_if rfl rfl (fun z3 => ?_) (fun z3 => ?_)
        · rw [bI_0, decide_eq_false_iff_not, Classical.not_not] at z3
          have e1 : frmT V N l = -9 := by unfold frmT; rw [if_pos z2, if_pos ⟨c, c2⟩, if_pos z3]
          rw [e1]
          repeat (first | refine e2_step rfl rfl ?_ | refine e2c_get hi rfl rfl rfl rfl ?_ | refine e2c_lget rfl rfl ?_ | refine e2c_iald _ hi rfl rfl rfl rfl (by omega) ?_ | refine e2c_lald _ rfl rfl (by omega) ?_)
          exact e2_iret rfl rfl ⟨rfl, rfl⟩
        · rw [bI_0, decide_eq_false_iff_not, Classical.not_not] at z3
          have e1 : frmT V N l = nI (wkV V l) := by unfold frmT; rw [if_pos z2, if_pos ⟨c, c2⟩, if_neg z3]
          rw [e1]
          repeat (first | refine e2_step rfl rfl ?_ | refine e2c_get hi rfl rfl rfl rfl ?_ | refine e2c_lget rfl rfl ?_ | refine e2c_iald _ hi rfl rfl rfl rfl (by omega) ?_ | refine e2c_lald _ rfl rfl (by omega) ?_)
          exact e2_iret rfl rfl ⟨rfl, rfl⟩
  · have z2 : ¬ freV V (wkV V l) ≤ 0 := z
    have e1 : frmT V N l = nI (wkV V l) := by unfold frmT; rw [if_neg z2]
    have e2 : frmV V N l = V := by unfold frmV; rw [if_neg z2]
    rw [e1, e2]
    repeat (first | refine e2_step rfl rfl ?_ | refine e2c_get hi rfl rfl rfl rfl ?_ | refine e2c_lget rfl rfl ?_ | refine e2c_iald _ hi rfl rfl rfl rfl (by omega) ?_ | refine e2c_lald _ rfl rfl (by omega) ?_)
    exact e2_iret rfl rfl ⟨rfl, rfl⟩
def srtB (V : VV) (N l : Nat) : Bool := decide (¬ frmT V N l = -9)
def srtV (V : VV) (N l : Nat) : VV := if frmT V N l = -9 then moveV (frmV V N l) l (nI 2) (-9) else moveV (frmV V N l) l (nI 1) (frmT V N l)
theorem frmV_ok {N l : Nat} (hok : okV V N) : okV (frmV V N l) N := by
  unfold frmV dspV
  repeat' split
  · exact hok
  · exact okV_move hok (fun z => absurd z n21)
  · exact hok
  · exact hok
theorem frmV_o {N l kk : Nat} (h7 : kk ≠ 7) (h8 : kk ≠ 8) (h11 : kk ≠ 11) : frmV V N l kk = V kk := by
  unfold frmV dspV
  repeat' split
  · rfl
  · exact moveV_o h7 h8 h11
  · rfl
  · rfl
theorem srtV_o {N l kk : Nat} (h7 : kk ≠ 7) (h8 : kk ≠ 8) (h11 : kk ≠ 11) : srtV V N l kk = V kk := by
  unfold srtV
  split
  · rw [moveV_o h7 h8 h11, frmV_o h7 h8 h11]
  · rw [moveV_o h7 h8 h11, frmV_o h7 h8 h11]
theorem srtV_ok {N l : Nat} (hok : okV V N) (hl : l < N) : okV (srtV V N l) N := by
  have hw := (wkV_of hok hl).choose_spec.2.2.2
  unfold srtV
  split
  · exact okV_move (frmV_ok hok) (fun z => absurd z n21)
  · rename_i h
    exact okV_move (frmV_ok hok) (fun _ => (frmT_c hw).resolve_left h)
theorem w_sort {N l : Nat} (hi : i < 19) (hN : N ≤ 120) (hc : V 3 8 = nI N) (hok : okV V N) (hl : l < N) : FC ε jX5_sort [.inr (i, 0), .inl (nI l)] G i V s o (some (bI (srtB V N l))) (srtV V N l) s o := by
  have hT := frmT_c (N := N) (wkV_of hok hl).choose_spec.2.2.2
  have hok2 := frmV_ok (l := l) hok
  have hfr := fun (G : GG) => w_frameFor (ε := ε) (G := G) (s := s) (o := o) hi hN hc hok hl
  unfold srtB srtV
  generalize frmT V N l = T at hT hfr ⊢
  generalize frmV V N l = V1 at hok2 hfr ⊢
  refine C2.of (ls := [some (.inr (i, 0)), some (.inl (nI l)), none]) okX5_sort rfl rfl ?_
  repeat (first | refine e2_step rfl rfl ?_ | refine e2c_get hi rfl rfl rfl rfl ?_ | refine e2c_lget rfl rfl ?_ | refine e2c_iald _ hi rfl rfl rfl rfl (by omega) ?_ | refine e2c_lald _ rfl rfl (by omega) ?_)
  refine e2c_fi (hfr G) rfl rfl ⟨rfl, rfl, rfl⟩ rfl rfl rfl hi rfl rfl rfl rfl ?_
  repeat (first | refine e2_step rfl rfl ?_ | refine e2c_get hi rfl rfl rfl rfl ?_ | refine e2c_lget rfl rfl ?_ | refine e2c_iald _ hi rfl rfl rfl rfl (by omega) ?_ | refine e2c_lald _ rfl rfl (by omega) ?_)
  refine e2_if rfl rfl (fun c => ?_) (fun c => ?_)
  · rw [if_neg c, decide_eq_true c]
    repeat (first | refine e2_step rfl rfl ?_ | refine e2c_get hi rfl rfl rfl rfl ?_ | refine e2c_lget rfl rfl ?_ | refine e2c_iald _ hi rfl rfl rfl rfl (by omega) ?_ | refine e2c_lald _ rfl rfl (by omega) ?_)
    refine e2c_fv (v_moveTo hi hN (okV_cnt hok2 hl) hl (nI 1) T (hok2 l hl).2 (fun _ => hT.resolve_left c)) rfl rfl ⟨rfl, rfl, rfl⟩ rfl rfl rfl hi rfl rfl rfl rfl ?_
    repeat (first | refine e2_step rfl rfl ?_ | refine e2c_get hi rfl rfl rfl rfl ?_ | refine e2c_lget rfl rfl ?_ | refine e2c_iald _ hi rfl rfl rfl rfl (by omega) ?_ | refine e2c_lald _ rfl rfl (by omega) ?_)
    exact e2_zret rfl rfl rfl ⟨rfl, rfl⟩
  · have c := Classical.not_not.1 c
    rw [if_pos c, decide_eq_false (by rw [c]; decide)]
    repeat (first | refine e2_step rfl rfl ?_ | refine e2c_get hi rfl rfl rfl rfl ?_ | refine e2c_lget rfl rfl ?_ | refine e2c_iald _ hi rfl rfl rfl rfl (by omega) ?_ | refine e2c_lald _ rfl rfl (by omega) ?_)
    refine e2c_fv (v_moveTo hi hN (okV_cnt hok2 hl) hl (nI 2) (-9) (hok2 l hl).2 (fun z => absurd z n21)) rfl rfl ⟨rfl, rfl, rfl⟩ rfl rfl rfl hi rfl rfl rfl rfl ?_
    repeat (first | refine e2_step rfl rfl ?_ | refine e2c_get hi rfl rfl rfl rfl ?_ | refine e2c_lget rfl rfl ?_ | refine e2c_iald _ hi rfl rfl rfl rfl (by omega) ?_ | refine e2c_lald _ rfl rfl (by omega) ?_)
    exact e2_zret rfl rfl rfl ⟨rfl, rfl⟩
/-- the first k of a list are sorted: the office, and how many went into a frame -/
def srtsV (V : VV) (N : Nat) (R : List Nat) : Nat → VV
  | 0 => V
  | k + 1 => srtV (srtsV V N R k) N (revD R k)
def srtsn (V : VV) (N : Nat) (R : List Nat) : Nat → Nat
  | 0 => 0
  | k + 1 => srtsn V N R k + (if srtB (srtsV V N R k) N (revD R k) then 1 else 0)
theorem srtsV_o {N kk : Nat} {R : List Nat} (h7 : kk ≠ 7) (h8 : kk ≠ 8) (h11 : kk ≠ 11) : ∀ k, srtsV V N R k kk = V kk
  | 0 => rfl
  | k + 1 => by
    unfold srtsV
    rw [srtV_o h7 h8 h11, srtsV_o h7 h8 h11 k]
theorem srtsV_ok {N : Nat} {R : List Nat} (hok : okV V N) (hR : ∀ a, a ∈ R → a < N) : ∀ k, k ≤ R.length → okV (srtsV V N R k) N
  | 0, _ => hok
  | k + 1, h => srtV_ok (srtsV_ok hok hR k (by omega)) (hR _ (revD_mem R k (by omega)))
theorem ovV_ok {N : Nat} (hok : okV V N) : ∀ n, okV (ovV V n) N
  | 0 => hok
  | n + 1 => by
    unfold ovV
    split
    · exact okV_move (ovV_ok hok n) (fun z => absurd z n01)
    · exact ovV_ok hok n
def hr1V (V : VV) : VV := wv V 0 4 (V 0 4 + nI 1)
def bagH (V : VV) (N : Nat) : List Nat := bagVR (ovV (hr1V V) N) N
def hrsV (V : VV) (N : Nat) : VV := srtsV (ovV (hr1V V) N) N (bagH V N) (min (bagH V N).length (V 0 6).toNatClampNeg)
def hrsn (V : VV) (N : Nat) : Nat := srtsn (ovV (hr1V V) N) N (bagH V N) (min (bagH V N).length (V 0 6).toNatClampNeg)
theorem srtsn_le {N : Nat} {R : List Nat} : ∀ k, srtsn V N R k ≤ k
  | 0 => Nat.le_refl _
  | k + 1 => by
    have := srtsn_le (N := N) (R := R) k
    show srtsn V N R k + _ ≤ k + 1
    split <;> omega
set_option maxHeartbeats 2000000 in
theorem w_passHour {N sp : Nat} (hi : i < 19) (hN : N ≤ 120) (hc : V 3 8 = nI N) (hok : okV V N) (hsp : V 0 6 = nI sp) (hsp2 : sp < 1000) (hR : (bagH V N).length ≤ N) (hRlt : ∀ a, a ∈ bagH V N → a < N) : FC ε jX5_passHour [.inr (i, 0), .inr (0, 40)] G i V s o (some (nI (hrsn V N))) (hrsV V N) (nI (bagH V N).length) (ordA (bagH V N) o) := by
  refine C2.of (ls := [some (.inr (i, 0)), some (.inr (0, 40)), none, none, none]) okX5_passHour rfl rfl ?_
  repeat (first | refine e2_step rfl rfl ?_ | refine e2c_get hi rfl rfl rfl rfl ?_ | refine e2c_lget rfl rfl ?_ | refine e2c_iald _ hi rfl rfl rfl rfl (by omega) ?_ | refine e2c_lald _ rfl rfl (by omega) ?_)
  refine e2c_put hi rfl rfl rfl rfl rfl rfl rfl ?_
  change E2 ε jX5_passHour 10 _ _ (cG G i (hr1V V) s o) _
  have hok1 : okV (hr1V V) N := hok
  have hc1 : hr1V V 3 8 = nI N := hc
  have hsp1 : hr1V V 0 6 = nI sp := hsp
  unfold hrsn hrsV
  rw [hsp, nI_clamp (by omega)]
  have hbag : bagH V N = bagVR (ovV (hr1V V) N) N := rfl
  generalize hR0 : bagH V N = R at hR hRlt hbag ⊢
  generalize hV1 : hr1V V = V1 at hok1 hc1 hsp1 hbag ⊢
  repeat (first | refine e2_step rfl rfl ?_ | refine e2c_get hi rfl rfl rfl rfl ?_ | refine e2c_lget rfl rfl ?_ | refine e2c_iald _ hi rfl rfl rfl rfl (by omega) ?_ | refine e2c_lald _ rfl rfl (by omega) ?_)
  refine e2c_fv (v_emptyOverflow hi hN hc1) rfl rfl ⟨rfl, rfl, rfl⟩ rfl rfl rfl hi rfl rfl rfl rfl ?_
  have hok2 := ovV_ok hok1 N
  have hc2 : ovV V1 N 3 8 = nI N := by rw [ovV_o (by decide) (by decide) (by decide)]; exact hc1
  have hsp2' : ovV V1 N 0 6 = nI sp := by rw [ovV_o (by decide) (by decide) (by decide)]; exact hsp1
  generalize hV2 : ovV V1 N = V2 at hok2 hc2 hsp2' hbag ⊢
  repeat (first | refine e2_step rfl rfl ?_ | refine e2c_get hi rfl rfl rfl rfl ?_ | refine e2c_lget rfl rfl ?_ | refine e2c_iald _ hi rfl rfl rfl rfl (by omega) ?_ | refine e2c_lald _ rfl rfl (by omega) ?_)
  refine e2c_fv (v_listBag hi hN hc2 (by rw [← hbag]; omega)) rfl rfl ⟨rfl, rfl, rfl⟩ rfl rfl rfl hi rfl rfl rfl rfl ?_
  rw [← hbag]
  repeat (first | refine e2_step rfl rfl ?_ | refine e2c_get hi rfl rfl rfl rfl ?_ | refine e2c_lget rfl rfl ?_ | refine e2c_iald _ hi rfl rfl rfl rfl (by omega) ?_ | refine e2c_lald _ rfl rfl (by omega) ?_)
  rw [hsp2']
  refine e2_min rfl rfl rfl ?_
  have hm : (if nI R.length < nI sp then nI R.length else nI sp) = nI (min R.length sp) := by
    by_cases h : R.length < sp
    · rw [if_pos ((nI_ltI (by omega) (by omega)).2 h), Nat.min_eq_left (by omega)]
    · rw [if_neg (fun z => h ((nI_ltI (by omega) (by omega)).1 z)), Nat.min_eq_right (by omega)]
  rw [hm]
  repeat (first | refine e2_stepS 42 rfl rfl rfl ?_ | refine e2c_getS 42 rfl hi rfl rfl rfl rfl ?_ | refine e2c_lgetS 42 rfl rfl rfl ?_ | refine e2c_ialdS 42 rfl _ hi rfl rfl rfl rfl (by omega) ?_)
  refine e2_for (min R.length sp) (fun k => [some (.inr (i, 0)), some (.inr (0, 40)), some (.inl (nI (min R.length sp))), some (.inl (nI (srtsn V2 N R k))), some (.inl (nI k))]) (fun k => cG G i (srtsV V2 N R k) (nI R.length) (ordA R o)) (fun k hk K => ?_) (fun M hM => ?_)
  · have hok3 := srtsV_ok hok2 hRlt k (by omega)
    have hc3 : srtsV V2 N R k 3 8 = nI N := by rw [srtsV_o (by decide) (by decide) (by decide)]; exact hc2
    repeat (first | refine e2_step rfl rfl ?_ | refine e2c_get hi rfl rfl rfl rfl ?_ | refine e2c_lget rfl rfl ?_ | refine e2c_iald _ hi rfl rfl rfl rfl (by omega) ?_ | refine e2c_lald _ rfl rfl (by omega) ?_)
    refine e2_if rfl rfl (fun c => absurd c (nI_ge hk (by omega))) (fun _ => ?_)
    repeat (first | refine e2_step rfl rfl ?_ | refine e2c_get hi rfl rfl rfl rfl ?_ | refine e2c_lget rfl rfl ?_ | refine e2c_iald _ hi rfl rfl rfl rfl (by omega) ?_ | refine e2c_lald _ rfl rfl (by omega) ?_)
    refine e2c_lfi (l_letterAt (n := R.length) (j := k) (by omega) (by omega)) rfl rfl ⟨rfl, rfl, rfl⟩ rfl rfl rfl rfl ?_
    rw [if_neg (by omega), ordA_at (by omega)]
    refine e2c_fi (w_sort hi hN hc3 hok3 (hRlt _ (revD_mem R k (by omega)))) rfl rfl ⟨rfl, rfl, rfl⟩ rfl rfl rfl hi rfl rfl rfl rfl ?_
    simp only [srtsn] at K
    refine e2_if rfl rfl (fun c => ?_) (fun c => ?_)
    · rw [bI_0] at c
      rw [c] at K
      repeat (first | refine e2_stepS 42 rfl rfl rfl ?_ | refine e2c_getS 42 rfl hi rfl rfl rfl rfl ?_ | refine e2c_lgetS 42 rfl rfl rfl ?_ | refine e2c_ialdS 42 rfl _ hi rfl rfl rfl rfl (by omega) ?_)
      rw [nI_add']
      exact K
    · rw [bI_0, Bool.not_eq_false] at c
      rw [c] at K
      repeat (first | refine e2_stepS 42 rfl rfl rfl ?_ | refine e2c_getS 42 rfl hi rfl rfl rfl rfl ?_ | refine e2c_lgetS 42 rfl rfl rfl ?_ | refine e2c_ialdS 42 rfl _ hi rfl rfl rfl rfl (by omega) ?_)
      rw [nI_add', nI_add']
      exact K
  · repeat (first | refine e2_step rfl rfl ?_ | refine e2c_get hi rfl rfl rfl rfl ?_ | refine e2c_lget rfl rfl ?_ | refine e2c_iald _ hi rfl rfl rfl rfl (by omega) ?_ | refine e2c_lald _ rfl rfl (by omega) ?_)
    refine e2_if rfl rfl (fun _ => ?_) (fun c => absurd (by rw [hM]; exact Int32.le_refl _) c)
    repeat (first | refine e2_step rfl rfl ?_ | refine e2c_get hi rfl rfl rfl rfl ?_ | refine e2c_lget rfl rfl ?_ | refine e2c_iald _ hi rfl rfl rfl rfl (by omega) ?_ | refine e2c_lald _ rfl rfl (by omega) ?_)
    exact e2_iret rfl rfl ⟨by rw [hM], by rw [hM]⟩
theorem w_isCleared {N : Nat} (hi : i < 19) (hN : N ≤ 120) (hc : V 3 8 = nI N) : FC ε jX5_isCleared [.inr (i, 0)] G i V s o (some (bI (decide (cntB (fun l => decide (V 7 l = nI 0)) N = 0) && decide (cntB (fun l => decide (V 7 l = nI 2)) N = 0)))) V s o := by
  have hle : ∀ p : Nat → Bool, cntB p N < 2 ^ 31 := fun p => Nat.lt_of_le_of_lt (cntB_le p N) (by omega)
  refine C2.of (ls := [some (.inr (i, 0))]) okX5_isCleared rfl rfl ?_
  repeat (first | refine e2_step rfl rfl ?_ | refine e2c_get hi rfl rfl rfl rfl ?_ | refine e2c_lget rfl rfl ?_ | refine e2c_iald _ hi rfl rfl rfl rfl (by omega) ?_ | refine e2c_lald _ rfl rfl (by omega) ?_)
  refine e2c_fi (v_countIn hi hN hc (nI 0)) rfl rfl ⟨rfl, rfl, rfl⟩ rfl rfl rfl hi rfl rfl rfl rfl ?_
  refine e2_if rfl rfl (fun c => ?_) (fun c => ?_)
  · have c2 : ¬ cntB (fun l => decide (V 7 l = nI 0)) N = 0 := fun h => c (by rw [h]; rfl)
    rw [decide_eq_false c2]
    repeat (first | refine e2_step rfl rfl ?_ | refine e2c_get hi rfl rfl rfl rfl ?_ | refine e2c_lget rfl rfl ?_ | refine e2c_iald _ hi rfl rfl rfl rfl (by omega) ?_ | refine e2c_lald _ rfl rfl (by omega) ?_)
    exact e2_zret rfl rfl rfl ⟨rfl, rfl⟩
  · have c2 : cntB (fun l => decide (V 7 l = nI 0)) N = 0 := (nI_eq (hle _) (by decide)).1 (Classical.not_not.1 c)
    rw [decide_eq_true c2]
    repeat (first | refine e2_step rfl rfl ?_ | refine e2c_get hi rfl rfl rfl rfl ?_ | refine e2c_lget rfl rfl ?_ | refine e2c_iald _ hi rfl rfl rfl rfl (by omega) ?_ | refine e2c_lald _ rfl rfl (by omega) ?_)
    refine e2c_fi (v_countIn hi hN hc (nI 2)) rfl rfl ⟨rfl, rfl, rfl⟩ rfl rfl rfl hi rfl rfl rfl rfl ?_
    refine e2_if rfl rfl (fun d => ?_) (fun d => ?_)
    · have d2 : ¬ cntB (fun l => decide (V 7 l = nI 2)) N = 0 := fun h => d (by rw [h]; rfl)
      rw [decide_eq_false d2]
      repeat (first | refine e2_step rfl rfl ?_ | refine e2c_get hi rfl rfl rfl rfl ?_ | refine e2c_lget rfl rfl ?_ | refine e2c_iald _ hi rfl rfl rfl rfl (by omega) ?_ | refine e2c_lald _ rfl rfl (by omega) ?_)
      exact e2_zret rfl rfl rfl ⟨rfl, rfl⟩
    · have d2 : cntB (fun l => decide (V 7 l = nI 2)) N = 0 := (nI_eq (hle _) (by decide)).1 (Classical.not_not.1 d)
      rw [decide_eq_true d2]
      repeat (first | refine e2_step rfl rfl ?_ | refine e2c_get hi rfl rfl rfl rfl ?_ | refine e2c_lget rfl rfl ?_ | refine e2c_iald _ hi rfl rfl rfl rfl (by omega) ?_ | refine e2c_lald _ rfl rfl (by omega) ?_)
      exact e2_zret rfl rfl rfl ⟨rfl, rfl⟩
end ND
end
section
/-! Office i: rounds. -/
section NE
variable {ε : EE} {G : GG} {i : Nat} {V : VV} {s : Int32} {o : Nat → Int32} {Q : Option Int32 → GG → Prop}
def cgB (V : VV) (c : Nat) : Bool := decide (¬ V 13 c = -9) && (decide (V 14 c = 0) && decide (¬ V 11 (V 13 c).toNatClampNeg ≤ 0))
theorem w_canGoOut {c : Nat} (hi : i < 19) (hc : c < 6) (hw : V 13 c = -9 ∨ ∃ w, w < 8 ∧ V 13 c = nI w) : FC ε jX5_canGoOut [.inr (i, 0), .inl (nI c)] G i V s o (some (bI (cgB V c))) V s o := by
  refine C2.of (ls := [some (.inr (i, 0)), some (.inl (nI c)), none]) okX5_canGoOut rfl rfl ?_
  repeat (first | refine e2_step rfl rfl ?_ | refine e2c_get hi rfl rfl rfl rfl ?_ | refine e2c_lget rfl rfl ?_ | refine e2c_iald _ hi rfl rfl rfl rfl (by omega) ?_ | refine e2c_lald _ rfl rfl (by omega) ?_)
  rcases hw with z | ⟨w, hw1, hw2⟩
  · have e : cgB V c = false := by unfold cgB; rw [decide_eq_false (fun h => h z), Bool.false_and]
    rw [e, z]
    refine e2_fs (c_isWalk (-9)) rfl rfl ⟨rfl, rfl, rfl⟩ rfl rfl rfl ?_
    rw [show isInB (-9) (nI 0) (nI 7) = false by decide]
    refine e2_if rfl rfl (fun _ => ?_) (fun z => absurd rfl z)
    repeat (first | refine e2_step rfl rfl ?_ | refine e2c_get hi rfl rfl rfl rfl ?_ | refine e2c_lget rfl rfl ?_ | refine e2c_iald _ hi rfl rfl rfl rfl (by omega) ?_ | refine e2c_lald _ rfl rfl (by omega) ?_)
    exact e2_zret rfl rfl rfl ⟨rfl, rfl⟩
  · have z : ¬ V 13 c = -9 := by rw [hw2]; exact nI_n9 (by omega)
    rw [hw2]
    refine e2_fs (c_isWalkT hw1) rfl rfl ⟨rfl, rfl, rfl⟩ rfl rfl rfl ?_
    refine e2_if rfl rfl (fun z => absurd z (by decide)) (fun _ => ?_)
    repeat (first | refine e2_step rfl rfl ?_ | refine e2c_get hi rfl rfl rfl rfl ?_ | refine e2c_lget rfl rfl ?_ | refine e2c_iald _ hi rfl rfl rfl rfl (by omega) ?_ | refine e2c_lald _ rfl rfl (by omega) ?_)
    refine e2c_zald c hi rfl rfl rfl rfl hc ?_
    refine e2_if rfl rfl (fun z2 => ?_) (fun z2 => ?_)
    · have e : cgB V c = false := by unfold cgB; rw [decide_eq_false z2, Bool.false_and, Bool.and_false]
      rw [e]
      repeat (first | refine e2_step rfl rfl ?_ | refine e2c_get hi rfl rfl rfl rfl ?_ | refine e2c_lget rfl rfl ?_ | refine e2c_iald _ hi rfl rfl rfl rfl (by omega) ?_ | refine e2c_lald _ rfl rfl (by omega) ?_)
      exact e2_zret rfl rfl rfl ⟨rfl, rfl⟩
    · have z2 := Classical.not_not.1 z2
      repeat (first | refine e2_step rfl rfl ?_ | refine e2c_get hi rfl rfl rfl rfl ?_ | refine e2c_lget rfl rfl ?_ | refine e2c_iald _ hi rfl rfl rfl rfl (by omega) ?_ | refine e2c_lald _ rfl rfl (by omega) ?_)
      refine e2_if rfl rfl (fun z3 => ?_) (fun z3 => ?_)
      · have h3 : decide (¬ V 11 w ≤ 0) = false := decide_eq_false (fun h => h z3)
        have e : cgB V c = false := by unfold cgB; rw [hw2, nI_clamp (by omega), h3, Bool.and_false, Bool.and_false]
        rw [e]
        repeat (first | refine e2_step rfl rfl ?_ | refine e2c_get hi rfl rfl rfl rfl ?_ | refine e2c_lget rfl rfl ?_ | refine e2c_iald _ hi rfl rfl rfl rfl (by omega) ?_ | refine e2c_lald _ rfl rfl (by omega) ?_)
        exact e2_zret rfl rfl rfl ⟨rfl, rfl⟩
      · have e : cgB V c = true := by unfold cgB; rw [decide_eq_true z, decide_eq_true z2, hw2, nI_clamp (by omega), decide_eq_true z3]; rfl
        rw [e]
        repeat (first | refine e2_step rfl rfl ?_ | refine e2c_get hi rfl rfl rfl rfl ?_ | refine e2c_lget rfl rfl ?_ | refine e2c_iald _ hi rfl rfl rfl rfl (by omega) ?_ | refine e2c_lald _ rfl rfl (by omega) ?_)
        exact e2_zret rfl rfl rfl ⟨rfl, rfl⟩
def sgo (V : VV) (R : List Nat) (c : Int32) : Nat → VV
  | 0 => V
  | k + 1 => moveV (sgo V R c k) (revD R k) (nI 3) c
theorem n31 : ¬ nI 3 = nI 1 := by decide
theorem n41 : ¬ nI 4 = nI 1 := by decide
theorem n51 : ¬ nI 5 = nI 1 := by decide
theorem sgo_o {kk : Nat} {R : List Nat} {c : Int32} (h7 : kk ≠ 7) (h8 : kk ≠ 8) (h11 : kk ≠ 11) : ∀ k, sgo V R c k kk = V kk
  | 0 => rfl
  | k + 1 => by
    unfold sgo
    rw [moveV_o h7 h8 h11, sgo_o h7 h8 h11 k]
theorem sgo_ok {N : Nat} {R : List Nat} {c : Int32} (hok : okV V N) : ∀ k, okV (sgo V R c k) N
  | 0 => hok
  | k + 1 => okV_move (sgo_ok hok k) (fun z => absurd z n31)
/-- the letters of a place, by codes and numbers, last first -/
def atVR (V : VV) (N : Nat) (p k : Int32) : List Nat := layR (gtV V) (atV V p k) N
theorem atVR_lt {N : Nat} {p k : Int32} : ∀ a, a ∈ atVR V N p k → a < N := fun a h => ((layR_mem _ _ N a).1 h).1
theorem atVR_len {N : Nat} {p k : Int32} : (atVR V N p k).length ≤ N := by unfold atVR; rw [layR_len]; exact cntB_le _ _
def sndn (V : VV) (N c : Nat) : Nat := min (atVR V N (nI 1) (V 13 c)).length (V 0 7).toNatClampNeg
def sndV (V : VV) (N c : Nat) : VV := wv (sgo V (atVR V N (nI 1) (V 13 c)) (nI c) (sndn V N c)) 14 c (nI 1)
theorem min_if {a b : Nat} (ha : a < 2 ^ 31) (hb : b < 2 ^ 31) : (if nI a < nI b then nI a else nI b) = nI (min a b) := by
  by_cases h : a < b
  · rw [if_pos ((nI_ltI ha hb).2 h), Nat.min_eq_left (by omega)]
  · rw [if_neg (fun z => h ((nI_ltI ha hb).1 z)), Nat.min_eq_right (by omega)]
theorem w_sendOut {N c ld : Nat} (hi : i < 19) (hN : N ≤ 120) (hc : V 3 8 = nI N) (hok : okV V N) (hc6 : c < 6) (hld : V 0 7 = nI ld) (hld2 : ld < 1000) : FC ε jX5_sendOut [.inr (i, 0), .inl (nI c), .inr (0, 40)] G i V s o (some (nI (sndn V N c))) (sndV V N c) (nI (atVR V N (nI 1) (V 13 c)).length) (ordA (atVR V N (nI 1) (V 13 c)) o) := by
  have hlay := fun (G : GG) => v_listByCode (ε := ε) (G := G) (s := s) (o := o) hi hN hc (nI 1) (V 13 c)
  change ∀ (G : GG), FC ε jX2_listByCode [.inr (i, 3), .inl (nI 1), .inl (V 13 c), .inr (0, 40)] G i V s o none V (nI (atVR V N (nI 1) (V 13 c)).length) (ordA (atVR V N (nI 1) (V 13 c)) o) at hlay
  have hRl : (atVR V N (nI 1) (V 13 c)).length ≤ N := atVR_len
  have hRlt : ∀ a, a ∈ atVR V N (nI 1) (V 13 c) → a < N := atVR_lt
  have hn : sndn V N c = min (atVR V N (nI 1) (V 13 c)).length ld := by unfold sndn; rw [hld, nI_clamp (by omega)]
  unfold sndV
  rw [hn]
  generalize hR : atVR V N (nI 1) (V 13 c) = R at hRl hRlt hlay ⊢
  refine C2.of (ls := [some (.inr (i, 0)), some (.inl (nI c)), some (.inr (0, 40)), none, none]) okX5_sendOut rfl rfl ?_
  repeat (first | refine e2_step rfl rfl ?_ | refine e2c_get hi rfl rfl rfl rfl ?_ | refine e2c_lget rfl rfl ?_ | refine e2c_iald _ hi rfl rfl rfl rfl (by omega) ?_ | refine e2c_lald _ rfl rfl (by omega) ?_)
  refine e2c_fv (hlay G) rfl rfl ⟨rfl, rfl, rfl⟩ rfl rfl rfl hi rfl rfl rfl rfl ?_
  repeat (first | refine e2_step rfl rfl ?_ | refine e2c_get hi rfl rfl rfl rfl ?_ | refine e2c_lget rfl rfl ?_ | refine e2c_iald _ hi rfl rfl rfl rfl (by omega) ?_ | refine e2c_lald _ rfl rfl (by omega) ?_)
  rw [hld]
  refine e2_min rfl rfl rfl ?_
  rw [min_if (by omega) (by omega)]
  repeat (first | refine e2_stepS 33 rfl rfl rfl ?_ | refine e2c_getS 33 rfl hi rfl rfl rfl rfl ?_ | refine e2c_lgetS 33 rfl rfl rfl ?_ | refine e2c_ialdS 33 rfl _ hi rfl rfl rfl rfl (by omega) ?_)
  refine e2_for (min R.length ld) (fun k => [some (.inr (i, 0)), some (.inl (nI c)), some (.inr (0, 40)), some (.inl (nI (min R.length ld))), some (.inl (nI k))]) (fun k => cG G i (sgo V R (nI c) k) (nI R.length) (ordA R o)) (fun k hk K => ?_) (fun M hM => ?_)
  · repeat (first | refine e2_step rfl rfl ?_ | refine e2c_get hi rfl rfl rfl rfl ?_ | refine e2c_lget rfl rfl ?_ | refine e2c_iald _ hi rfl rfl rfl rfl (by omega) ?_ | refine e2c_lald _ rfl rfl (by omega) ?_)
    refine e2_if rfl rfl (fun z => absurd z (nI_ge hk (by omega))) (fun _ => ?_)
    repeat (first | refine e2_step rfl rfl ?_ | refine e2c_get hi rfl rfl rfl rfl ?_ | refine e2c_lget rfl rfl ?_ | refine e2c_iald _ hi rfl rfl rfl rfl (by omega) ?_ | refine e2c_lald _ rfl rfl (by omega) ?_)
    refine e2c_lfi (l_letterAt (n := R.length) (j := k) (by omega) (by omega)) rfl rfl ⟨rfl, rfl, rfl⟩ rfl rfl rfl rfl ?_
    rw [if_neg (by omega), ordA_at (by omega)]
    repeat (first | refine e2_step rfl rfl ?_ | refine e2c_get hi rfl rfl rfl rfl ?_ | refine e2c_lget rfl rfl ?_ | refine e2c_iald _ hi rfl rfl rfl rfl (by omega) ?_ | refine e2c_lald _ rfl rfl (by omega) ?_)
    have hlk := hRlt _ (revD_mem R k (by omega))
    refine e2c_fv (v_moveTo hi hN (okV_cnt (sgo_ok hok k) hlk) hlk (nI 3) (nI c) (sgo_ok hok k _ hlk).2 (fun z => absurd z n31)) rfl rfl ⟨rfl, rfl, rfl⟩ rfl rfl rfl hi rfl rfl rfl rfl ?_
    repeat (first | refine e2_stepS 33 rfl rfl rfl ?_ | refine e2c_getS 33 rfl hi rfl rfl rfl rfl ?_ | refine e2c_lgetS 33 rfl rfl rfl ?_ | refine e2c_ialdS 33 rfl _ hi rfl rfl rfl rfl (by omega) ?_)
    rw [nI_add']
    exact K
  · repeat (first | refine e2_step rfl rfl ?_ | refine e2c_get hi rfl rfl rfl rfl ?_ | refine e2c_lget rfl rfl ?_ | refine e2c_iald _ hi rfl rfl rfl rfl (by omega) ?_ | refine e2c_lald _ rfl rfl (by omega) ?_)
    refine e2_if rfl rfl (fun _ => ?_) (fun z => absurd (by rw [hM]; exact Int32.le_refl _) z)
    repeat (first | refine e2_step rfl rfl ?_ | refine e2c_get hi rfl rfl rfl rfl ?_ | refine e2c_lget rfl rfl ?_ | refine e2c_iald _ hi rfl rfl rfl rfl (by omega) ?_ | refine e2c_lald _ rfl rfl (by omega) ?_)
    refine e2c_zast c hi rfl rfl rfl rfl hc6 (Or.inr rfl) ?_
    repeat (first | refine e2_step rfl rfl ?_ | refine e2c_get hi rfl rfl rfl rfl ?_ | refine e2c_lget rfl rfl ?_ | refine e2c_iald _ hi rfl rfl rfl rfl (by omega) ?_ | refine e2c_lald _ rfl rfl (by omega) ?_)
    exact e2_iret rfl rfl ⟨rfl, by rw [hM]⟩
def misV (V : VV) (l : Nat) : VV := if V 6 l + nI 1 < nI 3 then moveV (wv V 6 l (V 6 l + nI 1)) l (nI 0) (-9) else finV (wv V 6 l (V 6 l + nI 1)) l (nI 5) (V 0 4)
theorem v_misroute {N l : Nat} (hi : i < 19) (hN : N ≤ 120) (hok : okV V N) (hl : l < N) : FC ε jX2_misroute [.inr (i, 3), .inl (nI l), .inl (V 0 4)] G i V s o none (misV V l) s o := by
  refine C2.of (ls := [some (.inr (i, 3)), some (.inl (nI l)), some (.inl (V 0 4))]) okX2_misroute rfl rfl ?_
  repeat (first | refine e2_step rfl rfl ?_ | refine e2c_get hi rfl rfl rfl rfl ?_ | refine e2c_lget rfl rfl ?_ | refine e2c_iald _ hi rfl rfl rfl rfl (by omega) ?_ | refine e2c_lald _ rfl rfl (by omega) ?_)
  refine e2c_fi (v_has hi hN (okV_cnt hok hl) hl) rfl rfl ⟨rfl, rfl, rfl⟩ rfl rfl rfl hi rfl rfl rfl rfl ?_
  refine e2_if rfl rfl (fun _ => ?_) (fun z => absurd (by decide) z)
  repeat (first | refine e2_step rfl rfl ?_ | refine e2c_get hi rfl rfl rfl rfl ?_ | refine e2c_lget rfl rfl ?_ | refine e2c_iald _ hi rfl rfl rfl rfl (by omega) ?_ | refine e2c_lald _ rfl rfl (by omega) ?_)
  refine e2c_iast l hi rfl rfl rfl rfl (by omega) ?_
  have h6 : wv V 6 l (V 6 l + nI 1) 6 l = V 6 l + nI 1 := by simp [wv, sv, upd]
  have hok2 : okV (wv V 6 l (V 6 l + nI 1)) N := hok
  repeat (first | refine e2_step rfl rfl ?_ | refine e2c_get hi rfl rfl rfl rfl ?_ | refine e2c_lget rfl rfl ?_ | refine e2c_iald _ hi rfl rfl rfl rfl (by omega) ?_ | refine e2c_lald _ rfl rfl (by omega) ?_)
  rw [h6]
  unfold misV
  refine e2_if rfl rfl (fun z => ?_) (fun z => ?_)
  · rw [if_pos z]
    repeat (first | refine e2_step rfl rfl ?_ | refine e2c_get hi rfl rfl rfl rfl ?_ | refine e2c_lget rfl rfl ?_ | refine e2c_iald _ hi rfl rfl rfl rfl (by omega) ?_ | refine e2c_lald _ rfl rfl (by omega) ?_)
    refine e2c_fv (v_moveTo hi hN (okV_cnt hok2 hl) hl (nI 0) (-9) (hok2 l hl).2 (fun z => absurd z n01)) rfl rfl ⟨rfl, rfl, rfl⟩ rfl rfl rfl hi rfl rfl rfl rfl ?_
    exact e2_vret rfl rfl ⟨rfl, rfl⟩
  · rw [if_neg z]
    repeat (first | refine e2_step rfl rfl ?_ | refine e2c_get hi rfl rfl rfl rfl ?_ | refine e2c_lget rfl rfl ?_ | refine e2c_iald _ hi rfl rfl rfl rfl (by omega) ?_ | refine e2c_lald _ rfl rfl (by omega) ?_)
    refine e2c_fv (v_finish hi hN (okV_cnt hok2 hl) hl (nI 5) (V 0 4) (hok2 l hl).2 n51) rfl rfl ⟨rfl, rfl, rfl⟩ rfl rfl rfl hi rfl rfl rfl rfl ?_
    repeat (first | refine e2_step rfl rfl ?_ | refine e2c_get hi rfl rfl rfl rfl ?_ | refine e2c_lget rfl rfl ?_ | refine e2c_iald _ hi rfl rfl rfl rfl (by omega) ?_ | refine e2c_lald _ rfl rfl (by omega) ?_)
    exact e2_vret rfl rfl ⟨rfl, rfl⟩
def pbV (V : VV) (l w : Nat) : VV := if freV V w ≤ 0 then moveV V l (nI 2) (-9) else moveV V l (nI 1) (nI w)
theorem w_putBack {N l w : Nat} (hi : i < 19) (hN : N ≤ 120) (hok : okV V N) (hl : l < N) (hw : w < 8) : FC ε jX5_putBack [.inr (i, 0), .inl (nI l), .inl (nI w)] G i V s o none (pbV V l w) s o := by
  refine C2.of (ls := [some (.inr (i, 0)), some (.inl (nI l)), some (.inl (nI w))]) okX5_putBack rfl rfl ?_
  repeat (first | refine e2_step rfl rfl ?_ | refine e2c_get hi rfl rfl rfl rfl ?_ | refine e2c_lget rfl rfl ?_ | refine e2c_iald _ hi rfl rfl rfl rfl (by omega) ?_ | refine e2c_lald _ rfl rfl (by omega) ?_)
  refine e2c_fi (w_freeHoles hi hw) rfl rfl ⟨rfl, rfl, rfl⟩ rfl rfl rfl hi rfl rfl rfl rfl ?_
  unfold pbV
  refine e2_if rfl rfl (fun z => ?_) (fun z => ?_)
  · have z2 : freV V w ≤ 0 := z
    rw [if_pos z2]
    repeat (first | refine e2_step rfl rfl ?_ | refine e2c_get hi rfl rfl rfl rfl ?_ | refine e2c_lget rfl rfl ?_ | refine e2c_iald _ hi rfl rfl rfl rfl (by omega) ?_ | refine e2c_lald _ rfl rfl (by omega) ?_)
    refine e2c_fv (v_moveTo hi hN (okV_cnt hok hl) hl (nI 2) (-9) (hok l hl).2 (fun z => absurd z n21)) rfl rfl ⟨rfl, rfl, rfl⟩ rfl rfl rfl hi rfl rfl rfl rfl ?_
    exact e2_vret rfl rfl ⟨rfl, rfl⟩
  · have z2 : ¬ freV V w ≤ 0 := z
    rw [if_neg z2]
    repeat (first | refine e2_step rfl rfl ?_ | refine e2c_get hi rfl rfl rfl rfl ?_ | refine e2c_lget rfl rfl ?_ | refine e2c_iald _ hi rfl rfl rfl rfl (by omega) ?_ | refine e2c_lald _ rfl rfl (by omega) ?_)
    refine e2c_fv (v_moveTo hi hN (okV_cnt hok hl) hl (nI 1) (nI w) (hok l hl).2 (fun _ => ⟨w, hw, rfl⟩)) rfl rfl ⟨rfl, rfl, rfl⟩ rfl rfl rfl hi rfl rfl rfl rfl ?_
    repeat (first | refine e2_step rfl rfl ?_ | refine e2c_get hi rfl rfl rfl rfl ?_ | refine e2c_lget rfl rfl ?_ | refine e2c_iald _ hi rfl rfl rfl rfl (by omega) ?_ | refine e2c_lald _ rfl rfl (by omega) ?_)
    exact e2_vret rfl rfl ⟨rfl, rfl⟩
theorem k_roundsOn {c w : Nat} (hi : i < 19) (hc : c < 6) (hw : w < 8) : FC ε jX0_roundsOn [.inr (i, 12), .inl (nI c), .inl (nI w)] G i V s o (some (V 16 (c * 8 + w))) V s o := by
  refine C2.of (ls := [some (.inr (i, 12)), some (.inl (nI c)), some (.inl (nI w))]) okX0_roundsOn rfl rfl ?_
  repeat (first | refine e2_step rfl rfl ?_ | refine e2c_get hi rfl rfl rfl rfl ?_ | refine e2c_lget rfl rfl ?_ | refine e2c_iald _ hi rfl rfl rfl rfl (by omega) ?_ | refine e2c_lald _ rfl rfl (by omega) ?_)
  refine e2_fs (c_isCarrierT hc) rfl rfl ⟨rfl, rfl, rfl⟩ rfl rfl rfl ?_
  refine e2_if rfl rfl (fun z => absurd z (by decide)) (fun _ => ?_)
  repeat (first | refine e2_step rfl rfl ?_ | refine e2c_get hi rfl rfl rfl rfl ?_ | refine e2c_lget rfl rfl ?_ | refine e2c_iald _ hi rfl rfl rfl rfl (by omega) ?_ | refine e2c_lald _ rfl rfl (by omega) ?_)
  refine e2_fs (c_isWalkT hw) rfl rfl ⟨rfl, rfl, rfl⟩ rfl rfl rfl ?_
  refine e2_if rfl rfl (fun z => absurd z (by decide)) (fun _ => ?_)
  repeat (first | refine e2_step rfl rfl ?_ | refine e2c_get hi rfl rfl rfl rfl ?_ | refine e2c_lget rfl rfl ?_ | refine e2c_iald _ hi rfl rfl rfl rfl (by omega) ?_ | refine e2c_lald _ rfl rfl (by omega) ?_)
  refine e2c_iald (c * 8 + w) hi rfl rfl (by rw [pk_mul, nI_add']) rfl (by omega) ?_
  repeat (first | refine e2_step rfl rfl ?_ | refine e2c_get hi rfl rfl rfl rfl ?_ | refine e2c_lget rfl rfl ?_ | refine e2c_iald _ hi rfl rfl rfl rfl (by omega) ?_ | refine e2c_lald _ rfl rfl (by omega) ?_)
  exact e2_iret rfl rfl ⟨rfl, rfl⟩
theorem k_knows {c w : Nat} (hi : i < 19) (hc : c < 6) (hw : w < 8) : FC ε jX0_knows [.inr (i, 12), .inl (nI c), .inl (nI w)] G i V s o (some (bI (decide (¬ V 16 (c * 8 + w) < nI 2)))) V s o := by
  refine C2.of (ls := [some (.inr (i, 12)), some (.inl (nI c)), some (.inl (nI w))]) okX0_knows rfl rfl ?_
  repeat (first | refine e2_step rfl rfl ?_ | refine e2c_get hi rfl rfl rfl rfl ?_ | refine e2c_lget rfl rfl ?_ | refine e2c_iald _ hi rfl rfl rfl rfl (by omega) ?_ | refine e2c_lald _ rfl rfl (by omega) ?_)
  refine e2c_fi (k_roundsOn hi hc hw) rfl rfl ⟨rfl, rfl, rfl⟩ rfl rfl rfl hi rfl rfl rfl rfl ?_
  repeat (first | refine e2_step rfl rfl ?_ | refine e2c_get hi rfl rfl rfl rfl ?_ | refine e2c_lget rfl rfl ?_ | refine e2c_iald _ hi rfl rfl rfl rfl (by omega) ?_ | refine e2c_lald _ rfl rfl (by omega) ?_)
  refine e2_if rfl rfl (fun z => ?_) (fun z => ?_)
  · rw [decide_eq_false (fun h => h z)]
    repeat (first | refine e2_step rfl rfl ?_ | refine e2c_get hi rfl rfl rfl rfl ?_ | refine e2c_lget rfl rfl ?_ | refine e2c_iald _ hi rfl rfl rfl rfl (by omega) ?_ | refine e2c_lald _ rfl rfl (by omega) ?_)
    exact e2_zret rfl rfl rfl ⟨rfl, rfl⟩
  · rw [decide_eq_true z]
    repeat (first | refine e2_step rfl rfl ?_ | refine e2c_get hi rfl rfl rfl rfl ?_ | refine e2c_lget rfl rfl ?_ | refine e2c_iald _ hi rfl rfl rfl rfl (by omega) ?_ | refine e2c_lald _ rfl rfl (by omega) ?_)
    exact e2_zret rfl rfl rfl ⟨rfl, rfl⟩
def erV (V : VV) (c w m : Nat) : VV := wv (wv (wv V 14 c (nI 0)) 15 c (V 15 c + nI m)) 16 (c * 8 + w) (V 16 (c * 8 + w) + nI 1)
theorem k_endRound {c w m : Nat} (hi : i < 19) (hc : c < 6) (hw : w < 8) (h13 : V 13 c = nI w) : FC ε jX0_endRound [.inr (i, 12), .inl (nI c), .inl (nI m)] G i V s o none (erV V c w m) s o := by
  refine C2.of (ls := [some (.inr (i, 12)), some (.inl (nI c)), some (.inl (nI m))]) okX0_endRound rfl rfl ?_
  repeat (first | refine e2_step rfl rfl ?_ | refine e2c_get hi rfl rfl rfl rfl ?_ | refine e2c_lget rfl rfl ?_ | refine e2c_iald _ hi rfl rfl rfl rfl (by omega) ?_ | refine e2c_lald _ rfl rfl (by omega) ?_)
  refine e2_fs (c_isCarrierT hc) rfl rfl ⟨rfl, rfl, rfl⟩ rfl rfl rfl ?_
  refine e2_if rfl rfl (fun z => absurd z (by decide)) (fun _ => ?_)
  repeat (first | refine e2_step rfl rfl ?_ | refine e2c_get hi rfl rfl rfl rfl ?_ | refine e2c_lget rfl rfl ?_ | refine e2c_iald _ hi rfl rfl rfl rfl (by omega) ?_ | refine e2c_lald _ rfl rfl (by omega) ?_)
  rw [h13]
  refine e2_fs (c_isWalkT hw) rfl rfl ⟨rfl, rfl, rfl⟩ rfl rfl rfl ?_
  refine e2_if rfl rfl (fun z => absurd z (by decide)) (fun _ => ?_)
  repeat (first | refine e2_step rfl rfl ?_ | refine e2c_get hi rfl rfl rfl rfl ?_ | refine e2c_lget rfl rfl ?_ | refine e2c_iald _ hi rfl rfl rfl rfl (by omega) ?_ | refine e2c_lald _ rfl rfl (by omega) ?_)
  refine e2c_zast c hi rfl rfl rfl rfl hc (Or.inl rfl) ?_
  repeat (first | refine e2_step rfl rfl ?_ | refine e2c_get hi rfl rfl rfl rfl ?_ | refine e2c_lget rfl rfl ?_ | refine e2c_iald _ hi rfl rfl rfl rfl (by omega) ?_ | refine e2c_lald _ rfl rfl (by omega) ?_)
  refine e2c_iast c hi rfl rfl rfl rfl hc ?_
  repeat (first | refine e2_step rfl rfl ?_ | refine e2c_get hi rfl rfl rfl rfl ?_ | refine e2c_lget rfl rfl ?_ | refine e2c_iald _ hi rfl rfl rfl rfl (by omega) ?_ | refine e2c_lald _ rfl rfl (by omega) ?_)
  have h13' : ∀ x y, wv (wv V 14 c x) 15 c y 13 c = nI w := fun x y => h13
  refine e2c_iald (c * 8 + w) hi rfl rfl (by rw [h13', pk_mul, nI_add']) rfl (by omega) ?_
  repeat (first | refine e2_step rfl rfl ?_ | refine e2c_get hi rfl rfl rfl rfl ?_ | refine e2c_lget rfl rfl ?_ | refine e2c_iald _ hi rfl rfl rfl rfl (by omega) ?_ | refine e2c_lald _ rfl rfl (by omega) ?_)
  refine e2c_iast (c * 8 + w) hi rfl rfl (by rw [h13', pk_mul, nI_add']) rfl (by omega) ?_
  exact e2_vret rfl rfl ⟨rfl, rfl⟩
def blnV (V : VV) (w : Nat) (R : List Nat) : Nat := cntB (fun k => decide (wkV V (revD R k) = w)) R.length
theorem w_countBelonging {N w : Nat} {R : List Nat} (hi : i < 19) (hN : N ≤ 120) (hok : okV V N) (hw : w < 8) (hRl : R.length ≤ 120) (hRlt : ∀ a, a ∈ R → a < N) : FC ε jX5_countBelonging [.inr (i, 0), .inr (0, 40), .inl (nI w)] G i V (nI R.length) (ordA R o) (some (nI (blnV V w R))) V (nI R.length) (ordA R o) := by
  refine C2.of (ls := [some (.inr (i, 0)), some (.inr (0, 40)), some (.inl (nI w)), none, none]) okX5_countBelonging rfl rfl ?_
  repeat (first | refine e2_stepS 5 rfl rfl rfl ?_ | refine e2c_getS 5 rfl hi rfl rfl rfl rfl ?_ | refine e2c_lgetS 5 rfl rfl rfl ?_ | refine e2c_ialdS 5 rfl _ hi rfl rfl rfl rfl (by omega) ?_)
  refine e2_for R.length (fun k => [some (.inr (i, 0)), some (.inr (0, 40)), some (.inl (nI w)), some (.inl (nI (cntB (fun k => decide (wkV V (revD R k) = w)) k))), some (.inl (nI k))]) (fun k => cG G i V (nI R.length) (ordA R o)) (fun k hk K => ?_) (fun M hM => ?_)
  · repeat (first | refine e2_step rfl rfl ?_ | refine e2c_get hi rfl rfl rfl rfl ?_ | refine e2c_lget rfl rfl ?_ | refine e2c_iald _ hi rfl rfl rfl rfl (by omega) ?_ | refine e2c_lald _ rfl rfl (by omega) ?_)
    refine e2_if rfl rfl (fun z => absurd z (nI_ge hk (by omega))) (fun _ => ?_)
    repeat (first | refine e2_step rfl rfl ?_ | refine e2c_get hi rfl rfl rfl rfl ?_ | refine e2c_lget rfl rfl ?_ | refine e2c_iald _ hi rfl rfl rfl rfl (by omega) ?_ | refine e2c_lald _ rfl rfl (by omega) ?_)
    refine e2c_lfi (l_letterAt (n := R.length) (j := k) (by omega) (by omega)) rfl rfl ⟨rfl, rfl, rfl⟩ rfl rfl rfl rfl ?_
    rw [if_neg (by omega), ordA_at hk]
    have hlk := hRlt _ (revD_mem R k hk)
    have hw9 := (wkV_of hok hlk).choose_spec.2.2.2
    refine e2c_fi (w_walkOf hi hN hok hlk) rfl rfl ⟨rfl, rfl, rfl⟩ rfl rfl rfl hi rfl rfl rfl rfl ?_
    repeat (first | refine e2_step rfl rfl ?_ | refine e2c_get hi rfl rfl rfl rfl ?_ | refine e2c_lget rfl rfl ?_ | refine e2c_iald _ hi rfl rfl rfl rfl (by omega) ?_ | refine e2c_lald _ rfl rfl (by omega) ?_)
    simp only [cntB] at K
    refine e2_if rfl rfl (fun z => ?_) (fun z => ?_)
    · rw [nI_eq (by omega) (by omega)] at z
      simp only [z, decide_false, Bool.false_eq_true, if_false] at K
      repeat (first | refine e2_stepS 5 rfl rfl rfl ?_ | refine e2c_getS 5 rfl hi rfl rfl rfl rfl ?_ | refine e2c_lgetS 5 rfl rfl rfl ?_ | refine e2c_ialdS 5 rfl _ hi rfl rfl rfl rfl (by omega) ?_)
      rw [nI_add']
      exact K
    · rw [nI_eq (by omega) (by omega), Classical.not_not] at z
      simp only [z, decide_true, if_true] at K
      repeat (first | refine e2_stepS 5 rfl rfl rfl ?_ | refine e2c_getS 5 rfl hi rfl rfl rfl rfl ?_ | refine e2c_lgetS 5 rfl rfl rfl ?_ | refine e2c_ialdS 5 rfl _ hi rfl rfl rfl rfl (by omega) ?_)
      rw [nI_add', nI_add']
      exact K
  · repeat (first | refine e2_step rfl rfl ?_ | refine e2c_get hi rfl rfl rfl rfl ?_ | refine e2c_lget rfl rfl ?_ | refine e2c_iald _ hi rfl rfl rfl rfl (by omega) ?_ | refine e2c_lald _ rfl rfl (by omega) ?_)
    refine e2_if rfl rfl (fun _ => ?_) (fun z => absurd (by rw [hM]; exact Int32.le_refl _) z)
    repeat (first | refine e2_step rfl rfl ?_ | refine e2c_get hi rfl rfl rfl rfl ?_ | refine e2c_lget rfl rfl ?_ | refine e2c_iald _ hi rfl rfl rfl rfl (by omega) ?_ | refine e2c_lald _ rfl rfl (by omega) ?_)
    exact e2_iret rfl rfl ⟨by rw [hM]; rfl, rfl⟩
/-- a round's end, letter by letter: the office, and how many may still be delivered -/
def brSt (w l : Nat) (q : VV × Nat) : VV × Nat :=
  if wkV q.1 l = w then (if 0 < q.2 then (finV q.1 l (nI 4) (q.1 0 4), q.2 - 1) else (pbV q.1 l w, q.2)) else (misV q.1 l, q.2)
def brL (V : VV) (w : Nat) (R : List Nat) (can : Nat) : Nat → VV × Nat
  | 0 => (V, can)
  | k + 1 => brSt w (revD R k) (brL V w R can k)
theorem finV_o {l kk : Nat} {p h : Int32} (h7 : kk ≠ 7) (h8 : kk ≠ 8) (h10 : kk ≠ 10) (h11 : kk ≠ 11) : finV V l p h kk = V kk := by
  unfold finV wv sv
  rw [if_neg h10, moveV_o h7 h8 h11]
theorem finV_ok {N l : Nat} {p h : Int32} (hok : okV V N) (hp : ¬ p = nI 1) : okV (finV V l p h) N := okV_move hok (fun z => absurd z hp)
theorem brSt_o {w l kk : Nat} {q : VV × Nat} (h6 : kk ≠ 6) (h7 : kk ≠ 7) (h8 : kk ≠ 8) (h10 : kk ≠ 10) (h11 : kk ≠ 11) : (brSt w l q).1 kk = q.1 kk := by
  unfold brSt
  split
  · split
    · exact finV_o h7 h8 h10 h11
    · dsimp only
      unfold pbV
      split
      · exact moveV_o h7 h8 h11
      · exact moveV_o h7 h8 h11
  · dsimp only
    unfold misV
    split
    · rw [moveV_o h7 h8 h11]
      unfold wv sv
      rw [if_neg h6]
    · rw [finV_o h7 h8 h10 h11]
      unfold wv sv
      rw [if_neg h6]
theorem brL_o {w can kk : Nat} {R : List Nat} (h6 : kk ≠ 6) (h7 : kk ≠ 7) (h8 : kk ≠ 8) (h10 : kk ≠ 10) (h11 : kk ≠ 11) : ∀ k, (brL V w R can k).1 kk = V kk
  | 0 => rfl
  | k + 1 => by
    unfold brL
    rw [brSt_o h6 h7 h8 h10 h11, brL_o h6 h7 h8 h10 h11 k]
theorem brSt_ok {N w l : Nat} {q : VV × Nat} (hw : w < 8) (hok : okV q.1 N) : okV (brSt w l q).1 N := by
  unfold brSt
  split
  · split
    · exact finV_ok hok n41
    · dsimp only
      unfold pbV
      split
      · exact okV_move hok (fun z => absurd z n21)
      · exact okV_move hok (fun _ => ⟨w, hw, rfl⟩)
  · dsimp only
    have hok2 : okV (wv q.1 6 l (q.1 6 l + nI 1)) N := hok
    unfold misV
    split
    · exact okV_move hok2 (fun z => absurd z n01)
    · exact finV_ok hok2 n51
theorem brL_ok {N w can : Nat} {R : List Nat} (hw : w < 8) (hok : okV V N) : ∀ k, okV (brL V w R can k).1 N
  | 0 => hok
  | k + 1 => brSt_ok hw (brL_ok hw hok k)
theorem brL_2 (V : VV) (w can : Nat) (R : List Nat) : ∀ k, (brL V w R can k).2 ≤ can
  | 0 => Nat.le_refl _
  | k + 1 => by
    have h := brL_2 V w can R k
    show (brSt w (revD R k) (brL V w R can k)).2 ≤ can
    unfold brSt
    split
    · split
      · dsimp only; omega
      · exact h
    · exact h
def cannV (V : VV) (c w : Nat) (R : List Nat) : Nat := if V 16 (c * 8 + w) < nI 2 then (blnV V w R + 1) / 2 else blnV V w R
def brgV (V : VV) (N c w : Nat) : VV := erV (brL V w (atVR V N (nI 3) (nI c)) (cannV V c w (atVR V N (nI 3) (nI c))) (atVR V N (nI 3) (nI c)).length).1 c w (cannV V c w (atVR V N (nI 3) (nI c)))
def brgn (V : VV) (N c w : Nat) : Nat := cannV V c w (atVR V N (nI 3) (nI c))
set_option maxHeartbeats 2000000 in
theorem w_bringBack {N c w : Nat} (hi : i < 19) (hN : N ≤ 120) (hcn : V 3 8 = nI N) (hok : okV V N) (hc : c < 6) (hw : w < 8) (h13 : V 13 c = nI w) : FC ε jX5_bringBack [.inr (i, 0), .inl (nI c), .inr (0, 40)] G i V s o (some (nI (brgn V N c w))) (brgV V N c w) (nI (atVR V N (nI 3) (nI c)).length) (ordA (atVR V N (nI 3) (nI c)) o) := by
  have hlay := fun (G : GG) => v_listByCode (ε := ε) (G := G) (s := s) (o := o) hi hN hcn (nI 3) (nI c)
  change ∀ (G : GG), FC ε jX2_listByCode [.inr (i, 3), .inl (nI 3), .inl (nI c), .inr (0, 40)] G i V s o none V (nI (atVR V N (nI 3) (nI c)).length) (ordA (atVR V N (nI 3) (nI c)) o) at hlay
  have hRl : (atVR V N (nI 3) (nI c)).length ≤ N := atVR_len
  have hRlt : ∀ a, a ∈ atVR V N (nI 3) (nI c) → a < N := atVR_lt
  unfold brgV brgn
  generalize hR : atVR V N (nI 3) (nI c) = R at hRl hRlt hlay ⊢
  refine C2.of (ls := [some (.inr (i, 0)), some (.inl (nI c)), some (.inr (0, 40)), none, none, none, none, none]) okX5_bringBack rfl rfl ?_
  repeat (first | refine e2_step rfl rfl ?_ | refine e2c_get hi rfl rfl rfl rfl ?_ | refine e2c_lget rfl rfl ?_ | refine e2c_iald _ hi rfl rfl rfl rfl (by omega) ?_ | refine e2c_lald _ rfl rfl (by omega) ?_)
  rw [h13]
  repeat (first | refine e2_step rfl rfl ?_ | refine e2c_get hi rfl rfl rfl rfl ?_ | refine e2c_lget rfl rfl ?_ | refine e2c_iald _ hi rfl rfl rfl rfl (by omega) ?_ | refine e2c_lald _ rfl rfl (by omega) ?_)
  refine e2c_fv (hlay G) rfl rfl ⟨rfl, rfl, rfl⟩ rfl rfl rfl hi rfl rfl rfl rfl ?_
  repeat (first | refine e2_step rfl rfl ?_ | refine e2c_get hi rfl rfl rfl rfl ?_ | refine e2c_lget rfl rfl ?_ | refine e2c_iald _ hi rfl rfl rfl rfl (by omega) ?_ | refine e2c_lald _ rfl rfl (by omega) ?_)
  refine e2c_fi (w_countBelonging hi hN hok hw (by omega) hRlt) rfl rfl ⟨rfl, rfl, rfl⟩ rfl rfl rfl hi rfl rfl rfl rfl ?_
  repeat (first | refine e2_step rfl rfl ?_ | refine e2c_get hi rfl rfl rfl rfl ?_ | refine e2c_lget rfl rfl ?_ | refine e2c_iald _ hi rfl rfl rfl rfl (by omega) ?_ | refine e2c_lald _ rfl rfl (by omega) ?_)
  refine e2c_fi (k_knows hi hc hw) rfl rfl ⟨rfl, rfl, rfl⟩ rfl rfl rfl hi rfl rfl rfl rfl ?_
  have hbl : blnV V w R ≤ 120 := Nat.le_trans (cntB_le _ _) (by omega)
  have hcan2 : cannV V c w R ≤ 120 := by unfold cannV; split <;> omega
  have hgo : E2 ε jX5_bringBack 48 [some (.inr (i, 0)), some (.inl (nI c)), some (.inr (0, 40)), some (.inl (nI w)), some (.inl (nI (cannV V c w R))), none, none, none] [] (cG G i V (nI R.length) (ordA R o)) (fun v' G' => v' = some (nI (cannV V c w R)) ∧ G' = cG G i (erV (brL V w R (cannV V c w R) R.length).1 c w (cannV V c w R)) (nI R.length) (ordA R o)) := by
    generalize hcan : cannV V c w R = can at hcan2 ⊢
    repeat (first | refine e2_stepS 55 rfl rfl rfl ?_ | refine e2c_getS 55 rfl hi rfl rfl rfl rfl ?_ | refine e2c_lgetS 55 rfl rfl rfl ?_ | refine e2c_ialdS 55 rfl _ hi rfl rfl rfl rfl (by omega) ?_)
    refine e2_for R.length (fun k => [some (.inr (i, 0)), some (.inl (nI c)), some (.inr (0, 40)), some (.inl (nI w)), some (.inl (nI can)), some (.inl (nI (brL V w R can k).2)), some (.inl (nI k)), none]) (fun k => cG G i (brL V w R can k).1 (nI R.length) (ordA R o)) (fun k hk K => ?_) (fun M hM => ?_)
    · have hok2 := brL_ok (w := w) (can := can) (R := R) hw hok k
      have h2 := brL_2 V w can R k
      have hlk := hRlt _ (revD_mem R k hk)
      simp only [brL, brSt] at K
      generalize hq : brL V w R can k = q at K hok2 h2 ⊢
      obtain ⟨Vk, d⟩ := q
      dsimp only at K hok2 h2 ⊢
      have hw9 := (wkV_of hok2 hlk).choose_spec.2.2.2
      repeat (first | refine e2_step rfl rfl ?_ | refine e2c_get hi rfl rfl rfl rfl ?_ | refine e2c_lget rfl rfl ?_ | refine e2c_iald _ hi rfl rfl rfl rfl (by omega) ?_ | refine e2c_lald _ rfl rfl (by omega) ?_)
      refine e2_if rfl rfl (fun z => absurd z (nI_ge hk (by omega))) (fun _ => ?_)
      repeat (first | refine e2_step rfl rfl ?_ | refine e2c_get hi rfl rfl rfl rfl ?_ | refine e2c_lget rfl rfl ?_ | refine e2c_iald _ hi rfl rfl rfl rfl (by omega) ?_ | refine e2c_lald _ rfl rfl (by omega) ?_)
      refine e2c_lfi (l_letterAt (n := R.length) (j := k) (by omega) (by omega)) rfl rfl ⟨rfl, rfl, rfl⟩ rfl rfl rfl rfl ?_
      rw [if_neg (by omega), ordA_at hk]
      repeat (first | refine e2_step rfl rfl ?_ | refine e2c_get hi rfl rfl rfl rfl ?_ | refine e2c_lget rfl rfl ?_ | refine e2c_iald _ hi rfl rfl rfl rfl (by omega) ?_ | refine e2c_lald _ rfl rfl (by omega) ?_)
      refine e2c_fi (w_walkOf hi hN hok2 hlk) rfl rfl ⟨rfl, rfl, rfl⟩ rfl rfl rfl hi rfl rfl rfl rfl ?_
      repeat (first | refine e2_step rfl rfl ?_ | refine e2c_get hi rfl rfl rfl rfl ?_ | refine e2c_lget rfl rfl ?_ | refine e2c_iald _ hi rfl rfl rfl rfl (by omega) ?_ | refine e2c_lald _ rfl rfl (by omega) ?_)
      refine e2_if rfl rfl (fun z => ?_) (fun z => ?_)
      · rw [nI_eq (by omega) (by omega)] at z
        rw [if_pos z] at K
        repeat (first | refine e2_step rfl rfl ?_ | refine e2c_get hi rfl rfl rfl rfl ?_ | refine e2c_lget rfl rfl ?_ | refine e2c_iald _ hi rfl rfl rfl rfl (by omega) ?_ | refine e2c_lald _ rfl rfl (by omega) ?_)
        refine e2_if rfl rfl (fun z2 => ?_) (fun z2 => ?_)
        · have z3 : nI d ≤ nI 0 := z2
          rw [nI_leI (by omega) (by omega)] at z3
          rw [if_neg (by omega)] at K
          dsimp only at K
          repeat (first | refine e2_step rfl rfl ?_ | refine e2c_get hi rfl rfl rfl rfl ?_ | refine e2c_lget rfl rfl ?_ | refine e2c_iald _ hi rfl rfl rfl rfl (by omega) ?_ | refine e2c_lald _ rfl rfl (by omega) ?_)
          refine e2c_fv (w_putBack hi hN hok2 hlk hw) rfl rfl ⟨rfl, rfl, rfl⟩ rfl rfl rfl hi rfl rfl rfl rfl ?_
          repeat (first | refine e2_stepS 55 rfl rfl rfl ?_ | refine e2c_getS 55 rfl hi rfl rfl rfl rfl ?_ | refine e2c_lgetS 55 rfl rfl rfl ?_ | refine e2c_ialdS 55 rfl _ hi rfl rfl rfl rfl (by omega) ?_)
          rw [nI_add']
          exact e2_dropK K ⟨rfl, rfl, rfl, rfl, rfl, rfl, rfl, trivial⟩
        · have z3 : ¬ nI d ≤ nI 0 := z2
          rw [nI_leI (by omega) (by omega)] at z3
          rw [if_pos (by omega)] at K
          dsimp only at K
          repeat (first | refine e2_step rfl rfl ?_ | refine e2c_get hi rfl rfl rfl rfl ?_ | refine e2c_lget rfl rfl ?_ | refine e2c_iald _ hi rfl rfl rfl rfl (by omega) ?_ | refine e2c_lald _ rfl rfl (by omega) ?_)
          refine e2c_fv (v_finish hi hN (okV_cnt hok2 hlk) hlk (nI 4) (Vk 0 4) (hok2 _ hlk).2 n41) rfl rfl ⟨rfl, rfl, rfl⟩ rfl rfl rfl hi rfl rfl rfl rfl ?_
          obtain ⟨d', rfl⟩ : ∃ d', d = d' + 1 := ⟨d - 1, by omega⟩
          rw [Nat.add_sub_cancel] at K
          repeat (first | refine e2_stepS 55 rfl rfl rfl ?_ | refine e2c_getS 55 rfl hi rfl rfl rfl rfl ?_ | refine e2c_lgetS 55 rfl rfl rfl ?_ | refine e2c_ialdS 55 rfl _ hi rfl rfl rfl rfl (by omega) ?_)
          rw [pk_m1, nI_add']
          exact e2_dropK K ⟨rfl, rfl, rfl, rfl, rfl, rfl, rfl, trivial⟩
      · rw [nI_eq (by omega) (by omega)] at z
        rw [if_neg z] at K
        repeat (first | refine e2_step rfl rfl ?_ | refine e2c_get hi rfl rfl rfl rfl ?_ | refine e2c_lget rfl rfl ?_ | refine e2c_iald _ hi rfl rfl rfl rfl (by omega) ?_ | refine e2c_lald _ rfl rfl (by omega) ?_)
        refine e2c_fv (v_misroute hi hN hok2 hlk) rfl rfl ⟨rfl, rfl, rfl⟩ rfl rfl rfl hi rfl rfl rfl rfl ?_
        repeat (first | refine e2_stepS 55 rfl rfl rfl ?_ | refine e2c_getS 55 rfl hi rfl rfl rfl rfl ?_ | refine e2c_lgetS 55 rfl rfl rfl ?_ | refine e2c_ialdS 55 rfl _ hi rfl rfl rfl rfl (by omega) ?_)
        rw [nI_add']
        exact e2_dropK K ⟨rfl, rfl, rfl, rfl, rfl, rfl, rfl, trivial⟩
    · subst hM
      have h13' : (brL V w R can R.length).1 13 c = nI w := by rw [brL_o (by decide) (by decide) (by decide) (by decide) (by decide)]; exact h13
      repeat (first | refine e2_step rfl rfl ?_ | refine e2c_get hi rfl rfl rfl rfl ?_ | refine e2c_lget rfl rfl ?_ | refine e2c_iald _ hi rfl rfl rfl rfl (by omega) ?_ | refine e2c_lald _ rfl rfl (by omega) ?_)
      refine e2_if rfl rfl (fun _ => ?_) (fun z => absurd (Int32.le_refl _) z)
      repeat (first | refine e2_step rfl rfl ?_ | refine e2c_get hi rfl rfl rfl rfl ?_ | refine e2c_lget rfl rfl ?_ | refine e2c_iald _ hi rfl rfl rfl rfl (by omega) ?_ | refine e2c_lald _ rfl rfl (by omega) ?_)
      refine e2c_fv (k_endRound (m := can) hi hc hw h13') rfl rfl ⟨rfl, rfl, rfl⟩ rfl rfl rfl hi rfl rfl rfl rfl ?_
      repeat (first | refine e2_step rfl rfl ?_ | refine e2c_get hi rfl rfl rfl rfl ?_ | refine e2c_lget rfl rfl ?_ | refine e2c_iald _ hi rfl rfl rfl rfl (by omega) ?_ | refine e2c_lald _ rfl rfl (by omega) ?_)
      exact e2_iret rfl rfl ⟨rfl, rfl⟩
  refine e2_if rfl rfl (fun z => ?_) (fun z => ?_)
  · rw [bI_0, decide_eq_false_iff_not, Classical.not_not] at z
    have e : cannV V c w R = blnV V w R := by unfold cannV; rw [if_neg z]
    rw [e] at hgo ⊢
    exact e2_dropK hgo ⟨rfl, rfl, rfl, rfl, rfl, trivial⟩
  · rw [bI_0, decide_eq_false_iff_not, Classical.not_not, Classical.not_not] at z
    have e : cannV V c w R = (blnV V w R + 1) / 2 := by unfold cannV; rw [if_pos z]
    repeat (first | refine e2_step rfl rfl ?_ | refine e2c_get hi rfl rfl rfl rfl ?_ | refine e2c_lget rfl rfl ?_ | refine e2c_iald _ hi rfl rfl rfl rfl (by omega) ?_ | refine e2c_lald _ rfl rfl (by omega) ?_)
    rw [nI_add']
    refine e2_div rfl (by decide) ?_
    rw [pk_div (by omega) (by decide) (by decide)]
    rw [e] at hgo ⊢
    repeat (first | refine e2_stepS 48 rfl rfl rfl ?_ | refine e2c_getS 48 rfl hi rfl rfl rfl rfl ?_ | refine e2c_lgetS 48 rfl rfl rfl ?_ | refine e2c_ialdS 48 rfl _ hi rfl rfl rfl rfl (by omega) ?_)
    exact e2_dropK hgo ⟨rfl, rfl, rfl, rfl, rfl, trivial⟩
end NE
end
section
/-! An office V of the class against a row r of the reference. -/
section NF
variable {V V' : VV} {r r' : Nat → Int32} {N l : Nat}
/-- carriers -/
def RK (V : VV) (r : Nat → Int32) : Prop :=
  (∀ c, c < 6 → V 14 c = r (1011 + c) ∧ (r (1011 + c) = nI 0 ∨ r (1011 + c) = nI 1) ∧ V 15 c = r (1017 + c) ∧ (V 13 c = -9 ∨ ∃ w, w < 8 ∧ V 13 c = nI w) ∧ (r (1011 + c) = nI 1 → ¬ V 13 c = -9)) ∧
  (∀ w, w < 8 → r (955 + w) = -9 ∨ ∃ c, c < 6 ∧ r (955 + w) = nI c) ∧
  (∀ c w, c < 6 → w < 8 → (V 13 c = nI w ↔ r (955 + w) = nI c)) ∧
  (∀ k, k < 48 → V 16 k = r (963 + k)) ∧ r 954 = sumI (V 16) 48
/-- all but letters' places, frames' counts and misroutes -/
def RX (V : VV) (r : Nat → Int32) (N : Nat) : Prop :=
  N ≤ 120 ∧ V 3 8 = nI N ∧ r 100 = nI N ∧
  (∀ c, c < 100 → V 2 c = r c ∧ ∃ w, w < 8 ∧ r c = nI w) ∧
  (∀ w, w < 8 → V 17 w = r (941 + w)) ∧
  (V 0 4 = r 952 ∧ V 0 5 = r 949 ∧ V 0 6 = r 950 ∧ V 0 7 = r 951) ∧
  ((∃ s, s ≤ 40 ∧ r 950 = nI s) ∧ ∃ s, s ≤ 30 ∧ r 951 = nI s) ∧ RK V r
/-- a letter -/
def LO (V : VV) (r : Nat → Int32) (l : Nat) : Prop :=
  (V 4 l = ofr r l 0 ∧ ∃ c, c < 100 ∧ ofr r l 0 = nI c) ∧ (V 5 l = ofr r l 1 ∧ (ofr r l 1 = nI 0 ∨ ofr r l 1 = nI 1)) ∧
  (V 6 l = ofr r l 2 ∧ ∃ m, m ≤ 3 ∧ ofr r l 2 = nI m ∧ (¬ ofr r l 3 = nI 5 → m ≤ 2)) ∧
  (V 7 l = ofr r l 3 ∧ ∃ p, p ≤ 5 ∧ ofr r l 3 = nI p) ∧ (V 9 l = ofr r l 5 ∧ V 10 l = ofr r l 6) ∧
  (ofr r l 3 = nI 1 → V 8 l = ofr r l 4 ∧ ∃ w, w < 8 ∧ ofr r l 4 = nI w) ∧ (ofr r l 3 = nI 3 → V 8 l = ofr r l 4 ∧ ∃ c, c < 6 ∧ ofr r l 4 = nI c)
def RF (V : VV) (r : Nat → Int32) (N : Nat) : Prop := ∀ w, w < 8 → V 11 w = nI (cntB (atr r (nI 1) (nI w)) N)
def RO (V : VV) (r : Nat → Int32) (N : Nat) : Prop := RX V r N ∧ (∀ l, l < N → LO V r l) ∧ RF V r N ∧ r 953 = sumI (V 6) N
theorem sumI_congr {f g : Nat → Int32} : ∀ n, (∀ j, j < n → f j = g j) → sumI f n = sumI g n
  | 0, _ => rfl
  | n + 1, h => by
    unfold sumI
    rw [sumI_congr n (fun j hj => h j (by omega)), h n (by omega)]
theorem cntB_congr {p q : Nat → Bool} : ∀ n, (∀ j, j < n → p j = q j) → cntB p n = cntB q n
  | 0, _ => rfl
  | n + 1, h => by
    unfold cntB
    rw [cntB_congr n (fun j hj => h j (by omega)), h n (by omega)]
/-- the count without l -/
theorem cntB_one (p : Nat → Bool) {l : Nat} : ∀ n, l < n → cntB p n = cntB (fun j => p j && decide (¬ j = l)) n + (if p l then 1 else 0)
  | 0, h => by omega
  | n + 1, h => by
    unfold cntB
    by_cases hl : l = n
    · subst hl
      have : cntB (fun j => p j && decide (¬ j = l)) l = cntB p l := cntB_congr l (fun j hj => by
        show (p j && decide (¬ j = l)) = p j
        rw [decide_eq_true (by omega), Bool.and_true])
      rw [this]
      simp
    · rw [cntB_one (l := l) p n (by omega)]
      have hd : decide (¬ n = l) = true := decide_eq_true (p := ¬ n = l) (fun z => hl z.symm)
      rw [hd, Bool.and_true]
      omega
theorem RX_congr (hV : ∀ kk, kk < 4 ∨ 12 ≤ kk → V' kk = V kk) (hr : ∀ j, j < 101 ∨ (941 ≤ j ∧ j ≠ 953) → r' j = r j) (h : RX V r N) : RX V' r' N := by
  obtain ⟨h1, h2, h3, h4, h5, h6, h7, h8, h9, h10, h11, h12⟩ := h
  refine ⟨h1, by rw [hV 3 (by omega)]; exact h2, by rw [hr 100 (by omega)]; exact h3, fun c hc => ?_, fun w hw => ?_, ?_, ?_, fun c hc => ?_, fun w hw => ?_, fun c w hc hw => ?_, fun k hk => ?_, ?_⟩
  · rw [hV 2 (by omega), hr c (by omega)]; exact h4 c hc
  · rw [hV 17 (by omega), hr _ (by omega)]; exact h5 w hw
  · rw [hV 0 (by omega), hr 952 (by omega), hr 949 (by omega), hr 950 (by omega), hr 951 (by omega)]; exact h6
  · rw [hr 950 (by omega), hr 951 (by omega)]; exact h7
  · rw [hV 14 (by omega), hV 15 (by omega), hV 13 (by omega), hr (1011 + c) (by omega), hr (1017 + c) (by omega)]; exact h8 c hc
  · rw [hr _ (by omega)]; exact h9 w hw
  · rw [hV 13 (by omega), hr _ (by omega)]; exact h10 c w hc hw
  · rw [hV 16 (by omega), hr _ (by omega)]; exact h11 k hk
  · rw [hr 954 (by omega), hV 16 (by omega)]; exact h12
theorem RO.okV (h : RO V r N) : okV V N := fun l hl => by
  obtain ⟨⟨-, hcnt, -, hc, -⟩, hL, -, -⟩ := h
  obtain ⟨⟨a1, c, a2, a3⟩, ⟨g1, g2⟩, -, ⟨d1, -⟩, -, e1, -⟩ := hL l hl
  obtain ⟨b1, w, b2, b3⟩ := hc c a2
  refine ⟨⟨c, w, a2, b2, a1.trans a3, b1.trans b3, by rw [g1]; exact g2, hcnt⟩, fun z => ?_⟩
  obtain ⟨f1, w2, f2, f3⟩ := e1 (d1 ▸ z)
  exact ⟨w2, f2, f1.trans f3⟩
theorem RO.okr (h : RO V r N) : okr r N := fun l hl => by
  obtain ⟨⟨-, -, -, hc, -⟩, hL, -, -⟩ := h
  obtain ⟨⟨a1, c, a2, a3⟩, -⟩ := hL l hl
  obtain ⟨b1, w, b2, b3⟩ := hc c a2
  exact ⟨c, w, a2, b2, a3, b3⟩
theorem RO.wk (h : RO V r N) (hl : l < N) : wkV V l = wkr r l := by
  obtain ⟨⟨-, -, -, hc, -⟩, hL, -, -⟩ := h
  obtain ⟨⟨a1, c, a2, a3⟩, -⟩ := hL l hl
  unfold wkV wkr
  rw [a1, a3, nI_clamp (by omega), (hc c a2).1]
theorem RO.at {p : Nat} (h : RO V r N) (hl : l < N) (hp : p = 1 ∨ p = 3) (k : Int32) : atV V (nI p) k l = atr r (nI p) k l := by
  obtain ⟨-, hL, -, -⟩ := h
  obtain ⟨-, -, -, ⟨d1, -⟩, -, e1, e3⟩ := hL l hl
  unfold atV atr
  rw [d1]
  by_cases hz : ofr r l 3 = nI p
  · have : V 8 l = ofr r l 4 := by
      rcases hp with rfl | rfl
      · exact (e1 hz).1
      · exact (e3 hz).1
    rw [this]
  · rw [decide_eq_false hz, Bool.false_and, Bool.false_and]
/-- a letter is moved on both sides -/
theorem RO.move {q : Nat} {k k' : Int32} (h : RO V r N) (hl : l < N) (hq : q ≤ 5) (h1 : q = 1 → k = k' ∧ ∃ w, w < 8 ∧ k = nI w) (h3 : q = 3 → k = k' ∧ ∃ c, c < 6 ∧ k = nI c) (h5 : q ≠ 5 → ∃ m, m ≤ 2 ∧ ofr r l 2 = nI m) : RO (moveV V l (nI q) k) (putsr r l (nI q) k') N := by
  have hok := h.okV
  obtain ⟨hX, hL, hF, hS⟩ := h
  have hN2 : N ≤ 120 := hX.1
  have hs := same34.puts (r := r) (l := l) (by omega) (nI q) k'
  have eq1 : ∀ a b : Nat, a ≤ 5 → b ≤ 5 → (nI a = nI b ↔ a = b) := fun a b ha hb => nI_eq (by omega) (by omega)
  refine ⟨RX_congr (fun kk hk => moveV_o (by omega) (by omega) (by omega)) (fun j hj => hs.1 j (by omega)) hX, fun m hm => ?_, fun w hw => ?_, ?_⟩
  · obtain ⟨a, b, ⟨c1, m0, c2, c3, c4⟩, ⟨d1, p0, d2, d3⟩, e, f1, f3⟩ := hL m hm
    unfold LO
    rw [moveV_o (kk := 4) (by decide) (by decide) (by decide), moveV_o (kk := 5) (by decide) (by decide) (by decide), moveV_o (kk := 6) (by decide) (by decide) (by decide), moveV_o (kk := 9) (by decide) (by decide) (by decide), moveV_o (kk := 10) (by decide) (by decide) (by decide), moveV_7, moveV_8, putsr_of (k := 0) (by omega), putsr_of (k := 1) (by omega), putsr_of (k := 2) (by omega), putsr_of (k := 5) (by omega), putsr_of (k := 6) (by omega), putsr_3, putsr_4]
    by_cases hml : m = l
    · subst hml
      simp only [if_true]
      refine ⟨a, b, ⟨c1, m0, c2, c3, fun z => ?_⟩, ⟨trivial, q, hq, rfl⟩, e, fun z => ?_, fun z => ?_⟩
      · have hq5 : q ≠ 5 := fun y => z (by rw [y])
        obtain ⟨m2, e1, e2⟩ := h5 hq5
        rw [c3, nI_eq (by omega) (by omega)] at e2
        omega
      · obtain ⟨g1, w, g2, g3⟩ := h1 ((eq1 q 1 hq (by omega)).1 z)
        exact ⟨g1, w, g2, by rw [← g1]; exact g3⟩
      · obtain ⟨g1, w, g2, g3⟩ := h3 ((eq1 q 3 hq (by omega)).1 z)
        exact ⟨g1, w, g2, by rw [← g1]; exact g3⟩
    · simp only [if_neg hml]
      exact ⟨a, b, ⟨c1, m0, c2, c3, c4⟩, ⟨d1, p0, d2, d3⟩, e, f1, f3⟩
  · -- the frames' counts
    obtain ⟨-, -, -, ⟨d1, -⟩, -, f1, -⟩ := hL l hl
    have hc0 : ∀ w', cntB (fun j => atr (putsr r l (nI q) k') (nI 1) w' j && decide (¬ j = l)) N = cntB (fun j => atr r (nI 1) w' j && decide (¬ j = l)) N := fun w' => cntB_congr N (fun j hj => by
      by_cases hjl : j = l
      · simp [hjl]
      · unfold atr
        rw [putsr_3, putsr_4, if_neg hjl, if_neg hjl])
    have hdn : dnV V l 11 w = nI (cntB (fun j => atr r (nI 1) (nI w) j && decide (¬ j = l)) N) := by
      have hcw := cntB_one (atr r (nI 1) (nI w)) N hl
      unfold dnV
      by_cases hz : V 7 l = nI 1
      · rw [if_pos hz]
        obtain ⟨g1, w0, g2, g3⟩ := f1 (d1 ▸ hz)
        rw [g1, g3, nI_clamp (by omega)]
        unfold wv sv
        rw [if_pos rfl]
        unfold upd
        by_cases hww : w = w0
        · subst hww
          rw [if_pos rfl, hF w hw, hcw]
          have : atr r (nI 1) (nI w) l = true := by unfold atr; rw [← d1, decide_eq_true hz, decide_eq_true g3]; rfl
          rw [this, if_pos rfl, pk_sub (by omega), Nat.add_sub_cancel]
        · rw [if_neg hww, hF w hw, hcw]
          have : atr r (nI 1) (nI w) l = false := by
            unfold atr
            rw [g3, decide_eq_false (p := nI w0 = nI w) (fun z => hww ((nI_eq (by omega) (by omega)).1 z).symm), Bool.and_false]
          rw [this]
          simp
      · rw [if_neg hz, hF w hw, hcw]
        have : atr r (nI 1) (nI w) l = false := by unfold atr; rw [← d1, decide_eq_false hz, Bool.false_and]
        rw [this]
        simp
    rw [cntB_one (atr (putsr r l (nI q) k') (nI 1) (nI w)) N hl, hc0]
    have hat : atr (putsr r l (nI q) k') (nI 1) (nI w) l = (decide (nI q = nI 1) && decide (k' = nI w)) := by
      unfold atr
      rw [putsr_3, putsr_4, if_pos rfl, if_pos rfl]
    rw [hat]
    have h11 : ∀ k, wv (wv (dnV V l) 7 l (nI q)) 8 l k 11 = dnV V l 11 := fun k => by
      unfold wv sv
      rw [if_neg (by decide), if_neg (by decide)]
    unfold moveV upV
    by_cases hq1 : nI q = nI 1
    · rw [if_pos hq1, decide_eq_true hq1, Bool.true_and]
      obtain ⟨g1, w1, g2, g3⟩ := h1 ((eq1 q 1 hq (by omega)).1 hq1)
      rw [← g1, g3, nI_clamp (by omega), h11]
      unfold wv sv
      rw [if_pos rfl]
      unfold upd
      by_cases hww : w = w1
      · subst hww
        rw [if_pos rfl, hdn, decide_eq_true rfl, if_pos rfl, nI_add']
      · rw [if_neg hww, if_neg (by decide), if_neg (by decide), hdn, decide_eq_false (p := nI w1 = nI w) (fun z => hww ((nI_eq (by omega) (by omega)).1 z).symm)]
        simp
    · rw [if_neg hq1, decide_eq_false hq1, Bool.false_and, h11, hdn]
      simp
  · rw [hs.1 953 (by omega), moveV_o (by decide) (by decide) (by decide)]
    exact hS
end NF
end
