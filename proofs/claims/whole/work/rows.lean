section
-- ===== PART A: goes FIRST, ahead of the names: the tables' words, and 'selects' of the private methods out of them =====
/-- a private method of a class that the tables say can be made, by its rows of tables_1 -/
def lw_okq (q : MethodName × Nat) : Prop := (q.1.cls ≠ "java/lang/invoke/MethodHandle" ∧ q.1.cls ≠ "java/lang/invoke/VarHandle") ∧ Cond.instantiable q.1.cls q.2 ∈ tables_1 ∧ Cond.privateMethod q.1 ∈ tables_1 ∧ Cond.instanceMethod q.1 ∈ tables_1
theorem lw_p0 : lw_okq (⟨"PopPan", "finding", "(I)I"⟩, 11) := ⟨⟨by decide +kernel, by decide +kernel⟩, List.mem_of_getElem? (i := 15) (by decide +kernel), List.mem_of_getElem? (i := 320) (by decide +kernel), List.mem_of_getElem? (i := 321) (by decide +kernel)⟩
theorem lw_p1 : lw_okq (⟨"PopPan", "understand", "(I)V"⟩, 11) := ⟨⟨by decide +kernel, by decide +kernel⟩, List.mem_of_getElem? (i := 15) (by decide +kernel), List.mem_of_getElem? (i := 361) (by decide +kernel), List.mem_of_getElem? (i := 362) (by decide +kernel)⟩
theorem lw_p2 : lw_okq (⟨"PopPan$Heating", "coolDown", "()V"⟩, 4) := ⟨⟨by decide +kernel, by decide +kernel⟩, List.mem_of_getElem? (i := 54) (by decide +kernel), List.mem_of_getElem? (i := 369) (by decide +kernel), List.mem_of_getElem? (i := 370) (by decide +kernel)⟩
theorem lw_p3 : lw_okq (⟨"PopPan$Heating", "putLid", "(Z)V"⟩, 4) := ⟨⟨by decide +kernel, by decide +kernel⟩, List.mem_of_getElem? (i := 54) (by decide +kernel), List.mem_of_getElem? (i := 376) (by decide +kernel), List.mem_of_getElem? (i := 377) (by decide +kernel)⟩
theorem lw_p4 : lw_okq (⟨"PopPan$Heating", "addPart", "(LPopPan$Text;)V"⟩, 4) := ⟨⟨by decide +kernel, by decide +kernel⟩, List.mem_of_getElem? (i := 54) (by decide +kernel), List.mem_of_getElem? (i := 384) (by decide +kernel), List.mem_of_getElem? (i := 385) (by decide +kernel)⟩
theorem lw_p5 : lw_okq (⟨"PopPan$Heating", "addHeat", "(II)V"⟩, 4) := ⟨⟨by decide +kernel, by decide +kernel⟩, List.mem_of_getElem? (i := 54) (by decide +kernel), List.mem_of_getElem? (i := 405) (by decide +kernel), List.mem_of_getElem? (i := 406) (by decide +kernel)⟩
theorem lw_p6 : lw_okq (⟨"PopPan$Rule", "addCondition", "(LPopPan$Text;)V"⟩, 3) := ⟨⟨by decide +kernel, by decide +kernel⟩, List.mem_of_getElem? (i := 215) (by decide +kernel), List.mem_of_getElem? (i := 420) (by decide +kernel), List.mem_of_getElem? (i := 421) (by decide +kernel)⟩
theorem lw_p7 : lw_okq (⟨"PopPan", "fillPan", "()V"⟩, 11) := ⟨⟨by decide +kernel, by decide +kernel⟩, List.mem_of_getElem? (i := 15) (by decide +kernel), List.mem_of_getElem? (i := 447) (by decide +kernel), List.mem_of_getElem? (i := 448) (by decide +kernel)⟩
theorem lw_p8 : lw_okq (⟨"PopPan$Batch", "putOnTop", "(II)V"⟩, 17) := ⟨⟨by decide +kernel, by decide +kernel⟩, List.mem_of_getElem? (i := 83) (by decide +kernel), List.mem_of_getElem? (i := 457) (by decide +kernel), List.mem_of_getElem? (i := 458) (by decide +kernel)⟩
theorem lw_p9 : lw_okq (⟨"PopPan$Batch", "clearRows", "()V"⟩, 17) := ⟨⟨by decide +kernel, by decide +kernel⟩, List.mem_of_getElem? (i := 83) (by decide +kernel), List.mem_of_getElem? (i := 469) (by decide +kernel), List.mem_of_getElem? (i := 470) (by decide +kernel)⟩
theorem lw_p10 : lw_okq (⟨"PopPan$Batch", "turnRow", "(I)V"⟩, 17) := ⟨⟨by decide +kernel, by decide +kernel⟩, List.mem_of_getElem? (i := 83) (by decide +kernel), List.mem_of_getElem? (i := 473) (by decide +kernel), List.mem_of_getElem? (i := 474) (by decide +kernel)⟩
theorem lw_p11 : lw_okq (⟨"PopPan$Batch", "warmRow", "(III)V"⟩, 17) := ⟨⟨by decide +kernel, by decide +kernel⟩, List.mem_of_getElem? (i := 83) (by decide +kernel), List.mem_of_getElem? (i := 480) (by decide +kernel), List.mem_of_getElem? (i := 481) (by decide +kernel)⟩
theorem lw_p12 : lw_okq (⟨"PopPan$Batch", "strain", "(I)V"⟩, 17) := ⟨⟨by decide +kernel, by decide +kernel⟩, List.mem_of_getElem? (i := 83) (by decide +kernel), List.mem_of_getElem? (i := 484) (by decide +kernel), List.mem_of_getElem? (i := 485) (by decide +kernel)⟩
theorem lw_p13 : lw_okq (⟨"PopPan$Batch", "end", "(II)V"⟩, 17) := ⟨⟨by decide +kernel, by decide +kernel⟩, List.mem_of_getElem? (i := 83) (by decide +kernel), List.mem_of_getElem? (i := 491) (by decide +kernel), List.mem_of_getElem? (i := 492) (by decide +kernel)⟩
theorem lw_p14 : lw_okq (⟨"PopPan", "cook", "(I)V"⟩, 11) := ⟨⟨by decide +kernel, by decide +kernel⟩, List.mem_of_getElem? (i := 15) (by decide +kernel), List.mem_of_getElem? (i := 503) (by decide +kernel), List.mem_of_getElem? (i := 504) (by decide +kernel)⟩
theorem lw_p15 : lw_okq (⟨"PopPan$Batch", "isOpenAt", "(II)Z"⟩, 17) := ⟨⟨by decide +kernel, by decide +kernel⟩, List.mem_of_getElem? (i := 83) (by decide +kernel), List.mem_of_getElem? (i := 515) (by decide +kernel), List.mem_of_getElem? (i := 516) (by decide +kernel)⟩
def lw_privs_1 : List (MethodName × Nat) := [(⟨"PopPan", "finding", "(I)I"⟩, 11), (⟨"PopPan", "understand", "(I)V"⟩, 11), (⟨"PopPan$Heating", "coolDown", "()V"⟩, 4), (⟨"PopPan$Heating", "putLid", "(Z)V"⟩, 4), (⟨"PopPan$Heating", "addPart", "(LPopPan$Text;)V"⟩, 4), (⟨"PopPan$Heating", "addHeat", "(II)V"⟩, 4), (⟨"PopPan$Rule", "addCondition", "(LPopPan$Text;)V"⟩, 3), (⟨"PopPan", "fillPan", "()V"⟩, 11), (⟨"PopPan$Batch", "putOnTop", "(II)V"⟩, 17), (⟨"PopPan$Batch", "clearRows", "()V"⟩, 17), (⟨"PopPan$Batch", "turnRow", "(I)V"⟩, 17), (⟨"PopPan$Batch", "warmRow", "(III)V"⟩, 17), (⟨"PopPan$Batch", "strain", "(I)V"⟩, 17), (⟨"PopPan$Batch", "end", "(II)V"⟩, 17), (⟨"PopPan", "cook", "(I)V"⟩, 11), (⟨"PopPan$Batch", "isOpenAt", "(II)Z"⟩, 17)]
theorem lw_r1 : ∀ q ∈ lw_privs_1, lw_okq q := List.forall_mem_cons.mpr ⟨lw_p0, List.forall_mem_cons.mpr ⟨lw_p1, List.forall_mem_cons.mpr ⟨lw_p2, List.forall_mem_cons.mpr ⟨lw_p3, List.forall_mem_cons.mpr ⟨lw_p4, List.forall_mem_cons.mpr ⟨lw_p5, List.forall_mem_cons.mpr ⟨lw_p6, List.forall_mem_cons.mpr ⟨lw_p7, List.forall_mem_cons.mpr ⟨lw_p8, List.forall_mem_cons.mpr ⟨lw_p9, List.forall_mem_cons.mpr ⟨lw_p10, List.forall_mem_cons.mpr ⟨lw_p11, List.forall_mem_cons.mpr ⟨lw_p12, List.forall_mem_cons.mpr ⟨lw_p13, List.forall_mem_cons.mpr ⟨lw_p14, List.forall_mem_cons.mpr ⟨lw_p15, fun _ h => absurd h List.not_mem_nil⟩⟩⟩⟩⟩⟩⟩⟩⟩⟩⟩⟩⟩⟩⟩⟩
theorem lw_p16 : lw_okq (⟨"PopPan", "tellRule", "(II)I"⟩, 11) := ⟨⟨by decide +kernel, by decide +kernel⟩, List.mem_of_getElem? (i := 15) (by decide +kernel), List.mem_of_getElem? (i := 528) (by decide +kernel), List.mem_of_getElem? (i := 529) (by decide +kernel)⟩
theorem lw_p17 : lw_okq (⟨"PopPan", "worth", "(I)I"⟩, 11) := ⟨⟨by decide +kernel, by decide +kernel⟩, List.mem_of_getElem? (i := 15) (by decide +kernel), List.mem_of_getElem? (i := 556) (by decide +kernel), List.mem_of_getElem? (i := 557) (by decide +kernel)⟩
theorem lw_p18 : lw_okq (⟨"PopPan", "bestRule", "()I"⟩, 11) := ⟨⟨by decide +kernel, by decide +kernel⟩, List.mem_of_getElem? (i := 15) (by decide +kernel), List.mem_of_getElem? (i := 564) (by decide +kernel), List.mem_of_getElem? (i := 565) (by decide +kernel)⟩
theorem lw_p19 : lw_okq (⟨"PopPan", "tryHeats", "(I)V"⟩, 11) := ⟨⟨by decide +kernel, by decide +kernel⟩, List.mem_of_getElem? (i := 15) (by decide +kernel), List.mem_of_getElem? (i := 572) (by decide +kernel), List.mem_of_getElem? (i := 573) (by decide +kernel)⟩
theorem lw_p20 : lw_okq (⟨"PopPan$Evens", "bestHeat", "()I"⟩, 2) := ⟨⟨by decide +kernel, by decide +kernel⟩, List.mem_of_getElem? (i := 142) (by decide +kernel), List.mem_of_getElem? (i := 584) (by decide +kernel), List.mem_of_getElem? (i := 585) (by decide +kernel)⟩
theorem lw_p21 : lw_okq (⟨"PopPan$Evens", "isInFront", "(I)Z"⟩, 2) := ⟨⟨by decide +kernel, by decide +kernel⟩, List.mem_of_getElem? (i := 142) (by decide +kernel), List.mem_of_getElem? (i := 596) (by decide +kernel), List.mem_of_getElem? (i := 597) (by decide +kernel)⟩
theorem lw_p22 : lw_okq (⟨"PopPan$Evens", "isBetter", "(II)Z"⟩, 2) := ⟨⟨by decide +kernel, by decide +kernel⟩, List.mem_of_getElem? (i := 142) (by decide +kernel), List.mem_of_getElem? (i := 600) (by decide +kernel), List.mem_of_getElem? (i := 601) (by decide +kernel)⟩
theorem lw_p23 : lw_okq (⟨"PopPan", "sieve", "(II)V"⟩, 11) := ⟨⟨by decide +kernel, by decide +kernel⟩, List.mem_of_getElem? (i := 15) (by decide +kernel), List.mem_of_getElem? (i := 633) (by decide +kernel), List.mem_of_getElem? (i := 634) (by decide +kernel)⟩
theorem lw_p24 : lw_okq (⟨"PopPan", "tellSieved", "(II)I"⟩, 11) := ⟨⟨by decide +kernel, by decide +kernel⟩, List.mem_of_getElem? (i := 15) (by decide +kernel), List.mem_of_getElem? (i := 637) (by decide +kernel), List.mem_of_getElem? (i := 638) (by decide +kernel)⟩
theorem lw_p25 : lw_okq (⟨"PopPan", "tryStrengths", "()V"⟩, 11) := ⟨⟨by decide +kernel, by decide +kernel⟩, List.mem_of_getElem? (i := 15) (by decide +kernel), List.mem_of_getElem? (i := 702) (by decide +kernel), List.mem_of_getElem? (i := 703) (by decide +kernel)⟩
theorem lw_p26 : lw_okq (⟨"PopPan$Hearing", "offIn", "(LPopPan$Batch;)I"⟩, 8) := ⟨⟨by decide +kernel, by decide +kernel⟩, List.mem_of_getElem? (i := 157) (by decide +kernel), List.mem_of_getElem? (i := 714) (by decide +kernel), List.mem_of_getElem? (i := 715) (by decide +kernel)⟩
theorem lw_p27 : lw_okq (⟨"PopPan", "digestGrains", "(JI)J"⟩, 11) := ⟨⟨by decide +kernel, by decide +kernel⟩, List.mem_of_getElem? (i := 15) (by decide +kernel), List.mem_of_getElem? (i := 785) (by decide +kernel), List.mem_of_getElem? (i := 786) (by decide +kernel)⟩
theorem lw_p28 : lw_okq (⟨"PopPan", "digestRules", "(J)J"⟩, 11) := ⟨⟨by decide +kernel, by decide +kernel⟩, List.mem_of_getElem? (i := 15) (by decide +kernel), List.mem_of_getElem? (i := 789) (by decide +kernel), List.mem_of_getElem? (i := 790) (by decide +kernel)⟩
theorem lw_p29 : lw_okq (⟨"PopPan", "digestFits", "(J)J"⟩, 11) := ⟨⟨by decide +kernel, by decide +kernel⟩, List.mem_of_getElem? (i := 15) (by decide +kernel), List.mem_of_getElem? (i := 793) (by decide +kernel), List.mem_of_getElem? (i := 794) (by decide +kernel)⟩
theorem lw_p30 : lw_okq (⟨"PopPanModel", "met", "(I)I"⟩, 39) := ⟨⟨by decide +kernel, by decide +kernel⟩, List.mem_of_getElem? (i := 797) (by decide +kernel), List.mem_of_getElem? (i := 933) (by decide +kernel), List.mem_of_getElem? (i := 934) (by decide +kernel)⟩
theorem lw_p31 : lw_okq (⟨"PopPanModel", "lacks", "(III)I"⟩, 39) := ⟨⟨by decide +kernel, by decide +kernel⟩, List.mem_of_getElem? (i := 797) (by decide +kernel), List.mem_of_getElem? (i := 945) (by decide +kernel), List.mem_of_getElem? (i := 946) (by decide +kernel)⟩
def lw_privs_2 : List (MethodName × Nat) := [(⟨"PopPan", "tellRule", "(II)I"⟩, 11), (⟨"PopPan", "worth", "(I)I"⟩, 11), (⟨"PopPan", "bestRule", "()I"⟩, 11), (⟨"PopPan", "tryHeats", "(I)V"⟩, 11), (⟨"PopPan$Evens", "bestHeat", "()I"⟩, 2), (⟨"PopPan$Evens", "isInFront", "(I)Z"⟩, 2), (⟨"PopPan$Evens", "isBetter", "(II)Z"⟩, 2), (⟨"PopPan", "sieve", "(II)V"⟩, 11), (⟨"PopPan", "tellSieved", "(II)I"⟩, 11), (⟨"PopPan", "tryStrengths", "()V"⟩, 11), (⟨"PopPan$Hearing", "offIn", "(LPopPan$Batch;)I"⟩, 8), (⟨"PopPan", "digestGrains", "(JI)J"⟩, 11), (⟨"PopPan", "digestRules", "(J)J"⟩, 11), (⟨"PopPan", "digestFits", "(J)J"⟩, 11), (⟨"PopPanModel", "met", "(I)I"⟩, 39), (⟨"PopPanModel", "lacks", "(III)I"⟩, 39)]
theorem lw_r2 : ∀ q ∈ lw_privs_2, lw_okq q := List.forall_mem_cons.mpr ⟨lw_p16, List.forall_mem_cons.mpr ⟨lw_p17, List.forall_mem_cons.mpr ⟨lw_p18, List.forall_mem_cons.mpr ⟨lw_p19, List.forall_mem_cons.mpr ⟨lw_p20, List.forall_mem_cons.mpr ⟨lw_p21, List.forall_mem_cons.mpr ⟨lw_p22, List.forall_mem_cons.mpr ⟨lw_p23, List.forall_mem_cons.mpr ⟨lw_p24, List.forall_mem_cons.mpr ⟨lw_p25, List.forall_mem_cons.mpr ⟨lw_p26, List.forall_mem_cons.mpr ⟨lw_p27, List.forall_mem_cons.mpr ⟨lw_p28, List.forall_mem_cons.mpr ⟨lw_p29, List.forall_mem_cons.mpr ⟨lw_p30, List.forall_mem_cons.mpr ⟨lw_p31, fun _ h => absurd h List.not_mem_nil⟩⟩⟩⟩⟩⟩⟩⟩⟩⟩⟩⟩⟩⟩⟩⟩
theorem lw_p32 : lw_okq (⟨"PopPanModel", "isGrain", "(I)Z"⟩, 39) := ⟨⟨by decide +kernel, by decide +kernel⟩, List.mem_of_getElem? (i := 797) (by decide +kernel), List.mem_of_getElem? (i := 983) (by decide +kernel), List.mem_of_getElem? (i := 984) (by decide +kernel)⟩
theorem lw_p33 : lw_okq (⟨"PopPanModel", "faultOf", "(I)I"⟩, 39) := ⟨⟨by decide +kernel, by decide +kernel⟩, List.mem_of_getElem? (i := 797) (by decide +kernel), List.mem_of_getElem? (i := 1013) (by decide +kernel), List.mem_of_getElem? (i := 1014) (by decide +kernel)⟩
theorem lw_p34 : lw_okq (⟨"PopPanModel", "readsPan", "()I"⟩, 39) := ⟨⟨by decide +kernel, by decide +kernel⟩, List.mem_of_getElem? (i := 797) (by decide +kernel), List.mem_of_getElem? (i := 1017) (by decide +kernel), List.mem_of_getElem? (i := 1018) (by decide +kernel)⟩
theorem lw_p35 : lw_okq (⟨"PopPanModel", "clearsPan", "()V"⟩, 39) := ⟨⟨by decide +kernel, by decide +kernel⟩, List.mem_of_getElem? (i := 797) (by decide +kernel), List.mem_of_getElem? (i := 1021) (by decide +kernel), List.mem_of_getElem? (i := 1022) (by decide +kernel)⟩
theorem lw_p36 : lw_okq (⟨"PopPanModel", "readsPanPart", "()Z"⟩, 39) := ⟨⟨by decide +kernel, by decide +kernel⟩, List.mem_of_getElem? (i := 797) (by decide +kernel), List.mem_of_getElem? (i := 1025) (by decide +kernel), List.mem_of_getElem? (i := 1026) (by decide +kernel)⟩
theorem lw_p37 : lw_okq (⟨"PopPanModel", "here", "(I)I"⟩, 39) := ⟨⟨by decide +kernel, by decide +kernel⟩, List.mem_of_getElem? (i := 797) (by decide +kernel), List.mem_of_getElem? (i := 1029) (by decide +kernel), List.mem_of_getElem? (i := 1030) (by decide +kernel)⟩
theorem lw_p38 : lw_okq (⟨"PopPanModel", "lidsFrom", "(I)V"⟩, 39) := ⟨⟨by decide +kernel, by decide +kernel⟩, List.mem_of_getElem? (i := 797) (by decide +kernel), List.mem_of_getElem? (i := 1033) (by decide +kernel), List.mem_of_getElem? (i := 1034) (by decide +kernel)⟩
theorem lw_p39 : lw_okq (⟨"PopPanModel", "figures", "(IIII)I"⟩, 39) := ⟨⟨by decide +kernel, by decide +kernel⟩, List.mem_of_getElem? (i := 797) (by decide +kernel), List.mem_of_getElem? (i := 1037) (by decide +kernel), List.mem_of_getElem? (i := 1038) (by decide +kernel)⟩
theorem lw_p40 : lw_okq (⟨"PopPanModel", "readsRule", "(I)I"⟩, 39) := ⟨⟨by decide +kernel, by decide +kernel⟩, List.mem_of_getElem? (i := 797) (by decide +kernel), List.mem_of_getElem? (i := 1043) (by decide +kernel), List.mem_of_getElem? (i := 1044) (by decide +kernel)⟩
theorem lw_p41 : lw_okq (⟨"PopPanModel", "tries", "()V"⟩, 39) := ⟨⟨by decide +kernel, by decide +kernel⟩, List.mem_of_getElem? (i := 797) (by decide +kernel), List.mem_of_getElem? (i := 1057) (by decide +kernel), List.mem_of_getElem? (i := 1058) (by decide +kernel)⟩
theorem lw_p42 : lw_okq (⟨"PopPanModel", "goesOn", "(I)V"⟩, 39) := ⟨⟨by decide +kernel, by decide +kernel⟩, List.mem_of_getElem? (i := 797) (by decide +kernel), List.mem_of_getElem? (i := 1061) (by decide +kernel), List.mem_of_getElem? (i := 1062) (by decide +kernel)⟩
theorem lw_p43 : lw_okq (⟨"PopPanModel", "begins", "()V"⟩, 39) := ⟨⟨by decide +kernel, by decide +kernel⟩, List.mem_of_getElem? (i := 797) (by decide +kernel), List.mem_of_getElem? (i := 1065) (by decide +kernel), List.mem_of_getElem? (i := 1066) (by decide +kernel)⟩
theorem lw_p44 : lw_okq (⟨"PopPanModel", "isIn", "(I)Z"⟩, 39) := ⟨⟨by decide +kernel, by decide +kernel⟩, List.mem_of_getElem? (i := 797) (by decide +kernel), List.mem_of_getElem? (i := 1069) (by decide +kernel), List.mem_of_getElem? (i := 1070) (by decide +kernel)⟩
theorem lw_p45 : lw_okq (⟨"PopPanModel", "second", "(I)V"⟩, 39) := ⟨⟨by decide +kernel, by decide +kernel⟩, List.mem_of_getElem? (i := 797) (by decide +kernel), List.mem_of_getElem? (i := 1073) (by decide +kernel), List.mem_of_getElem? (i := 1074) (by decide +kernel)⟩
theorem lw_p46 : lw_okq (⟨"PopPanModel", "shakesAll", "()V"⟩, 39) := ⟨⟨by decide +kernel, by decide +kernel⟩, List.mem_of_getElem? (i := 797) (by decide +kernel), List.mem_of_getElem? (i := 1077) (by decide +kernel), List.mem_of_getElem? (i := 1078) (by decide +kernel)⟩
theorem lw_p47 : lw_okq (⟨"PopPanModel", "warms", "(IZ)V"⟩, 39) := ⟨⟨by decide +kernel, by decide +kernel⟩, List.mem_of_getElem? (i := 797) (by decide +kernel), List.mem_of_getElem? (i := 1081) (by decide +kernel), List.mem_of_getElem? (i := 1082) (by decide +kernel)⟩
def lw_privs_3 : List (MethodName × Nat) := [(⟨"PopPanModel", "isGrain", "(I)Z"⟩, 39), (⟨"PopPanModel", "faultOf", "(I)I"⟩, 39), (⟨"PopPanModel", "readsPan", "()I"⟩, 39), (⟨"PopPanModel", "clearsPan", "()V"⟩, 39), (⟨"PopPanModel", "readsPanPart", "()Z"⟩, 39), (⟨"PopPanModel", "here", "(I)I"⟩, 39), (⟨"PopPanModel", "lidsFrom", "(I)V"⟩, 39), (⟨"PopPanModel", "figures", "(IIII)I"⟩, 39), (⟨"PopPanModel", "readsRule", "(I)I"⟩, 39), (⟨"PopPanModel", "tries", "()V"⟩, 39), (⟨"PopPanModel", "goesOn", "(I)V"⟩, 39), (⟨"PopPanModel", "begins", "()V"⟩, 39), (⟨"PopPanModel", "isIn", "(I)Z"⟩, 39), (⟨"PopPanModel", "second", "(I)V"⟩, 39), (⟨"PopPanModel", "shakesAll", "()V"⟩, 39), (⟨"PopPanModel", "warms", "(IZ)V"⟩, 39)]
theorem lw_r3 : ∀ q ∈ lw_privs_3, lw_okq q := List.forall_mem_cons.mpr ⟨lw_p32, List.forall_mem_cons.mpr ⟨lw_p33, List.forall_mem_cons.mpr ⟨lw_p34, List.forall_mem_cons.mpr ⟨lw_p35, List.forall_mem_cons.mpr ⟨lw_p36, List.forall_mem_cons.mpr ⟨lw_p37, List.forall_mem_cons.mpr ⟨lw_p38, List.forall_mem_cons.mpr ⟨lw_p39, List.forall_mem_cons.mpr ⟨lw_p40, List.forall_mem_cons.mpr ⟨lw_p41, List.forall_mem_cons.mpr ⟨lw_p42, List.forall_mem_cons.mpr ⟨lw_p43, List.forall_mem_cons.mpr ⟨lw_p44, List.forall_mem_cons.mpr ⟨lw_p45, List.forall_mem_cons.mpr ⟨lw_p46, List.forall_mem_cons.mpr ⟨lw_p47, fun _ h => absurd h List.not_mem_nil⟩⟩⟩⟩⟩⟩⟩⟩⟩⟩⟩⟩⟩⟩⟩⟩
theorem lw_p48 : lw_okq (⟨"PopPanModel", "goes", "(II)Z"⟩, 39) := ⟨⟨by decide +kernel, by decide +kernel⟩, List.mem_of_getElem? (i := 797) (by decide +kernel), List.mem_of_getElem? (i := 1085) (by decide +kernel), List.mem_of_getElem? (i := 1086) (by decide +kernel)⟩
theorem lw_p49 : lw_okq (⟨"PopPanModel", "hold", "(I)I"⟩, 39) := ⟨⟨by decide +kernel, by decide +kernel⟩, List.mem_of_getElem? (i := 797) (by decide +kernel), List.mem_of_getElem? (i := 1089) (by decide +kernel), List.mem_of_getElem? (i := 1090) (by decide +kernel)⟩
theorem lw_p50 : lw_okq (⟨"PopPanModel", "rises", "()V"⟩, 39) := ⟨⟨by decide +kernel, by decide +kernel⟩, List.mem_of_getElem? (i := 797) (by decide +kernel), List.mem_of_getElem? (i := 1093) (by decide +kernel), List.mem_of_getElem? (i := 1094) (by decide +kernel)⟩
theorem lw_p51 : lw_okq (⟨"PopPanModel", "isNow", "(II)I"⟩, 39) := ⟨⟨by decide +kernel, by decide +kernel⟩, List.mem_of_getElem? (i := 797) (by decide +kernel), List.mem_of_getElem? (i := 1097) (by decide +kernel), List.mem_of_getElem? (i := 1098) (by decide +kernel)⟩
theorem lw_p52 : lw_okq (⟨"PopPanModel", "stopOf", "(II)I"⟩, 39) := ⟨⟨by decide +kernel, by decide +kernel⟩, List.mem_of_getElem? (i := 797) (by decide +kernel), List.mem_of_getElem? (i := 1112) (by decide +kernel), List.mem_of_getElem? (i := 1113) (by decide +kernel)⟩
theorem lw_p53 : lw_okq (⟨"PopPanModel", "stops", "()I"⟩, 39) := ⟨⟨by decide +kernel, by decide +kernel⟩, List.mem_of_getElem? (i := 797) (by decide +kernel), List.mem_of_getElem? (i := 1120) (by decide +kernel), List.mem_of_getElem? (i := 1121) (by decide +kernel)⟩
theorem lw_p54 : lw_okq (⟨"PopPanModel", "isStopped", "(III)Z"⟩, 39) := ⟨⟨by decide +kernel, by decide +kernel⟩, List.mem_of_getElem? (i := 797) (by decide +kernel), List.mem_of_getElem? (i := 1124) (by decide +kernel), List.mem_of_getElem? (i := 1125) (by decide +kernel)⟩
theorem lw_p55 : lw_okq (⟨"PopPanModel", "many", "(I)I"⟩, 39) := ⟨⟨by decide +kernel, by decide +kernel⟩, List.mem_of_getElem? (i := 797) (by decide +kernel), List.mem_of_getElem? (i := 1128) (by decide +kernel), List.mem_of_getElem? (i := 1129) (by decide +kernel)⟩
theorem lw_p56 : lw_okq (⟨"PopPanModel", "allLarge", "()I"⟩, 39) := ⟨⟨by decide +kernel, by decide +kernel⟩, List.mem_of_getElem? (i := 797) (by decide +kernel), List.mem_of_getElem? (i := 1132) (by decide +kernel), List.mem_of_getElem? (i := 1133) (by decide +kernel)⟩
theorem lw_p57 : lw_okq (⟨"PopPanModel", "browned", "(I)I"⟩, 39) := ⟨⟨by decide +kernel, by decide +kernel⟩, List.mem_of_getElem? (i := 797) (by decide +kernel), List.mem_of_getElem? (i := 1136) (by decide +kernel), List.mem_of_getElem? (i := 1137) (by decide +kernel)⟩
theorem lw_p58 : lw_okq (⟨"PopPanModel", "worth", "(I)I"⟩, 39) := ⟨⟨by decide +kernel, by decide +kernel⟩, List.mem_of_getElem? (i := 797) (by decide +kernel), List.mem_of_getElem? (i := 1140) (by decide +kernel), List.mem_of_getElem? (i := 1141) (by decide +kernel)⟩
theorem lw_p59 : lw_okq (⟨"PopPanModel", "bestNow", "()I"⟩, 39) := ⟨⟨by decide +kernel, by decide +kernel⟩, List.mem_of_getElem? (i := 797) (by decide +kernel), List.mem_of_getElem? (i := 1148) (by decide +kernel), List.mem_of_getElem? (i := 1149) (by decide +kernel)⟩
theorem lw_p60 : lw_okq (⟨"PopPanModel", "evenOf", "(II)I"⟩, 39) := ⟨⟨by decide +kernel, by decide +kernel⟩, List.mem_of_getElem? (i := 797) (by decide +kernel), List.mem_of_getElem? (i := 1159) (by decide +kernel), List.mem_of_getElem? (i := 1160) (by decide +kernel)⟩
theorem lw_p61 : lw_okq (⟨"PopPanModel", "findEven", "(I)V"⟩, 39) := ⟨⟨by decide +kernel, by decide +kernel⟩, List.mem_of_getElem? (i := 797) (by decide +kernel), List.mem_of_getElem? (i := 1163) (by decide +kernel), List.mem_of_getElem? (i := 1164) (by decide +kernel)⟩
theorem lw_p62 : lw_okq (⟨"PopPanModel", "sievedOf", "(III)I"⟩, 39) := ⟨⟨by decide +kernel, by decide +kernel⟩, List.mem_of_getElem? (i := 797) (by decide +kernel), List.mem_of_getElem? (i := 1190) (by decide +kernel), List.mem_of_getElem? (i := 1191) (by decide +kernel)⟩
theorem lw_p63 : lw_okq (⟨"PopPanModel", "fitsOf", "(I)I"⟩, 39) := ⟨⟨by decide +kernel, by decide +kernel⟩, List.mem_of_getElem? (i := 797) (by decide +kernel), List.mem_of_getElem? (i := 1238) (by decide +kernel), List.mem_of_getElem? (i := 1239) (by decide +kernel)⟩
def lw_privs_4 : List (MethodName × Nat) := [(⟨"PopPanModel", "goes", "(II)Z"⟩, 39), (⟨"PopPanModel", "hold", "(I)I"⟩, 39), (⟨"PopPanModel", "rises", "()V"⟩, 39), (⟨"PopPanModel", "isNow", "(II)I"⟩, 39), (⟨"PopPanModel", "stopOf", "(II)I"⟩, 39), (⟨"PopPanModel", "stops", "()I"⟩, 39), (⟨"PopPanModel", "isStopped", "(III)Z"⟩, 39), (⟨"PopPanModel", "many", "(I)I"⟩, 39), (⟨"PopPanModel", "allLarge", "()I"⟩, 39), (⟨"PopPanModel", "browned", "(I)I"⟩, 39), (⟨"PopPanModel", "worth", "(I)I"⟩, 39), (⟨"PopPanModel", "bestNow", "()I"⟩, 39), (⟨"PopPanModel", "evenOf", "(II)I"⟩, 39), (⟨"PopPanModel", "findEven", "(I)V"⟩, 39), (⟨"PopPanModel", "sievedOf", "(III)I"⟩, 39), (⟨"PopPanModel", "fitsOf", "(I)I"⟩, 39)]
theorem lw_r4 : ∀ q ∈ lw_privs_4, lw_okq q := List.forall_mem_cons.mpr ⟨lw_p48, List.forall_mem_cons.mpr ⟨lw_p49, List.forall_mem_cons.mpr ⟨lw_p50, List.forall_mem_cons.mpr ⟨lw_p51, List.forall_mem_cons.mpr ⟨lw_p52, List.forall_mem_cons.mpr ⟨lw_p53, List.forall_mem_cons.mpr ⟨lw_p54, List.forall_mem_cons.mpr ⟨lw_p55, List.forall_mem_cons.mpr ⟨lw_p56, List.forall_mem_cons.mpr ⟨lw_p57, List.forall_mem_cons.mpr ⟨lw_p58, List.forall_mem_cons.mpr ⟨lw_p59, List.forall_mem_cons.mpr ⟨lw_p60, List.forall_mem_cons.mpr ⟨lw_p61, List.forall_mem_cons.mpr ⟨lw_p62, List.forall_mem_cons.mpr ⟨lw_p63, fun _ h => absurd h List.not_mem_nil⟩⟩⟩⟩⟩⟩⟩⟩⟩⟩⟩⟩⟩⟩⟩⟩
theorem lw_p64 : lw_okq (⟨"PopPanModel", "offBy", "(I)I"⟩, 39) := ⟨⟨by decide +kernel, by decide +kernel⟩, List.mem_of_getElem? (i := 797) (by decide +kernel), List.mem_of_getElem? (i := 1242) (by decide +kernel), List.mem_of_getElem? (i := 1243) (by decide +kernel)⟩
def lw_privs_5 : List (MethodName × Nat) := [(⟨"PopPanModel", "offBy", "(I)I"⟩, 39)]
theorem lw_r5 : ∀ q ∈ lw_privs_5, lw_okq q := List.forall_mem_cons.mpr ⟨lw_p64, fun _ h => absurd h List.not_mem_nil⟩
def lw_privs : List (MethodName × Nat) := lw_privs_1 ++ (lw_privs_2 ++ (lw_privs_3 ++ (lw_privs_4 ++ (lw_privs_5))))
def lw_tbl : List Cond := k2_sels lw_privs ++ tables_1
theorem lw_privs_ok : ∀ q ∈ lw_privs, lw_okq q := by
  show ∀ q ∈ lw_privs_1 ++ (lw_privs_2 ++ (lw_privs_3 ++ (lw_privs_4 ++ (lw_privs_5)))), lw_okq q
  exact List.forall_mem_append.mpr ⟨lw_r1, List.forall_mem_append.mpr ⟨lw_r2, List.forall_mem_append.mpr ⟨lw_r3, List.forall_mem_append.mpr ⟨lw_r4, lw_r5⟩⟩⟩⟩
end
section
def jR0 : String := "PopPan$Batch"
def jT0 : u_T := fun k => match k with
  | 0 => ("PopPan$Batch", "skin", "[I", true)
  | 1 => ("PopPan$Batch", "size", "[I", true)
  | 2 => ("PopPan$Batch", "crack", "[I", true)
  | 3 => ("PopPan$Batch", "warmth", "[I", true)
  | 4 => ("PopPan$Batch", "water", "[I", true)
  | 5 => ("PopPan$Batch", "press", "[I", true)
  | 6 => ("PopPan$Batch", "state", "[I", true)
  | 7 => ("PopPan$Batch", "ended", "[I", true)
  | 8 => ("PopPan$Batch", "large", "[I", true)
  | 9 => ("PopPan$Batch", "rows", "[I", true)
  | 10 => ("PopPan$Batch", "heights", "[I", true)
  | 11 => ("PopPan$Batch", "number", "I", false)
  | 12 => ("PopPan$Batch", "strength", "I", false)
  | 13 => ("PopPan$Batch", "air", "I", false)
  | 14 => ("PopPan$Batch", "whole", "I", false)
  | 15 => ("PopPan$Batch", "gone", "I", false)
  | _ => ("PopPan$Batch", "risen", "Z", false)
def jY0 : Nat → FieldType := fun k => match k with
  | 0 => .array .int
  | 1 => .array .int
  | 2 => .array .int
  | 3 => .array .int
  | 4 => .array .int
  | 5 => .array .int
  | 6 => .array .int
  | 7 => .array .int
  | 8 => .array .int
  | 9 => .array .int
  | 10 => .array .int
  | 11 => .int
  | 12 => .int
  | 13 => .int
  | 14 => .int
  | 15 => .int
  | _ => .boolean
theorem jNm0 : ∀ a, a < 17 → ∀ b, b < 17 → a ≠ b → (jT0 a).2.1 ≠ (jT0 b).2.1 := by decide +kernel
theorem jYo0 : ∀ k, k < 17 → parseFieldDescriptor (jT0 k).2.2.1 = some (jY0 k) := by decide +kernel
theorem jIn0 : ∀ w ∈ u_ws jR0 jT0 17, w ∈ lw_tbl := by decide +kernel
def jR1 : String := "PopPan$Evens"
def jT1 : u_T := fun k => match k with
  | 0 => ("PopPan$Evens", "open", "[I", true)
  | _ => ("PopPan$Evens", "burnt", "[I", true)
def jY1 : Nat → FieldType := fun k => match k with
  | 0 => .array .int
  | _ => .array .int
theorem jNm1 : ∀ a, a < 2 → ∀ b, b < 2 → a ≠ b → (jT1 a).2.1 ≠ (jT1 b).2.1 := by decide +kernel
theorem jYo1 : ∀ k, k < 2 → parseFieldDescriptor (jT1 k).2.2.1 = some (jY1 k) := by decide +kernel
theorem jIn1 : ∀ w ∈ u_ws jR1 jT1 2, w ∈ lw_tbl := by decide +kernel
def jR2 : String := "PopPan$Grains"
def jT2 : u_T := fun k => match k with
  | 0 => ("PopPan$Grains", "places", "[I", true)
  | 1 => ("PopPan$Grains", "traits", "[I", true)
  | _ => ("PopPan$Grains", "number", "I", false)
def jY2 : Nat → FieldType := fun k => match k with
  | 0 => .array .int
  | 1 => .array .int
  | _ => .int
theorem jNm2 : ∀ a, a < 3 → ∀ b, b < 3 → a ≠ b → (jT2 a).2.1 ≠ (jT2 b).2.1 := by decide +kernel
theorem jYo2 : ∀ k, k < 3 → parseFieldDescriptor (jT2 k).2.2.1 = some (jY2 k) := by decide +kernel
theorem jIn2 : ∀ w ∈ u_ws jR2 jT2 3, w ∈ lw_tbl := by decide +kernel
def jR3 : String := "PopPan$Hearing"
def jT3 : u_T := fun k => match k with
  | 0 => ("PopPan$Hearing", "who", "[I", true)
  | 1 => ("PopPan$Hearing", "when", "[I", true)
  | 2 => ("PopPan$Hearing", "number", "I", false)
  | 3 => ("PopPan$Hearing", "least", "I", false)
  | 4 => ("PopPan$Hearing", "greatest", "I", false)
  | 5 => ("PopPan$Hearing", "many", "I", false)
  | 6 => ("PopPan$Hearing", "nearest", "I", false)
  | _ => ("PopPan$Hearing", "off", "I", false)
def jY3 : Nat → FieldType := fun k => match k with
  | 0 => .array .int
  | 1 => .array .int
  | 2 => .int
  | 3 => .int
  | 4 => .int
  | 5 => .int
  | 6 => .int
  | _ => .int
theorem jNm3 : ∀ a, a < 8 → ∀ b, b < 8 → a ≠ b → (jT3 a).2.1 ≠ (jT3 b).2.1 := by decide +kernel
theorem jYo3 : ∀ k, k < 8 → parseFieldDescriptor (jT3 k).2.2.1 = some (jY3 k) := by decide +kernel
theorem jIn3 : ∀ w ∈ u_ws jR3 jT3 8, w ∈ lw_tbl := by decide +kernel
def jR4 : String := "PopPan$Heating"
def jT4 : u_T := fun k => match k with
  | 0 => ("PopPan$Heating", "heats", "[I", true)
  | 1 => ("PopPan$Heating", "shakes", "[I", true)
  | 2 => ("PopPan$Heating", "lids", "[Z", true)
  | _ => ("PopPan$Heating", "seconds", "I", false)
def jY4 : Nat → FieldType := fun k => match k with
  | 0 => .array .int
  | 1 => .array .int
  | 2 => .array .boolean
  | _ => .int
theorem jNm4 : ∀ a, a < 4 → ∀ b, b < 4 → a ≠ b → (jT4 a).2.1 ≠ (jT4 b).2.1 := by decide +kernel
theorem jYo4 : ∀ k, k < 4 → parseFieldDescriptor (jT4 k).2.2.1 = some (jY4 k) := by decide +kernel
theorem jIn4 : ∀ w ∈ u_ws jR4 jT4 4, w ∈ lw_tbl := by decide +kernel
def jR5 : String := "PopPan$Rule"
def jT5 : u_T := fun k => match k with
  | 0 => ("PopPan$Rule", "silence", "I", false)
  | 1 => ("PopPan$Rule", "sum", "I", false)
  | _ => ("PopPan$Rule", "time", "I", false)
def jY5 : Nat → FieldType := fun k => match k with
  | 0 => .int
  | 1 => .int
  | _ => .int
theorem jNm5 : ∀ a, a < 3 → ∀ b, b < 3 → a ≠ b → (jT5 a).2.1 ≠ (jT5 b).2.1 := by decide +kernel
theorem jYo5 : ∀ k, k < 3 → parseFieldDescriptor (jT5 k).2.2.1 = some (jY5 k) := by decide +kernel
theorem jIn5 : ∀ w ∈ u_ws jR5 jT5 3, w ∈ lw_tbl := by decide +kernel
def jR6 : String := "PopPan$Sheet"
def jT6 : u_T := fun k => match k with
  | 0 => ("PopPan$Sheet", "items", "[I", true)
  | 1 => ("PopPan$Sheet", "form", "I", false)
  | _ => ("PopPan$Sheet", "size", "I", false)
def jY6 : Nat → FieldType := fun k => match k with
  | 0 => .array .int
  | 1 => .int
  | _ => .int
theorem jNm6 : ∀ a, a < 3 → ∀ b, b < 3 → a ≠ b → (jT6 a).2.1 ≠ (jT6 b).2.1 := by decide +kernel
theorem jYo6 : ∀ k, k < 3 → parseFieldDescriptor (jT6 k).2.2.1 = some (jY6 k) := by decide +kernel
theorem jIn6 : ∀ w ∈ u_ws jR6 jT6 3, w ∈ lw_tbl := by decide +kernel
def jR7 : String := "PopPan$Text"
def jT7 : u_T := fun k => match k with
  | 0 => ("PopPan$Text", "bytes", "[I", true)
  | 1 => ("PopPan$Text", "size", "I", false)
  | 2 => ("PopPan$Text", "at", "I", false)
  | _ => ("PopPan$Text", "flaw", "I", false)
def jY7 : Nat → FieldType := fun k => match k with
  | 0 => .array .int
  | 1 => .int
  | 2 => .int
  | _ => .int
theorem jNm7 : ∀ a, a < 4 → ∀ b, b < 4 → a ≠ b → (jT7 a).2.1 ≠ (jT7 b).2.1 := by decide +kernel
theorem jYo7 : ∀ k, k < 4 → parseFieldDescriptor (jT7 k).2.2.1 = some (jY7 k) := by decide +kernel
theorem jIn7 : ∀ w ∈ u_ws jR7 jT7 4, w ∈ lw_tbl := by decide +kernel
def jR8 : String := "PopPan"
def jT8 : u_T := fun k => match k with
  | 0 => ("PopPan", "grains", "LPopPan$Grains;", true)
  | 1 => ("PopPan", "settings", "[I", true)
  | 2 => ("PopPan", "texts", "[LPopPan$Text;", true)
  | 3 => ("PopPan", "heating", "LPopPan$Heating;", true)
  | 4 => ("PopPan", "rules", "[LPopPan$Rule;", true)
  | 5 => ("PopPan", "batch", "LPopPan$Batch;", true)
  | 6 => ("PopPan", "trial", "LPopPan$Batch;", true)
  | 7 => ("PopPan", "evens", "LPopPan$Evens;", true)
  | 8 => ("PopPan", "hearing", "LPopPan$Hearing;", true)
  | 9 => ("PopPan", "sheets", "[LPopPan$Sheet;", true)
  | _ => ("PopPan", "latestFinding", "I", false)
def jY8 : Nat → FieldType := fun k => match k with
  | 0 => .object "PopPan$Grains"
  | 1 => .array .int
  | 2 => .array (.object "PopPan$Text")
  | 3 => .object "PopPan$Heating"
  | 4 => .array (.object "PopPan$Rule")
  | 5 => .object "PopPan$Batch"
  | 6 => .object "PopPan$Batch"
  | 7 => .object "PopPan$Evens"
  | 8 => .object "PopPan$Hearing"
  | 9 => .array (.object "PopPan$Sheet")
  | _ => .int
theorem jNm8 : ∀ a, a < 11 → ∀ b, b < 11 → a ≠ b → (jT8 a).2.1 ≠ (jT8 b).2.1 := by decide +kernel
theorem jYo8 : ∀ k, k < 11 → parseFieldDescriptor (jT8 k).2.2.1 = some (jY8 k) := by decide +kernel
theorem jIn8 : ∀ w ∈ u_ws jR8 jT8 11, w ∈ lw_tbl := by decide +kernel
def jR9 : String := "PopPanModel"
def jT9 : u_T := fun k => match k with
  | 0 => ("PopPanModel", "forms", "[I", true)
  | 1 => ("PopPanModel", "sizes", "[I", true)
  | 2 => ("PopPanModel", "items", "[I", true)
  | 3 => ("PopPanModel", "moved", "[I", true)
  | 4 => ("PopPanModel", "latest", "I", false)
  | 5 => ("PopPanModel", "grains", "I", false)
  | 6 => ("PopPanModel", "placeOf", "[I", true)
  | 7 => ("PopPanModel", "told", "[I", true)
  | 8 => ("PopPanModel", "settings", "[I", true)
  | 9 => ("PopPanModel", "text", "[I", true)
  | 10 => ("PopPanModel", "typed", "[I", true)
  | 11 => ("PopPanModel", "at", "I", false)
  | 12 => ("PopPanModel", "heats", "[I", true)
  | 13 => ("PopPanModel", "shakes", "[I", true)
  | 14 => ("PopPanModel", "lids", "[Z", true)
  | 15 => ("PopPanModel", "panSeconds", "I", false)
  | 16 => ("PopPanModel", "lid", "Z", false)
  | 17 => ("PopPanModel", "conditions", "I", false)
  | 18 => ("PopPanModel", "letters", "[I", true)
  | 19 => ("PopPanModel", "numbers", "[I", true)
  | 20 => ("PopPanModel", "tryAir", "I", false)
  | 21 => ("PopPanModel", "tryStrength", "I", false)
  | 22 => ("PopPanModel", "tryEven", "I", false)
  | 23 => ("PopPanModel", "tryShake", "I", false)
  | 24 => ("PopPanModel", "tryGrains", "I", false)
  | 25 => ("PopPanModel", "warm", "[I", true)
  | 26 => ("PopPanModel", "water", "[I", true)
  | 27 => ("PopPanModel", "press", "[I", true)
  | 28 => ("PopPanModel", "state", "[I", true)
  | 29 => ("PopPanModel", "went", "[I", true)
  | 30 => ("PopPanModel", "large", "[I", true)
  | 31 => ("PopPanModel", "rows", "[I", true)
  | 32 => ("PopPanModel", "rowMany", "[I", true)
  | 33 => ("PopPanModel", "soundsOf", "[I", true)
  | 34 => ("PopPanModel", "opens", "[I", true)
  | 35 => ("PopPanModel", "burnts", "[I", true)
  | 36 => ("PopPanModel", "heards", "I", false)
  | 37 => ("PopPanModel", "heardGrain", "[I", true)
  | _ => ("PopPanModel", "heardAt", "[I", true)
def jY9 : Nat → FieldType := fun k => match k with
  | 0 => .array .int
  | 1 => .array .int
  | 2 => .array .int
  | 3 => .array .int
  | 4 => .int
  | 5 => .int
  | 6 => .array .int
  | 7 => .array .int
  | 8 => .array .int
  | 9 => .array .int
  | 10 => .array .int
  | 11 => .int
  | 12 => .array .int
  | 13 => .array .int
  | 14 => .array .boolean
  | 15 => .int
  | 16 => .boolean
  | 17 => .int
  | 18 => .array .int
  | 19 => .array .int
  | 20 => .int
  | 21 => .int
  | 22 => .int
  | 23 => .int
  | 24 => .int
  | 25 => .array .int
  | 26 => .array .int
  | 27 => .array .int
  | 28 => .array .int
  | 29 => .array .int
  | 30 => .array .int
  | 31 => .array .int
  | 32 => .array .int
  | 33 => .array .int
  | 34 => .array .int
  | 35 => .array .int
  | 36 => .int
  | 37 => .array .int
  | _ => .array .int
theorem jNm9 : ∀ a, a < 39 → ∀ b, b < 39 → a ≠ b → (jT9 a).2.1 ≠ (jT9 b).2.1 := by decide +kernel
theorem jYo9 : ∀ k, k < 39 → parseFieldDescriptor (jT9 k).2.2.1 = some (jY9 k) := by decide +kernel
theorem jIn9 : ∀ w ∈ u_ws jR9 jT9 39, w ∈ lw_tbl := by decide +kernel
abbrev jm_cl : List vw_C := [(jR0, jT0, 17), (jR1, jT1, 2), (jR2, jT2, 3), (jR3, jT3, 8), (jR4, jT4, 4), (jR5, jT5, 3), (jR6, jT6, 3), (jR7, jT7, 4), (jR8, jT8, 11), (jR9, jT9, 39)]
def jm_own : List String := ["PopPan$Batch", "PopPan$Evens", "PopPan$Grains", "PopPan$Hearing", "PopPan$Heating", "PopPan$Rule", "PopPan$Sheet", "PopPan$Text", "PopPan", "PopPanModel", "PopPanLaw", "java/util/Arrays"]
def jm_sk : List ((Nat × List (Option Nat)) ⊕ ((Bool × Nat) ⊕ (String × List Nat))) := [
  .inl (8, [some 1, some 4, some 5, some 6, some 10, some 11, some 23, some 35, some 38, some 41, none]),
  .inl (2, [some 2, some 3, none]),
  .inr (.inl (false, 12)),
  .inr (.inl (false, 48)),
  .inr (.inl (false, 6)),
  .inr (.inr ("PopPan$Text", [42, 44, 47, 50])),
  .inl (4, [some 7, some 8, some 9, none]),
  .inr (.inl (false, 200)),
  .inr (.inl (false, 200)),
  .inr (.inl (true, 200)),
  .inr (.inr ("PopPan$Rule", [46, 49, 52])),
  .inl (0, [some 12, some 13, some 14, some 15, some 16, some 17, some 18, some 19, some 20, some 21, some 22, none, none, none, none, none, none]),
  .inr (.inl (false, 12)),
  .inr (.inl (false, 12)),
  .inr (.inl (false, 12)),
  .inr (.inl (false, 12)),
  .inr (.inl (false, 12)),
  .inr (.inl (false, 12)),
  .inr (.inl (false, 12)),
  .inr (.inl (false, 12)),
  .inr (.inl (false, 12)),
  .inr (.inl (false, 48)),
  .inr (.inl (false, 4)),
  .inl (0, [some 24, some 25, some 26, some 27, some 28, some 29, some 30, some 31, some 32, some 33, some 34, none, none, none, none, none, none]),
  .inr (.inl (false, 12)),
  .inr (.inl (false, 12)),
  .inr (.inl (false, 12)),
  .inr (.inl (false, 12)),
  .inr (.inl (false, 12)),
  .inr (.inl (false, 12)),
  .inr (.inl (false, 12)),
  .inr (.inl (false, 12)),
  .inr (.inl (false, 12)),
  .inr (.inl (false, 48)),
  .inr (.inl (false, 4)),
  .inl (1, [some 36, some 37]),
  .inr (.inl (false, 100)),
  .inr (.inl (false, 100)),
  .inl (3, [some 39, some 40, none, none, none, none, none, none]),
  .inr (.inl (false, 12)),
  .inr (.inl (false, 12)),
  .inr (.inr ("PopPan$Sheet", [53, 55, 57, 59])),
  .inl (7, [some 43, none, none, none]),
  .inr (.inl (false, 60)),
  .inl (7, [some 45, none, none, none]),
  .inr (.inl (false, 30)),
  .inl (5, [none, none, none]),
  .inl (7, [some 48, none, none, none]),
  .inr (.inl (false, 30)),
  .inl (5, [none, none, none]),
  .inl (7, [some 51, none, none, none]),
  .inr (.inl (false, 30)),
  .inl (5, [none, none, none]),
  .inl (6, [some 54, none, none]),
  .inr (.inl (false, 60)),
  .inl (6, [some 56, none, none]),
  .inr (.inl (false, 60)),
  .inl (6, [some 58, none, none]),
  .inr (.inl (false, 60)),
  .inl (6, [some 60, none, none]),
  .inr (.inl (false, 60)),
  .inl (9, [some 62, some 63, some 64, some 65, none, none, some 66, some 67, some 68, some 69, some 70, none, some 71, some 72, some 73, none, none, none, some 74, some 75, none, none, none, none, none, some 76, some 77, some 78, some 79, some 80, some 81, some 82, some 83, some 84, some 85, some 86, none, some 87, some 88]),
  .inr (.inl (false, 4)),
  .inr (.inl (false, 4)),
  .inr (.inl (false, 240)),
  .inr (.inl (false, 60)),
  .inr (.inl (false, 12)),
  .inr (.inl (false, 48)),
  .inr (.inl (false, 6)),
  .inr (.inl (false, 240)),
  .inr (.inl (false, 4)),
  .inr (.inl (false, 200)),
  .inr (.inl (false, 200)),
  .inr (.inl (true, 200)),
  .inr (.inl (false, 11)),
  .inr (.inl (false, 11)),
  .inr (.inl (false, 12)),
  .inr (.inl (false, 12)),
  .inr (.inl (false, 12)),
  .inr (.inl (false, 12)),
  .inr (.inl (false, 12)),
  .inr (.inl (false, 12)),
  .inr (.inl (false, 48)),
  .inr (.inl (false, 4)),
  .inr (.inl (false, 200)),
  .inr (.inl (false, 100)),
  .inr (.inl (false, 100)),
  .inr (.inl (false, 12)),
  .inr (.inl (false, 12))]
def jm_stv : List (String × List Int32) := [("TRAIT_LEAST", [0, 1, 1, 0]), ("TRAIT_MOST", [99, 20, 9, 9]), ("SETTING_LEAST", [0, 5, 1, 0, 0, 0]), ("SETTING_MOST", [99, 15, 99, 99, 99, 99])]
def jm_fl : List (Nat × Nat × Nat × Nat × Nat) := [(0, 9, 0, 0, 153), (0, 15, 0, 1, 154), (0, 18, 0, 2, 155), (0, 21, 0, 3, 156), (0, 24, 0, 4, 157), (0, 27, 0, 5, 158), (0, 30, 0, 6, 159), (0, 33, 0, 7, 160), (0, 36, 0, 8, 161), (0, 39, 0, 9, 162), (0, 42, 0, 10, 163), (0, 45, 0, 11, 164), (0, 49, 0, 12, 165), (0, 52, 0, 13, 166), (0, 55, 0, 14, 167), (0, 58, 0, 15, 169), (0, 61, 0, 16, 170), (0, 65, 2, 2, 97), (0, 78, 2, 0, 94), (0, 91, 4, 0, 125), (0, 96, 4, 1, 128), (0, 99, 4, 2, 131), (1, 9, 1, 0, 212), (1, 15, 1, 1, 214), (2, 9, 2, 0, 93), (2, 15, 2, 1, 95), (2, 18, 2, 2, 96), (3, 9, 3, 0, 227), (3, 15, 3, 1, 228), (3, 18, 3, 2, 229), (3, 22, 3, 3, 231), (3, 25, 3, 4, 232), (3, 28, 3, 5, 233), (3, 31, 3, 6, 234), (3, 34, 3, 7, 235), (4, 9, 4, 0, 124), (4, 15, 4, 1, 127), (4, 18, 4, 2, 130), (4, 22, 4, 3, 133), (4, 34, 7, 1, 262), (4, 45, 7, 3, 269), (4, 73, 7, 2, 267), (5, 11, 5, 0, 285), (5, 15, 5, 1, 286), (5, 18, 5, 2, 287), (5, 26, 7, 1, 263), (5, 50, 7, 2, 266), (6, 9, 6, 0, 300), (6, 15, 6, 1, 302), (6, 19, 6, 2, 304), (7, 9, 7, 1, 261), (7, 15, 7, 2, 265), (7, 18, 7, 3, 268), (7, 21, 7, 0, 260), (8, 10, 8, 0, 313), (8, 25, 8, 1, 314), (8, 30, 8, 2, 315), (8, 37, 8, 3, 316), (8, 43, 8, 4, 317), (8, 50, 8, 5, 318), (8, 54, 8, 6, 319), (8, 60, 8, 7, 320), (8, 67, 8, 8, 321), (8, 73, 8, 9, 322), (8, 77, 8, 10, 323), (8, 109, 6, 2, 305), (8, 112, 6, 0, 301), (8, 131, 2, 2, 98), (8, 134, 3, 2, 230), (8, 147, 7, 1, 264), (8, 148, 7, 3, 270), (8, 151, 4, 0, 126), (8, 154, 4, 1, 129), (8, 157, 4, 2, 132), (8, 209, 0, 14, 168), (8, 283, 6, 1, 303), (8, 306, 4, 3, 134), (8, 354, 1, 0, 213), (8, 357, 1, 1, 215), (9, 7, 9, 0, 867), (9, 13, 9, 1, 868), (9, 16, 9, 2, 869), (9, 19, 9, 3, 870), (9, 22, 9, 6, 873), (9, 25, 9, 7, 874), (9, 28, 9, 8, 875), (9, 31, 9, 9, 876), (9, 34, 9, 10, 877), (9, 37, 9, 12, 879), (9, 40, 9, 13, 880), (9, 43, 9, 14, 881), (9, 47, 9, 18, 885), (9, 50, 9, 19, 886), (9, 53, 9, 25, 892), (9, 56, 9, 26, 893), (9, 59, 9, 27, 894), (9, 62, 9, 28, 895), (9, 65, 9, 29, 896), (9, 68, 9, 30, 897), (9, 71, 9, 31, 898), (9, 74, 9, 32, 899), (9, 77, 9, 33, 900), (9, 80, 9, 34, 901), (9, 83, 9, 35, 902), (9, 86, 9, 37, 904), (9, 89, 9, 38, 905), (9, 99, 9, 4, 871), (9, 124, 9, 5, 872), (9, 147, 9, 36, 903), (9, 159, 9, 11, 878), (9, 169, 9, 15, 882), (9, 172, 9, 16, 883), (9, 191, 9, 17, 884), (9, 206, 9, 20, 887), (9, 209, 9, 21, 888), (9, 212, 9, 22, 889), (9, 215, 9, 23, 890), (9, 218, 9, 24, 891)]
def jm_ml : List (Nat × Nat × Nat × Nat) := [(0, 68, 21, 519), (0, 74, 12, 520), (0, 81, 39, 521), (0, 85, 1000, 541), (0, 103, 41, 529), (0, 107, 42, 533), (0, 110, 43, 537), (0, 114, 44, 544), (0, 118, 45, 548), (0, 121, 1001, 552), (0, 126, 46, 555), (0, 129, 52, 579), (0, 133, 51, 606), (0, 137, 58, 607), (1, 18, 68, 648), (1, 22, 72, 664), (1, 26, 71, 660), (2, 22, 6, 372), (2, 26, 12, 841), (3, 37, 100, 778), (3, 41, 47, 782), (3, 47, 1003, 783), (4, 26, 20, 433), (4, 29, 23, 444), (4, 37, 24, 448), (4, 41, 30, 474), (4, 48, 21, 437), (4, 54, 22, 440), (4, 58, 25, 452), (4, 61, 26, 456), (4, 65, 28, 464), (4, 69, 29, 469), (4, 76, 27, 473), (5, 21, 23, 483), (5, 29, 32, 484), (5, 33, 30, 494), (5, 37, 25, 488), (5, 40, 26, 489), (5, 44, 1002, 490), (5, 53, 27, 493), (5, 57, 53, 601), (6, 22, 21, 796), (6, 28, 8, 809), (7, 25, 25, 468), (7, 29, 27, 460), (7, 33, 28, 478), (8, 86, 1, 351), (8, 90, 2, 354), (8, 94, 4, 364), (8, 98, 5, 368), (8, 102, 8, 380), (8, 105, 9, 384), (8, 115, 11, 392), (8, 119, 3, 357), (8, 123, 12, 396), (8, 127, 6, 400), (8, 141, 16, 417), (8, 142, 17, 421), (8, 144, 18, 425), (8, 161, 37, 511), (8, 164, 40, 525), (8, 168, 47, 559), (8, 171, 49, 567), (8, 174, 51, 575), (8, 177, 53, 583), (8, 181, 55, 592), (8, 184, 63, 628), (8, 188, 65, 636), (8, 191, 67, 644), (8, 193, 70, 656), (8, 196, 73, 668), (8, 199, 38, 515), (8, 203, 50, 571), (8, 206, 59, 611), (8, 212, 76, 680), (8, 216, 41, 684), (8, 220, 78, 689), (8, 230, 80, 697), (8, 234, 81, 701), (8, 237, 83, 709), (8, 240, 84, 712), (8, 243, 87, 726), (8, 250, 88, 730), (8, 254, 89, 733), (8, 258, 90, 736), (8, 262, 1004, 739), (8, 267, 92, 746), (8, 273, 94, 754), (8, 274, 95, 758), (8, 276, 97, 766), (8, 279, 101, 784), (8, 280, 103, 792), (8, 286, 106, 805), (8, 289, 107, 810), (8, 294, 110, 823), (8, 297, 1000, 827), (8, 303, 1002, 832), (8, 309, 113, 837), (8, 316, 112, 848), (8, 319, 115, 849), (8, 323, 116, 853), (8, 327, 117, 857), (8, 330, 19, 429), (8, 334, 31, 479), (8, 335, 57, 602), (8, 338, 58, 615), (8, 341, 56, 597), (8, 345, 60, 616), (8, 348, 61, 620), (8, 351, 66, 640), (8, 360, 98, 770), (8, 363, 99, 774), (8, 367, 1003, 715), (9, 95, 120, 993), (9, 105, 119, 989), (9, 111, 121, 997), (9, 115, 124, 1009), (9, 119, 125, 1013), (9, 133, 129, 1029), (9, 136, 130, 1032), (9, 140, 128, 1042), (9, 144, 133, 1047), (9, 154, 137, 1065), (9, 162, 144, 1093), (9, 176, 145, 1097), (9, 180, 146, 1101), (9, 184, 142, 1085), (9, 187, 143, 1089), (9, 194, 141, 1081), (9, 198, 147, 1107), (9, 201, 140, 1077), (9, 221, 153, 1133), (9, 224, 158, 1153), (9, 227, 155, 1141), (9, 230, 156, 1145), (9, 234, 157, 1149), (9, 237, 159, 1157), (9, 240, 152, 1129), (9, 243, 154, 1137), (9, 248, 150, 1121), (9, 251, 151, 1125), (9, 254, 160, 1161), (9, 257, 167, 1188), (9, 261, 169, 1196), (9, 264, 168, 1192), (9, 267, 170, 1200), (9, 270, 165, 1180), (9, 273, 166, 1184), (9, 276, 171, 1204), (9, 279, 163, 1173), (9, 282, 164, 1176), (9, 285, 173, 1212), (9, 288, 177, 1227), (9, 291, 175, 1220), (9, 294, 176, 1223), (9, 297, 180, 1239), (9, 300, 184, 1254), (9, 303, 186, 1262), (9, 308, 187, 1266), (9, 311, 192, 1285), (9, 317, 190, 1278), (9, 321, 191, 1282), (9, 327, 197, 1306), (9, 332, 196, 1302), (9, 339, 199, 1324), (10, 13, 0, 347), (10, 17, 128, 1025), (10, 18, 7, 376), (10, 22, 131, 1038), (10, 23, 10, 388), (10, 27, 132, 1043), (10, 28, 13, 401), (10, 32, 134, 1051), (10, 33, 14, 405), (10, 36, 135, 1055), (10, 37, 15, 413), (10, 40, 136, 1061), (10, 41, 33, 495), (10, 45, 138, 1069), (10, 46, 34, 499), (10, 49, 139, 1073), (10, 50, 35, 503), (10, 53, 148, 1111), (10, 54, 36, 507), (10, 57, 149, 1116), (10, 58, 48, 563), (10, 62, 161, 1165), (10, 63, 54, 587), (10, 66, 162, 1169), (10, 67, 62, 624), (10, 70, 172, 1208), (10, 71, 64, 632), (10, 74, 174, 1216), (10, 75, 69, 652), (10, 78, 178, 1231), (10, 79, 74, 672), (10, 82, 179, 1235), (10, 83, 75, 676), (10, 86, 181, 1242), (10, 87, 77, 685), (10, 90, 182, 1246), (10, 91, 79, 693), (10, 94, 183, 1250), (10, 95, 82, 705), (10, 98, 185, 1258), (10, 99, 85, 718), (10, 103, 188, 1269), (10, 104, 86, 722), (10, 108, 189, 1273), (10, 109, 91, 742), (10, 112, 193, 1288), (10, 113, 93, 750), (10, 116, 194, 1293), (10, 117, 96, 762), (10, 120, 195, 1297), (10, 121, 102, 788), (10, 124, 118, 985), (10, 125, 104, 797), (10, 128, 122, 1001), (10, 129, 105, 801), (10, 132, 123, 1005), (10, 133, 108, 814), (10, 136, 126, 1016), (10, 137, 109, 819), (10, 140, 127, 1021), (10, 141, 111, 828), (10, 144, 198, 1310), (10, 145, 112, 833), (10, 148, 199, 1314), (10, 149, 114, 842), (10, 153, 200, 1318)]
def jm_lc : List (Nat × Nat × Int32 × Nat) := [(8, 180, -100002, 591), (8, 223, -100003, 596), (8, 293, -2147483648, 818), (9, 94, -100000, 1183), (9, 123, -2147483648, 1020)]
def jm_ll : List (Nat × Nat × Int64 × Nat) := [(8, 248, -9223372036854775806, 729), (8, 271, 256, 749), (8, 312, 17, 846), (8, 314, 31, 847), (9, 92, -9223372036854775808, 1281), (9, 103, 3, 992), (9, 109, 2, 996), (9, 127, 99, 1035), (9, 129, 20, 1036), (9, 131, 9, 1037), (9, 150, 5, 1059), (9, 152, 15, 1060), (9, 157, 255, 1068), (9, 165, 48, 1105), (9, 167, 57, 1106), (9, 204, 199, 1115), (9, 246, 200, 1120), (9, 306, 60, 1265), (9, 315, 30, 1277), (9, 325, 256, 1292), (9, 330, 4, 1301), (9, 335, 17, 1322), (9, 337, 31, 1323)]
def jm_sl : List (Nat × Nat × Nat × Nat) := [(8, 135, 2, 409), (8, 138, 3, 411), (8, 224, 0, 360), (8, 227, 1, 362)]
def jMt0 : Nat × MethodName × ByteArray × Nat × Option FieldType × Nat × Bool × Nat × Nat × Nat × Nat × Nat := (8, ⟨"PopPan", "grain", "(IIIII)I"⟩, prog_1_method_2_code, 6, some .int, 3, false, 6, 350, 348, 349, 66)
def jMt1 : Nat × MethodName × ByteArray × Nat × Option FieldType × Nat × Bool × Nat × Nat × Nat × Nat × Nat := (8, ⟨"PopPan", "isOutside", "(III)Z"⟩, prog_1_method_35_code, 3, some .boolean, 0, true, 3, 353, 352, 0, 66)
def jMt2 : Nat × MethodName × ByteArray × Nat × Option FieldType × Nat × Bool × Nat × Nat × Nat × Nat × Nat := (8, ⟨"PopPan", "mayAllBe", "(IIII)Z"⟩, prog_1_method_37_code, 4, some .boolean, 2, true, 4, 356, 355, 0, 66)
def jMt3 : Nat × MethodName × ByteArray × Nat × Option FieldType × Nat × Bool × Nat × Nat × Nat × Nat × Nat := (8, ⟨"PopPan", "mayBe", "(II)Z"⟩, prog_1_method_36_code, 2, some .boolean, 1, true, 2, 359, 358, 0, 66)
def jMt4 : Nat × MethodName × ByteArray × Nat × Option FieldType × Nat × Bool × Nat × Nat × Nat × Nat × Nat := (2, ⟨"PopPan$Grains", "isFull", "()Z"⟩, prog_4_method_2_code, 1, some .boolean, 0, false, 1, 367, 365, 366, 67)
def jMt5 : Nat × MethodName × ByteArray × Nat × Option FieldType × Nat × Bool × Nat × Nat × Nat × Nat × Nat := (2, ⟨"PopPan$Grains", "add", "(IIIII)I"⟩, prog_4_method_4_code, 7, some .int, 1, false, 6, 371, 369, 370, 67)
def jMt6 : Nat × MethodName × ByteArray × Nat × Option FieldType × Nat × Bool × Nat × Nat × Nat × Nat × Nat := (2, ⟨"PopPan$Grains", "put", "(III)V"⟩, prog_4_method_5_code, 4, none, 0, false, 4, 375, 373, 374, 67)
def jMt7 : Nat × MethodName × ByteArray × Nat × Option FieldType × Nat × Bool × Nat × Nat × Nat × Nat × Nat := (8, ⟨"PopPan", "read", "(II)I"⟩, prog_1_method_3_code, 7, some .int, 3, false, 3, 379, 377, 378, 66)
def jMt8 : Nat × MethodName × ByteArray × Nat × Option FieldType × Nat × Bool × Nat × Nat × Nat × Nat × Nat := (6, ⟨"PopPan$Sheet", "isLost", "()Z"⟩, prog_8_method_2_code, 1, some .boolean, 0, false, 1, 383, 381, 382, 74)
def jMt9 : Nat × MethodName × ByteArray × Nat × Option FieldType × Nat × Bool × Nat × Nat × Nat × Nat × Nat := (8, ⟨"PopPan", "finding", "(I)I"⟩, prog_1_method_39_code, 2, some .int, 0, false, 2, 387, 386, 0, 66)
def jMt10 : Nat × MethodName × ByteArray × Nat × Option FieldType × Nat × Bool × Nat × Nat × Nat × Nat × Nat := (8, ⟨"PopPan", "change", "(III)I"⟩, prog_1_method_4_code, 5, some .int, 2, false, 4, 391, 389, 390, 66)
def jMt11 : Nat × MethodName × ByteArray × Nat × Option FieldType × Nat × Bool × Nat × Nat × Nat × Nat × Nat := (2, ⟨"PopPan$Grains", "has", "(I)Z"⟩, prog_4_method_3_code, 2, some .boolean, 0, false, 2, 395, 393, 394, 67)
def jMt12 : Nat × MethodName × ByteArray × Nat × Option FieldType × Nat × Bool × Nat × Nat × Nat × Nat × Nat := (2, ⟨"PopPan$Grains", "trait", "(II)I"⟩, prog_4_method_6_code, 3, some .int, 0, false, 3, 399, 397, 398, 67)
def jMt13 : Nat × MethodName × ByteArray × Nat × Option FieldType × Nat × Bool × Nat × Nat × Nat × Nat × Nat := (8, ⟨"PopPan", "empty", "()I"⟩, prog_1_method_5_code, 2, some .int, 0, false, 1, 404, 402, 403, 66)
def jMt14 : Nat × MethodName × ByteArray × Nat × Option FieldType × Nat × Bool × Nat × Nat × Nat × Nat × Nat := (8, ⟨"PopPan", "set", "(II)I"⟩, prog_1_method_6_code, 4, some .int, 1, false, 3, 408, 406, 407, 66)
def jMt15 : Nat × MethodName × ByteArray × Nat × Option FieldType × Nat × Bool × Nat × Nat × Nat × Nat × Nat := (8, ⟨"PopPan", "type", "(II)I"⟩, prog_1_method_7_code, 3, some .int, 5, false, 3, 416, 414, 415, 66)
def jMt16 : Nat × MethodName × ByteArray × Nat × Option FieldType × Nat × Bool × Nat × Nat × Nat × Nat × Nat := (7, ⟨"PopPan$Text", "isFull", "()Z"⟩, prog_9_method_2_code, 1, some .boolean, 0, false, 1, 420, 418, 419, 72)
def jMt17 : Nat × MethodName × ByteArray × Nat × Option FieldType × Nat × Bool × Nat × Nat × Nat × Nat × Nat := (7, ⟨"PopPan$Text", "add", "(I)V"⟩, prog_9_method_3_code, 2, none, 0, false, 2, 424, 422, 423, 72)
def jMt18 : Nat × MethodName × ByteArray × Nat × Option FieldType × Nat × Bool × Nat × Nat × Nat × Nat × Nat := (8, ⟨"PopPan", "understand", "(I)V"⟩, prog_1_method_40_code, 2, none, 4, false, 2, 428, 427, 1, 66)
def jMt19 : Nat × MethodName × ByteArray × Nat × Option FieldType × Nat × Bool × Nat × Nat × Nat × Nat × Nat := (4, ⟨"PopPan$Heating", "follow", "(LPopPan$Text;)V"⟩, prog_6_method_2_code, 4, none, 3, false, 2, 432, 430, 431, 68)
def jMt20 : Nat × MethodName × ByteArray × Nat × Option FieldType × Nat × Bool × Nat × Nat × Nat × Nat × Nat := (4, ⟨"PopPan$Heating", "coolDown", "()V"⟩, prog_6_method_3_code, 1, none, 1, false, 1, 436, 435, 2, 68)
def jMt21 : Nat × MethodName × ByteArray × Nat × Option FieldType × Nat × Bool × Nat × Nat × Nat × Nat × Nat := (11, ⟨"java/util/Arrays", "fill", "([II)V"⟩, prog_15_method_103_code, 4, none, 0, true, 2, 439, 438, 0, 76)
def jMt22 : Nat × MethodName × ByteArray × Nat × Option FieldType × Nat × Bool × Nat × Nat × Nat × Nat × Nat := (4, ⟨"PopPan$Heating", "putLid", "(Z)V"⟩, prog_6_method_6_code, 3, none, 0, false, 2, 443, 442, 3, 68)
def jMt23 : Nat × MethodName × ByteArray × Nat × Option FieldType × Nat × Bool × Nat × Nat × Nat × Nat × Nat := (7, ⟨"PopPan$Text", "rewind", "()V"⟩, prog_9_method_4_code, 1, none, 0, false, 1, 447, 445, 446, 72)
def jMt24 : Nat × MethodName × ByteArray × Nat × Option FieldType × Nat × Bool × Nat × Nat × Nat × Nat × Nat := (4, ⟨"PopPan$Heating", "addPart", "(LPopPan$Text;)V"⟩, prog_6_method_4_code, 4, none, 2, false, 2, 451, 450, 4, 68)
def jMt25 : Nat × MethodName × ByteArray × Nat × Option FieldType × Nat × Bool × Nat × Nat × Nat × Nat × Nat := (7, ⟨"PopPan$Text", "takes", "(I)Z"⟩, prog_9_method_6_code, 2, some .boolean, 0, false, 2, 455, 453, 454, 72)
def jMt26 : Nat × MethodName × ByteArray × Nat × Option FieldType × Nat × Bool × Nat × Nat × Nat × Nat × Nat := (7, ⟨"PopPan$Text", "number", "(III)I"⟩, prog_9_method_9_code, 6, some .int, 1, false, 4, 459, 457, 458, 72)
def jMt27 : Nat × MethodName × ByteArray × Nat × Option FieldType × Nat × Bool × Nat × Nat × Nat × Nat × Nat := (7, ⟨"PopPan$Text", "failAt", "(I)V"⟩, prog_9_method_5_code, 2, none, 0, false, 2, 463, 461, 462, 72)
def jMt28 : Nat × MethodName × ByteArray × Nat × Option FieldType × Nat × Bool × Nat × Nat × Nat × Nat × Nat := (7, ⟨"PopPan$Text", "needs", "(I)V"⟩, prog_9_method_7_code, 2, none, 1, false, 2, 467, 465, 466, 72)
def jMt29 : Nat × MethodName × ByteArray × Nat × Option FieldType × Nat × Bool × Nat × Nat × Nat × Nat × Nat := (4, ⟨"PopPan$Heating", "addHeat", "(II)V"⟩, prog_6_method_5_code, 4, none, 0, false, 3, 472, 471, 5, 68)
def jMt30 : Nat × MethodName × ByteArray × Nat × Option FieldType × Nat × Bool × Nat × Nat × Nat × Nat × Nat := (7, ⟨"PopPan$Text", "goesOnBehind", "(I)Z"⟩, prog_9_method_8_code, 2, some .boolean, 2, false, 2, 477, 475, 476, 72)
def jMt31 : Nat × MethodName × ByteArray × Nat × Option FieldType × Nat × Bool × Nat × Nat × Nat × Nat × Nat := (5, ⟨"PopPan$Rule", "follow", "(LPopPan$Text;)V"⟩, prog_7_method_2_code, 4, none, 3, false, 2, 482, 480, 481, 73)
def jMt32 : Nat × MethodName × ByteArray × Nat × Option FieldType × Nat × Bool × Nat × Nat × Nat × Nat × Nat := (5, ⟨"PopPan$Rule", "addCondition", "(LPopPan$Text;)V"⟩, prog_7_method_3_code, 2, none, 2, false, 2, 487, 486, 6, 73)
def jMt33 : Nat × MethodName × ByteArray × Nat × Option FieldType × Nat × Bool × Nat × Nat × Nat × Nat × Nat := (8, ⟨"PopPan", "wipe", "(I)I"⟩, prog_1_method_8_code, 3, some .int, 5, false, 2, 498, 496, 497, 66)
def jMt34 : Nat × MethodName × ByteArray × Nat × Option FieldType × Nat × Bool × Nat × Nat × Nat × Nat × Nat := (8, ⟨"PopPan", "fault", "(I)I"⟩, prog_1_method_9_code, 2, some .int, 1, false, 2, 502, 500, 501, 66)
def jMt35 : Nat × MethodName × ByteArray × Nat × Option FieldType × Nat × Bool × Nat × Nat × Nat × Nat × Nat := (8, ⟨"PopPan", "pan", "(II)I"⟩, prog_1_method_10_code, 3, some .int, 1, false, 3, 506, 504, 505, 66)
def jMt36 : Nat × MethodName × ByteArray × Nat × Option FieldType × Nat × Bool × Nat × Nat × Nat × Nat × Nat := (8, ⟨"PopPan", "after", "(III)I"⟩, prog_1_method_11_code, 4, some .int, 4, false, 4, 510, 508, 509, 66)
def jMt37 : Nat × MethodName × ByteArray × Nat × Option FieldType × Nat × Bool × Nat × Nat × Nat × Nat × Nat := (8, ⟨"PopPan", "fillPan", "()V"⟩, prog_1_method_41_code, 1, none, 2, false, 1, 514, 513, 7, 66)
def jMt38 : Nat × MethodName × ByteArray × Nat × Option FieldType × Nat × Bool × Nat × Nat × Nat × Nat × Nat := (0, ⟨"PopPan$Batch", "fill", "(LPopPan$Grains;II)V"⟩, prog_2_method_2_code, 5, none, 1, false, 4, 518, 516, 517, 69)
def jMt39 : Nat × MethodName × ByteArray × Nat × Option FieldType × Nat × Bool × Nat × Nat × Nat × Nat × Nat := (0, ⟨"PopPan$Batch", "putOnTop", "(II)V"⟩, prog_2_method_3_code, 3, none, 0, false, 3, 524, 523, 8, 69)
def jMt40 : Nat × MethodName × ByteArray × Nat × Option FieldType × Nat × Bool × Nat × Nat × Nat × Nat × Nat := (0, ⟨"PopPan$Batch", "goOn", "(LPopPan$Heating;I)V"⟩, prog_2_method_6_code, 4, none, 3, false, 3, 528, 526, 527, 69)
def jMt41 : Nat × MethodName × ByteArray × Nat × Option FieldType × Nat × Bool × Nat × Nat × Nat × Nat × Nat := (0, ⟨"PopPan$Batch", "second", "(IIZ)V"⟩, prog_2_method_9_code, 6, none, 2, false, 4, 532, 530, 531, 69)
def jMt42 : Nat × MethodName × ByteArray × Nat × Option FieldType × Nat × Bool × Nat × Nat × Nat × Nat × Nat := (0, ⟨"PopPan$Batch", "clearRows", "()V"⟩, prog_2_method_10_code, 6, none, 0, false, 1, 536, 535, 9, 69)
def jMt43 : Nat × MethodName × ByteArray × Nat × Option FieldType × Nat × Bool × Nat × Nat × Nat × Nat × Nat := (0, ⟨"PopPan$Batch", "turnRow", "(I)V"⟩, prog_2_method_11_code, 5, none, 1, false, 2, 540, 539, 10, 69)
def jMt44 : Nat × MethodName × ByteArray × Nat × Option FieldType × Nat × Bool × Nat × Nat × Nat × Nat × Nat := (0, ⟨"PopPan$Batch", "warmRow", "(III)V"⟩, prog_2_method_12_code, 10, none, 0, false, 4, 547, 546, 11, 69)
def jMt45 : Nat × MethodName × ByteArray × Nat × Option FieldType × Nat × Bool × Nat × Nat × Nat × Nat × Nat := (0, ⟨"PopPan$Batch", "strain", "(I)V"⟩, prog_2_method_13_code, 5, none, 1, false, 2, 551, 550, 12, 69)
def jMt46 : Nat × MethodName × ByteArray × Nat × Option FieldType × Nat × Bool × Nat × Nat × Nat × Nat × Nat := (0, ⟨"PopPan$Batch", "end", "(II)V"⟩, prog_2_method_14_code, 3, none, 0, false, 3, 558, 557, 13, 69)
def jMt47 : Nat × MethodName × ByteArray × Nat × Option FieldType × Nat × Bool × Nat × Nat × Nat × Nat × Nat := (0, ⟨"PopPan$Batch", "tell", "(II)I"⟩, prog_2_method_15_code, 3, some .int, 0, false, 3, 562, 560, 561, 69)
def jMt48 : Nat × MethodName × ByteArray × Nat × Option FieldType × Nat × Bool × Nat × Nat × Nat × Nat × Nat := (8, ⟨"PopPan", "sounds", "(IZ)I"⟩, prog_1_method_12_code, 3, some .int, 5, false, 3, 566, 564, 565, 66)
def jMt49 : Nat × MethodName × ByteArray × Nat × Option FieldType × Nat × Bool × Nat × Nat × Nat × Nat × Nat := (8, ⟨"PopPan", "cook", "(I)V"⟩, prog_1_method_42_code, 2, none, 4, false, 2, 570, 569, 14, 66)
def jMt50 : Nat × MethodName × ByteArray × Nat × Option FieldType × Nat × Bool × Nat × Nat × Nat × Nat × Nat := (0, ⟨"PopPan$Batch", "settle", "(LPopPan$Heating;I)V"⟩, prog_2_method_7_code, 4, none, 3, false, 3, 574, 572, 573, 69)
def jMt51 : Nat × MethodName × ByteArray × Nat × Option FieldType × Nat × Bool × Nat × Nat × Nat × Nat × Nat := (0, ⟨"PopPan$Batch", "openAt", "(I)I"⟩, prog_2_method_17_code, 4, some .int, 1, false, 2, 578, 576, 577, 69)
def jMt52 : Nat × MethodName × ByteArray × Nat × Option FieldType × Nat × Bool × Nat × Nat × Nat × Nat × Nat := (0, ⟨"PopPan$Batch", "isOpenAt", "(II)Z"⟩, prog_2_method_16_code, 3, some .boolean, 0, false, 3, 582, 581, 15, 69)
def jMt53 : Nat × MethodName × ByteArray × Nat × Option FieldType × Nat × Bool × Nat × Nat × Nat × Nat × Nat := (0, ⟨"PopPan$Batch", "goneIn", "(I)I"⟩, prog_2_method_22_code, 4, some .int, 0, false, 2, 586, 584, 585, 69)
def jMt54 : Nat × MethodName × ByteArray × Nat × Option FieldType × Nat × Bool × Nat × Nat × Nat × Nat × Nat := (8, ⟨"PopPan", "stop", "(II)I"⟩, prog_1_method_13_code, 3, some .int, 5, false, 3, 590, 588, 589, 66)
def jMt55 : Nat × MethodName × ByteArray × Nat × Option FieldType × Nat × Bool × Nat × Nat × Nat × Nat × Nat := (8, ⟨"PopPan", "tellRule", "(II)I"⟩, prog_1_method_45_code, 4, some .int, 4, false, 3, 595, 594, 16, 66)
def jMt56 : Nat × MethodName × ByteArray × Nat × Option FieldType × Nat × Bool × Nat × Nat × Nat × Nat × Nat := (5, ⟨"PopPan$Rule", "secondsUntilStop", "(LPopPan$Batch;)I"⟩, prog_7_method_4_code, 6, some .int, 1, false, 2, 600, 598, 599, 73)
def jMt57 : Nat × MethodName × ByteArray × Nat × Option FieldType × Nat × Bool × Nat × Nat × Nat × Nat × Nat := (0, ⟨"PopPan$Batch", "wholeAt", "(I)I"⟩, prog_2_method_19_code, 4, some .int, 2, false, 2, 605, 603, 604, 69)
def jMt58 : Nat × MethodName × ByteArray × Nat × Option FieldType × Nat × Bool × Nat × Nat × Nat × Nat × Nat := (0, ⟨"PopPan$Batch", "burntAt", "(I)I"⟩, prog_2_method_18_code, 4, some .int, 0, false, 2, 610, 608, 609, 69)
def jMt59 : Nat × MethodName × ByteArray × Nat × Option FieldType × Nat × Bool × Nat × Nat × Nat × Nat × Nat := (0, ⟨"PopPan$Batch", "largeAt", "(I)I"⟩, prog_2_method_20_code, 4, some .int, 1, false, 2, 614, 612, 613, 69)
def jMt60 : Nat × MethodName × ByteArray × Nat × Option FieldType × Nat × Bool × Nat × Nat × Nat × Nat × Nat := (0, ⟨"PopPan$Batch", "brownedAt", "(II)I"⟩, prog_2_method_21_code, 5, some .int, 1, false, 3, 619, 617, 618, 69)
def jMt61 : Nat × MethodName × ByteArray × Nat × Option FieldType × Nat × Bool × Nat × Nat × Nat × Nat × Nat := (8, ⟨"PopPan", "worth", "(I)I"⟩, prog_1_method_47_code, 3, some .int, 3, false, 2, 623, 622, 17, 66)
def jMt62 : Nat × MethodName × ByteArray × Nat × Option FieldType × Nat × Bool × Nat × Nat × Nat × Nat × Nat := (8, ⟨"PopPan", "best", "()I"⟩, prog_1_method_14_code, 1, some .int, 6, false, 1, 627, 625, 626, 66)
def jMt63 : Nat × MethodName × ByteArray × Nat × Option FieldType × Nat × Bool × Nat × Nat × Nat × Nat × Nat := (8, ⟨"PopPan", "bestRule", "()I"⟩, prog_1_method_46_code, 5, some .int, 5, false, 1, 631, 630, 18, 66)
def jMt64 : Nat × MethodName × ByteArray × Nat × Option FieldType × Nat × Bool × Nat × Nat × Nat × Nat × Nat := (8, ⟨"PopPan", "even", "(II)I"⟩, prog_1_method_15_code, 3, some .int, 5, false, 3, 635, 633, 634, 66)
def jMt65 : Nat × MethodName × ByteArray × Nat × Option FieldType × Nat × Bool × Nat × Nat × Nat × Nat × Nat := (8, ⟨"PopPan", "tryHeats", "(I)V"⟩, prog_1_method_48_code, 3, none, 4, false, 2, 639, 638, 19, 66)
def jMt66 : Nat × MethodName × ByteArray × Nat × Option FieldType × Nat × Bool × Nat × Nat × Nat × Nat × Nat := (0, ⟨"PopPan$Batch", "settleEvenly", "(II)V"⟩, prog_2_method_8_code, 4, none, 3, false, 3, 643, 641, 642, 69)
def jMt67 : Nat × MethodName × ByteArray × Nat × Option FieldType × Nat × Bool × Nat × Nat × Nat × Nat × Nat := (1, ⟨"PopPan$Evens", "tell", "(I)I"⟩, prog_3_method_2_code, 3, some .int, 1, false, 2, 647, 645, 646, 70)
def jMt68 : Nat × MethodName × ByteArray × Nat × Option FieldType × Nat × Bool × Nat × Nat × Nat × Nat × Nat := (1, ⟨"PopPan$Evens", "bestHeat", "()I"⟩, prog_3_method_3_code, 3, some .int, 0, false, 1, 651, 650, 20, 70)
def jMt69 : Nat × MethodName × ByteArray × Nat × Option FieldType × Nat × Bool × Nat × Nat × Nat × Nat × Nat := (8, ⟨"PopPan", "front", "(II)I"⟩, prog_1_method_16_code, 3, some .int, 5, false, 3, 655, 653, 654, 66)
def jMt70 : Nat × MethodName × ByteArray × Nat × Option FieldType × Nat × Bool × Nat × Nat × Nat × Nat × Nat := (1, ⟨"PopPan$Evens", "frontSize", "()I"⟩, prog_3_method_6_code, 3, some .int, 2, false, 1, 659, 657, 658, 70)
def jMt71 : Nat × MethodName × ByteArray × Nat × Option FieldType × Nat × Bool × Nat × Nat × Nat × Nat × Nat := (1, ⟨"PopPan$Evens", "isInFront", "(I)Z"⟩, prog_3_method_5_code, 3, some .boolean, 1, false, 2, 663, 662, 21, 70)
def jMt72 : Nat × MethodName × ByteArray × Nat × Option FieldType × Nat × Bool × Nat × Nat × Nat × Nat × Nat := (1, ⟨"PopPan$Evens", "isBetter", "(II)Z"⟩, prog_3_method_4_code, 3, some .boolean, 0, false, 3, 667, 666, 22, 70)
def jMt73 : Nat × MethodName × ByteArray × Nat × Option FieldType × Nat × Bool × Nat × Nat × Nat × Nat × Nat := (1, ⟨"PopPan$Evens", "frontHeat", "(I)I"⟩, prog_3_method_7_code, 4, some .int, 2, false, 2, 671, 669, 670, 70)
def jMt74 : Nat × MethodName × ByteArray × Nat × Option FieldType × Nat × Bool × Nat × Nat × Nat × Nat × Nat := (8, ⟨"PopPan", "air", "(II)I"⟩, prog_1_method_17_code, 7, some .int, 4, false, 3, 675, 673, 674, 66)
def jMt75 : Nat × MethodName × ByteArray × Nat × Option FieldType × Nat × Bool × Nat × Nat × Nat × Nat × Nat := (8, ⟨"PopPan", "shaken", "(II)I"⟩, prog_1_method_18_code, 6, some .int, 5, false, 3, 679, 677, 678, 66)
def jMt76 : Nat × MethodName × ByteArray × Nat × Option FieldType × Nat × Bool × Nat × Nat × Nat × Nat × Nat := (0, ⟨"PopPan$Batch", "become", "(LPopPan$Batch;)V"⟩, prog_2_method_5_code, 2, none, 1, false, 2, 683, 681, 682, 69)
def jMt77 : Nat × MethodName × ByteArray × Nat × Option FieldType × Nat × Bool × Nat × Nat × Nat × Nat × Nat := (8, ⟨"PopPan", "late", "(I)I"⟩, prog_1_method_19_code, 4, some .int, 5, false, 2, 688, 686, 687, 66)
def jMt78 : Nat × MethodName × ByteArray × Nat × Option FieldType × Nat × Bool × Nat × Nat × Nat × Nat × Nat := (0, ⟨"PopPan$Batch", "takeOut", "(I)V"⟩, prog_2_method_4_code, 2, none, 0, false, 2, 692, 690, 691, 69)
def jMt79 : Nat × MethodName × ByteArray × Nat × Option FieldType × Nat × Bool × Nat × Nat × Nat × Nat × Nat := (8, ⟨"PopPan", "sieved", "(III)I"⟩, prog_1_method_20_code, 4, some .int, 5, false, 4, 696, 694, 695, 66)
def jMt80 : Nat × MethodName × ByteArray × Nat × Option FieldType × Nat × Bool × Nat × Nat × Nat × Nat × Nat := (8, ⟨"PopPan", "sieve", "(II)V"⟩, prog_1_method_43_code, 4, none, 4, false, 3, 700, 699, 23, 66)
def jMt81 : Nat × MethodName × ByteArray × Nat × Option FieldType × Nat × Bool × Nat × Nat × Nat × Nat × Nat := (8, ⟨"PopPan", "tellSieved", "(II)I"⟩, prog_1_method_44_code, 3, some .int, 3, false, 3, 704, 703, 24, 66)
def jMt82 : Nat × MethodName × ByteArray × Nat × Option FieldType × Nat × Bool × Nat × Nat × Nat × Nat × Nat := (8, ⟨"PopPan", "jar", "(III)I"⟩, prog_1_method_21_code, 6, some .int, 3, false, 4, 708, 706, 707, 66)
def jMt83 : Nat × MethodName × ByteArray × Nat × Option FieldType × Nat × Bool × Nat × Nat × Nat × Nat × Nat := (8, ⟨"PopPan", "isNoWater", "(I)Z"⟩, prog_1_method_38_code, 1, some .boolean, 2, true, 1, 711, 710, 0, 66)
def jMt84 : Nat × MethodName × ByteArray × Nat × Option FieldType × Nat × Bool × Nat × Nat × Nat × Nat × Nat := (8, ⟨"PopPan", "nextDay", "(II)I"⟩, prog_1_method_53_code, 3, some .int, 1, true, 2, 714, 713, 0, 66)
def jMt85 : Nat × MethodName × ByteArray × Nat × Option FieldType × Nat × Bool × Nat × Nat × Nat × Nat × Nat := (8, ⟨"PopPan", "length", "(IIII)I"⟩, prog_1_method_22_code, 7, some .int, 3, false, 5, 721, 719, 720, 66)
def jMt86 : Nat × MethodName × ByteArray × Nat × Option FieldType × Nat × Bool × Nat × Nat × Nat × Nat × Nat := (8, ⟨"PopPan", "cracked", "(IIIII)J"⟩, prog_1_method_23_code, 12, some .long, 2, false, 6, 725, 723, 724, 66)
def jMt87 : Nat × MethodName × ByteArray × Nat × Option FieldType × Nat × Bool × Nat × Nat × Nat × Nat × Nat := (8, ⟨"PopPan", "isNoTrial", "(III)Z"⟩, prog_1_method_54_code, 3, some .boolean, 1, true, 3, 728, 727, 0, 66)
def jMt88 : Nat × MethodName × ByteArray × Nat × Option FieldType × Nat × Bool × Nat × Nat × Nat × Nat × Nat := (8, ⟨"PopPan", "ways", "(IIII)J"⟩, prog_1_method_56_code, 4, some .long, 1, true, 4, 732, 731, 0, 66)
def jMt89 : Nat × MethodName × ByteArray × Nat × Option FieldType × Nat × Bool × Nat × Nat × Nat × Nat × Nat := (8, ⟨"PopPan", "choose", "(II)J"⟩, prog_1_method_55_code, 5, some .long, 0, true, 2, 735, 734, 0, 66)
def jMt90 : Nat × MethodName × ByteArray × Nat × Option FieldType × Nat × Bool × Nat × Nat × Nat × Nat × Nat := (8, ⟨"PopPan", "commonDivisor", "(JJ)J"⟩, prog_1_method_58_code, 11, some .long, 0, true, 2, 738, 737, 0, 66)
def jMt91 : Nat × MethodName × ByteArray × Nat × Option FieldType × Nat × Bool × Nat × Nat × Nat × Nat × Nat := (8, ⟨"PopPan", "span", "(IIIII)I"⟩, prog_1_method_24_code, 10, some .int, 3, false, 6, 745, 743, 744, 66)
def jMt92 : Nat × MethodName × ByteArray × Nat × Option FieldType × Nat × Bool × Nat × Nat × Nat × Nat × Nat := (8, ⟨"PopPan", "waysFromTo", "(IIIII)J"⟩, prog_1_method_57_code, 8, some .long, 2, true, 5, 748, 747, 0, 66)
def jMt93 : Nat × MethodName × ByteArray × Nat × Option FieldType × Nat × Bool × Nat × Nat × Nat × Nat × Nat := (8, ⟨"PopPan", "heard", "(II)I"⟩, prog_1_method_25_code, 3, some .int, 1, false, 3, 753, 751, 752, 66)
def jMt94 : Nat × MethodName × ByteArray × Nat × Option FieldType × Nat × Bool × Nat × Nat × Nat × Nat × Nat := (3, ⟨"PopPan$Hearing", "isFull", "()Z"⟩, prog_5_method_2_code, 1, some .boolean, 0, false, 1, 757, 755, 756, 71)
def jMt95 : Nat × MethodName × ByteArray × Nat × Option FieldType × Nat × Bool × Nat × Nat × Nat × Nat × Nat := (3, ⟨"PopPan$Hearing", "add", "(II)V"⟩, prog_5_method_3_code, 3, none, 0, false, 3, 761, 759, 760, 71)
def jMt96 : Nat × MethodName × ByteArray × Nat × Option FieldType × Nat × Bool × Nat × Nat × Nat × Nat × Nat := (8, ⟨"PopPan", "fits", "(I)I"⟩, prog_1_method_26_code, 2, some .int, 5, false, 2, 765, 763, 764, 66)
def jMt97 : Nat × MethodName × ByteArray × Nat × Option FieldType × Nat × Bool × Nat × Nat × Nat × Nat × Nat := (8, ⟨"PopPan", "tryStrengths", "()V"⟩, prog_1_method_49_code, 2, none, 4, false, 1, 769, 768, 25, 66)
def jMt98 : Nat × MethodName × ByteArray × Nat × Option FieldType × Nat × Bool × Nat × Nat × Nat × Nat × Nat := (3, ⟨"PopPan$Hearing", "begin", "()V"⟩, prog_5_method_4_code, 1, none, 0, false, 1, 773, 771, 772, 71)
def jMt99 : Nat × MethodName × ByteArray × Nat × Option FieldType × Nat × Bool × Nat × Nat × Nat × Nat × Nat := (3, ⟨"PopPan$Hearing", "judge", "(ILPopPan$Batch;)V"⟩, prog_5_method_5_code, 4, none, 2, false, 3, 777, 775, 776, 71)
def jMt100 : Nat × MethodName × ByteArray × Nat × Option FieldType × Nat × Bool × Nat × Nat × Nat × Nat × Nat := (3, ⟨"PopPan$Hearing", "offIn", "(LPopPan$Batch;)I"⟩, prog_5_method_6_code, 5, some .int, 1, false, 2, 781, 780, 26, 71)
def jMt101 : Nat × MethodName × ByteArray × Nat × Option FieldType × Nat × Bool × Nat × Nat × Nat × Nat × Nat := (3, ⟨"PopPan$Hearing", "tell", "(I)I"⟩, prog_5_method_7_code, 2, some .int, 0, false, 2, 787, 785, 786, 71)
def jMt102 : Nat × MethodName × ByteArray × Nat × Option FieldType × Nat × Bool × Nat × Nat × Nat × Nat × Nat := (8, ⟨"PopPan", "sheet", "(III)I"⟩, prog_1_method_27_code, 4, some .int, 2, false, 4, 791, 789, 790, 66)
def jMt103 : Nat × MethodName × ByteArray × Nat × Option FieldType × Nat × Bool × Nat × Nat × Nat × Nat × Nat := (6, ⟨"PopPan$Sheet", "renew", "(II)V"⟩, prog_8_method_3_code, 3, none, 1, false, 3, 795, 793, 794, 74)
def jMt104 : Nat × MethodName × ByteArray × Nat × Option FieldType × Nat × Bool × Nat × Nat × Nat × Nat × Nat := (8, ⟨"PopPan", "lose", "(I)I"⟩, prog_1_method_28_code, 2, some .int, 1, false, 2, 800, 798, 799, 66)
def jMt105 : Nat × MethodName × ByteArray × Nat × Option FieldType × Nat × Bool × Nat × Nat × Nat × Nat × Nat := (8, ⟨"PopPan", "lay", "(IIII)I"⟩, prog_1_method_29_code, 6, some .int, 2, false, 5, 804, 802, 803, 66)
def jMt106 : Nat × MethodName × ByteArray × Nat × Option FieldType × Nat × Bool × Nat × Nat × Nat × Nat × Nat := (6, ⟨"PopPan$Sheet", "objection", "(II)I"⟩, prog_8_method_4_code, 3, some .int, 1, false, 3, 808, 806, 807, 74)
def jMt107 : Nat × MethodName × ByteArray × Nat × Option FieldType × Nat × Bool × Nat × Nat × Nat × Nat × Nat := (6, ⟨"PopPan$Sheet", "put", "(II)V"⟩, prog_8_method_6_code, 3, none, 0, false, 3, 813, 811, 812, 74)
def jMt108 : Nat × MethodName × ByteArray × Nat × Option FieldType × Nat × Bool × Nat × Nat × Nat × Nat × Nat := (8, ⟨"PopPan", "get", "(III)I"⟩, prog_1_method_30_code, 5, some .int, 2, false, 4, 817, 815, 816, 66)
def jMt109 : Nat × MethodName × ByteArray × Nat × Option FieldType × Nat × Bool × Nat × Nat × Nat × Nat × Nat := (8, ⟨"PopPan", "copy", "(IIIII)I"⟩, prog_1_method_31_code, 8, some .int, 1, false, 6, 822, 820, 821, 66)
def jMt110 : Nat × MethodName × ByteArray × Nat × Option FieldType × Nat × Bool × Nat × Nat × Nat × Nat × Nat := (6, ⟨"PopPan$Sheet", "hasStretch", "(II)Z"⟩, prog_8_method_5_code, 3, some .boolean, 0, false, 3, 826, 824, 825, 74)
def jMt111 : Nat × MethodName × ByteArray × Nat × Option FieldType × Nat × Bool × Nat × Nat × Nat × Nat × Nat := (8, ⟨"PopPan", "write", "(II)I"⟩, prog_1_method_32_code, 6, some .int, 5, false, 3, 831, 829, 830, 66)
def jMt112 : Nat × MethodName × ByteArray × Nat × Option FieldType × Nat × Bool × Nat × Nat × Nat × Nat × Nat := (8, ⟨"PopPan", "count", "(I)I"⟩, prog_1_method_33_code, 2, some .int, 2, false, 2, 836, 834, 835, 66)
def jMt113 : Nat × MethodName × ByteArray × Nat × Option FieldType × Nat × Bool × Nat × Nat × Nat × Nat × Nat := (2, ⟨"PopPan$Grains", "allWater", "()I"⟩, prog_4_method_7_code, 3, some .int, 1, false, 1, 840, 838, 839, 67)
def jMt114 : Nat × MethodName × ByteArray × Nat × Option FieldType × Nat × Bool × Nat × Nat × Nat × Nat × Nat := (8, ⟨"PopPan", "digest", "()J"⟩, prog_1_method_34_code, 4, some .long, 7, false, 1, 845, 843, 844, 66)
def jMt115 : Nat × MethodName × ByteArray × Nat × Option FieldType × Nat × Bool × Nat × Nat × Nat × Nat × Nat := (8, ⟨"PopPan", "digestGrains", "(JI)J"⟩, prog_1_method_50_code, 8, some .long, 4, false, 3, 852, 851, 27, 66)
def jMt116 : Nat × MethodName × ByteArray × Nat × Option FieldType × Nat × Bool × Nat × Nat × Nat × Nat × Nat := (8, ⟨"PopPan", "digestRules", "(J)J"⟩, prog_1_method_51_code, 7, some .long, 6, false, 2, 856, 855, 28, 66)
def jMt117 : Nat × MethodName × ByteArray × Nat × Option FieldType × Nat × Bool × Nat × Nat × Nat × Nat × Nat := (8, ⟨"PopPan", "digestFits", "(J)J"⟩, prog_1_method_52_code, 7, some .long, 5, false, 2, 860, 859, 29, 66)
def jMt118 : Nat × MethodName × ByteArray × Nat × Option FieldType × Nat × Bool × Nat × Nat × Nat × Nat × Nat := (9, ⟨"PopPanModel", "sheet", "(III)I"⟩, prog_11_method_9_code, 5, some .int, 2, false, 4, 988, 986, 987, 75)
def jMt119 : Nat × MethodName × ByteArray × Nat × Option FieldType × Nat × Bool × Nat × Nat × Nat × Nat × Nat := (9, ⟨"PopPanModel", "isSheet", "(I)Z"⟩, prog_11_method_8_code, 1, some .boolean, 1, true, 1, 991, 990, 0, 75)
def jMt120 : Nat × MethodName × ByteArray × Nat × Option FieldType × Nat × Bool × Nat × Nat × Nat × Nat × Nat := (9, ⟨"PopPanModel", "in", "(JJJ)Z"⟩, prog_11_method_3_code, 6, some .boolean, 0, true, 3, 995, 994, 0, 75)
def jMt121 : Nat × MethodName × ByteArray × Nat × Option FieldType × Nat × Bool × Nat × Nat × Nat × Nat × Nat := (9, ⟨"PopPanModel", "met", "(I)I"⟩, prog_11_method_7_code, 2, some .int, 0, false, 2, 1000, 999, 30, 75)
def jMt122 : Nat × MethodName × ByteArray × Nat × Option FieldType × Nat × Bool × Nat × Nat × Nat × Nat × Nat := (9, ⟨"PopPanModel", "lose", "(I)I"⟩, prog_11_method_10_code, 2, some .int, 2, false, 2, 1004, 1002, 1003, 75)
def jMt123 : Nat × MethodName × ByteArray × Nat × Option FieldType × Nat × Bool × Nat × Nat × Nat × Nat × Nat := (9, ⟨"PopPanModel", "lay", "(IIII)I"⟩, prog_11_method_13_code, 6, some .int, 2, false, 5, 1008, 1006, 1007, 75)
def jMt124 : Nat × MethodName × ByteArray × Nat × Option FieldType × Nat × Bool × Nat × Nat × Nat × Nat × Nat := (9, ⟨"PopPanModel", "lacks", "(III)I"⟩, prog_11_method_11_code, 4, some .int, 1, false, 4, 1012, 1011, 31, 75)
def jMt125 : Nat × MethodName × ByteArray × Nat × Option FieldType × Nat × Bool × Nat × Nat × Nat × Nat × Nat := (9, ⟨"PopPanModel", "cut", "(II)I"⟩, prog_11_method_12_code, 2, some .int, 0, true, 2, 1015, 1014, 0, 75)
def jMt126 : Nat × MethodName × ByteArray × Nat × Option FieldType × Nat × Bool × Nat × Nat × Nat × Nat × Nat := (9, ⟨"PopPanModel", "get", "(III)I"⟩, prog_11_method_14_code, 4, some .int, 2, false, 4, 1019, 1017, 1018, 75)
def jMt127 : Nat × MethodName × ByteArray × Nat × Option FieldType × Nat × Bool × Nat × Nat × Nat × Nat × Nat := (9, ⟨"PopPanModel", "copy", "(IIIII)I"⟩, prog_11_method_15_code, 7, some .int, 2, false, 6, 1024, 1022, 1023, 75)
def jMt128 : Nat × MethodName × ByteArray × Nat × Option FieldType × Nat × Bool × Nat × Nat × Nat × Nat × Nat := (9, ⟨"PopPanModel", "grain", "(IIIII)I"⟩, prog_11_method_19_code, 6, some .int, 2, false, 6, 1028, 1026, 1027, 75)
def jMt129 : Nat × MethodName × ByteArray × Nat × Option FieldType × Nat × Bool × Nat × Nat × Nat × Nat × Nat := (9, ⟨"PopPanModel", "isPlace", "(I)Z"⟩, prog_11_method_18_code, 1, some .boolean, 1, true, 1, 1031, 1030, 0, 75)
def jMt130 : Nat × MethodName × ByteArray × Nat × Option FieldType × Nat × Bool × Nat × Nat × Nat × Nat × Nat := (9, ⟨"PopPanModel", "isOf", "(II)Z"⟩, prog_11_method_17_code, 2, some .boolean, 1, true, 2, 1034, 1033, 0, 75)
def jMt131 : Nat × MethodName × ByteArray × Nat × Option FieldType × Nat × Bool × Nat × Nat × Nat × Nat × Nat := (9, ⟨"PopPanModel", "read", "(II)I"⟩, prog_11_method_20_code, 6, some .int, 3, false, 3, 1041, 1039, 1040, 75)
def jMt132 : Nat × MethodName × ByteArray × Nat × Option FieldType × Nat × Bool × Nat × Nat × Nat × Nat × Nat := (9, ⟨"PopPanModel", "change", "(III)I"⟩, prog_11_method_21_code, 5, some .int, 2, false, 4, 1046, 1044, 1045, 75)
def jMt133 : Nat × MethodName × ByteArray × Nat × Option FieldType × Nat × Bool × Nat × Nat × Nat × Nat × Nat := (9, ⟨"PopPanModel", "isGrain", "(I)Z"⟩, prog_11_method_16_code, 2, some .boolean, 1, false, 2, 1050, 1049, 32, 75)
def jMt134 : Nat × MethodName × ByteArray × Nat × Option FieldType × Nat × Bool × Nat × Nat × Nat × Nat × Nat := (9, ⟨"PopPanModel", "empty", "()I"⟩, prog_11_method_22_code, 2, some .int, 0, false, 1, 1054, 1052, 1053, 75)
def jMt135 : Nat × MethodName × ByteArray × Nat × Option FieldType × Nat × Bool × Nat × Nat × Nat × Nat × Nat := (9, ⟨"PopPanModel", "set", "(II)I"⟩, prog_11_method_23_code, 5, some .int, 1, false, 3, 1058, 1056, 1057, 75)
def jMt136 : Nat × MethodName × ByteArray × Nat × Option FieldType × Nat × Bool × Nat × Nat × Nat × Nat × Nat := (9, ⟨"PopPanModel", "type", "(II)I"⟩, prog_11_method_25_code, 3, some .int, 2, false, 3, 1064, 1062, 1063, 75)
def jMt137 : Nat × MethodName × ByteArray × Nat × Option FieldType × Nat × Bool × Nat × Nat × Nat × Nat × Nat := (9, ⟨"PopPanModel", "isText", "(I)Z"⟩, prog_11_method_24_code, 1, some .boolean, 1, true, 1, 1067, 1066, 0, 75)
def jMt138 : Nat × MethodName × ByteArray × Nat × Option FieldType × Nat × Bool × Nat × Nat × Nat × Nat × Nat := (9, ⟨"PopPanModel", "wipe", "(I)I"⟩, prog_11_method_26_code, 3, some .int, 2, false, 2, 1072, 1070, 1071, 75)
def jMt139 : Nat × MethodName × ByteArray × Nat × Option FieldType × Nat × Bool × Nat × Nat × Nat × Nat × Nat := (9, ⟨"PopPanModel", "fault", "(I)I"⟩, prog_11_method_35_code, 2, some .int, 5, false, 2, 1076, 1074, 1075, 75)
def jMt140 : Nat × MethodName × ByteArray × Nat × Option FieldType × Nat × Bool × Nat × Nat × Nat × Nat × Nat := (9, ⟨"PopPanModel", "faultOf", "(I)I"⟩, prog_11_method_34_code, 2, some .int, 4, false, 2, 1080, 1079, 33, 75)
def jMt141 : Nat × MethodName × ByteArray × Nat × Option FieldType × Nat × Bool × Nat × Nat × Nat × Nat × Nat := (9, ⟨"PopPanModel", "readsPan", "()I"⟩, prog_11_method_32_code, 2, some .int, 3, false, 1, 1084, 1083, 34, 75)
def jMt142 : Nat × MethodName × ByteArray × Nat × Option FieldType × Nat × Bool × Nat × Nat × Nat × Nat × Nat := (9, ⟨"PopPanModel", "clearsPan", "()V"⟩, prog_11_method_29_code, 2, none, 0, false, 1, 1088, 1087, 35, 75)
def jMt143 : Nat × MethodName × ByteArray × Nat × Option FieldType × Nat × Bool × Nat × Nat × Nat × Nat × Nat := (9, ⟨"PopPanModel", "readsPanPart", "()Z"⟩, prog_11_method_31_code, 5, some .boolean, 2, false, 1, 1092, 1091, 36, 75)
def jMt144 : Nat × MethodName × ByteArray × Nat × Option FieldType × Nat × Bool × Nat × Nat × Nat × Nat × Nat := (9, ⟨"PopPanModel", "here", "(I)I"⟩, prog_11_method_27_code, 2, some .int, 0, false, 2, 1096, 1095, 37, 75)
def jMt145 : Nat × MethodName × ByteArray × Nat × Option FieldType × Nat × Bool × Nat × Nat × Nat × Nat × Nat := (9, ⟨"PopPanModel", "lidsFrom", "(I)V"⟩, prog_11_method_30_code, 3, none, 0, false, 2, 1100, 1099, 38, 75)
def jMt146 : Nat × MethodName × ByteArray × Nat × Option FieldType × Nat × Bool × Nat × Nat × Nat × Nat × Nat := (9, ⟨"PopPanModel", "figures", "(IIII)I"⟩, prog_11_method_28_code, 7, some .int, 1, false, 5, 1104, 1103, 39, 75)
def jMt147 : Nat × MethodName × ByteArray × Nat × Option FieldType × Nat × Bool × Nat × Nat × Nat × Nat × Nat := (9, ⟨"PopPanModel", "readsRule", "(I)I"⟩, prog_11_method_33_code, 5, some .int, 2, false, 2, 1110, 1109, 40, 75)
def jMt148 : Nat × MethodName × ByteArray × Nat × Option FieldType × Nat × Bool × Nat × Nat × Nat × Nat × Nat := (9, ⟨"PopPanModel", "pan", "(II)I"⟩, prog_11_method_36_code, 3, some .int, 4, false, 3, 1114, 1112, 1113, 75)
def jMt149 : Nat × MethodName × ByteArray × Nat × Option FieldType × Nat × Bool × Nat × Nat × Nat × Nat × Nat := (9, ⟨"PopPanModel", "after", "(III)I"⟩, prog_11_method_50_code, 4, some .int, 5, false, 4, 1119, 1117, 1118, 75)
def jMt150 : Nat × MethodName × ByteArray × Nat × Option FieldType × Nat × Bool × Nat × Nat × Nat × Nat × Nat := (9, ⟨"PopPanModel", "tries", "()V"⟩, prog_11_method_37_code, 1, none, 4, false, 1, 1124, 1123, 41, 75)
def jMt151 : Nat × MethodName × ByteArray × Nat × Option FieldType × Nat × Bool × Nat × Nat × Nat × Nat × Nat := (9, ⟨"PopPanModel", "goesOn", "(I)V"⟩, prog_11_method_46_code, 3, none, 3, false, 2, 1128, 1127, 42, 75)
def jMt152 : Nat × MethodName × ByteArray × Nat × Option FieldType × Nat × Bool × Nat × Nat × Nat × Nat × Nat := (9, ⟨"PopPanModel", "begins", "()V"⟩, prog_11_method_39_code, 3, none, 1, false, 1, 1132, 1131, 43, 75)
def jMt153 : Nat × MethodName × ByteArray × Nat × Option FieldType × Nat × Bool × Nat × Nat × Nat × Nat × Nat := (9, ⟨"PopPanModel", "isIn", "(I)Z"⟩, prog_11_method_38_code, 2, some .boolean, 0, false, 2, 1136, 1135, 44, 75)
def jMt154 : Nat × MethodName × ByteArray × Nat × Option FieldType × Nat × Bool × Nat × Nat × Nat × Nat × Nat := (9, ⟨"PopPanModel", "second", "(I)V"⟩, prog_11_method_45_code, 5, none, 2, false, 2, 1140, 1139, 45, 75)
def jMt155 : Nat × MethodName × ByteArray × Nat × Option FieldType × Nat × Bool × Nat × Nat × Nat × Nat × Nat := (9, ⟨"PopPanModel", "shakesAll", "()V"⟩, prog_11_method_40_code, 4, none, 0, false, 1, 1144, 1143, 46, 75)
def jMt156 : Nat × MethodName × ByteArray × Nat × Option FieldType × Nat × Bool × Nat × Nat × Nat × Nat × Nat := (9, ⟨"PopPanModel", "warms", "(IZ)V"⟩, prog_11_method_41_code, 7, none, 0, false, 3, 1148, 1147, 47, 75)
def jMt157 : Nat × MethodName × ByteArray × Nat × Option FieldType × Nat × Bool × Nat × Nat × Nat × Nat × Nat := (9, ⟨"PopPanModel", "goes", "(II)Z"⟩, prog_11_method_43_code, 5, some .boolean, 1, false, 3, 1152, 1151, 48, 75)
def jMt158 : Nat × MethodName × ByteArray × Nat × Option FieldType × Nat × Bool × Nat × Nat × Nat × Nat × Nat := (9, ⟨"PopPanModel", "hold", "(I)I"⟩, prog_11_method_42_code, 3, some .int, 0, false, 2, 1156, 1155, 49, 75)
def jMt159 : Nat × MethodName × ByteArray × Nat × Option FieldType × Nat × Bool × Nat × Nat × Nat × Nat × Nat := (9, ⟨"PopPanModel", "rises", "()V"⟩, prog_11_method_44_code, 5, none, 0, false, 1, 1160, 1159, 50, 75)
def jMt160 : Nat × MethodName × ByteArray × Nat × Option FieldType × Nat × Bool × Nat × Nat × Nat × Nat × Nat := (9, ⟨"PopPanModel", "isNow", "(II)I"⟩, prog_11_method_49_code, 3, some .int, 0, false, 3, 1164, 1163, 51, 75)
def jMt161 : Nat × MethodName × ByteArray × Nat × Option FieldType × Nat × Bool × Nat × Nat × Nat × Nat × Nat := (9, ⟨"PopPanModel", "sounds", "(IZ)I"⟩, prog_11_method_51_code, 5, some .int, 5, false, 3, 1168, 1166, 1167, 75)
def jMt162 : Nat × MethodName × ByteArray × Nat × Option FieldType × Nat × Bool × Nat × Nat × Nat × Nat × Nat := (9, ⟨"PopPanModel", "stop", "(II)I"⟩, prog_11_method_58_code, 3, some .int, 7, false, 3, 1172, 1170, 1171, 75)
def jMt163 : Nat × MethodName × ByteArray × Nat × Option FieldType × Nat × Bool × Nat × Nat × Nat × Nat × Nat := (9, ⟨"PopPanModel", "isRule", "(I)Z"⟩, prog_11_method_57_code, 1, some .boolean, 1, true, 1, 1175, 1174, 0, 75)
def jMt164 : Nat × MethodName × ByteArray × Nat × Option FieldType × Nat × Bool × Nat × Nat × Nat × Nat × Nat := (9, ⟨"PopPanModel", "stopOf", "(II)I"⟩, prog_11_method_56_code, 4, some .int, 6, false, 3, 1179, 1178, 52, 75)
def jMt165 : Nat × MethodName × ByteArray × Nat × Option FieldType × Nat × Bool × Nat × Nat × Nat × Nat × Nat := (9, ⟨"PopPanModel", "dear", "(I)I"⟩, prog_11_method_5_code, 1, some .int, 0, true, 1, 1182, 1181, 0, 75)
def jMt166 : Nat × MethodName × ByteArray × Nat × Option FieldType × Nat × Bool × Nat × Nat × Nat × Nat × Nat := (9, ⟨"PopPanModel", "stops", "()I"⟩, prog_11_method_53_code, 5, some .int, 5, false, 1, 1187, 1186, 53, 75)
def jMt167 : Nat × MethodName × ByteArray × Nat × Option FieldType × Nat × Bool × Nat × Nat × Nat × Nat × Nat := (9, ⟨"PopPanModel", "isStopped", "(III)Z"⟩, prog_11_method_52_code, 7, some .boolean, 0, false, 4, 1191, 1190, 54, 75)
def jMt168 : Nat × MethodName × ByteArray × Nat × Option FieldType × Nat × Bool × Nat × Nat × Nat × Nat × Nat := (9, ⟨"PopPanModel", "many", "(I)I"⟩, prog_11_method_47_code, 4, some .int, 1, false, 2, 1195, 1194, 55, 75)
def jMt169 : Nat × MethodName × ByteArray × Nat × Option FieldType × Nat × Bool × Nat × Nat × Nat × Nat × Nat := (9, ⟨"PopPanModel", "allLarge", "()I"⟩, prog_11_method_48_code, 3, some .int, 1, false, 1, 1199, 1198, 56, 75)
def jMt170 : Nat × MethodName × ByteArray × Nat × Option FieldType × Nat × Bool × Nat × Nat × Nat × Nat × Nat := (9, ⟨"PopPanModel", "browned", "(I)I"⟩, prog_11_method_54_code, 4, some .int, 0, false, 2, 1203, 1202, 57, 75)
def jMt171 : Nat × MethodName × ByteArray × Nat × Option FieldType × Nat × Bool × Nat × Nat × Nat × Nat × Nat := (9, ⟨"PopPanModel", "worth", "(I)I"⟩, prog_11_method_55_code, 2, some .int, 2, false, 2, 1207, 1206, 58, 75)
def jMt172 : Nat × MethodName × ByteArray × Nat × Option FieldType × Nat × Bool × Nat × Nat × Nat × Nat × Nat := (9, ⟨"PopPanModel", "best", "()I"⟩, prog_11_method_60_code, 1, some .int, 7, false, 1, 1211, 1209, 1210, 75)
def jMt173 : Nat × MethodName × ByteArray × Nat × Option FieldType × Nat × Bool × Nat × Nat × Nat × Nat × Nat := (9, ⟨"PopPanModel", "bestNow", "()I"⟩, prog_11_method_59_code, 5, some .int, 6, false, 1, 1215, 1214, 59, 75)
def jMt174 : Nat × MethodName × ByteArray × Nat × Option FieldType × Nat × Bool × Nat × Nat × Nat × Nat × Nat := (9, ⟨"PopPanModel", "even", "(II)I"⟩, prog_11_method_64_code, 3, some .int, 7, false, 3, 1219, 1217, 1218, 75)
def jMt175 : Nat × MethodName × ByteArray × Nat × Option FieldType × Nat × Bool × Nat × Nat × Nat × Nat × Nat := (9, ⟨"PopPanModel", "isLong", "(I)Z"⟩, prog_11_method_61_code, 1, some .boolean, 1, true, 1, 1222, 1221, 0, 75)
def jMt176 : Nat × MethodName × ByteArray × Nat × Option FieldType × Nat × Bool × Nat × Nat × Nat × Nat × Nat := (9, ⟨"PopPanModel", "evenOf", "(II)I"⟩, prog_11_method_63_code, 6, some .int, 6, false, 3, 1226, 1225, 60, 75)
def jMt177 : Nat × MethodName × ByteArray × Nat × Option FieldType × Nat × Bool × Nat × Nat × Nat × Nat × Nat := (9, ⟨"PopPanModel", "findEven", "(I)V"⟩, prog_11_method_62_code, 3, none, 5, false, 2, 1230, 1229, 61, 75)
def jMt178 : Nat × MethodName × ByteArray × Nat × Option FieldType × Nat × Bool × Nat × Nat × Nat × Nat × Nat := (9, ⟨"PopPanModel", "front", "(II)I"⟩, prog_11_method_65_code, 8, some .int, 6, false, 3, 1234, 1232, 1233, 75)
def jMt179 : Nat × MethodName × ByteArray × Nat × Option FieldType × Nat × Bool × Nat × Nat × Nat × Nat × Nat := (9, ⟨"PopPanModel", "air", "(II)I"⟩, prog_11_method_66_code, 6, some .int, 5, false, 3, 1238, 1236, 1237, 75)
def jMt180 : Nat × MethodName × ByteArray × Nat × Option FieldType × Nat × Bool × Nat × Nat × Nat × Nat × Nat := (9, ⟨"PopPanModel", "isTwo", "(I)Z"⟩, prog_11_method_6_code, 1, some .boolean, 1, true, 1, 1241, 1240, 0, 75)
def jMt181 : Nat × MethodName × ByteArray × Nat × Option FieldType × Nat × Bool × Nat × Nat × Nat × Nat × Nat := (9, ⟨"PopPanModel", "shaken", "(II)I"⟩, prog_11_method_67_code, 6, some .int, 5, false, 3, 1245, 1243, 1244, 75)
def jMt182 : Nat × MethodName × ByteArray × Nat × Option FieldType × Nat × Bool × Nat × Nat × Nat × Nat × Nat := (9, ⟨"PopPanModel", "late", "(I)I"⟩, prog_11_method_68_code, 3, some .int, 5, false, 2, 1249, 1247, 1248, 75)
def jMt183 : Nat × MethodName × ByteArray × Nat × Option FieldType × Nat × Bool × Nat × Nat × Nat × Nat × Nat := (9, ⟨"PopPanModel", "sieved", "(III)I"⟩, prog_11_method_70_code, 4, some .int, 6, false, 4, 1253, 1251, 1252, 75)
def jMt184 : Nat × MethodName × ByteArray × Nat × Option FieldType × Nat × Bool × Nat × Nat × Nat × Nat × Nat := (9, ⟨"PopPanModel", "sievedOf", "(III)I"⟩, prog_11_method_69_code, 5, some .int, 5, false, 4, 1257, 1256, 62, 75)
def jMt185 : Nat × MethodName × ByteArray × Nat × Option FieldType × Nat × Bool × Nat × Nat × Nat × Nat × Nat := (9, ⟨"PopPanModel", "jar", "(III)I"⟩, prog_11_method_73_code, 6, some .int, 2, false, 4, 1261, 1259, 1260, 75)
def jMt186 : Nat × MethodName × ByteArray × Nat × Option FieldType × Nat × Bool × Nat × Nat × Nat × Nat × Nat := (9, ⟨"PopPanModel", "isDamp", "(I)Z"⟩, prog_11_method_71_code, 1, some .boolean, 1, true, 1, 1264, 1263, 0, 75)
def jMt187 : Nat × MethodName × ByteArray × Nat × Option FieldType × Nat × Bool × Nat × Nat × Nat × Nat × Nat := (9, ⟨"PopPanModel", "nextDay", "(II)I"⟩, prog_11_method_72_code, 4, some .int, 0, true, 2, 1268, 1267, 0, 75)
def jMt188 : Nat × MethodName × ByteArray × Nat × Option FieldType × Nat × Bool × Nat × Nat × Nat × Nat × Nat := (9, ⟨"PopPanModel", "length", "(IIII)I"⟩, prog_11_method_74_code, 7, some .int, 2, false, 5, 1272, 1270, 1271, 75)
def jMt189 : Nat × MethodName × ByteArray × Nat × Option FieldType × Nat × Bool × Nat × Nat × Nat × Nat × Nat := (9, ⟨"PopPanModel", "cracked", "(IIIII)J"⟩, prog_11_method_77_code, 16, some .long, 2, false, 6, 1276, 1274, 1275, 75)
def jMt190 : Nat × MethodName × ByteArray × Nat × Option FieldType × Nat × Bool × Nat × Nat × Nat × Nat × Nat := (9, ⟨"PopPanModel", "no", "(I)J"⟩, prog_11_method_4_code, 1, some .long, 0, true, 1, 1280, 1279, 0, 75)
def jMt191 : Nat × MethodName × ByteArray × Nat × Option FieldType × Nat × Bool × Nat × Nat × Nat × Nat × Nat := (9, ⟨"PopPanModel", "justly", "(IIII)J"⟩, prog_11_method_76_code, 4, some .long, 1, true, 4, 1284, 1283, 0, 75)
def jMt192 : Nat × MethodName × ByteArray × Nat × Option FieldType × Nat × Bool × Nat × Nat × Nat × Nat × Nat := (9, ⟨"PopPanModel", "over", "(II)J"⟩, prog_11_method_75_code, 5, some .long, 0, true, 2, 1287, 1286, 0, 75)
def jMt193 : Nat × MethodName × ByteArray × Nat × Option FieldType × Nat × Bool × Nat × Nat × Nat × Nat × Nat := (9, ⟨"PopPanModel", "span", "(IIIII)I"⟩, prog_11_method_78_code, 13, some .int, 2, false, 6, 1291, 1289, 1290, 75)
def jMt194 : Nat × MethodName × ByteArray × Nat × Option FieldType × Nat × Bool × Nat × Nat × Nat × Nat × Nat := (9, ⟨"PopPanModel", "heard", "(II)I"⟩, prog_11_method_79_code, 3, some .int, 2, false, 3, 1296, 1294, 1295, 75)
def jMt195 : Nat × MethodName × ByteArray × Nat × Option FieldType × Nat × Bool × Nat × Nat × Nat × Nat × Nat := (9, ⟨"PopPanModel", "fits", "(I)I"⟩, prog_11_method_82_code, 2, some .int, 6, false, 2, 1300, 1298, 1299, 75)
def jMt196 : Nat × MethodName × ByteArray × Nat × Option FieldType × Nat × Bool × Nat × Nat × Nat × Nat × Nat := (9, ⟨"PopPanModel", "fitsOf", "(I)I"⟩, prog_11_method_81_code, 9, some .int, 5, false, 2, 1305, 1304, 63, 75)
def jMt197 : Nat × MethodName × ByteArray × Nat × Option FieldType × Nat × Bool × Nat × Nat × Nat × Nat × Nat := (9, ⟨"PopPanModel", "offBy", "(I)I"⟩, prog_11_method_80_code, 6, some .int, 4, false, 2, 1309, 1308, 64, 75)
def jMt198 : Nat × MethodName × ByteArray × Nat × Option FieldType × Nat × Bool × Nat × Nat × Nat × Nat × Nat := (9, ⟨"PopPanModel", "write", "(II)I"⟩, prog_11_method_83_code, 5, some .int, 5, false, 3, 1313, 1311, 1312, 75)
def jMt199 : Nat × MethodName × ByteArray × Nat × Option FieldType × Nat × Bool × Nat × Nat × Nat × Nat × Nat := (9, ⟨"PopPanModel", "count", "(I)I"⟩, prog_11_method_84_code, 4, some .int, 4, false, 2, 1317, 1315, 1316, 75)
def jMt200 : Nat × MethodName × ByteArray × Nat × Option FieldType × Nat × Bool × Nat × Nat × Nat × Nat × Nat := (9, ⟨"PopPanModel", "digest", "()J"⟩, prog_11_method_85_code, 5, some .long, 7, false, 1, 1321, 1319, 1320, 75)
def jMt201 : Nat × MethodName × ByteArray × Nat × Option FieldType × Nat × Bool × Nat × Nat × Nat × Nat × Nat := (10, x, code, 4, ret, 8, true, 1, 0, 0, 0, 0)
def jm_mt : List (Nat × MethodName × ByteArray × Nat × Option FieldType × Nat × Bool × Nat × Nat × Nat × Nat × Nat) := [jMt0, jMt1, jMt2, jMt3, jMt4, jMt5, jMt6, jMt7, jMt8, jMt9, jMt10, jMt11, jMt12, jMt13, jMt14, jMt15, jMt16, jMt17, jMt18, jMt19, jMt20, jMt21, jMt22, jMt23, jMt24, jMt25, jMt26, jMt27, jMt28, jMt29, jMt30, jMt31, jMt32, jMt33, jMt34, jMt35, jMt36, jMt37, jMt38, jMt39, jMt40, jMt41, jMt42, jMt43, jMt44, jMt45, jMt46, jMt47, jMt48, jMt49, jMt50, jMt51, jMt52, jMt53, jMt54, jMt55, jMt56, jMt57, jMt58, jMt59, jMt60, jMt61, jMt62, jMt63, jMt64, jMt65, jMt66, jMt67, jMt68, jMt69, jMt70, jMt71, jMt72, jMt73, jMt74, jMt75, jMt76, jMt77, jMt78, jMt79, jMt80, jMt81, jMt82, jMt83, jMt84, jMt85, jMt86, jMt87, jMt88, jMt89, jMt90, jMt91, jMt92, jMt93, jMt94, jMt95, jMt96, jMt97, jMt98, jMt99, jMt100, jMt101, jMt102, jMt103, jMt104, jMt105, jMt106, jMt107, jMt108, jMt109, jMt110, jMt111, jMt112, jMt113, jMt114, jMt115, jMt116, jMt117, jMt118, jMt119, jMt120, jMt121, jMt122, jMt123, jMt124, jMt125, jMt126, jMt127, jMt128, jMt129, jMt130, jMt131, jMt132, jMt133, jMt134, jMt135, jMt136, jMt137, jMt138, jMt139, jMt140, jMt141, jMt142, jMt143, jMt144, jMt145, jMt146, jMt147, jMt148, jMt149, jMt150, jMt151, jMt152, jMt153, jMt154, jMt155, jMt156, jMt157, jMt158, jMt159, jMt160, jMt161, jMt162, jMt163, jMt164, jMt165, jMt166, jMt167, jMt168, jMt169, jMt170, jMt171, jMt172, jMt173, jMt174, jMt175, jMt176, jMt177, jMt178, jMt179, jMt180, jMt181, jMt182, jMt183, jMt184, jMt185, jMt186, jMt187, jMt188, jMt189, jMt190, jMt191, jMt192, jMt193, jMt194, jMt195, jMt196, jMt197, jMt198, jMt199, jMt200, jMt201]
end
section
/-! ===== the pure machine: numbers in cells of a fixed layout ===== -/
abbrev jm_S : Type := Nat → Nat → Int32
abbrev jm_C : Type := (Nat × List (Option Nat)) ⊕ ((Bool × Nat) ⊕ (String × List Nat))
abbrev jm_L : Type := List (Option Value)
abbrev jm_N : Type := Nat × jm_L × List Value × jm_S
abbrev jm_A : Type := jm_N ⊕ ((Option Value × jm_S) ⊕ (Nat × List Value × jm_N))
def jm_row (σ : jm_S) (a : Nat) (f : Nat → Int32) : jm_S := fun b => if b = a then f else σ b
def jm_up (σ : jm_S) (a k : Nat) (x : Int32) : jm_S := jm_row σ a (upd (σ a) k x)
def jm_lk {β : Type} : List (Nat × β) → Nat → Option β
  | [], _ => none
  | (k, v) :: r, n => match Nat.beq k n with
    | true => some v
    | false => jm_lk r n
def jm_lk2 {β : Type} : List (Nat × Nat × β) → Nat → Nat → Option β
  | [], _, _ => none
  | (j, k, v) :: r, o, n => match Nat.beq j o && Nat.beq k n with
    | true => some v
    | false => jm_lk2 r o n
def jm_get (ls : jm_L) (i : Nat) : Option Value := match ls[i]? with
  | some (some v) => some v
  | _ => none
/-- a store of one word: what stood across it goes -/
def jm_pre (ls : jm_L) (i : Nat) : jm_L := match i with
  | 0 => ls
  | j + 1 => match ls[j]? with
    | some (some v) => match v with
      | .long _ => ls.set j none
      | .double _ => ls.set j none
      | _ => ls
    | _ => ls
def jm_set1 (ls : jm_L) (i : Nat) (v : Value) : jm_L := (jm_pre ls i).set i (some v)
def jm_set2 (ls : jm_L) (i : Nat) (v : Value) : jm_L := ((jm_pre ls i).set i (some v)).set (i + 1) none
def jm_ent : List Value → jm_L
  | [] => []
  | .long x :: r => some (.long x) :: none :: jm_ent r
  | .double x :: r => some (.double x) :: none :: jm_ent r
  | v :: r => some v :: jm_ent r
def jm_pad (n : Nat) (l : jm_L) : jm_L := l ++ List.replicate (n - l.length) none
def jm_1 (st : List Value) (f : Int32 → List Value → Option jm_A) : Option jm_A := match st with
  | .int x :: r => f x r
  | _ => none
def jm_2 (st : List Value) (f : Int32 → Int32 → List Value → Option jm_A) : Option jm_A := match st with
  | .int y :: .int x :: r => f x y r
  | _ => none
def jm_l2 (st : List Value) (f : Int64 → Int64 → List Value → Option jm_A) : Option jm_A := match st with
  | .long y :: .long x :: r => f x y r
  | _ => none
def jm_r1 (st : List Value) (f : Nat → List Value → Option jm_A) : Option jm_A := match st with
  | .ref a :: r => f a r
  | _ => none
def jm_ri (st : List Value) (f : Nat → Int32 → List Value → Option jm_A) : Option jm_A := match st with
  | .int i :: .ref a :: r => f a i r
  | _ => none
def jm_rx (st : List Value) (f : Nat → Int32 → List Value → Option jm_A) : Option jm_A := match st with
  | .int x :: .ref a :: r => f a x r
  | _ => none
def jm_rix (st : List Value) (f : Nat → Int32 → Int32 → List Value → Option jm_A) : Option jm_A := match st with
  | .int x :: .int i :: .ref a :: r => f a i x r
  | _ => none
def jm_cp (st : List Value) (f : Nat → Int32 → Nat → Int32 → Int32 → List Value → Option jm_A) : Option jm_A := match st with
  | .int n :: .int dp :: .ref b :: .int sp :: .ref a :: r => f a sp b dp n r
  | _ => none
def jm_nx (pc : Nat) (ls : jm_L) (st : List Value) (σ : jm_S) : Option jm_A := some (.inl (pc, ls, st, σ))
def jm_jmp (pc : Nat) (off : Int) (ls : jm_L) (st : List Value) (σ : jm_S) : Option jm_A :=
  if 0 ≤ (pc : Int) + off then jm_nx ((pc : Int) + off).toNat ls st σ else none
def jm_br (b : Bool) (pc : Nat) (off : Int) (ls : jm_L) (st : List Value) (σ : jm_S) : Option jm_A :=
  if 0 ≤ (pc : Int) + off then (if b = true then jm_nx ((pc : Int) + off).toNat ls st σ else jm_nx (pc + 3) ls st σ) else none
def jm_ld (v : Option Value) (f : Int32 → Option jm_A) : Option jm_A := match v with
  | some (.int x) => f x
  | _ => none
def jm_ldl (v : Option Value) (f : Int64 → Option jm_A) : Option jm_A := match v with
  | some (.long x) => f x
  | _ => none
def jm_lda (v : Option Value) (f : Nat → Option jm_A) : Option jm_A := match v with
  | some (.ref x) => f x
  | _ => none
def jm_cat (st : List Value) : Nat := (st.map fun v => v.category).sum
def jm_cmp (c : ClassFile.Cond) (x y : Int32) : Bool := match c with
  | .eq => decide (x = y)
  | .ne => decide (¬ x = y)
  | .lt => decide (x < y)
  | .ge => decide (y ≤ x)
  | .gt => decide (y < x)
  | .le => decide (x ≤ y)

def jm_isZ (ci k : Nat) : Bool := match jm_cl[ci]? with
  | some (_, T, _) => decide ((T k).2.2.1 = "Z")
  | none => false
/-- a field's value, of a class's object at a place of the layout -/
def jm_gf (ci k a : Nat) (σ : jm_S) : Option Value := match jm_sk[a]? with
  | some (.inl (c, fs)) => match Nat.beq c ci with
    | true => match fs[k]? with
      | some none => some (.int (σ a k))
      | some (some q) => some (.ref q)
      | none => none
    | false => none
  | _ => none
def jm_pf (ci k a : Nat) (x : Int32) (σ : jm_S) : Option jm_S := match jm_sk[a]? with
  | some (.inl (c, fs)) => match Nat.beq c ci with
    | true => match fs[k]? with
      | some none => if jm_isZ ci k = true ∧ ¬ (x = 0 ∨ x = 1) then none else some (jm_up σ a k x)
      | _ => none
    | false => none
  | _ => none
/-- rows that nobody writes: four of the class's constants, and the script -/
def jm_im (a : Nat) (σ : jm_S) : Option (Nat × (Nat → Int32)) := match Nat.beq a 1005 with
  | true => some ((σ 1006 0).toNatClampNeg, σ 1005)
  | false => match jm_stv[a - 1000]? with
    | some q => some (q.2.length, fun j => q.2.getD j 0)
    | none => none
def jm_ia (a : Nat) (σ : jm_S) : Option (Nat × (Nat → Int32)) := match Nat.ble 1000 a with
  | true => jm_im a σ
  | false => match jm_sk[a]? with
    | some (.inr (.inl (false, n))) => some (n, σ a)
    | _ => none
def jm_len (a : Nat) (σ : jm_S) : Option Nat := match Nat.ble 1000 a with
  | true => (jm_im a σ).map (fun q => q.1)
  | false => match jm_sk[a]? with
    | some (.inr (.inl (_, n))) => some n
    | _ => none
def jm_wi (a : Nat) (b : Bool) : Option Nat := match jm_sk[a]? with
  | some (.inr (.inl (c, n))) => if c = b then some n else none
  | _ => none
def jm_wr (a : Nat) : Option (List Nat) := match jm_sk[a]? with
  | some (.inr (.inr (_, ts))) => some ts
  | _ => none
def jm_oc (a : Nat) : Option Nat := match jm_sk[a]? with
  | some (.inl (c, _)) => some c
  | _ => none
def jm_ob {α : Type} (o : Option α) (f : α → Option jm_A) : Option jm_A := match o with
  | some x => f x
  | none => none
def jm_bad (i : Int32) (n : Nat) : Prop := i < 0 ∨ n ≤ i.toNatClampNeg
/-- the JDK's own: 1000 arraycopy, 1001 max, 1002 min, 1003 abs, 1004 max of longs -/
def jm_nat (k : Nat) (pc : Nat) (ls : jm_L) (st : List Value) (σ : jm_S) : Option jm_A := match k with
  | 1000 => jm_cp st fun a sp b dp n r => jm_ob (jm_wi a false) fun n0 => jm_ob (jm_wi b false) fun n1 =>
        if sp < 0 ∨ dp < 0 ∨ n < 0 ∨ n0 < sp.toNatClampNeg + n.toNatClampNeg ∨ n1 < dp.toNatClampNeg + n.toNatClampNeg ∨ 8 < jm_cat r then none
        else jm_nx (pc + 3) ls r (jm_row σ b (va_cpy (σ a) (σ b) sp.toNatClampNeg dp.toNatClampNeg n.toNatClampNeg))
  | 1001 => jm_2 st fun x y r => if 8 < jm_cat r then none else jm_nx (pc + 3) ls (.int (if x < y then y else x) :: r) σ
  | 1002 => jm_2 st fun x y r => if 8 < jm_cat r then none else jm_nx (pc + 3) ls (.int (if y < x then y else x) :: r) σ
  | 1003 => jm_1 st fun x r => if 8 < jm_cat r then none else jm_nx (pc + 3) ls (.int (if 0 ≤ x then x else 0 - x) :: r) σ
  | 1004 => jm_l2 st fun x y r => if 8 < jm_cat r then none else jm_nx (pc + 3) ls (.long (if y < x then x else y) :: r) σ
  | _ => none
/-- a call: how many words of the stack it takes, and whom -/
def jm_call (o idx : Nat) (vir : Bool) (pc : Nat) (ls : jm_L) (st : List Value) (σ : jm_S) : Option jm_A :=
  jm_ob (jm_lk2 jm_ml o idx) fun q => match Nat.ble 1000 q.1 with
    | true => match vir with
      | false => jm_nat q.1 pc ls st σ
      | true => none
    | false => jm_ob (jm_mt[q.1]?) fun mt =>
        if mt.2.2.2.2.2.2.2.1 ≤ st.length ∧ jm_cat (st.drop mt.2.2.2.2.2.2.2.1) ≤ 8 ∧ mt.2.2.2.2.2.2.1 = !vir then
          (if vir = true then (match ((st.take mt.2.2.2.2.2.2.2.1).reverse) with
            | .ref a :: as => if jm_oc a = some mt.1 then some (.inr (.inr (q.1, .ref a :: as, (pc + 3, ls, st.drop mt.2.2.2.2.2.2.2.1, σ)))) else none
            | _ => none)
          else some (.inr (.inr (q.1, (st.take mt.2.2.2.2.2.2.2.1).reverse, (pc + 3, ls, st.drop mt.2.2.2.2.2.2.2.1, σ)))))
        else none
def jm_ret (rt : Option FieldType) (st : List Value) (σ : jm_S) : Option jm_A := match st with
  | [.int v] => match rt with
    | some .int => some (.inr (.inl (some (.int v), σ)))
    | some .boolean => if v = 0 ∨ v = 1 then some (.inr (.inl (some (.int v), σ))) else none
    | _ => none
  | _ => none
def jm_lret (rt : Option FieldType) (st : List Value) (σ : jm_S) : Option jm_A := match st with
  | [.long v] => match rt with
    | some .long => some (.inr (.inl (some (.long v), σ)))
    | _ => none
  | _ => none
def jm_vret (rt : Option FieldType) (st : List Value) (σ : jm_S) : Option jm_A := match st with
  | [] => match rt with
    | none => some (.inr (.inl (none, σ)))
    | _ => none
  | _ => none
def jm_do (o : Nat) (rt : Option FieldType) (i : Instr) (n : Nat) (pc : Nat) (ls : jm_L) (st : List Value) (σ : jm_S) : Option jm_A := match i, n with
  | .iconst k, 1 => jm_nx (pc + 1) ls (.int (Int32.ofInt k) :: st) σ
  | .bipush k, 2 => jm_nx (pc + 2) ls (.int (Int8.ofInt k).toInt32 :: st) σ
  | .sipush k, 3 => jm_nx (pc + 3) ls (.int (Int16.ofInt k).toInt32 :: st) σ
  | .lconst k, 1 => jm_nx (pc + 1) ls (.long (Int64.ofNat (k : Nat)) :: st) σ
  | .ldc k, 2 => jm_ob (jm_lk2 jm_lc o k) fun q => jm_nx (pc + 2) ls (.int q.1 :: st) σ
  | .ldc_w k, 3 => jm_ob (jm_lk2 jm_lc o k) fun q => jm_nx (pc + 3) ls (.int q.1 :: st) σ
  | .ldc2_w k, 3 => jm_ob (jm_lk2 jm_ll o k) fun q => jm_nx (pc + 3) ls (.long q.1 :: st) σ
  | .iload_n k, 1 => jm_ld (jm_get ls k) fun x => jm_nx (pc + 1) ls (.int x :: st) σ
  | .iload k, 2 => jm_ld (jm_get ls k) fun x => jm_nx (pc + 2) ls (.int x :: st) σ
  | .lload_n k, 1 => jm_ldl (jm_get ls k) fun x => jm_nx (pc + 1) ls (.long x :: st) σ
  | .lload k, 2 => jm_ldl (jm_get ls k) fun x => jm_nx (pc + 2) ls (.long x :: st) σ
  | .aload_n k, 1 => jm_lda (jm_get ls k) fun x => jm_nx (pc + 1) ls (.ref x :: st) σ
  | .aload k, 2 => jm_lda (jm_get ls k) fun x => jm_nx (pc + 2) ls (.ref x :: st) σ
  | .istore_n k, 1 => jm_1 st fun x r => if (k : Nat) < ls.length then jm_nx (pc + 1) (jm_set1 ls k (.int x)) r σ else none
  | .istore k, 2 => jm_1 st fun x r => if k < ls.length then jm_nx (pc + 2) (jm_set1 ls k (.int x)) r σ else none
  | .lstore_n k, 1 => match st with
    | .long x :: r => if (k : Nat) + 1 < ls.length then jm_nx (pc + 1) (jm_set2 ls k (.long x)) r σ else none
    | _ => none
  | .lstore k, 2 => match st with
    | .long x :: r => if k + 1 < ls.length then jm_nx (pc + 2) (jm_set2 ls k (.long x)) r σ else none
    | _ => none
  | .astore_n k, 1 => jm_r1 st fun x r => if (k : Nat) < ls.length then jm_nx (pc + 1) (jm_set1 ls k (.ref x)) r σ else none
  | .astore k, 2 => jm_r1 st fun x r => if k < ls.length then jm_nx (pc + 2) (jm_set1 ls k (.ref x)) r σ else none
  | .iinc k z, 3 => jm_ld (jm_get ls k) fun x => jm_nx (pc + 3) (jm_set1 ls k (.int (x + Int32.ofInt z))) st σ
  | .iadd, 1 => jm_2 st fun x y r => jm_nx (pc + 1) ls (.int (x + y) :: r) σ
  | .isub, 1 => jm_2 st fun x y r => jm_nx (pc + 1) ls (.int (x - y) :: r) σ
  | .imul, 1 => jm_2 st fun x y r => jm_nx (pc + 1) ls (.int (x * y) :: r) σ
  | .iand, 1 => jm_2 st fun x y r => jm_nx (pc + 1) ls (.int (x &&& y) :: r) σ
  | .ixor, 1 => jm_2 st fun x y r => jm_nx (pc + 1) ls (.int (x ^^^ y) :: r) σ
  | .idiv, 1 => jm_2 st fun x y r => if y = 0 then none else jm_nx (pc + 1) ls (.int (x / y) :: r) σ
  | .ishl, 1 => jm_2 st fun x y r => jm_nx (pc + 1) ls (.int (x <<< (y &&& 31)) :: r) σ
  | .ishr, 1 => jm_2 st fun x y r => jm_nx (pc + 1) ls (.int (x >>> (y &&& 31)) :: r) σ
  | .ineg, 1 => jm_1 st fun x r => jm_nx (pc + 1) ls (.int (-x) :: r) σ
  | .ladd, 1 => jm_l2 st fun x y r => jm_nx (pc + 1) ls (.long (x + y) :: r) σ
  | .lsub, 1 => jm_l2 st fun x y r => jm_nx (pc + 1) ls (.long (x - y) :: r) σ
  | .lmul, 1 => jm_l2 st fun x y r => jm_nx (pc + 1) ls (.long (x * y) :: r) σ
  | .ldiv, 1 => jm_l2 st fun x y r => if y = 0 then none else jm_nx (pc + 1) ls (.long (x / y) :: r) σ
  | .lrem, 1 => jm_l2 st fun x y r => if y = 0 then none else jm_nx (pc + 1) ls (.long (x - x / y * y) :: r) σ
  | .lcmp, 1 => jm_l2 st fun x y r => jm_nx (pc + 1) ls (.int (lg_cmp x y) :: r) σ
  | .i2l, 1 => jm_1 st fun x r => jm_nx (pc + 1) ls (.long x.toInt64 :: r) σ
  | .i2b, 1 => jm_1 st fun x r => jm_nx (pc + 1) ls (.int x.toInt8.toInt32 :: r) σ
  | .i2s, 1 => jm_1 st fun x r => jm_nx (pc + 1) ls (.int x.toInt16.toInt32 :: r) σ
  | .dup, 1 => match st with
    | v :: r => if v.category = 1 then jm_nx (pc + 1) ls (v :: v :: r) σ else none
    | _ => none
  | .dup2, 1 => match st with
    | v :: w :: r => if v.category = 1 ∧ w.category = 1 then jm_nx (pc + 1) ls (v :: w :: v :: w :: r) σ else none
    | _ => none
  | .pop, 1 => match st with
    | v :: r => if v.category = 1 then jm_nx (pc + 1) ls r σ else none
    | _ => none
  | .goto z, 3 => jm_jmp pc z ls st σ
  | .ifCond c z, 3 => jm_1 st fun x r => jm_br (jm_cmp c x 0) pc z ls r σ
  | .if_icmp c z, 3 => jm_2 st fun x y r => jm_br (jm_cmp c x y) pc z ls r σ
  | .tableswitch d lo hi offs, _ => jm_1 st fun x r => if x.toInt < lo ∨ hi < x.toInt then jm_jmp pc d ls r σ else jm_ob (offs[(x.toInt - lo).toNat]?) fun z => jm_jmp pc z ls r σ
  | .getfield k, 3 => jm_r1 st fun a r => jm_ob (jm_lk2 jm_fl o k) fun q => jm_ob (jm_gf q.1 q.2.1 a σ) fun v => jm_nx (pc + 3) ls (v :: r) σ
  | .putfield k, 3 => jm_rx st fun a x r => jm_ob (jm_lk2 jm_fl o k) fun q => jm_ob (jm_pf q.1 q.2.1 a x σ) fun τ => jm_nx (pc + 3) ls r τ
  | .getstatic k, 3 => jm_ob (jm_lk2 jm_sl o k) fun q => jm_nx (pc + 3) ls (.ref (1000 + q.1) :: st) σ
  | .iaload, 1 => jm_ri st fun a j r => jm_ob (jm_ia a σ) fun q => if j < 0 ∨ q.1 ≤ j.toNatClampNeg then none else jm_nx (pc + 1) ls (.int (q.2 j.toNatClampNeg) :: r) σ
  | .baload, 1 => jm_ri st fun a j r => jm_ob (jm_wi a true) fun n => if j < 0 ∨ n ≤ j.toNatClampNeg then none else jm_nx (pc + 1) ls (.int (σ a j.toNatClampNeg) :: r) σ
  | .iastore, 1 => jm_rix st fun a j x r => jm_ob (jm_wi a false) fun n => if j < 0 ∨ n ≤ j.toNatClampNeg then none else jm_nx (pc + 1) ls r (jm_up σ a j.toNatClampNeg x)
  | .bastore, 1 => jm_rix st fun a j x r => jm_ob (jm_wi a true) fun n => if j < 0 ∨ n ≤ j.toNatClampNeg ∨ ¬ (x = 0 ∨ x = 1) then none else jm_nx (pc + 1) ls r (jm_up σ a j.toNatClampNeg x)
  | .aaload, 1 => jm_ri st fun a j r => jm_ob (jm_wr a) fun ts => if j < 0 ∨ ts.length ≤ j.toNatClampNeg then none else jm_ob (ts[j.toNatClampNeg]?) fun q => jm_nx (pc + 1) ls (.ref q :: r) σ
  | .arraylength, 1 => jm_r1 st fun a r => jm_ob (jm_len a σ) fun n => jm_nx (pc + 1) ls (.int (Int32.ofNat n) :: r) σ
  | .invokestatic k, 3 => jm_call o k false pc ls st σ
  | .invokevirtual k, 3 => jm_call o k true pc ls st σ
  | .ireturn, 1 => jm_ret rt st σ
  | .lreturn, 1 => jm_lret rt st σ
  | .return_, 1 => jm_vret rt st σ
  | _, _ => none
/-! ===== runs ===== -/
section
variable (act : Nat → jm_N → Option jm_A) (ini : Nat → List Value → jm_L)
def jm_evF : Nat → Nat → jm_N → Option (Option Value × jm_S)
  | 0, _, _ => none
  | n + 1, m, s => match act m s with
    | none => none
    | some (.inl s') => jm_evF n m s'
    | some (.inr (.inl r)) => some r
    | some (.inr (.inr (y, as, k))) => match jm_evF n y (0, ini y as, [], k.2.2.2) with
      | none => none
      | some (v, τ) => jm_evF n m (k.1, k.2.1, v.toList ++ k.2.2.1, τ)
theorem jm_evF_mono : ∀ (n m : Nat) (s : jm_N) (r : Option Value × jm_S), jm_evF act ini n m s = some r → jm_evF act ini (n + 1) m s = some r := by
  intro n
  induction n with
  | zero => intro m s r h; cases h
  | succ n ih =>
    intro m s r h
    rw [jm_evF] at h ⊢
    cases ha : act m s with
    | none => rw [ha] at h; cases h
    | some a =>
      rw [ha] at h
      rcases a with s' | r' | ⟨y, as, k⟩
      · exact ih _ _ _ h
      · exact h
      · dsimp only at h ⊢
        cases hc : jm_evF act ini n y (0, ini y as, [], k.2.2.2) with
        | none => rw [hc] at h; cases h
        | some vt =>
          obtain ⟨v, t⟩ := vt
          rw [hc] at h
          rw [ih _ _ _ hc]
          exact ih _ _ _ h
theorem jm_evF_le {n k m : Nat} {s : jm_N} {r : Option Value × jm_S} (hk : n ≤ k) (h : jm_evF act ini n m s = some r) : jm_evF act ini k m s = some r := by
  induction hk with
  | refl => exact h
  | step _ ih => exact jm_evF_mono act ini _ _ _ _ ih
def jm_R (m : Nat) (s : jm_N) (r : Option Value × jm_S) : Prop := ∃ n, jm_evF act ini n m s = some r
theorem jm_R_det {m : Nat} {s : jm_N} {r r' : Option Value × jm_S} (h : jm_R act ini m s r) (h' : jm_R act ini m s r') : r = r' := by
  obtain ⟨n, h⟩ := h
  obtain ⟨k, h'⟩ := h'
  have e1 := jm_evF_le act ini (Nat.le_max_left n k) h
  have e2 := jm_evF_le act ini (Nat.le_max_right n k) h'
  exact Option.some.inj (e1.symm.trans e2)
noncomputable def jm_ev0 (m : Nat) (s : jm_N) : Option (Option Value × jm_S) := match Classical.propDecidable (∃ r, jm_R act ini m s r) with
  | isTrue h => some (Classical.choose h)
  | isFalse _ => none
theorem jm_ev0_iff {m : Nat} {s : jm_N} {r : Option Value × jm_S} : jm_ev0 act ini m s = some r ↔ jm_R act ini m s r := by
  unfold jm_ev0
  split
  · next h _ =>
    constructor
    · intro e; cases e; exact Classical.choose_spec h
    · intro e; rw [jm_R_det act ini (Classical.choose_spec h) e]
  · next h _ =>
    constructor
    · intro e; cases e
    · intro e; exact absurd ⟨r, e⟩ h
def jm_k (F : Nat → jm_N → Option (Option Value × jm_S)) (m : Nat) (a : Option jm_A) : Option (Option Value × jm_S) := match a with
  | none => none
  | some (.inl s') => F m s'
  | some (.inr (.inl r)) => some r
  | some (.inr (.inr (y, as, k))) => match F y (0, ini y as, [], k.2.2.2) with
    | none => none
    | some (v, τ) => F m (k.1, k.2.1, v.toList ++ k.2.2.1, τ)
theorem jm_ev0_eq (m : Nat) (s : jm_N) : jm_ev0 act ini m s = jm_k ini (jm_ev0 act ini) m (act m s) := by
  apply Option.ext
  intro r
  rw [jm_ev0_iff]
  constructor
  · rintro ⟨n, h⟩
    cases n with
    | zero => cases h
    | succ n =>
      rw [jm_evF] at h
      cases ha : act m s with
      | none => rw [ha] at h; cases h
      | some a =>
        rw [ha] at h
        rcases a with s' | r' | ⟨y, as, k⟩
        · exact (jm_ev0_iff act ini).mpr ⟨n, h⟩
        · exact h
        · dsimp only at h
          dsimp only [jm_k]
          cases hc : jm_evF act ini n y (0, ini y as, [], k.2.2.2) with
          | none => rw [hc] at h; cases h
          | some vt =>
            obtain ⟨v, t⟩ := vt
            rw [hc] at h
            rw [(jm_ev0_iff act ini).mpr ⟨n, hc⟩]
            exact (jm_ev0_iff act ini).mpr ⟨n, h⟩
  · intro h
    cases ha : act m s with
    | none => rw [ha] at h; cases h
    | some a =>
      rw [ha] at h
      rcases a with s' | r' | ⟨y, as, k⟩
      · obtain ⟨n, h1⟩ := (jm_ev0_iff act ini).mp h
        exact ⟨n + 1, by rw [jm_evF, ha]; exact h1⟩
      · exact ⟨1, by rw [jm_evF, ha]; exact h⟩
      · dsimp only [jm_k] at h
        cases hc : jm_ev0 act ini y (0, ini y as, [], k.2.2.2) with
        | none => rw [hc] at h; cases h
        | some vt =>
          obtain ⟨v, t⟩ := vt
          rw [hc] at h
          obtain ⟨n1, h1⟩ := (jm_ev0_iff act ini).mp hc
          obtain ⟨n2, h2⟩ := (jm_ev0_iff act ini).mp h
          refine ⟨max n1 n2 + 1, ?_⟩
          rw [jm_evF, ha]
          dsimp only
          rw [jm_evF_le act ini (Nat.le_max_left n1 n2) h1]
          exact jm_evF_le act ini (Nat.le_max_right n1 n2) h2
end
end
section
def jm_okD (b : ByteArray) (l : List (Nat × Instr × Nat)) : Bool := l.all (fun q => decide (decode b q.1 = .ok q.2))
theorem jm_okD_app {b : ByteArray} {l1 l2 : List (Nat × Instr × Nat)} (h1 : jm_okD b l1 = true) (h2 : jm_okD b l2 = true) : jm_okD b (l1 ++ l2) = true := by
  unfold jm_okD at *
  rw [List.all_append, h1, h2]
  rfl
def jC0 : List (Nat × Instr × Nat) := [(0, .iload_n 1, 1), (1, .iconst 0, 1), (2, .iconst 3, 1), (3, .invokestatic 86, 3), (6, .ifCond .ne 15, 3), (9, .iload_n 2, 1), (10, .iload_n 3, 1), (11, .iload 4, 2), (13, .iload 5, 2), (15, .invokestatic 90, 3), (18, .ifCond .ne 6, 3), (21, .bipush (-2), 2), (23, .ireturn, 1), (24, .aload_n 0, 1), (25, .getfield 10, 3), (28, .invokevirtual 94, 3), (31, .ifCond .eq 6, 3), (34, .bipush (-4), 2), (36, .ireturn, 1), (37, .aload_n 0, 1), (38, .getfield 10, 3), (41, .iload_n 1, 1), (42, .iload_n 2, 1), (43, .iload_n 3, 1), (44, .iload 4, 2), (46, .iload 5, 2), (48, .invokevirtual 98, 3), (51, .ireturn, 1)]
theorem jD0 : jm_okD prog_1_method_2_code jC0 = true := by decide +kernel
def jC1 : List (Nat × Instr × Nat) := [(0, .iload_n 0, 1), (1, .iload_n 1, 1), (2, .if_icmp .lt 8, 3), (5, .iload_n 0, 1), (6, .iload_n 2, 1), (7, .if_icmp .le 7, 3), (10, .iconst 1, 1), (11, .goto 4, 3), (14, .iconst 0, 1), (15, .ireturn, 1)]
theorem jD1 : jm_okD prog_1_method_35_code jC1 = true := by decide +kernel
def jC2 : List (Nat × Instr × Nat) := [(0, .iconst 0, 1), (1, .iload_n 0, 1), (2, .invokestatic 119, 3), (5, .ifCond .eq 31, 3), (8, .iconst 1, 1), (9, .iload_n 1, 1), (10, .invokestatic 119, 3), (13, .ifCond .eq 23, 3), (16, .iconst 2, 1), (17, .iload_n 2, 1), (18, .invokestatic 119, 3), (21, .ifCond .eq 15, 3), (24, .iconst 3, 1), (25, .iload_n 3, 1), (26, .invokestatic 119, 3), (29, .ifCond .eq 7, 3), (32, .iconst 1, 1), (33, .goto 4, 3), (36, .iconst 0, 1), (37, .ireturn, 1)]
theorem jD2 : jm_okD prog_1_method_37_code jC2 = true := by decide +kernel
def jC3 : List (Nat × Instr × Nat) := [(0, .iload_n 1, 1), (1, .getstatic 224, 3), (4, .iload_n 0, 1), (5, .iaload, 1), (6, .getstatic 227, 3), (9, .iload_n 0, 1), (10, .iaload, 1), (11, .invokestatic 86, 3), (14, .ifCond .ne 7, 3), (17, .iconst 1, 1), (18, .goto 4, 3), (21, .iconst 0, 1), (22, .ireturn, 1)]
theorem jD3 : jm_okD prog_1_method_36_code jC3 = true := by decide +kernel
def jC4 : List (Nat × Instr × Nat) := [(0, .aload_n 0, 1), (1, .getfield 18, 3), (4, .bipush 12, 2), (6, .if_icmp .lt 7, 3), (9, .iconst 1, 1), (10, .goto 4, 3), (13, .iconst 0, 1), (14, .ireturn, 1)]
theorem jD4 : jm_okD prog_4_method_2_code jC4 = true := by decide +kernel
def jC5 : List (Nat × Instr × Nat) := [(0, .aload_n 0, 1), (1, .getfield 18, 3), (4, .istore 6, 2), (6, .aload_n 0, 1), (7, .dup, 1), (8, .getfield 18, 3), (11, .iconst 1, 1), (12, .iadd, 1), (13, .putfield 18, 3), (16, .aload_n 0, 1), (17, .getfield 9, 3), (20, .iload 6, 2), (22, .iload_n 1, 1), (23, .iastore, 1), (24, .aload_n 0, 1), (25, .iload 6, 2), (27, .iconst 0, 1), (28, .iload_n 2, 1), (29, .invokevirtual 22, 3), (32, .aload_n 0, 1), (33, .iload 6, 2), (35, .iconst 1, 1), (36, .iload_n 3, 1), (37, .invokevirtual 22, 3), (40, .aload_n 0, 1), (41, .iload 6, 2), (43, .iconst 2, 1), (44, .iload 4, 2), (46, .invokevirtual 22, 3), (49, .aload_n 0, 1), (50, .iload 6, 2), (52, .iconst 3, 1), (53, .iload 5, 2), (55, .invokevirtual 22, 3), (58, .iload 6, 2), (60, .ireturn, 1)]
theorem jD5 : jm_okD prog_4_method_4_code jC5 = true := by decide +kernel
def jC6 : List (Nat × Instr × Nat) := [(0, .aload_n 0, 1), (1, .getfield 15, 3), (4, .iload_n 1, 1), (5, .iconst 4, 1), (6, .imul, 1), (7, .iload_n 2, 1), (8, .iadd, 1), (9, .iload_n 3, 1), (10, .iastore, 1), (11, .return_, 1)]
theorem jD6 : jm_okD prog_4_method_5_code jC6 = true := by decide +kernel
def jC7_0 : List (Nat × Instr × Nat) := [(0, .iload_n 1, 1), (1, .iconst 0, 1), (2, .iconst 3, 1), (3, .invokestatic 86, 3), (6, .ifCond .ne 12, 3), (9, .iload_n 2, 1), (10, .iconst 0, 1), (11, .iconst 3, 1), (12, .invokestatic 86, 3), (15, .ifCond .eq 6, 3), (18, .bipush (-2), 2), (20, .ireturn, 1), (21, .aload_n 0, 1), (22, .getfield 73, 3), (25, .iload_n 1, 1), (26, .aaload, 1), (27, .astore_n 3, 1), (28, .aload_n 3, 1), (29, .invokevirtual 102, 3), (32, .ifCond .eq 9, 3), (35, .aload_n 0, 1), (36, .iconst 1, 1), (37, .invokevirtual 105, 3), (40, .ireturn, 1), (41, .iconst 0, 1), (42, .istore 4, 2), (44, .iconst 0, 1), (45, .istore 5, 2), (47, .iload 5, 2), (49, .iconst 4, 1), (50, .iadd, 1), (51, .aload_n 3, 1), (52, .getfield 109, 3), (55, .if_icmp .gt 102, 3), (58, .aload_n 0, 1), (59, .getfield 10, 3), (62, .invokevirtual 94, 3), (65, .ifCond .ne 92, 3), (68, .aload_n 3, 1), (69, .getfield 112, 3), (72, .astore 6, 2), (74, .aload 6, 2), (76, .iload 5, 2), (78, .iconst 0, 1), (79, .iadd, 1), (80, .iaload, 1), (81, .aload 6, 2), (83, .iload 5, 2), (85, .iconst 1, 1), (86, .iadd, 1), (87, .iaload, 1), (88, .aload 6, 2), (90, .iload 5, 2), (92, .iconst 2, 1), (93, .iadd, 1), (94, .iaload, 1), (95, .aload 6, 2), (97, .iload 5, 2), (99, .iconst 3, 1), (100, .iadd, 1)]
theorem jD7_0 : jm_okD prog_1_method_3_code jC7_0 = true := by decide +kernel
def jC7_1 : List (Nat × Instr × Nat) := [(101, .iaload, 1), (102, .invokestatic 90, 3), (105, .ifCond .ne 6, 3), (108, .iload 4, 2), (110, .ireturn, 1), (111, .aload_n 0, 1), (112, .getfield 10, 3), (115, .iload_n 2, 1), (116, .aload 6, 2), (118, .iload 5, 2), (120, .iconst 0, 1), (121, .iadd, 1), (122, .iaload, 1), (123, .aload 6, 2), (125, .iload 5, 2), (127, .iconst 1, 1), (128, .iadd, 1), (129, .iaload, 1), (130, .aload 6, 2), (132, .iload 5, 2), (134, .iconst 2, 1), (135, .iadd, 1), (136, .iaload, 1), (137, .aload 6, 2), (139, .iload 5, 2), (141, .iconst 3, 1), (142, .iadd, 1), (143, .iaload, 1), (144, .invokevirtual 98, 3), (147, .pop, 1), (148, .iinc 4 1, 3), (151, .iinc 5 4, 3), (154, .goto (-107), 3), (157, .iload 4, 2), (159, .ireturn, 1)]
theorem jD7_1 : jm_okD prog_1_method_3_code jC7_1 = true := by decide +kernel
def jC7 : List (Nat × Instr × Nat) := jC7_0 ++ (jC7_1)
theorem jD7 : jm_okD prog_1_method_3_code jC7 = true := jm_okD_app jD7_0 (jD7_1)
def jC8 : List (Nat × Instr × Nat) := [(0, .aload_n 0, 1), (1, .getfield 15, 3), (4, .iconst (-1), 1), (5, .if_icmp .ne 7, 3), (8, .iconst 1, 1), (9, .goto 4, 3), (12, .iconst 0, 1), (13, .ireturn, 1)]
theorem jD8 : jm_okD prog_8_method_2_code jC8 = true := by decide +kernel
def jC9 : List (Nat × Instr × Nat) := [(0, .aload_n 0, 1), (1, .iload_n 1, 1), (2, .putfield 77, 3), (5, .bipush (-10), 2), (7, .iload_n 1, 1), (8, .isub, 1), (9, .ireturn, 1)]
theorem jD9 : jm_okD prog_1_method_39_code jC9 = true := by decide +kernel
def jC10 : List (Nat × Instr × Nat) := [(0, .aload_n 0, 1), (1, .getfield 10, 3), (4, .iload_n 1, 1), (5, .invokevirtual 115, 3), (8, .ifCond .eq 20, 3), (11, .iload_n 2, 1), (12, .iconst 0, 1), (13, .iconst 3, 1), (14, .invokestatic 86, 3), (17, .ifCond .ne 11, 3), (20, .iload_n 2, 1), (21, .iload_n 3, 1), (22, .invokestatic 119, 3), (25, .ifCond .ne 6, 3), (28, .bipush (-2), 2), (30, .ireturn, 1), (31, .aload_n 0, 1), (32, .getfield 10, 3), (35, .iload_n 1, 1), (36, .iload_n 2, 1), (37, .invokevirtual 123, 3), (40, .istore 4, 2), (42, .aload_n 0, 1), (43, .getfield 10, 3), (46, .iload_n 1, 1), (47, .iload_n 2, 1), (48, .iload_n 3, 1), (49, .invokevirtual 127, 3), (52, .iload 4, 2), (54, .ireturn, 1)]
theorem jD10 : jm_okD prog_1_method_4_code jC10 = true := by decide +kernel
def jC11 : List (Nat × Instr × Nat) := [(0, .iload_n 1, 1), (1, .ifCond .lt 15, 3), (4, .iload_n 1, 1), (5, .aload_n 0, 1), (6, .getfield 18, 3), (9, .if_icmp .ge 7, 3), (12, .iconst 1, 1), (13, .goto 4, 3), (16, .iconst 0, 1), (17, .ireturn, 1)]
theorem jD11 : jm_okD prog_4_method_3_code jC11 = true := by decide +kernel
def jC12 : List (Nat × Instr × Nat) := [(0, .aload_n 0, 1), (1, .getfield 15, 3), (4, .iload_n 1, 1), (5, .iconst 4, 1), (6, .imul, 1), (7, .iload_n 2, 1), (8, .iadd, 1), (9, .iaload, 1), (10, .ireturn, 1)]
theorem jD12 : jm_okD prog_4_method_6_code jC12 = true := by decide +kernel
def jC13 : List (Nat × Instr × Nat) := [(0, .aload_n 0, 1), (1, .getfield 10, 3), (4, .getfield 131, 3), (7, .istore_n 1, 1), (8, .aload_n 0, 1), (9, .getfield 10, 3), (12, .iconst 0, 1), (13, .putfield 131, 3), (16, .aload_n 0, 1), (17, .getfield 67, 3), (20, .iconst 0, 1), (21, .putfield 134, 3), (24, .iload_n 1, 1), (25, .ireturn, 1)]
theorem jD13 : jm_okD prog_1_method_5_code jC13 = true := by decide +kernel
def jC14 : List (Nat × Instr × Nat) := [(0, .iload_n 1, 1), (1, .iconst 0, 1), (2, .iconst 5, 1), (3, .invokestatic 86, 3), (6, .ifCond .ne 20, 3), (9, .iload_n 2, 1), (10, .getstatic 135, 3), (13, .iload_n 1, 1), (14, .iaload, 1), (15, .getstatic 138, 3), (18, .iload_n 1, 1), (19, .iaload, 1), (20, .invokestatic 86, 3), (23, .ifCond .eq 6, 3), (26, .bipush (-2), 2), (28, .ireturn, 1), (29, .aload_n 0, 1), (30, .getfield 25, 3), (33, .iload_n 1, 1), (34, .iaload, 1), (35, .istore_n 3, 1), (36, .aload_n 0, 1), (37, .getfield 25, 3), (40, .iload_n 1, 1), (41, .iload_n 2, 1), (42, .iastore, 1), (43, .iload_n 3, 1), (44, .ireturn, 1)]
theorem jD14 : jm_okD prog_1_method_6_code jC14 = true := by decide +kernel
def jC15 : List (Nat × Instr × Nat) := [(0, .iload_n 1, 1), (1, .iconst 0, 1), (2, .iconst 3, 1), (3, .invokestatic 86, 3), (6, .ifCond .ne 14, 3), (9, .iload_n 2, 1), (10, .iconst 0, 1), (11, .sipush 255, 3), (14, .invokestatic 86, 3), (17, .ifCond .eq 6, 3), (20, .bipush (-2), 2), (22, .ireturn, 1), (23, .aload_n 0, 1), (24, .getfield 30, 3), (27, .iload_n 1, 1), (28, .aaload, 1), (29, .invokevirtual 141, 3), (32, .ifCond .eq 6, 3), (35, .bipush (-4), 2), (37, .ireturn, 1), (38, .aload_n 0, 1), (39, .getfield 30, 3), (42, .iload_n 1, 1), (43, .aaload, 1), (44, .iload_n 2, 1), (45, .invokevirtual 142, 3), (48, .aload_n 0, 1), (49, .iload_n 1, 1), (50, .invokevirtual 144, 3), (53, .aload_n 0, 1), (54, .getfield 30, 3), (57, .iload_n 1, 1), (58, .aaload, 1), (59, .getfield 147, 3), (62, .ireturn, 1)]
theorem jD15 : jm_okD prog_1_method_7_code jC15 = true := by decide +kernel
def jC16 : List (Nat × Instr × Nat) := [(0, .aload_n 0, 1), (1, .getfield 9, 3), (4, .aload_n 0, 1), (5, .getfield 21, 3), (8, .arraylength, 1), (9, .if_icmp .lt 7, 3), (12, .iconst 1, 1), (13, .goto 4, 3), (16, .iconst 0, 1), (17, .ireturn, 1)]
theorem jD16 : jm_okD prog_9_method_2_code jC16 = true := by decide +kernel
def jC17 : List (Nat × Instr × Nat) := [(0, .aload_n 0, 1), (1, .getfield 21, 3), (4, .aload_n 0, 1), (5, .getfield 9, 3), (8, .iload_n 1, 1), (9, .iastore, 1), (10, .aload_n 0, 1), (11, .dup, 1), (12, .getfield 9, 3), (15, .iconst 1, 1), (16, .iadd, 1), (17, .putfield 9, 3), (20, .return_, 1)]
theorem jD17 : jm_okD prog_9_method_3_code jC17 = true := by decide +kernel
def jC18 : List (Nat × Instr × Nat) := [(0, .iload_n 1, 1), (1, .ifCond .ne 19, 3), (4, .aload_n 0, 1), (5, .getfield 37, 3), (8, .aload_n 0, 1), (9, .getfield 30, 3), (12, .iconst 0, 1), (13, .aaload, 1), (14, .invokevirtual 330, 3), (17, .goto 20, 3), (20, .aload_n 0, 1), (21, .getfield 43, 3), (24, .iload_n 1, 1), (25, .iconst 1, 1), (26, .isub, 1), (27, .aaload, 1), (28, .aload_n 0, 1), (29, .getfield 30, 3), (32, .iload_n 1, 1), (33, .aaload, 1), (34, .invokevirtual 334, 3), (37, .return_, 1)]
theorem jD18 : jm_okD prog_1_method_40_code jC18 = true := by decide +kernel
def jC19 : List (Nat × Instr × Nat) := [(0, .aload_n 0, 1), (1, .invokevirtual 26, 3), (4, .aload_n 1, 1), (5, .invokevirtual 29, 3), (8, .aload_n 1, 1), (9, .getfield 34, 3), (12, .ifCond .le 7, 3), (15, .iconst 1, 1), (16, .goto 4, 3), (19, .iconst 0, 1), (20, .istore_n 2, 1), (21, .iconst 0, 1), (22, .istore_n 3, 1), (23, .iload_n 2, 1), (24, .ifCond .eq 27, 3), (27, .iload_n 3, 1), (28, .bipush 60, 2), (30, .if_icmp .gt 21, 3), (33, .aload_n 0, 1), (34, .aload_n 1, 1), (35, .invokevirtual 37, 3), (38, .aload_n 1, 1), (39, .bipush 59, 2), (41, .invokevirtual 41, 3), (44, .istore_n 2, 1), (45, .iinc 3 1, 3), (48, .goto (-25), 3), (51, .aload_n 1, 1), (52, .getfield 45, 3), (55, .iconst (-1), 1), (56, .if_icmp .eq 7, 3), (59, .aload_n 0, 1), (60, .invokevirtual 26, 3), (63, .return_, 1)]
theorem jD19 : jm_okD prog_6_method_2_code jC19 = true := by decide +kernel
def jC20 : List (Nat × Instr × Nat) := [(0, .aload_n 0, 1), (1, .iconst 0, 1), (2, .putfield 22, 3), (5, .aload_n 0, 1), (6, .getfield 9, 3), (9, .iconst 0, 1), (10, .invokestatic 48, 3), (13, .aload_n 0, 1), (14, .getfield 15, 3), (17, .iconst 0, 1), (18, .invokestatic 48, 3), (21, .aload_n 0, 1), (22, .iconst 0, 1), (23, .invokevirtual 54, 3), (26, .return_, 1)]
theorem jD20 : jm_okD prog_6_method_3_code jC20 = true := by decide +kernel
def jC21 : List (Nat × Instr × Nat) := [(0, .iconst 0, 1), (1, .istore_n 2, 1), (2, .aload_n 0, 1), (3, .arraylength, 1), (4, .istore_n 3, 1), (5, .iload_n 2, 1), (6, .iload_n 3, 1), (7, .if_icmp .ge 13, 3), (10, .aload_n 0, 1), (11, .iload_n 2, 1), (12, .iload_n 1, 1), (13, .iastore, 1), (14, .iinc 2 1, 3), (17, .goto (-12), 3), (20, .return_, 1)]
theorem jD21 : jm_okD prog_15_method_103_code jC21 = true := by decide +kernel
def jC22 : List (Nat × Instr × Nat) := [(0, .aload_n 0, 1), (1, .getfield 22, 3), (4, .istore_n 2, 1), (5, .iload_n 2, 1), (6, .sipush 200, 3), (9, .if_icmp .ge 16, 3), (12, .aload_n 0, 1), (13, .getfield 18, 3), (16, .iload_n 2, 1), (17, .iload_n 1, 1), (18, .bastore, 1), (19, .iinc 2 1, 3), (22, .goto (-17), 3), (25, .return_, 1)]
theorem jD22 : jm_okD prog_6_method_6_code jC22 = true := by decide +kernel
def jC23 : List (Nat × Instr × Nat) := [(0, .aload_n 0, 1), (1, .iconst 0, 1), (2, .putfield 15, 3), (5, .aload_n 0, 1), (6, .iconst (-1), 1), (7, .putfield 18, 3), (10, .return_, 1)]
theorem jD23 : jm_okD prog_9_method_4_code jC23 = true := by decide +kernel
def jC24_0 : List (Nat × Instr × Nat) := [(0, .aload_n 1, 1), (1, .bipush 104, 2), (3, .invokevirtual 58, 3), (6, .ifCond .eq 48, 3), (9, .aload_n 1, 1), (10, .iconst 2, 1), (11, .iconst 0, 1), (12, .bipush 99, 2), (14, .invokevirtual 61, 3), (17, .istore_n 2, 1), (18, .aload_n 1, 1), (19, .bipush 120, 2), (21, .invokevirtual 65, 3), (24, .aload_n 1, 1), (25, .iconst 2, 1), (26, .iconst 1, 1), (27, .bipush 99, 2), (29, .invokevirtual 61, 3), (32, .istore_n 3, 1), (33, .aload_n 0, 1), (34, .iload_n 2, 1), (35, .aload_n 1, 1), (36, .getfield 45, 3), (39, .iconst (-1), 1), (40, .if_icmp .ne 7, 3), (43, .iload_n 3, 1), (44, .goto 4, 3), (47, .iconst 0, 1), (48, .invokevirtual 69, 3), (51, .goto 80, 3), (54, .aload_n 1, 1), (55, .bipush 115, 2), (57, .invokevirtual 58, 3), (60, .ifCond .eq 29, 3), (63, .aload_n 0, 1), (64, .getfield 22, 3), (67, .sipush 200, 3), (70, .if_icmp .ge 61, 3), (73, .aload_n 0, 1), (74, .getfield 15, 3), (77, .aload_n 0, 1), (78, .getfield 22, 3), (81, .dup2, 1), (82, .iaload, 1), (83, .iconst 1, 1), (84, .iadd, 1), (85, .iastore, 1), (86, .goto 45, 3), (89, .aload_n 1, 1), (90, .bipush 108, 2), (92, .invokevirtual 58, 3), (95, .ifCond .eq 11, 3), (98, .aload_n 0, 1), (99, .iconst 1, 1), (100, .invokevirtual 54, 3), (103, .goto 28, 3), (106, .aload_n 1, 1), (107, .bipush 111, 2), (109, .invokevirtual 58, 3), (112, .ifCond .eq 11, 3)]
theorem jD24_0 : jm_okD prog_6_method_4_code jC24_0 = true := by decide +kernel
def jC24_1 : List (Nat × Instr × Nat) := [(115, .aload_n 0, 1), (116, .iconst 0, 1), (117, .invokevirtual 54, 3), (120, .goto 11, 3), (123, .aload_n 1, 1), (124, .aload_n 1, 1), (125, .getfield 73, 3), (128, .invokevirtual 76, 3), (131, .return_, 1)]
theorem jD24_1 : jm_okD prog_6_method_4_code jC24_1 = true := by decide +kernel
def jC24 : List (Nat × Instr × Nat) := jC24_0 ++ (jC24_1)
theorem jD24 : jm_okD prog_6_method_4_code jC24 = true := jm_okD_app jD24_0 (jD24_1)
def jC25 : List (Nat × Instr × Nat) := [(0, .aload_n 0, 1), (1, .getfield 18, 3), (4, .iconst (-1), 1), (5, .if_icmp .ne 27, 3), (8, .aload_n 0, 1), (9, .getfield 15, 3), (12, .aload_n 0, 1), (13, .getfield 9, 3), (16, .if_icmp .ge 16, 3), (19, .aload_n 0, 1), (20, .getfield 21, 3), (23, .aload_n 0, 1), (24, .getfield 15, 3), (27, .iaload, 1), (28, .iload_n 1, 1), (29, .if_icmp .eq 5, 3), (32, .iconst 0, 1), (33, .ireturn, 1), (34, .aload_n 0, 1), (35, .dup, 1), (36, .getfield 15, 3), (39, .iconst 1, 1), (40, .iadd, 1), (41, .putfield 15, 3), (44, .iconst 1, 1), (45, .ireturn, 1)]
theorem jD25 : jm_okD prog_9_method_6_code jC25 = true := by decide +kernel
def jC26_0 : List (Nat × Instr × Nat) := [(0, .aload_n 0, 1), (1, .getfield 18, 3), (4, .iconst (-1), 1), (5, .if_icmp .eq 5, 3), (8, .iload_n 2, 1), (9, .ireturn, 1), (10, .aload_n 0, 1), (11, .getfield 15, 3), (14, .istore 4, 2), (16, .iconst 0, 1), (17, .istore 5, 2), (19, .aload_n 0, 1), (20, .getfield 15, 3), (23, .aload_n 0, 1), (24, .getfield 9, 3), (27, .if_icmp .ge 75, 3), (30, .aload_n 0, 1), (31, .getfield 15, 3), (34, .iload 4, 2), (36, .isub, 1), (37, .iload_n 1, 1), (38, .if_icmp .ge 64, 3), (41, .aload_n 0, 1), (42, .getfield 21, 3), (45, .aload_n 0, 1), (46, .getfield 15, 3), (49, .iaload, 1), (50, .bipush 48, 2), (52, .if_icmp .lt 50, 3), (55, .aload_n 0, 1), (56, .getfield 21, 3), (59, .aload_n 0, 1), (60, .getfield 15, 3), (63, .iaload, 1), (64, .bipush 57, 2), (66, .if_icmp .gt 36, 3), (69, .bipush 10, 2), (71, .iload 5, 2), (73, .imul, 1), (74, .aload_n 0, 1), (75, .getfield 21, 3), (78, .aload_n 0, 1), (79, .getfield 15, 3), (82, .iaload, 1), (83, .iadd, 1), (84, .bipush 48, 2), (86, .isub, 1), (87, .istore 5, 2), (89, .aload_n 0, 1), (90, .dup, 1), (91, .getfield 15, 3), (94, .iconst 1, 1), (95, .iadd, 1), (96, .putfield 15, 3), (99, .goto (-80), 3), (102, .aload_n 0, 1), (103, .getfield 15, 3), (106, .iload 4, 2), (108, .if_icmp .eq 15, 3), (111, .iload 5, 2)]
theorem jD26_0 : jm_okD prog_9_method_9_code jC26_0 = true := by decide +kernel
def jC26_1 : List (Nat × Instr × Nat) := [(113, .iload_n 2, 1), (114, .if_icmp .lt 9, 3), (117, .iload 5, 2), (119, .iload_n 3, 1), (120, .if_icmp .le 9, 3), (123, .aload_n 0, 1), (124, .iload 4, 2), (126, .invokevirtual 29, 3), (129, .iload 5, 2), (131, .ireturn, 1)]
theorem jD26_1 : jm_okD prog_9_method_9_code jC26_1 = true := by decide +kernel
def jC26 : List (Nat × Instr × Nat) := jC26_0 ++ (jC26_1)
theorem jD26 : jm_okD prog_9_method_9_code jC26 = true := jm_okD_app jD26_0 (jD26_1)
def jC27 : List (Nat × Instr × Nat) := [(0, .aload_n 0, 1), (1, .getfield 18, 3), (4, .iconst (-1), 1), (5, .if_icmp .ne 8, 3), (8, .aload_n 0, 1), (9, .iload_n 1, 1), (10, .putfield 18, 3), (13, .return_, 1)]
theorem jD27 : jm_okD prog_9_method_5_code jC27 = true := by decide +kernel
def jC28 : List (Nat × Instr × Nat) := [(0, .aload_n 0, 1), (1, .iload_n 1, 1), (2, .invokevirtual 25, 3), (5, .ifCond .ne 11, 3), (8, .aload_n 0, 1), (9, .aload_n 0, 1), (10, .getfield 15, 3), (13, .invokevirtual 29, 3), (16, .return_, 1)]
theorem jD28 : jm_okD prog_9_method_7_code jC28 = true := by decide +kernel
def jC29 : List (Nat × Instr × Nat) := [(0, .aload_n 0, 1), (1, .getfield 22, 3), (4, .istore_n 3, 1), (5, .iload_n 3, 1), (6, .aload_n 0, 1), (7, .getfield 22, 3), (10, .iload_n 2, 1), (11, .iadd, 1), (12, .if_icmp .ge 23, 3), (15, .iload_n 3, 1), (16, .sipush 200, 3), (19, .if_icmp .ge 16, 3), (22, .aload_n 0, 1), (23, .getfield 9, 3), (26, .iload_n 3, 1), (27, .iload_n 1, 1), (28, .iastore, 1), (29, .iinc 3 1, 3), (32, .goto (-27), 3), (35, .aload_n 0, 1), (36, .dup, 1), (37, .getfield 22, 3), (40, .iload_n 2, 1), (41, .iadd, 1), (42, .putfield 22, 3), (45, .return_, 1)]
theorem jD29 : jm_okD prog_6_method_5_code jC29 = true := by decide +kernel
def jC30 : List (Nat × Instr × Nat) := [(0, .aload_n 0, 1), (1, .getfield 18, 3), (4, .iconst (-1), 1), (5, .if_icmp .ne 14, 3), (8, .aload_n 0, 1), (9, .getfield 15, 3), (12, .aload_n 0, 1), (13, .getfield 9, 3), (16, .if_icmp .lt 5, 3), (19, .iconst 0, 1), (20, .ireturn, 1), (21, .aload_n 0, 1), (22, .iload_n 1, 1), (23, .invokevirtual 33, 3), (26, .aload_n 0, 1), (27, .getfield 18, 3), (30, .iconst (-1), 1), (31, .if_icmp .ne 7, 3), (34, .iconst 1, 1), (35, .goto 4, 3), (38, .iconst 0, 1), (39, .ireturn, 1)]
theorem jD30 : jm_okD prog_9_method_8_code jC30 = true := by decide +kernel
def jC31 : List (Nat × Instr × Nat) := [(0, .aload_n 0, 1), (1, .sipush 1000, 3), (4, .putfield 11, 3), (7, .aload_n 0, 1), (8, .sipush 1000, 3), (11, .putfield 15, 3), (14, .aload_n 0, 1), (15, .sipush 1000, 3), (18, .putfield 18, 3), (21, .aload_n 1, 1), (22, .invokevirtual 21, 3), (25, .aload_n 1, 1), (26, .getfield 26, 3), (29, .ifCond .le 7, 3), (32, .iconst 1, 1), (33, .goto 4, 3), (36, .iconst 0, 1), (37, .istore_n 2, 1), (38, .iconst 0, 1), (39, .istore_n 3, 1), (40, .iload_n 2, 1), (41, .ifCond .eq 27, 3), (44, .iload_n 3, 1), (45, .bipush 30, 2), (47, .if_icmp .gt 21, 3), (50, .aload_n 0, 1), (51, .aload_n 1, 1), (52, .invokevirtual 29, 3), (55, .aload_n 1, 1), (56, .bipush 124, 2), (58, .invokevirtual 33, 3), (61, .istore_n 2, 1), (62, .iinc 3 1, 3), (65, .goto (-25), 3), (68, .return_, 1)]
theorem jD31 : jm_okD prog_7_method_2_code jC31 = true := by decide +kernel
def jC32 : List (Nat × Instr × Nat) := [(0, .aload_n 1, 1), (1, .bipush 103, 2), (3, .invokevirtual 37, 3), (6, .ifCond .eq 25, 3), (9, .aload_n 0, 1), (10, .aload_n 0, 1), (11, .getfield 11, 3), (14, .aload_n 1, 1), (15, .iconst 2, 1), (16, .iconst 1, 1), (17, .bipush 99, 2), (19, .invokevirtual 40, 3), (22, .invokestatic 44, 3), (25, .putfield 11, 3), (28, .goto 74, 3), (31, .aload_n 1, 1), (32, .bipush 110, 2), (34, .invokevirtual 37, 3), (37, .ifCond .eq 25, 3), (40, .aload_n 0, 1), (41, .aload_n 0, 1), (42, .getfield 15, 3), (45, .aload_n 1, 1), (46, .iconst 2, 1), (47, .iconst 1, 1), (48, .bipush 99, 2), (50, .invokevirtual 40, 3), (53, .invokestatic 44, 3), (56, .putfield 15, 3), (59, .goto 43, 3), (62, .aload_n 1, 1), (63, .bipush 116, 2), (65, .invokevirtual 37, 3), (68, .ifCond .eq 26, 3), (71, .aload_n 0, 1), (72, .aload_n 0, 1), (73, .getfield 18, 3), (76, .aload_n 1, 1), (77, .iconst 3, 1), (78, .iconst 1, 1), (79, .sipush 200, 3), (82, .invokevirtual 40, 3), (85, .invokestatic 44, 3), (88, .putfield 18, 3), (91, .goto 11, 3), (94, .aload_n 1, 1), (95, .aload_n 1, 1), (96, .getfield 50, 3), (99, .invokevirtual 53, 3), (102, .return_, 1)]
theorem jD32 : jm_okD prog_7_method_3_code jC32 = true := by decide +kernel
def jC33 : List (Nat × Instr × Nat) := [(0, .iload_n 1, 1), (1, .iconst 0, 1), (2, .iconst 3, 1), (3, .invokestatic 86, 3), (6, .ifCond .eq 6, 3), (9, .bipush (-2), 2), (11, .ireturn, 1), (12, .aload_n 0, 1), (13, .getfield 30, 3), (16, .iload_n 1, 1), (17, .aaload, 1), (18, .getfield 147, 3), (21, .istore_n 2, 1), (22, .aload_n 0, 1), (23, .getfield 30, 3), (26, .iload_n 1, 1), (27, .aaload, 1), (28, .iconst 0, 1), (29, .putfield 147, 3), (32, .aload_n 0, 1), (33, .iload_n 1, 1), (34, .invokevirtual 144, 3), (37, .iload_n 2, 1), (38, .ireturn, 1)]
theorem jD33 : jm_okD prog_1_method_8_code jC33 = true := by decide +kernel
def jC34 : List (Nat × Instr × Nat) := [(0, .iload_n 1, 1), (1, .iconst 0, 1), (2, .iconst 3, 1), (3, .invokestatic 86, 3), (6, .ifCond .eq 6, 3), (9, .bipush (-2), 2), (11, .ireturn, 1), (12, .aload_n 0, 1), (13, .getfield 30, 3), (16, .iload_n 1, 1), (17, .aaload, 1), (18, .getfield 148, 3), (21, .ireturn, 1)]
theorem jD34 : jm_okD prog_1_method_9_code jC34 = true := by decide +kernel
def jC35 : List (Nat × Instr × Nat) := [(0, .iload_n 1, 1), (1, .iconst 0, 1), (2, .sipush 199, 3), (5, .invokestatic 86, 3), (8, .ifCond .ne 12, 3), (11, .iload_n 2, 1), (12, .iconst 0, 1), (13, .iconst 2, 1), (14, .invokestatic 86, 3), (17, .ifCond .eq 6, 3), (20, .bipush (-2), 2), (22, .ireturn, 1), (23, .iload_n 2, 1), (24, .ifCond .ne 13, 3), (27, .aload_n 0, 1), (28, .getfield 37, 3), (31, .getfield 151, 3), (34, .iload_n 1, 1), (35, .iaload, 1), (36, .ireturn, 1), (37, .iload_n 2, 1), (38, .iconst 1, 1), (39, .if_icmp .ne 13, 3), (42, .aload_n 0, 1), (43, .getfield 37, 3), (46, .getfield 154, 3), (49, .iload_n 1, 1), (50, .iaload, 1), (51, .ireturn, 1), (52, .aload_n 0, 1), (53, .getfield 37, 3), (56, .getfield 157, 3), (59, .iload_n 1, 1), (60, .baload, 1), (61, .ifCond .eq 7, 3), (64, .iconst 1, 1), (65, .goto 4, 3), (68, .iconst 0, 1), (69, .ireturn, 1)]
theorem jD35 : jm_okD prog_1_method_10_code jC35 = true := by decide +kernel
def jC36 : List (Nat × Instr × Nat) := [(0, .aload_n 0, 1), (1, .getfield 10, 3), (4, .iload_n 1, 1), (5, .invokevirtual 115, 3), (8, .ifCond .eq 23, 3), (11, .iload_n 2, 1), (12, .iconst 0, 1), (13, .sipush 200, 3), (16, .invokestatic 86, 3), (19, .ifCond .ne 12, 3), (22, .iload_n 3, 1), (23, .iconst 0, 1), (24, .iconst 5, 1), (25, .invokestatic 86, 3), (28, .ifCond .eq 6, 3), (31, .bipush (-2), 2), (33, .ireturn, 1), (34, .aload_n 0, 1), (35, .invokevirtual 161, 3), (38, .aload_n 0, 1), (39, .getfield 50, 3), (42, .aload_n 0, 1), (43, .getfield 37, 3), (46, .iload_n 2, 1), (47, .invokevirtual 164, 3), (50, .aload_n 0, 1), (51, .getfield 50, 3), (54, .iload_n 1, 1), (55, .iload_n 3, 1), (56, .invokevirtual 168, 3), (59, .ireturn, 1)]
theorem jD36 : jm_okD prog_1_method_11_code jC36 = true := by decide +kernel
def jC37 : List (Nat × Instr × Nat) := [(0, .aload_n 0, 1), (1, .getfield 50, 3), (4, .aload_n 0, 1), (5, .getfield 10, 3), (8, .aload_n 0, 1), (9, .getfield 25, 3), (12, .iconst 1, 1), (13, .iaload, 1), (14, .aload_n 0, 1), (15, .getfield 25, 3), (18, .iconst 0, 1), (19, .iaload, 1), (20, .invokevirtual 199, 3), (23, .return_, 1)]
theorem jD37 : jm_okD prog_1_method_41_code jC37 = true := by decide +kernel
def jC38_0 : List (Nat × Instr × Nat) := [(0, .aload_n 0, 1), (1, .aload_n 1, 1), (2, .getfield 65, 3), (5, .putfield 45, 3), (8, .aload_n 0, 1), (9, .iload_n 2, 1), (10, .putfield 49, 3), (13, .aload_n 0, 1), (14, .iload_n 3, 1), (15, .putfield 52, 3), (18, .aload_n 0, 1), (19, .aload_n 0, 1), (20, .getfield 45, 3), (23, .putfield 55, 3), (26, .aload_n 0, 1), (27, .iconst 0, 1), (28, .putfield 58, 3), (31, .aload_n 0, 1), (32, .iconst 0, 1), (33, .putfield 61, 3), (36, .aload_n 0, 1), (37, .getfield 42, 3), (40, .iconst 0, 1), (41, .invokestatic 68, 3), (44, .iconst 0, 1), (45, .istore 4, 2), (47, .iload 4, 2), (49, .aload_n 0, 1), (50, .getfield 45, 3), (53, .if_icmp .ge 118, 3), (56, .aload_n 0, 1), (57, .getfield 9, 3), (60, .iload 4, 2), (62, .aload_n 1, 1), (63, .iload 4, 2), (65, .iconst 1, 1), (66, .invokevirtual 74, 3), (69, .iastore, 1), (70, .aload_n 0, 1), (71, .getfield 15, 3), (74, .iload 4, 2), (76, .aload_n 1, 1), (77, .iload 4, 2), (79, .iconst 2, 1), (80, .invokevirtual 74, 3), (83, .iastore, 1), (84, .aload_n 0, 1), (85, .getfield 18, 3), (88, .iload 4, 2), (90, .aload_n 1, 1), (91, .iload 4, 2), (93, .iconst 3, 1), (94, .invokevirtual 74, 3), (97, .iastore, 1), (98, .aload_n 0, 1), (99, .getfield 21, 3), (102, .iload 4, 2), (104, .iconst 0, 1), (105, .iastore, 1), (106, .aload_n 0, 1)]
theorem jD38_0 : jm_okD prog_2_method_2_code jC38_0 = true := by decide +kernel
def jC38_1 : List (Nat × Instr × Nat) := [(107, .getfield 24, 3), (110, .iload 4, 2), (112, .aload_n 1, 1), (113, .iload 4, 2), (115, .iconst 0, 1), (116, .invokevirtual 74, 3), (119, .iastore, 1), (120, .aload_n 0, 1), (121, .getfield 27, 3), (124, .iload 4, 2), (126, .iconst 0, 1), (127, .iastore, 1), (128, .aload_n 0, 1), (129, .getfield 30, 3), (132, .iload 4, 2), (134, .iconst 0, 1), (135, .iastore, 1), (136, .aload_n 0, 1), (137, .getfield 33, 3), (140, .iload 4, 2), (142, .iconst (-1), 1), (143, .iastore, 1), (144, .aload_n 0, 1), (145, .getfield 36, 3), (148, .iload 4, 2), (150, .iconst 0, 1), (151, .iastore, 1), (152, .aload_n 0, 1), (153, .iload 4, 2), (155, .aload_n 1, 1), (156, .getfield 78, 3), (159, .iload 4, 2), (161, .iaload, 1), (162, .invokevirtual 81, 3), (165, .iinc 4 1, 3), (168, .goto (-121), 3), (171, .return_, 1)]
theorem jD38_1 : jm_okD prog_2_method_2_code jC38_1 = true := by decide +kernel
def jC38 : List (Nat × Instr × Nat) := jC38_0 ++ (jC38_1)
theorem jD38 : jm_okD prog_2_method_2_code jC38 = true := jm_okD_app jD38_0 (jD38_1)
def jC39 : List (Nat × Instr × Nat) := [(0, .aload_n 0, 1), (1, .getfield 39, 3), (4, .iload_n 2, 1), (5, .bipush 12, 2), (7, .imul, 1), (8, .aload_n 0, 1), (9, .getfield 42, 3), (12, .iload_n 2, 1), (13, .iaload, 1), (14, .iadd, 1), (15, .iload_n 1, 1), (16, .iastore, 1), (17, .aload_n 0, 1), (18, .getfield 42, 3), (21, .iload_n 2, 1), (22, .dup2, 1), (23, .iaload, 1), (24, .iconst 1, 1), (25, .iadd, 1), (26, .iastore, 1), (27, .return_, 1)]
theorem jD39 : jm_okD prog_2_method_3_code jC39 = true := by decide +kernel
def jC40 : List (Nat × Instr × Nat) := [(0, .aload_n 0, 1), (1, .getfield 58, 3), (4, .istore_n 3, 1), (5, .iload_n 3, 1), (6, .iload_n 2, 1), (7, .if_icmp .ge 31, 3), (10, .aload_n 0, 1), (11, .aload_n 1, 1), (12, .getfield 91, 3), (15, .iload_n 3, 1), (16, .iaload, 1), (17, .aload_n 1, 1), (18, .getfield 96, 3), (21, .iload_n 3, 1), (22, .iaload, 1), (23, .aload_n 1, 1), (24, .getfield 99, 3), (27, .iload_n 3, 1), (28, .baload, 1), (29, .invokevirtual 103, 3), (32, .iinc 3 1, 3), (35, .goto (-30), 3), (38, .return_, 1)]
theorem jD40 : jm_okD prog_2_method_6_code jC40 = true := by decide +kernel
def jC41 : List (Nat × Instr × Nat) := [(0, .aload_n 0, 1), (1, .getfield 61, 3), (4, .ifCond .eq 7, 3), (7, .aload_n 0, 1), (8, .invokevirtual 107, 3), (11, .iconst 0, 1), (12, .istore 4, 2), (14, .iload 4, 2), (16, .iconst 4, 1), (17, .if_icmp .ge 48, 3), (20, .iconst 0, 1), (21, .istore 5, 2), (23, .iload 5, 2), (25, .iload_n 2, 1), (26, .if_icmp .ge 15, 3), (29, .aload_n 0, 1), (30, .iload 4, 2), (32, .invokevirtual 110, 3), (35, .iinc 5 1, 3), (38, .goto (-15), 3), (41, .aload_n 0, 1), (42, .iload 4, 2), (44, .iload_n 1, 1), (45, .iload_n 3, 1), (46, .ifCond .eq 8, 3), (49, .bipush 64, 2), (51, .goto 5, 3), (54, .bipush 32, 2), (56, .invokevirtual 114, 3), (59, .iinc 4 1, 3), (62, .goto (-48), 3), (65, .iconst 0, 1), (66, .istore 4, 2), (68, .iload 4, 2), (70, .aload_n 0, 1), (71, .getfield 45, 3), (74, .if_icmp .ge 25, 3), (77, .aload_n 0, 1), (78, .getfield 30, 3), (81, .iload 4, 2), (83, .iaload, 1), (84, .ifCond .ne 9, 3), (87, .aload_n 0, 1), (88, .iload 4, 2), (90, .invokevirtual 118, 3), (93, .iinc 4 1, 3), (96, .goto (-28), 3), (99, .aload_n 0, 1), (100, .dup, 1), (101, .getfield 58, 3), (104, .iconst 1, 1), (105, .iadd, 1), (106, .putfield 58, 3), (109, .return_, 1)]
theorem jD41 : jm_okD prog_2_method_9_code jC41 = true := by decide +kernel
def jC42 : List (Nat × Instr × Nat) := [(0, .iconst 0, 1), (1, .istore_n 1, 1), (2, .iload_n 1, 1), (3, .iconst 4, 1), (4, .if_icmp .ge 88, 3), (7, .iload_n 1, 1), (8, .bipush 12, 2), (10, .imul, 1), (11, .istore_n 2, 1), (12, .iconst 0, 1), (13, .istore_n 3, 1), (14, .iconst 0, 1), (15, .istore 4, 2), (17, .iload 4, 2), (19, .aload_n 0, 1), (20, .getfield 42, 3), (23, .iload_n 1, 1), (24, .iaload, 1), (25, .if_icmp .ge 54, 3), (28, .aload_n 0, 1), (29, .getfield 39, 3), (32, .iload_n 2, 1), (33, .iload 4, 2), (35, .iadd, 1), (36, .iaload, 1), (37, .istore 5, 2), (39, .aload_n 0, 1), (40, .getfield 30, 3), (43, .iload 5, 2), (45, .iaload, 1), (46, .ifCond .eq 14, 3), (49, .aload_n 0, 1), (50, .getfield 30, 3), (53, .iload 5, 2), (55, .iaload, 1), (56, .iconst 2, 1), (57, .if_icmp .ne 16, 3), (60, .aload_n 0, 1), (61, .getfield 39, 3), (64, .iload_n 2, 1), (65, .iload_n 3, 1), (66, .iadd, 1), (67, .iload 5, 2), (69, .iastore, 1), (70, .iinc 3 1, 3), (73, .iinc 4 1, 3), (76, .goto (-59), 3), (79, .aload_n 0, 1), (80, .getfield 42, 3), (83, .iload_n 1, 1), (84, .iload_n 3, 1), (85, .iastore, 1), (86, .iinc 1 1, 3), (89, .goto (-87), 3), (92, .aload_n 0, 1), (93, .iconst 0, 1), (94, .putfield 61, 3), (97, .return_, 1)]
theorem jD42 : jm_okD prog_2_method_10_code jC42 = true := by decide +kernel
def jC43 : List (Nat × Instr × Nat) := [(0, .aload_n 0, 1), (1, .getfield 42, 3), (4, .iload_n 1, 1), (5, .iaload, 1), (6, .istore_n 2, 1), (7, .iload_n 2, 1), (8, .iconst 1, 1), (9, .if_icmp .le 46, 3), (12, .iload_n 1, 1), (13, .bipush 12, 2), (15, .imul, 1), (16, .istore_n 3, 1), (17, .aload_n 0, 1), (18, .getfield 39, 3), (21, .iload_n 3, 1), (22, .iaload, 1), (23, .istore 4, 2), (25, .aload_n 0, 1), (26, .getfield 39, 3), (29, .iload_n 3, 1), (30, .iconst 1, 1), (31, .iadd, 1), (32, .aload_n 0, 1), (33, .getfield 39, 3), (36, .iload_n 3, 1), (37, .iload_n 2, 1), (38, .iconst 1, 1), (39, .isub, 1), (40, .invokestatic 85, 3), (43, .aload_n 0, 1), (44, .getfield 39, 3), (47, .iload_n 3, 1), (48, .iload_n 2, 1), (49, .iadd, 1), (50, .iconst 1, 1), (51, .isub, 1), (52, .iload 4, 2), (54, .iastore, 1), (55, .return_, 1)]
theorem jD43 : jm_okD prog_2_method_11_code jC43 = true := by decide +kernel
def jC44 : List (Nat × Instr × Nat) := [(0, .iload_n 2, 1), (1, .istore 4, 2), (3, .iload_n 1, 1), (4, .bipush 12, 2), (6, .imul, 1), (7, .istore 5, 2), (9, .iload 5, 2), (11, .aload_n 0, 1), (12, .getfield 42, 3), (15, .iload_n 1, 1), (16, .iaload, 1), (17, .iadd, 1), (18, .istore 6, 2), (20, .iload 5, 2), (22, .istore 7, 2), (24, .iload 7, 2), (26, .iload 6, 2), (28, .if_icmp .ge 50, 3), (31, .aload_n 0, 1), (32, .getfield 39, 3), (35, .iload 7, 2), (37, .iaload, 1), (38, .istore 8, 2), (40, .aload_n 0, 1), (41, .getfield 21, 3), (44, .iload 8, 2), (46, .iaload, 1), (47, .iload 4, 2), (49, .iadd, 1), (50, .istore 9, 2), (52, .aload_n 0, 1), (53, .getfield 21, 3), (56, .iload 8, 2), (58, .iload 9, 2), (60, .iload 9, 2), (62, .iload_n 3, 1), (63, .idiv, 1), (64, .isub, 1), (65, .iastore, 1), (66, .iload 4, 2), (68, .iconst 2, 1), (69, .idiv, 1), (70, .istore 4, 2), (72, .iinc 7 1, 3), (75, .goto (-51), 3), (78, .return_, 1)]
theorem jD44 : jm_okD prog_2_method_12_code jC44 = true := by decide +kernel
def jC45_0 : List (Nat × Instr × Nat) := [(0, .aload_n 0, 1), (1, .getfield 24, 3), (4, .iload_n 1, 1), (5, .iaload, 1), (6, .istore_n 2, 1), (7, .aload_n 0, 1), (8, .getfield 27, 3), (11, .iload_n 1, 1), (12, .aload_n 0, 1), (13, .getfield 21, 3), (16, .iload_n 1, 1), (17, .iaload, 1), (18, .bipush 100, 2), (20, .if_icmp .le 20, 3), (23, .aload_n 0, 1), (24, .getfield 21, 3), (27, .iload_n 1, 1), (28, .iaload, 1), (29, .bipush 100, 2), (31, .isub, 1), (32, .iload_n 2, 1), (33, .imul, 1), (34, .bipush 40, 2), (36, .idiv, 1), (37, .goto 4, 3), (40, .iconst 0, 1), (41, .iastore, 1), (42, .iconst 1, 1), (43, .aload_n 0, 1), (44, .getfield 9, 3), (47, .iload_n 1, 1), (48, .iaload, 1), (49, .iload_n 2, 1), (50, .bipush 20, 2), (52, .idiv, 1), (53, .isub, 1), (54, .invokestatic 121, 3), (57, .istore_n 3, 1), (58, .aload_n 0, 1), (59, .getfield 27, 3), (62, .iload_n 1, 1), (63, .iaload, 1), (64, .aload_n 0, 1), (65, .getfield 52, 3), (68, .isub, 1), (69, .istore 4, 2), (71, .iload 4, 2), (73, .aload_n 0, 1), (74, .getfield 49, 3), (77, .iload_n 3, 1), (78, .imul, 1), (79, .if_icmp .lt 35, 3), (82, .aload_n 0, 1), (83, .iload_n 1, 1), (84, .iconst 1, 1), (85, .invokevirtual 126, 3), (88, .aload_n 0, 1), (89, .getfield 36, 3), (92, .iload_n 1, 1), (93, .aload_n 0, 1)]
theorem jD45_0 : jm_okD prog_2_method_13_code jC45_0 = true := by decide +kernel
def jC45_1 : List (Nat × Instr × Nat) := [(94, .getfield 15, 3), (97, .iload_n 1, 1), (98, .iaload, 1), (99, .iload 4, 2), (101, .imul, 1), (102, .bipush 10, 2), (104, .idiv, 1), (105, .iastore, 1), (106, .aload_n 0, 1), (107, .iconst 1, 1), (108, .putfield 61, 3), (111, .goto 52, 3), (114, .aload_n 0, 1), (115, .getfield 21, 3), (118, .iload_n 1, 1), (119, .iaload, 1), (120, .sipush 250, 3), (123, .if_icmp .le 12, 3), (126, .aload_n 0, 1), (127, .iload_n 1, 1), (128, .iconst 2, 1), (129, .invokevirtual 126, 3), (132, .goto 31, 3), (135, .aload_n 0, 1), (136, .getfield 24, 3), (139, .iload_n 1, 1), (140, .iconst 0, 1), (141, .iload_n 2, 1), (142, .aload_n 0, 1), (143, .getfield 27, 3), (146, .iload_n 1, 1), (147, .iaload, 1), (148, .aload_n 0, 1), (149, .getfield 18, 3), (152, .iload_n 1, 1), (153, .iaload, 1), (154, .imul, 1), (155, .bipush 100, 2), (157, .idiv, 1), (158, .isub, 1), (159, .invokestatic 121, 3), (162, .iastore, 1), (163, .return_, 1)]
theorem jD45_1 : jm_okD prog_2_method_13_code jC45_1 = true := by decide +kernel
def jC45 : List (Nat × Instr × Nat) := jC45_0 ++ (jC45_1)
theorem jD45 : jm_okD prog_2_method_13_code jC45 = true := jm_okD_app jD45_0 (jD45_1)
def jC46 : List (Nat × Instr × Nat) := [(0, .aload_n 0, 1), (1, .getfield 30, 3), (4, .iload_n 1, 1), (5, .iload_n 2, 1), (6, .iastore, 1), (7, .aload_n 0, 1), (8, .getfield 33, 3), (11, .iload_n 1, 1), (12, .aload_n 0, 1), (13, .getfield 58, 3), (16, .iastore, 1), (17, .aload_n 0, 1), (18, .dup, 1), (19, .getfield 55, 3), (22, .iconst 1, 1), (23, .isub, 1), (24, .putfield 55, 3), (27, .return_, 1)]
theorem jD46 : jm_okD prog_2_method_14_code jC46 = true := by decide +kernel
def jC47 : List (Nat × Instr × Nat) := [(0, .iload_n 2, 1), (1, .tableswitch 84 0 4 #[35, 42, 49, 56, 63], 35), (36, .aload_n 0, 1), (37, .getfield 21, 3), (40, .iload_n 1, 1), (41, .iaload, 1), (42, .ireturn, 1), (43, .aload_n 0, 1), (44, .getfield 24, 3), (47, .iload_n 1, 1), (48, .iaload, 1), (49, .ireturn, 1), (50, .aload_n 0, 1), (51, .getfield 27, 3), (54, .iload_n 1, 1), (55, .iaload, 1), (56, .ireturn, 1), (57, .aload_n 0, 1), (58, .getfield 30, 3), (61, .iload_n 1, 1), (62, .iaload, 1), (63, .ireturn, 1), (64, .aload_n 0, 1), (65, .getfield 30, 3), (68, .iload_n 1, 1), (69, .iaload, 1), (70, .iconst 1, 1), (71, .if_icmp .ne 12, 3), (74, .aload_n 0, 1), (75, .getfield 33, 3), (78, .iload_n 1, 1), (79, .iaload, 1), (80, .goto 4, 3), (83, .iconst (-1), 1), (84, .ireturn, 1), (85, .aload_n 0, 1), (86, .getfield 36, 3), (89, .iload_n 1, 1), (90, .iaload, 1), (91, .ireturn, 1)]
theorem jD47 : jm_okD prog_2_method_15_code jC47 = true := by decide +kernel
def jC48 : List (Nat × Instr × Nat) := [(0, .iload_n 1, 1), (1, .iconst 0, 1), (2, .sipush 199, 3), (5, .invokestatic 86, 3), (8, .ifCond .eq 6, 3), (11, .bipush (-2), 2), (13, .ireturn, 1), (14, .aload_n 0, 1), (15, .sipush 200, 3), (18, .invokevirtual 171, 3), (21, .iload_n 2, 1), (22, .ifCond .eq 16, 3), (25, .aload_n 0, 1), (26, .getfield 50, 3), (29, .iload_n 1, 1), (30, .iconst 1, 1), (31, .iadd, 1), (32, .invokevirtual 174, 3), (35, .goto 11, 3), (38, .aload_n 0, 1), (39, .getfield 50, 3), (42, .iload_n 1, 1), (43, .invokevirtual 177, 3), (46, .ireturn, 1)]
theorem jD48 : jm_okD prog_1_method_12_code jC48 = true := by decide +kernel
def jC49 : List (Nat × Instr × Nat) := [(0, .aload_n 0, 1), (1, .invokevirtual 161, 3), (4, .aload_n 0, 1), (5, .getfield 50, 3), (8, .aload_n 0, 1), (9, .getfield 37, 3), (12, .iload_n 1, 1), (13, .invokevirtual 203, 3), (16, .return_, 1)]
theorem jD49 : jm_okD prog_1_method_42_code jC49 = true := by decide +kernel
def jC50 : List (Nat × Instr × Nat) := [(0, .aload_n 0, 1), (1, .getfield 58, 3), (4, .istore_n 3, 1), (5, .iload_n 3, 1), (6, .iload_n 2, 1), (7, .if_icmp .ge 38, 3), (10, .aload_n 0, 1), (11, .getfield 55, 3), (14, .ifCond .le 31, 3), (17, .aload_n 0, 1), (18, .aload_n 1, 1), (19, .getfield 91, 3), (22, .iload_n 3, 1), (23, .iaload, 1), (24, .aload_n 1, 1), (25, .getfield 96, 3), (28, .iload_n 3, 1), (29, .iaload, 1), (30, .aload_n 1, 1), (31, .getfield 99, 3), (34, .iload_n 3, 1), (35, .baload, 1), (36, .invokevirtual 103, 3), (39, .iinc 3 1, 3), (42, .goto (-37), 3), (45, .return_, 1)]
theorem jD50 : jm_okD prog_2_method_7_code jC50 = true := by decide +kernel
def jC51 : List (Nat × Instr × Nat) := [(0, .iconst 0, 1), (1, .istore_n 2, 1), (2, .iconst 0, 1), (3, .istore_n 3, 1), (4, .iload_n 3, 1), (5, .aload_n 0, 1), (6, .getfield 45, 3), (9, .if_icmp .ge 26, 3), (12, .iload_n 2, 1), (13, .aload_n 0, 1), (14, .iload_n 3, 1), (15, .iload_n 1, 1), (16, .invokevirtual 129, 3), (19, .ifCond .eq 7, 3), (22, .iconst 1, 1), (23, .goto 4, 3), (26, .iconst 0, 1), (27, .iadd, 1), (28, .istore_n 2, 1), (29, .iinc 3 1, 3), (32, .goto (-28), 3), (35, .iload_n 2, 1), (36, .ireturn, 1)]
theorem jD51 : jm_okD prog_2_method_17_code jC51 = true := by decide +kernel
def jC52 : List (Nat × Instr × Nat) := [(0, .aload_n 0, 1), (1, .getfield 30, 3), (4, .iload_n 1, 1), (5, .iaload, 1), (6, .iconst 1, 1), (7, .if_icmp .ne 17, 3), (10, .aload_n 0, 1), (11, .getfield 33, 3), (14, .iload_n 1, 1), (15, .iaload, 1), (16, .iload_n 2, 1), (17, .if_icmp .ge 7, 3), (20, .iconst 1, 1), (21, .goto 4, 3), (24, .iconst 0, 1), (25, .ireturn, 1)]
theorem jD52 : jm_okD prog_2_method_16_code jC52 = true := by decide +kernel
def jC53 : List (Nat × Instr × Nat) := [(0, .iconst 0, 1), (1, .istore_n 2, 1), (2, .iconst 0, 1), (3, .istore_n 3, 1), (4, .iload_n 3, 1), (5, .aload_n 0, 1), (6, .getfield 45, 3), (9, .if_icmp .ge 37, 3), (12, .iload_n 2, 1), (13, .aload_n 0, 1), (14, .getfield 30, 3), (17, .iload_n 3, 1), (18, .iaload, 1), (19, .iconst 1, 1), (20, .if_icmp .ne 17, 3), (23, .aload_n 0, 1), (24, .getfield 33, 3), (27, .iload_n 3, 1), (28, .iaload, 1), (29, .iload_n 1, 1), (30, .if_icmp .ne 7, 3), (33, .iconst 1, 1), (34, .goto 4, 3), (37, .iconst 0, 1), (38, .iadd, 1), (39, .istore_n 2, 1), (40, .iinc 3 1, 3), (43, .goto (-39), 3), (46, .iload_n 2, 1), (47, .ireturn, 1)]
theorem jD53 : jm_okD prog_2_method_22_code jC53 = true := by decide +kernel
def jC54 : List (Nat × Instr × Nat) := [(0, .iload_n 1, 1), (1, .iconst 0, 1), (2, .iconst 2, 1), (3, .invokestatic 86, 3), (6, .ifCond .ne 12, 3), (9, .iload_n 2, 1), (10, .iconst 0, 1), (11, .iconst 5, 1), (12, .invokestatic 86, 3), (15, .ifCond .eq 6, 3), (18, .ldc 180, 2), (20, .ireturn, 1), (21, .aload_n 0, 1), (22, .sipush 200, 3), (25, .invokevirtual 171, 3), (28, .aload_n 0, 1), (29, .iload_n 1, 1), (30, .iload_n 2, 1), (31, .invokevirtual 181, 3), (34, .ireturn, 1)]
theorem jD54 : jm_okD prog_1_method_13_code jC54 = true := by decide +kernel
def jC55 : List (Nat × Instr × Nat) := [(0, .aload_n 0, 1), (1, .getfield 30, 3), (4, .iload_n 1, 1), (5, .iconst 1, 1), (6, .iadd, 1), (7, .aaload, 1), (8, .getfield 148, 3), (11, .iconst (-1), 1), (12, .if_icmp .eq 6, 3), (15, .ldc 223, 2), (17, .ireturn, 1), (18, .aload_n 0, 1), (19, .getfield 43, 3), (22, .iload_n 1, 1), (23, .aaload, 1), (24, .aload_n 0, 1), (25, .getfield 50, 3), (28, .invokevirtual 341, 3), (31, .istore_n 3, 1), (32, .iload_n 2, 1), (33, .tableswitch 79 0 4 #[35, 37, 46, 55, 64], 35), (68, .iload_n 3, 1), (69, .ireturn, 1), (70, .aload_n 0, 1), (71, .getfield 50, 3), (74, .iload_n 3, 1), (75, .invokevirtual 335, 3), (78, .ireturn, 1), (79, .aload_n 0, 1), (80, .getfield 50, 3), (83, .iload_n 3, 1), (84, .invokevirtual 206, 3), (87, .ireturn, 1), (88, .aload_n 0, 1), (89, .getfield 50, 3), (92, .iload_n 3, 1), (93, .invokevirtual 338, 3), (96, .ireturn, 1), (97, .aload_n 0, 1), (98, .getfield 50, 3), (101, .iload_n 3, 1), (102, .aload_n 0, 1), (103, .getfield 25, 3), (106, .iconst 2, 1), (107, .iaload, 1), (108, .invokevirtual 345, 3), (111, .ireturn, 1), (112, .aload_n 0, 1), (113, .iload_n 3, 1), (114, .invokevirtual 348, 3), (117, .ireturn, 1)]
theorem jD55 : jm_okD prog_1_method_45_code jC55 = true := by decide +kernel
def jC56 : List (Nat × Instr × Nat) := [(0, .iconst 0, 1), (1, .istore_n 2, 1), (2, .iconst 0, 1), (3, .istore_n 3, 1), (4, .iconst 0, 1), (5, .istore 4, 2), (7, .iload 4, 2), (9, .sipush 200, 3), (12, .if_icmp .ge 71, 3), (15, .aload_n 1, 1), (16, .iload 4, 2), (18, .invokevirtual 57, 3), (21, .istore 5, 2), (23, .iload_n 2, 1), (24, .iload 5, 2), (26, .iadd, 1), (27, .istore_n 2, 1), (28, .iload 5, 2), (30, .ifCond .gt 7, 3), (33, .iload_n 2, 1), (34, .ifCond .ne 7, 3), (37, .iconst 0, 1), (38, .goto 6, 3), (41, .iload_n 3, 1), (42, .iconst 1, 1), (43, .iadd, 1), (44, .istore_n 3, 1), (45, .iload_n 3, 1), (46, .aload_n 0, 1), (47, .getfield 11, 3), (50, .if_icmp .ge 22, 3), (53, .iload_n 2, 1), (54, .aload_n 0, 1), (55, .getfield 15, 3), (58, .if_icmp .ge 14, 3), (61, .iload 4, 2), (63, .iconst 1, 1), (64, .iadd, 1), (65, .aload_n 0, 1), (66, .getfield 18, 3), (69, .if_icmp .lt 8, 3), (72, .iload 4, 2), (74, .iconst 1, 1), (75, .iadd, 1), (76, .ireturn, 1), (77, .iinc 4 1, 3), (80, .goto (-73), 3), (83, .sipush 200, 3), (86, .ireturn, 1)]
theorem jD56 : jm_okD prog_7_method_4_code jC56 = true := by decide +kernel
def jC57 : List (Nat × Instr × Nat) := [(0, .iconst 0, 1), (1, .istore_n 2, 1), (2, .iconst 0, 1), (3, .istore_n 3, 1), (4, .iload_n 3, 1), (5, .aload_n 0, 1), (6, .getfield 45, 3), (9, .if_icmp .ge 27, 3), (12, .iload_n 2, 1), (13, .aload_n 0, 1), (14, .getfield 30, 3), (17, .iload_n 3, 1), (18, .iaload, 1), (19, .iconst 3, 1), (20, .if_icmp .eq 7, 3), (23, .iconst 1, 1), (24, .goto 4, 3), (27, .iconst 0, 1), (28, .iadd, 1), (29, .istore_n 2, 1), (30, .iinc 3 1, 3), (33, .goto (-29), 3), (36, .iload_n 2, 1), (37, .aload_n 0, 1), (38, .iload_n 1, 1), (39, .invokevirtual 133, 3), (42, .isub, 1), (43, .aload_n 0, 1), (44, .iload_n 1, 1), (45, .invokevirtual 137, 3), (48, .isub, 1), (49, .ireturn, 1)]
theorem jD57 : jm_okD prog_2_method_19_code jC57 = true := by decide +kernel
def jC58 : List (Nat × Instr × Nat) := [(0, .iconst 0, 1), (1, .istore_n 2, 1), (2, .iconst 0, 1), (3, .istore_n 3, 1), (4, .iload_n 3, 1), (5, .aload_n 0, 1), (6, .getfield 45, 3), (9, .if_icmp .ge 37, 3), (12, .iload_n 2, 1), (13, .aload_n 0, 1), (14, .getfield 30, 3), (17, .iload_n 3, 1), (18, .iaload, 1), (19, .iconst 2, 1), (20, .if_icmp .ne 17, 3), (23, .aload_n 0, 1), (24, .getfield 33, 3), (27, .iload_n 3, 1), (28, .iaload, 1), (29, .iload_n 1, 1), (30, .if_icmp .ge 7, 3), (33, .iconst 1, 1), (34, .goto 4, 3), (37, .iconst 0, 1), (38, .iadd, 1), (39, .istore_n 2, 1), (40, .iinc 3 1, 3), (43, .goto (-39), 3), (46, .iload_n 2, 1), (47, .ireturn, 1)]
theorem jD58 : jm_okD prog_2_method_18_code jC58 = true := by decide +kernel
def jC59 : List (Nat × Instr × Nat) := [(0, .iconst 0, 1), (1, .istore_n 2, 1), (2, .iconst 0, 1), (3, .istore_n 3, 1), (4, .iload_n 3, 1), (5, .aload_n 0, 1), (6, .getfield 45, 3), (9, .if_icmp .ge 31, 3), (12, .iload_n 2, 1), (13, .aload_n 0, 1), (14, .iload_n 3, 1), (15, .iload_n 1, 1), (16, .invokevirtual 129, 3), (19, .ifCond .eq 12, 3), (22, .aload_n 0, 1), (23, .getfield 36, 3), (26, .iload_n 3, 1), (27, .iaload, 1), (28, .goto 4, 3), (31, .iconst 0, 1), (32, .iadd, 1), (33, .istore_n 2, 1), (34, .iinc 3 1, 3), (37, .goto (-33), 3), (40, .iload_n 2, 1), (41, .ireturn, 1)]
theorem jD59 : jm_okD prog_2_method_20_code jC59 = true := by decide +kernel
def jC60 : List (Nat × Instr × Nat) := [(0, .iconst 0, 1), (1, .istore_n 3, 1), (2, .iconst 0, 1), (3, .istore 4, 2), (5, .iload 4, 2), (7, .aload_n 0, 1), (8, .getfield 45, 3), (11, .if_icmp .ge 40, 3), (14, .iload_n 3, 1), (15, .aload_n 0, 1), (16, .iload 4, 2), (18, .iload_n 1, 1), (19, .invokevirtual 129, 3), (22, .ifCond .eq 20, 3), (25, .iload_n 1, 1), (26, .aload_n 0, 1), (27, .getfield 33, 3), (30, .iload 4, 2), (32, .iaload, 1), (33, .isub, 1), (34, .iload_n 2, 1), (35, .if_icmp .le 7, 3), (38, .iconst 1, 1), (39, .goto 4, 3), (42, .iconst 0, 1), (43, .iadd, 1), (44, .istore_n 3, 1), (45, .iinc 4 1, 3), (48, .goto (-43), 3), (51, .iload_n 3, 1), (52, .ireturn, 1)]
theorem jD60 : jm_okD prog_2_method_21_code jC60 = true := by decide +kernel
def jC61 : List (Nat × Instr × Nat) := [(0, .aload_n 0, 1), (1, .getfield 50, 3), (4, .iload_n 1, 1), (5, .invokevirtual 338, 3), (8, .aload_n 0, 1), (9, .getfield 50, 3), (12, .iload_n 1, 1), (13, .aload_n 0, 1), (14, .getfield 25, 3), (17, .iconst 2, 1), (18, .iaload, 1), (19, .invokevirtual 345, 3), (22, .iadd, 1), (23, .istore_n 2, 1), (24, .aload_n 0, 1), (25, .getfield 25, 3), (28, .iconst 3, 1), (29, .iaload, 1), (30, .aload_n 0, 1), (31, .getfield 50, 3), (34, .iload_n 1, 1), (35, .invokevirtual 206, 3), (38, .imul, 1), (39, .aload_n 0, 1), (40, .getfield 25, 3), (43, .iconst 4, 1), (44, .iaload, 1), (45, .aload_n 0, 1), (46, .getfield 50, 3), (49, .iload_n 1, 1), (50, .invokevirtual 335, 3), (53, .imul, 1), (54, .isub, 1), (55, .aload_n 0, 1), (56, .getfield 25, 3), (59, .iconst 5, 1), (60, .iaload, 1), (61, .iload_n 2, 1), (62, .imul, 1), (63, .isub, 1), (64, .ireturn, 1)]
theorem jD61 : jm_okD prog_1_method_47_code jC61 = true := by decide +kernel
def jC62 : List (Nat × Instr × Nat) := [(0, .aload_n 0, 1), (1, .sipush 200, 3), (4, .invokevirtual 171, 3), (7, .aload_n 0, 1), (8, .invokevirtual 184, 3), (11, .ireturn, 1)]
theorem jD62 : jm_okD prog_1_method_14_code jC62 = true := by decide +kernel
def jC63 : List (Nat × Instr × Nat) := [(0, .iconst (-1), 1), (1, .istore_n 1, 1), (2, .iconst 0, 1), (3, .istore_n 2, 1), (4, .iconst 0, 1), (5, .istore_n 3, 1), (6, .iload_n 3, 1), (7, .iconst 3, 1), (8, .if_icmp .ge 48, 3), (11, .aload_n 0, 1), (12, .getfield 30, 3), (15, .iload_n 3, 1), (16, .iconst 1, 1), (17, .iadd, 1), (18, .aaload, 1), (19, .getfield 148, 3), (22, .iconst (-1), 1), (23, .if_icmp .ne 27, 3), (26, .aload_n 0, 1), (27, .iload_n 3, 1), (28, .iconst 5, 1), (29, .invokevirtual 181, 3), (32, .istore 4, 2), (34, .iload_n 1, 1), (35, .iconst (-1), 1), (36, .if_icmp .eq 9, 3), (39, .iload 4, 2), (41, .iload_n 2, 1), (42, .if_icmp .le 8, 3), (45, .iload_n 3, 1), (46, .istore_n 1, 1), (47, .iload 4, 2), (49, .istore_n 2, 1), (50, .iinc 3 1, 3), (53, .goto (-47), 3), (56, .iload_n 1, 1), (57, .ireturn, 1)]
theorem jD63 : jm_okD prog_1_method_46_code jC63 = true := by decide +kernel
def jC64 : List (Nat × Instr × Nat) := [(0, .iload_n 1, 1), (1, .iconst 1, 1), (2, .sipush 200, 3), (5, .invokestatic 86, 3), (8, .ifCond .ne 12, 3), (11, .iload_n 2, 1), (12, .iconst 0, 1), (13, .iconst 2, 1), (14, .invokestatic 86, 3), (17, .ifCond .eq 6, 3), (20, .bipush (-2), 2), (22, .ireturn, 1), (23, .aload_n 0, 1), (24, .iload_n 1, 1), (25, .invokevirtual 188, 3), (28, .aload_n 0, 1), (29, .getfield 60, 3), (32, .iload_n 2, 1), (33, .invokevirtual 191, 3), (36, .ireturn, 1)]
theorem jD64 : jm_okD prog_1_method_15_code jC64 = true := by decide +kernel
def jC65 : List (Nat × Instr × Nat) := [(0, .iconst 1, 1), (1, .istore_n 2, 1), (2, .iload_n 2, 1), (3, .bipush 99, 2), (5, .if_icmp .gt 56, 3), (8, .aload_n 0, 1), (9, .invokevirtual 161, 3), (12, .aload_n 0, 1), (13, .getfield 50, 3), (16, .iload_n 2, 1), (17, .iload_n 1, 1), (18, .invokevirtual 351, 3), (21, .aload_n 0, 1), (22, .getfield 60, 3), (25, .getfield 354, 3), (28, .iload_n 2, 1), (29, .aload_n 0, 1), (30, .getfield 50, 3), (33, .iload_n 1, 1), (34, .invokevirtual 174, 3), (37, .iastore, 1), (38, .aload_n 0, 1), (39, .getfield 60, 3), (42, .getfield 357, 3), (45, .iload_n 2, 1), (46, .aload_n 0, 1), (47, .getfield 50, 3), (50, .iload_n 1, 1), (51, .invokevirtual 338, 3), (54, .iastore, 1), (55, .iinc 2 1, 3), (58, .goto (-56), 3), (61, .return_, 1)]
theorem jD65 : jm_okD prog_1_method_48_code jC65 = true := by decide +kernel
def jC66 : List (Nat × Instr × Nat) := [(0, .aload_n 0, 1), (1, .getfield 58, 3), (4, .istore_n 3, 1), (5, .iload_n 3, 1), (6, .iload_n 2, 1), (7, .if_icmp .ge 23, 3), (10, .aload_n 0, 1), (11, .getfield 55, 3), (14, .ifCond .le 16, 3), (17, .aload_n 0, 1), (18, .iload_n 1, 1), (19, .iconst 0, 1), (20, .iconst 0, 1), (21, .invokevirtual 103, 3), (24, .iinc 3 1, 3), (27, .goto (-22), 3), (30, .return_, 1)]
theorem jD66 : jm_okD prog_2_method_8_code jC66 = true := by decide +kernel
def jC67 : List (Nat × Instr × Nat) := [(0, .aload_n 0, 1), (1, .invokevirtual 18, 3), (4, .istore_n 2, 1), (5, .iload_n 1, 1), (6, .ifCond .ne 5, 3), (9, .iload_n 2, 1), (10, .ireturn, 1), (11, .iload_n 1, 1), (12, .iconst 1, 1), (13, .if_icmp .ne 12, 3), (16, .aload_n 0, 1), (17, .getfield 9, 3), (20, .iload_n 2, 1), (21, .iaload, 1), (22, .goto 9, 3), (25, .aload_n 0, 1), (26, .getfield 15, 3), (29, .iload_n 2, 1), (30, .iaload, 1), (31, .ireturn, 1)]
theorem jD67 : jm_okD prog_3_method_2_code jC67 = true := by decide +kernel
def jC68 : List (Nat × Instr × Nat) := [(0, .iconst 1, 1), (1, .istore_n 1, 1), (2, .iconst 2, 1), (3, .istore_n 2, 1), (4, .iload_n 2, 1), (5, .bipush 99, 2), (7, .if_icmp .gt 56, 3), (10, .aload_n 0, 1), (11, .getfield 9, 3), (14, .iload_n 2, 1), (15, .iaload, 1), (16, .aload_n 0, 1), (17, .getfield 9, 3), (20, .iload_n 1, 1), (21, .iaload, 1), (22, .if_icmp .gt 33, 3), (25, .aload_n 0, 1), (26, .getfield 9, 3), (29, .iload_n 2, 1), (30, .iaload, 1), (31, .aload_n 0, 1), (32, .getfield 9, 3), (35, .iload_n 1, 1), (36, .iaload, 1), (37, .if_icmp .ne 20, 3), (40, .aload_n 0, 1), (41, .getfield 15, 3), (44, .iload_n 2, 1), (45, .iaload, 1), (46, .aload_n 0, 1), (47, .getfield 15, 3), (50, .iload_n 1, 1), (51, .iaload, 1), (52, .if_icmp .ge 5, 3), (55, .iload_n 2, 1), (56, .istore_n 1, 1), (57, .iinc 2 1, 3), (60, .goto (-56), 3), (63, .iload_n 1, 1), (64, .ireturn, 1)]
theorem jD68 : jm_okD prog_3_method_3_code jC68 = true := by decide +kernel
def jC69 : List (Nat × Instr × Nat) := [(0, .iload_n 1, 1), (1, .iconst 1, 1), (2, .sipush 200, 3), (5, .invokestatic 86, 3), (8, .ifCond .ne 8, 3), (11, .iload_n 2, 1), (12, .iconst (-1), 1), (13, .if_icmp .ge 6, 3), (16, .bipush (-2), 2), (18, .ireturn, 1), (19, .aload_n 0, 1), (20, .iload_n 1, 1), (21, .invokevirtual 188, 3), (24, .iload_n 2, 1), (25, .iconst (-1), 1), (26, .if_icmp .ne 13, 3), (29, .aload_n 0, 1), (30, .getfield 60, 3), (33, .invokevirtual 193, 3), (36, .goto 11, 3), (39, .aload_n 0, 1), (40, .getfield 60, 3), (43, .iload_n 2, 1), (44, .invokevirtual 196, 3), (47, .ireturn, 1)]
theorem jD69 : jm_okD prog_1_method_16_code jC69 = true := by decide +kernel
def jC70 : List (Nat × Instr × Nat) := [(0, .iconst 0, 1), (1, .istore_n 1, 1), (2, .iconst 1, 1), (3, .istore_n 2, 1), (4, .iload_n 2, 1), (5, .bipush 99, 2), (7, .if_icmp .gt 25, 3), (10, .iload_n 1, 1), (11, .aload_n 0, 1), (12, .iload_n 2, 1), (13, .invokevirtual 26, 3), (16, .ifCond .eq 7, 3), (19, .iconst 1, 1), (20, .goto 4, 3), (23, .iconst 0, 1), (24, .iadd, 1), (25, .istore_n 1, 1), (26, .iinc 2 1, 3), (29, .goto (-25), 3), (32, .iload_n 1, 1), (33, .ireturn, 1)]
theorem jD70 : jm_okD prog_3_method_6_code jC70 = true := by decide +kernel
def jC71 : List (Nat × Instr × Nat) := [(0, .iconst 1, 1), (1, .istore_n 2, 1), (2, .iload_n 2, 1), (3, .bipush 99, 2), (5, .if_icmp .gt 20, 3), (8, .aload_n 0, 1), (9, .iload_n 2, 1), (10, .iload_n 1, 1), (11, .invokevirtual 22, 3), (14, .ifCond .eq 5, 3), (17, .iconst 0, 1), (18, .ireturn, 1), (19, .iinc 2 1, 3), (22, .goto (-20), 3), (25, .iconst 1, 1), (26, .ireturn, 1)]
theorem jD71 : jm_okD prog_3_method_5_code jC71 = true := by decide +kernel
def jC72 : List (Nat × Instr × Nat) := [(0, .aload_n 0, 1), (1, .getfield 9, 3), (4, .iload_n 1, 1), (5, .iaload, 1), (6, .aload_n 0, 1), (7, .getfield 9, 3), (10, .iload_n 2, 1), (11, .iaload, 1), (12, .if_icmp .le 18, 3), (15, .aload_n 0, 1), (16, .getfield 15, 3), (19, .iload_n 1, 1), (20, .iaload, 1), (21, .aload_n 0, 1), (22, .getfield 15, 3), (25, .iload_n 2, 1), (26, .iaload, 1), (27, .if_icmp .le 33, 3), (30, .aload_n 0, 1), (31, .getfield 9, 3), (34, .iload_n 1, 1), (35, .iaload, 1), (36, .aload_n 0, 1), (37, .getfield 9, 3), (40, .iload_n 2, 1), (41, .iaload, 1), (42, .if_icmp .ne 22, 3), (45, .aload_n 0, 1), (46, .getfield 15, 3), (49, .iload_n 1, 1), (50, .iaload, 1), (51, .aload_n 0, 1), (52, .getfield 15, 3), (55, .iload_n 2, 1), (56, .iaload, 1), (57, .if_icmp .ge 7, 3), (60, .iconst 1, 1), (61, .goto 4, 3), (64, .iconst 0, 1), (65, .ireturn, 1)]
theorem jD72 : jm_okD prog_3_method_4_code jC72 = true := by decide +kernel
def jC73 : List (Nat × Instr × Nat) := [(0, .iconst 0, 1), (1, .istore_n 2, 1), (2, .iconst 1, 1), (3, .istore_n 3, 1), (4, .iload_n 3, 1), (5, .bipush 99, 2), (7, .if_icmp .gt 27, 3), (10, .aload_n 0, 1), (11, .iload_n 3, 1), (12, .invokevirtual 26, 3), (15, .ifCond .eq 13, 3), (18, .iload_n 2, 1), (19, .iload_n 1, 1), (20, .if_icmp .ne 5, 3), (23, .iload_n 3, 1), (24, .ireturn, 1), (25, .iinc 2 1, 3), (28, .iinc 3 1, 3), (31, .goto (-27), 3), (34, .iconst (-1), 1), (35, .ireturn, 1)]
theorem jD73 : jm_okD prog_3_method_7_code jC73 = true := by decide +kernel
def jC74 : List (Nat × Instr × Nat) := [(0, .iload_n 1, 1), (1, .iconst 1, 1), (2, .sipush 200, 3), (5, .invokestatic 86, 3), (8, .ifCond .ne 12, 3), (11, .iload_n 2, 1), (12, .iconst 0, 1), (13, .iconst 1, 1), (14, .invokestatic 86, 3), (17, .ifCond .eq 6, 3), (20, .bipush (-2), 2), (22, .ireturn, 1), (23, .iconst (-1), 1), (24, .istore_n 3, 1), (25, .iconst (-1), 1), (26, .istore 4, 2), (28, .iconst 0, 1), (29, .istore 5, 2), (31, .iload 5, 2), (33, .bipush 99, 2), (35, .if_icmp .gt 64, 3), (38, .aload_n 0, 1), (39, .getfield 50, 3), (42, .aload_n 0, 1), (43, .getfield 10, 3), (46, .aload_n 0, 1), (47, .getfield 25, 3), (50, .iconst 1, 1), (51, .iaload, 1), (52, .iload 5, 2), (54, .invokevirtual 199, 3), (57, .aload_n 0, 1), (58, .getfield 50, 3), (61, .aload_n 0, 1), (62, .getfield 37, 3), (65, .iload_n 1, 1), (66, .invokevirtual 203, 3), (69, .aload_n 0, 1), (70, .getfield 50, 3), (73, .iload_n 1, 1), (74, .invokevirtual 206, 3), (77, .istore 6, 2), (79, .iload 6, 2), (81, .iload 4, 2), (83, .if_icmp .le 10, 3), (86, .iload 5, 2), (88, .istore_n 3, 1), (89, .iload 6, 2), (91, .istore 4, 2), (93, .iinc 5 1, 3), (96, .goto (-65), 3), (99, .iload_n 2, 1), (100, .ifCond .ne 7, 3), (103, .iload_n 3, 1), (104, .goto 5, 3), (107, .iload 4, 2), (109, .ireturn, 1)]
theorem jD74 : jm_okD prog_1_method_17_code jC74 = true := by decide +kernel
def jC75_0 : List (Nat × Instr × Nat) := [(0, .iload_n 1, 1), (1, .iconst 1, 1), (2, .sipush 200, 3), (5, .invokestatic 86, 3), (8, .ifCond .ne 12, 3), (11, .iload_n 2, 1), (12, .iconst 0, 1), (13, .iconst 1, 1), (14, .invokestatic 86, 3), (17, .ifCond .eq 6, 3), (20, .bipush (-2), 2), (22, .ireturn, 1), (23, .aload_n 0, 1), (24, .iload_n 1, 1), (25, .invokevirtual 171, 3), (28, .aload_n 0, 1), (29, .getfield 50, 3), (32, .iload_n 1, 1), (33, .invokevirtual 174, 3), (36, .istore_n 3, 1), (37, .iconst (-1), 1), (38, .istore 4, 2), (40, .aload_n 0, 1), (41, .invokevirtual 161, 3), (44, .iconst 0, 1), (45, .istore 5, 2), (47, .iload 5, 2), (49, .iload_n 1, 1), (50, .if_icmp .ge 154, 3), (53, .iload_n 3, 1), (54, .aload_n 0, 1), (55, .getfield 10, 3), (58, .getfield 131, 3), (61, .if_icmp .ge 143, 3), (64, .aload_n 0, 1), (65, .getfield 50, 3), (68, .getfield 209, 3), (71, .ifCond .le 133, 3), (74, .aload_n 0, 1), (75, .getfield 54, 3), (78, .aload_n 0, 1), (79, .getfield 50, 3), (82, .invokevirtual 212, 3), (85, .aload_n 0, 1), (86, .getfield 54, 3), (89, .aload_n 0, 1), (90, .getfield 37, 3), (93, .getfield 151, 3), (96, .iload 5, 2), (98, .iaload, 1), (99, .aload_n 0, 1), (100, .getfield 37, 3), (103, .getfield 154, 3), (106, .iload 5, 2), (108, .iaload, 1), (109, .iconst 1, 1), (110, .iadd, 1), (111, .aload_n 0, 1), (112, .getfield 37, 3), (115, .getfield 157, 3)]
theorem jD75_0 : jm_okD prog_1_method_18_code jC75_0 = true := by decide +kernel
def jC75_1 : List (Nat × Instr × Nat) := [(118, .iload 5, 2), (120, .baload, 1), (121, .invokevirtual 216, 3), (124, .aload_n 0, 1), (125, .getfield 54, 3), (128, .aload_n 0, 1), (129, .getfield 37, 3), (132, .iload_n 1, 1), (133, .invokevirtual 203, 3), (136, .aload_n 0, 1), (137, .getfield 54, 3), (140, .iload_n 1, 1), (141, .invokevirtual 174, 3), (144, .iload_n 3, 1), (145, .if_icmp .le 16, 3), (148, .iload 5, 2), (150, .istore 4, 2), (152, .aload_n 0, 1), (153, .getfield 54, 3), (156, .iload_n 1, 1), (157, .invokevirtual 174, 3), (160, .istore_n 3, 1), (161, .aload_n 0, 1), (162, .getfield 50, 3), (165, .aload_n 0, 1), (166, .getfield 37, 3), (169, .getfield 151, 3), (172, .iload 5, 2), (174, .iaload, 1), (175, .aload_n 0, 1), (176, .getfield 37, 3), (179, .getfield 154, 3), (182, .iload 5, 2), (184, .iaload, 1), (185, .aload_n 0, 1), (186, .getfield 37, 3), (189, .getfield 157, 3), (192, .iload 5, 2), (194, .baload, 1), (195, .invokevirtual 216, 3), (198, .iinc 5 1, 3), (201, .goto (-154), 3), (204, .iload_n 2, 1), (205, .ifCond .ne 8, 3), (208, .iload 4, 2), (210, .goto 4, 3), (213, .iload_n 3, 1), (214, .ireturn, 1)]
theorem jD75_1 : jm_okD prog_1_method_18_code jC75_1 = true := by decide +kernel
def jC75 : List (Nat × Instr × Nat) := jC75_0 ++ (jC75_1)
theorem jD75 : jm_okD prog_1_method_18_code jC75 = true := jm_okD_app jD75_0 (jD75_1)
def jC76_0 : List (Nat × Instr × Nat) := [(0, .aload_n 0, 1), (1, .aload_n 1, 1), (2, .getfield 45, 3), (5, .putfield 45, 3), (8, .aload_n 0, 1), (9, .aload_n 1, 1), (10, .getfield 49, 3), (13, .putfield 49, 3), (16, .aload_n 0, 1), (17, .aload_n 1, 1), (18, .getfield 52, 3), (21, .putfield 52, 3), (24, .aload_n 0, 1), (25, .aload_n 1, 1), (26, .getfield 55, 3), (29, .putfield 55, 3), (32, .aload_n 0, 1), (33, .aload_n 1, 1), (34, .getfield 58, 3), (37, .putfield 58, 3), (40, .aload_n 0, 1), (41, .aload_n 1, 1), (42, .getfield 61, 3), (45, .putfield 61, 3), (48, .aload_n 1, 1), (49, .getfield 9, 3), (52, .iconst 0, 1), (53, .aload_n 0, 1), (54, .getfield 9, 3), (57, .iconst 0, 1), (58, .bipush 12, 2), (60, .invokestatic 85, 3), (63, .aload_n 1, 1), (64, .getfield 15, 3), (67, .iconst 0, 1), (68, .aload_n 0, 1), (69, .getfield 15, 3), (72, .iconst 0, 1), (73, .bipush 12, 2), (75, .invokestatic 85, 3), (78, .aload_n 1, 1), (79, .getfield 18, 3), (82, .iconst 0, 1), (83, .aload_n 0, 1), (84, .getfield 18, 3), (87, .iconst 0, 1), (88, .bipush 12, 2), (90, .invokestatic 85, 3), (93, .aload_n 1, 1), (94, .getfield 21, 3), (97, .iconst 0, 1), (98, .aload_n 0, 1), (99, .getfield 21, 3), (102, .iconst 0, 1), (103, .bipush 12, 2), (105, .invokestatic 85, 3), (108, .aload_n 1, 1), (109, .getfield 24, 3), (112, .iconst 0, 1), (113, .aload_n 0, 1)]
theorem jD76_0 : jm_okD prog_2_method_5_code jC76_0 = true := by decide +kernel
def jC76_1 : List (Nat × Instr × Nat) := [(114, .getfield 24, 3), (117, .iconst 0, 1), (118, .bipush 12, 2), (120, .invokestatic 85, 3), (123, .aload_n 1, 1), (124, .getfield 27, 3), (127, .iconst 0, 1), (128, .aload_n 0, 1), (129, .getfield 27, 3), (132, .iconst 0, 1), (133, .bipush 12, 2), (135, .invokestatic 85, 3), (138, .aload_n 1, 1), (139, .getfield 30, 3), (142, .iconst 0, 1), (143, .aload_n 0, 1), (144, .getfield 30, 3), (147, .iconst 0, 1), (148, .bipush 12, 2), (150, .invokestatic 85, 3), (153, .aload_n 1, 1), (154, .getfield 33, 3), (157, .iconst 0, 1), (158, .aload_n 0, 1), (159, .getfield 33, 3), (162, .iconst 0, 1), (163, .bipush 12, 2), (165, .invokestatic 85, 3), (168, .aload_n 1, 1), (169, .getfield 36, 3), (172, .iconst 0, 1), (173, .aload_n 0, 1), (174, .getfield 36, 3), (177, .iconst 0, 1), (178, .bipush 12, 2), (180, .invokestatic 85, 3), (183, .aload_n 1, 1), (184, .getfield 39, 3), (187, .iconst 0, 1), (188, .aload_n 0, 1), (189, .getfield 39, 3), (192, .iconst 0, 1), (193, .bipush 48, 2), (195, .invokestatic 85, 3), (198, .aload_n 1, 1), (199, .getfield 42, 3), (202, .iconst 0, 1), (203, .aload_n 0, 1), (204, .getfield 42, 3), (207, .iconst 0, 1), (208, .iconst 4, 1), (209, .invokestatic 85, 3), (212, .return_, 1)]
theorem jD76_1 : jm_okD prog_2_method_5_code jC76_1 = true := by decide +kernel
def jC76 : List (Nat × Instr × Nat) := jC76_0 ++ (jC76_1)
theorem jD76 : jm_okD prog_2_method_5_code jC76 = true := jm_okD_app jD76_0 (jD76_1)
def jC77 : List (Nat × Instr × Nat) := [(0, .aload_n 0, 1), (1, .getfield 10, 3), (4, .iload_n 1, 1), (5, .invokevirtual 115, 3), (8, .ifCond .ne 6, 3), (11, .ldc 180, 2), (13, .ireturn, 1), (14, .aload_n 0, 1), (15, .sipush 200, 3), (18, .invokevirtual 171, 3), (21, .aload_n 0, 1), (22, .getfield 50, 3), (25, .iload_n 1, 1), (26, .iconst 4, 1), (27, .invokevirtual 168, 3), (30, .istore_n 2, 1), (31, .aload_n 0, 1), (32, .invokevirtual 161, 3), (35, .iconst 0, 1), (36, .istore_n 3, 1), (37, .iload_n 3, 1), (38, .aload_n 0, 1), (39, .getfield 10, 3), (42, .getfield 131, 3), (45, .if_icmp .ge 22, 3), (48, .iload_n 3, 1), (49, .iload_n 1, 1), (50, .if_icmp .eq 11, 3), (53, .aload_n 0, 1), (54, .getfield 50, 3), (57, .iload_n 3, 1), (58, .invokevirtual 220, 3), (61, .iinc 3 1, 3), (64, .goto (-27), 3), (67, .aload_n 0, 1), (68, .getfield 50, 3), (71, .aload_n 0, 1), (72, .getfield 37, 3), (75, .sipush 200, 3), (78, .invokevirtual 203, 3), (81, .aload_n 0, 1), (82, .getfield 50, 3), (85, .iload_n 1, 1), (86, .iconst 4, 1), (87, .invokevirtual 168, 3), (90, .istore_n 3, 1), (91, .iload_n 2, 1), (92, .iconst (-1), 1), (93, .if_icmp .eq 8, 3), (96, .iload_n 3, 1), (97, .iconst (-1), 1), (98, .if_icmp .ne 8, 3), (101, .ldc 223, 2), (103, .goto 6, 3), (106, .iload_n 2, 1), (107, .iload_n 3, 1), (108, .isub, 1), (109, .ireturn, 1)]
theorem jD77 : jm_okD prog_1_method_19_code jC77 = true := by decide +kernel
def jC78 : List (Nat × Instr × Nat) := [(0, .aload_n 0, 1), (1, .getfield 30, 3), (4, .iload_n 1, 1), (5, .iconst 3, 1), (6, .iastore, 1), (7, .aload_n 0, 1), (8, .dup, 1), (9, .getfield 55, 3), (12, .iconst 1, 1), (13, .isub, 1), (14, .putfield 55, 3), (17, .aload_n 0, 1), (18, .iconst 1, 1), (19, .putfield 61, 3), (22, .return_, 1)]
theorem jD78 : jm_okD prog_2_method_4_code jC78 = true := by decide +kernel
def jC79 : List (Nat × Instr × Nat) := [(0, .iload_n 1, 1), (1, .getstatic 224, 3), (4, .iconst 2, 1), (5, .iaload, 1), (6, .getstatic 227, 3), (9, .iconst 2, 1), (10, .iaload, 1), (11, .invokestatic 86, 3), (14, .ifCond .ne 23, 3), (17, .iload_n 2, 1), (18, .iconst 1, 1), (19, .sipush 200, 3), (22, .invokestatic 86, 3), (25, .ifCond .ne 12, 3), (28, .iload_n 3, 1), (29, .iconst 0, 1), (30, .iconst 3, 1), (31, .invokestatic 86, 3), (34, .ifCond .eq 6, 3), (37, .bipush (-2), 2), (39, .ireturn, 1), (40, .aload_n 0, 1), (41, .iload_n 1, 1), (42, .iload_n 2, 1), (43, .invokevirtual 230, 3), (46, .aload_n 0, 1), (47, .iload_n 2, 1), (48, .iload_n 3, 1), (49, .invokevirtual 234, 3), (52, .ireturn, 1)]
theorem jD79 : jm_okD prog_1_method_20_code jC79 = true := by decide +kernel
def jC80 : List (Nat × Instr × Nat) := [(0, .aload_n 0, 1), (1, .invokevirtual 161, 3), (4, .iconst 0, 1), (5, .istore_n 3, 1), (6, .iload_n 3, 1), (7, .aload_n 0, 1), (8, .getfield 10, 3), (11, .getfield 131, 3), (14, .if_icmp .ge 30, 3), (17, .aload_n 0, 1), (18, .getfield 10, 3), (21, .iload_n 3, 1), (22, .iconst 2, 1), (23, .invokevirtual 123, 3), (26, .iload_n 1, 1), (27, .if_icmp .ge 11, 3), (30, .aload_n 0, 1), (31, .getfield 50, 3), (34, .iload_n 3, 1), (35, .invokevirtual 220, 3), (38, .iinc 3 1, 3), (41, .goto (-35), 3), (44, .aload_n 0, 1), (45, .getfield 50, 3), (48, .aload_n 0, 1), (49, .getfield 37, 3), (52, .iload_n 2, 1), (53, .invokevirtual 203, 3), (56, .return_, 1)]
theorem jD80 : jm_okD prog_1_method_43_code jC80 = true := by decide +kernel
def jC81 : List (Nat × Instr × Nat) := [(0, .iload_n 2, 1), (1, .tableswitch 54 0 2 #[27, 36, 45], 27), (28, .aload_n 0, 1), (29, .getfield 50, 3), (32, .iload_n 1, 1), (33, .invokevirtual 174, 3), (36, .ireturn, 1), (37, .aload_n 0, 1), (38, .getfield 50, 3), (41, .iload_n 1, 1), (42, .invokevirtual 206, 3), (45, .ireturn, 1), (46, .aload_n 0, 1), (47, .getfield 50, 3), (50, .iload_n 1, 1), (51, .invokevirtual 335, 3), (54, .ireturn, 1), (55, .aload_n 0, 1), (56, .getfield 50, 3), (59, .iload_n 1, 1), (60, .invokevirtual 338, 3), (63, .ireturn, 1)]
theorem jD81 : jm_okD prog_1_method_44_code jC81 = true := by decide +kernel
def jC82 : List (Nat × Instr × Nat) := [(0, .iload_n 1, 1), (1, .invokestatic 237, 3), (4, .ifCond .ne 23, 3), (7, .iload_n 2, 1), (8, .iconst 0, 1), (9, .bipush 99, 2), (11, .invokestatic 86, 3), (14, .ifCond .ne 13, 3), (17, .iload_n 3, 1), (18, .iconst 0, 1), (19, .bipush 60, 2), (21, .invokestatic 86, 3), (24, .ifCond .eq 6, 3), (27, .bipush (-2), 2), (29, .ireturn, 1), (30, .iload_n 1, 1), (31, .istore 4, 2), (33, .iconst 0, 1), (34, .istore 5, 2), (36, .iload 5, 2), (38, .iload_n 3, 1), (39, .if_icmp .ge 17, 3), (42, .iload 4, 2), (44, .iload_n 2, 1), (45, .invokestatic 240, 3), (48, .istore 4, 2), (50, .iinc 5 1, 3), (53, .goto (-17), 3), (56, .iload 4, 2), (58, .ireturn, 1)]
theorem jD82 : jm_okD prog_1_method_21_code jC82 = true := by decide +kernel
def jC83 : List (Nat × Instr × Nat) := [(0, .iconst 0, 1), (1, .iload_n 0, 1), (2, .invokestatic 119, 3), (5, .ifCond .ne 7, 3), (8, .iconst 1, 1), (9, .goto 4, 3), (12, .iconst 0, 1), (13, .ireturn, 1)]
theorem jD83 : jm_okD prog_1_method_38_code jC83 = true := by decide +kernel
def jC84 : List (Nat × Instr × Nat) := [(0, .iload_n 1, 1), (1, .iload_n 0, 1), (2, .isub, 1), (3, .invokestatic 367, 3), (6, .iconst 3, 1), (7, .iadd, 1), (8, .iconst 4, 1), (9, .idiv, 1), (10, .istore_n 2, 1), (11, .iload_n 1, 1), (12, .iload_n 0, 1), (13, .if_icmp .le 9, 3), (16, .iload_n 0, 1), (17, .iload_n 2, 1), (18, .iadd, 1), (19, .goto 6, 3), (22, .iload_n 0, 1), (23, .iload_n 2, 1), (24, .isub, 1), (25, .ireturn, 1)]
theorem jD84 : jm_okD prog_1_method_53_code jC84 = true := by decide +kernel
def jC85 : List (Nat × Instr × Nat) := [(0, .iload_n 1, 1), (1, .invokestatic 237, 3), (4, .ifCond .ne 34, 3), (7, .iload_n 2, 1), (8, .iconst 0, 1), (9, .bipush 99, 2), (11, .invokestatic 86, 3), (14, .ifCond .ne 24, 3), (17, .iload_n 3, 1), (18, .invokestatic 237, 3), (21, .ifCond .ne 17, 3), (24, .iload 4, 2), (26, .invokestatic 237, 3), (29, .ifCond .ne 9, 3), (32, .iload_n 3, 1), (33, .iload 4, 2), (35, .if_icmp .le 6, 3), (38, .bipush (-2), 2), (40, .ireturn, 1), (41, .iload_n 1, 1), (42, .istore 5, 2), (44, .iconst 0, 1), (45, .istore 6, 2), (47, .iload 6, 2), (49, .bipush 60, 2), (51, .if_icmp .gt 31, 3), (54, .iload 5, 2), (56, .iload_n 3, 1), (57, .iload 4, 2), (59, .invokestatic 86, 3), (62, .ifCond .ne 6, 3), (65, .iload 6, 2), (67, .ireturn, 1), (68, .iload 5, 2), (70, .iload_n 2, 1), (71, .invokestatic 240, 3), (74, .istore 5, 2), (76, .iinc 6 1, 3), (79, .goto (-32), 3), (82, .iconst (-1), 1), (83, .ireturn, 1)]
theorem jD85 : jm_okD prog_1_method_22_code jC85 = true := by decide +kernel
def jC86 : List (Nat × Instr × Nat) := [(0, .iload_n 1, 1), (1, .iload_n 3, 1), (2, .iload 4, 2), (4, .invokestatic 243, 3), (7, .ifCond .ne 22, 3), (10, .iload_n 2, 1), (11, .iconst 0, 1), (12, .iload_n 1, 1), (13, .invokestatic 86, 3), (16, .ifCond .ne 13, 3), (19, .iload 5, 2), (21, .iconst 0, 1), (22, .iconst 1, 1), (23, .invokestatic 86, 3), (26, .ifCond .eq 7, 3), (29, .ldc2_w 248, 3), (32, .lreturn, 1), (33, .iload_n 1, 1), (34, .iload_n 2, 1), (35, .iload_n 3, 1), (36, .iload 4, 2), (38, .invokestatic 250, 3), (41, .lstore 6, 2), (43, .iload_n 1, 1), (44, .iload_n 3, 1), (45, .invokestatic 254, 3), (48, .lstore 8, 2), (50, .lconst 1, 1), (51, .lload 6, 2), (53, .lload 8, 2), (55, .invokestatic 258, 3), (58, .invokestatic 262, 3), (61, .lstore 10, 2), (63, .iload 5, 2), (65, .ifCond .ne 11, 3), (68, .lload 6, 2), (70, .lload 10, 2), (72, .ldiv, 1), (73, .goto 8, 3), (76, .lload 8, 2), (78, .lload 10, 2), (80, .ldiv, 1), (81, .lreturn, 1)]
theorem jD86 : jm_okD prog_1_method_23_code jC86 = true := by decide +kernel
def jC87 : List (Nat × Instr × Nat) := [(0, .iload_n 0, 1), (1, .iconst 1, 1), (2, .bipush 30, 2), (4, .invokestatic 86, 3), (7, .ifCond .ne 21, 3), (10, .iload_n 1, 1), (11, .iconst 0, 1), (12, .iload_n 0, 1), (13, .invokestatic 86, 3), (16, .ifCond .ne 12, 3), (19, .iload_n 2, 1), (20, .iconst 0, 1), (21, .iload_n 1, 1), (22, .invokestatic 86, 3), (25, .ifCond .eq 7, 3), (28, .iconst 1, 1), (29, .goto 4, 3), (32, .iconst 0, 1), (33, .ireturn, 1)]
theorem jD87 : jm_okD prog_1_method_54_code jC87 = true := by decide +kernel
def jC88 : List (Nat × Instr × Nat) := [(0, .iload_n 1, 1), (1, .iload_n 3, 1), (2, .invokestatic 254, 3), (5, .iload_n 0, 1), (6, .iload_n 1, 1), (7, .isub, 1), (8, .iload_n 2, 1), (9, .iload_n 3, 1), (10, .isub, 1), (11, .invokestatic 254, 3), (14, .lmul, 1), (15, .lreturn, 1)]
theorem jD88 : jm_okD prog_1_method_56_code jC88 = true := by decide +kernel
def jC89 : List (Nat × Instr × Nat) := [(0, .iload_n 1, 1), (1, .ifCond .lt 8, 3), (4, .iload_n 1, 1), (5, .iload_n 0, 1), (6, .if_icmp .le 5, 3), (9, .lconst 0, 1), (10, .lreturn, 1), (11, .lconst 1, 1), (12, .lstore_n 2, 1), (13, .iconst 1, 1), (14, .istore 4, 2), (16, .iload 4, 2), (18, .iload_n 1, 1), (19, .if_icmp .gt 23, 3), (22, .lload_n 2, 1), (23, .iload_n 0, 1), (24, .iload_n 1, 1), (25, .isub, 1), (26, .iload 4, 2), (28, .iadd, 1), (29, .i2l, 1), (30, .lmul, 1), (31, .iload 4, 2), (33, .i2l, 1), (34, .ldiv, 1), (35, .lstore_n 2, 1), (36, .iinc 4 1, 3), (39, .goto (-23), 3), (42, .lload_n 2, 1), (43, .lreturn, 1)]
theorem jD89 : jm_okD prog_1_method_55_code jC89 = true := by decide +kernel
def jC90 : List (Nat × Instr × Nat) := [(0, .lload_n 0, 1), (1, .lstore 4, 2), (3, .lload_n 2, 1), (4, .lstore 6, 2), (6, .iconst 0, 1), (7, .istore 8, 2), (9, .iload 8, 2), (11, .bipush 100, 2), (13, .if_icmp .ge 31, 3), (16, .lload 6, 2), (18, .lconst 0, 1), (19, .lcmp, 1), (20, .ifCond .eq 24, 3), (23, .lload 4, 2), (25, .lload 6, 2), (27, .lrem, 1), (28, .lstore 9, 2), (30, .lload 6, 2), (32, .lstore 4, 2), (34, .lload 9, 2), (36, .lstore 6, 2), (38, .iinc 8 1, 3), (41, .goto (-32), 3), (44, .lload 4, 2), (46, .lreturn, 1)]
theorem jD90 : jm_okD prog_1_method_58_code jC90 = true := by decide +kernel
def jC91_0 : List (Nat × Instr × Nat) := [(0, .iload_n 1, 1), (1, .iload_n 2, 1), (2, .iload_n 3, 1), (3, .invokestatic 243, 3), (6, .ifCond .ne 25, 3), (9, .iload 4, 2), (11, .iconst 0, 1), (12, .sipush 255, 3), (15, .invokestatic 86, 3), (18, .ifCond .ne 13, 3), (21, .iload 5, 2), (23, .iconst 0, 1), (24, .iconst 1, 1), (25, .invokestatic 86, 3), (28, .ifCond .eq 6, 3), (31, .bipush (-2), 2), (33, .ireturn, 1), (34, .iconst 0, 1), (35, .istore 6, 2), (37, .iload 6, 2), (39, .iload_n 1, 1), (40, .if_icmp .gt 75, 3), (43, .iload 5, 2), (45, .ifCond .ne 8, 3), (48, .iload 6, 2), (50, .goto 7, 3), (53, .iload_n 1, 1), (54, .iload 6, 2), (56, .isub, 1), (57, .istore 7, 2), (59, .iload 5, 2), (61, .ifCond .ne 15, 3), (64, .iload_n 1, 1), (65, .iload 7, 2), (67, .iload_n 2, 1), (68, .iload_n 3, 1), (69, .iload_n 2, 1), (70, .invokestatic 267, 3), (73, .goto 12, 3), (76, .iload_n 1, 1), (77, .iload 7, 2), (79, .iload_n 2, 1), (80, .iconst 0, 1), (81, .iload_n 3, 1), (82, .invokestatic 267, 3), (85, .lstore 8, 2), (87, .lload 8, 2), (89, .ldc2_w 271, 3), (92, .lmul, 1), (93, .iload 4, 2), (95, .i2l, 1), (96, .iload_n 1, 1), (97, .iload_n 2, 1), (98, .invokestatic 254, 3), (101, .lmul, 1), (102, .lcmp, 1), (103, .ifCond .le 6, 3), (106, .iload 7, 2), (108, .ireturn, 1), (109, .iinc 6 1, 3)]
theorem jD91_0 : jm_okD prog_1_method_24_code jC91_0 = true := by decide +kernel
def jC91_1 : List (Nat × Instr × Nat) := [(112, .goto (-75), 3), (115, .iconst (-1), 1), (116, .ireturn, 1)]
theorem jD91_1 : jm_okD prog_1_method_24_code jC91_1 = true := by decide +kernel
def jC91 : List (Nat × Instr × Nat) := jC91_0 ++ (jC91_1)
theorem jD91 : jm_okD prog_1_method_24_code jC91 = true := jm_okD_app jD91_0 (jD91_1)
def jC92 : List (Nat × Instr × Nat) := [(0, .lconst 0, 1), (1, .lstore 5, 2), (3, .iload_n 3, 1), (4, .istore 7, 2), (6, .iload 7, 2), (8, .iload 4, 2), (10, .if_icmp .gt 22, 3), (13, .lload 5, 2), (15, .iload_n 0, 1), (16, .iload_n 1, 1), (17, .iload_n 2, 1), (18, .iload 7, 2), (20, .invokestatic 250, 3), (23, .ladd, 1), (24, .lstore 5, 2), (26, .iinc 7 1, 3), (29, .goto (-23), 3), (32, .lload 5, 2), (34, .lreturn, 1)]
theorem jD92 : jm_okD prog_1_method_57_code jC92 = true := by decide +kernel
def jC93 : List (Nat × Instr × Nat) := [(0, .aload_n 0, 1), (1, .getfield 10, 3), (4, .iload_n 1, 1), (5, .invokevirtual 115, 3), (8, .ifCond .eq 14, 3), (11, .iload_n 2, 1), (12, .iconst 0, 1), (13, .sipush 199, 3), (16, .invokestatic 86, 3), (19, .ifCond .eq 6, 3), (22, .bipush (-2), 2), (24, .ireturn, 1), (25, .aload_n 0, 1), (26, .getfield 67, 3), (29, .invokevirtual 273, 3), (32, .ifCond .eq 6, 3), (35, .bipush (-4), 2), (37, .ireturn, 1), (38, .aload_n 0, 1), (39, .getfield 67, 3), (42, .iload_n 1, 1), (43, .iload_n 2, 1), (44, .invokevirtual 274, 3), (47, .aload_n 0, 1), (48, .getfield 67, 3), (51, .getfield 134, 3), (54, .ireturn, 1)]
theorem jD93 : jm_okD prog_1_method_25_code jC93 = true := by decide +kernel
def jC94 : List (Nat × Instr × Nat) := [(0, .aload_n 0, 1), (1, .getfield 18, 3), (4, .bipush 12, 2), (6, .if_icmp .lt 7, 3), (9, .iconst 1, 1), (10, .goto 4, 3), (13, .iconst 0, 1), (14, .ireturn, 1)]
theorem jD94 : jm_okD prog_5_method_2_code jC94 = true := by decide +kernel
def jC95 : List (Nat × Instr × Nat) := [(0, .aload_n 0, 1), (1, .getfield 9, 3), (4, .aload_n 0, 1), (5, .getfield 18, 3), (8, .iload_n 1, 1), (9, .iastore, 1), (10, .aload_n 0, 1), (11, .getfield 15, 3), (14, .aload_n 0, 1), (15, .getfield 18, 3), (18, .iload_n 2, 1), (19, .iastore, 1), (20, .aload_n 0, 1), (21, .dup, 1), (22, .getfield 18, 3), (25, .iconst 1, 1), (26, .iadd, 1), (27, .putfield 18, 3), (30, .return_, 1)]
theorem jD95 : jm_okD prog_5_method_3_code jC95 = true := by decide +kernel
def jC96 : List (Nat × Instr × Nat) := [(0, .iload_n 1, 1), (1, .iconst 0, 1), (2, .iconst 4, 1), (3, .invokestatic 86, 3), (6, .ifCond .eq 6, 3), (9, .bipush (-2), 2), (11, .ireturn, 1), (12, .aload_n 0, 1), (13, .getfield 67, 3), (16, .getfield 134, 3), (19, .ifCond .ne 6, 3), (22, .bipush (-3), 2), (24, .ireturn, 1), (25, .aload_n 0, 1), (26, .invokevirtual 276, 3), (29, .aload_n 0, 1), (30, .getfield 67, 3), (33, .iload_n 1, 1), (34, .invokevirtual 279, 3), (37, .ireturn, 1)]
theorem jD96 : jm_okD prog_1_method_26_code jC96 = true := by decide +kernel
def jC97 : List (Nat × Instr × Nat) := [(0, .aload_n 0, 1), (1, .getfield 67, 3), (4, .invokevirtual 360, 3), (7, .getstatic 135, 3), (10, .iconst 1, 1), (11, .iaload, 1), (12, .istore_n 1, 1), (13, .iload_n 1, 1), (14, .getstatic 138, 3), (17, .iconst 1, 1), (18, .iaload, 1), (19, .if_icmp .gt 53, 3), (22, .aload_n 0, 1), (23, .getfield 50, 3), (26, .aload_n 0, 1), (27, .getfield 10, 3), (30, .iload_n 1, 1), (31, .aload_n 0, 1), (32, .getfield 25, 3), (35, .iconst 0, 1), (36, .iaload, 1), (37, .invokevirtual 199, 3), (40, .aload_n 0, 1), (41, .getfield 50, 3), (44, .aload_n 0, 1), (45, .getfield 37, 3), (48, .sipush 200, 3), (51, .invokevirtual 203, 3), (54, .aload_n 0, 1), (55, .getfield 67, 3), (58, .iload_n 1, 1), (59, .aload_n 0, 1), (60, .getfield 50, 3), (63, .invokevirtual 363, 3), (66, .iinc 1 1, 3), (69, .goto (-56), 3), (72, .return_, 1)]
theorem jD97 : jm_okD prog_1_method_49_code jC97 = true := by decide +kernel
def jC98 : List (Nat × Instr × Nat) := [(0, .aload_n 0, 1), (1, .iconst (-1), 1), (2, .putfield 22, 3), (5, .aload_n 0, 1), (6, .iconst (-1), 1), (7, .putfield 25, 3), (10, .aload_n 0, 1), (11, .iconst 0, 1), (12, .putfield 28, 3), (15, .aload_n 0, 1), (16, .iconst (-1), 1), (17, .putfield 31, 3), (20, .return_, 1)]
theorem jD98 : jm_okD prog_5_method_4_code jC98 = true := by decide +kernel
def jC99 : List (Nat × Instr × Nat) := [(0, .aload_n 0, 1), (1, .aload_n 2, 1), (2, .invokevirtual 37, 3), (5, .istore_n 3, 1), (6, .iload_n 3, 1), (7, .ifCond .ne 38, 3), (10, .aload_n 0, 1), (11, .aload_n 0, 1), (12, .getfield 22, 3), (15, .iconst (-1), 1), (16, .if_icmp .ne 7, 3), (19, .iload_n 1, 1), (20, .goto 7, 3), (23, .aload_n 0, 1), (24, .getfield 22, 3), (27, .putfield 22, 3), (30, .aload_n 0, 1), (31, .iload_n 1, 1), (32, .putfield 25, 3), (35, .aload_n 0, 1), (36, .dup, 1), (37, .getfield 28, 3), (40, .iconst 1, 1), (41, .iadd, 1), (42, .putfield 28, 3), (45, .aload_n 0, 1), (46, .getfield 31, 3), (49, .iconst (-1), 1), (50, .if_icmp .eq 11, 3), (53, .iload_n 3, 1), (54, .aload_n 0, 1), (55, .getfield 34, 3), (58, .if_icmp .ge 13, 3), (61, .aload_n 0, 1), (62, .iload_n 1, 1), (63, .putfield 31, 3), (66, .aload_n 0, 1), (67, .iload_n 3, 1), (68, .putfield 34, 3), (71, .return_, 1)]
theorem jD99 : jm_okD prog_5_method_5_code jC99 = true := by decide +kernel
def jC100 : List (Nat × Instr × Nat) := [(0, .iconst 0, 1), (1, .istore_n 2, 1), (2, .iconst 0, 1), (3, .istore_n 3, 1), (4, .iload_n 3, 1), (5, .aload_n 0, 1), (6, .getfield 18, 3), (9, .if_icmp .ge 49, 3), (12, .aload_n 1, 1), (13, .aload_n 0, 1), (14, .getfield 9, 3), (17, .iload_n 3, 1), (18, .iaload, 1), (19, .iconst 4, 1), (20, .invokevirtual 41, 3), (23, .istore 4, 2), (25, .iload_n 2, 1), (26, .iload 4, 2), (28, .iconst (-1), 1), (29, .if_icmp .ne 9, 3), (32, .sipush 200, 3), (35, .goto 15, 3), (38, .iload 4, 2), (40, .aload_n 0, 1), (41, .getfield 15, 3), (44, .iload_n 3, 1), (45, .iaload, 1), (46, .isub, 1), (47, .invokestatic 47, 3), (50, .iadd, 1), (51, .istore_n 2, 1), (52, .iinc 3 1, 3), (55, .goto (-51), 3), (58, .iload_n 2, 1), (59, .ireturn, 1)]
theorem jD100 : jm_okD prog_5_method_6_code jC100 = true := by decide +kernel
def jC101 : List (Nat × Instr × Nat) := [(0, .iload_n 1, 1), (1, .tableswitch 51 0 3 #[31, 36, 41, 46], 31), (32, .aload_n 0, 1), (33, .getfield 22, 3), (36, .ireturn, 1), (37, .aload_n 0, 1), (38, .getfield 25, 3), (41, .ireturn, 1), (42, .aload_n 0, 1), (43, .getfield 28, 3), (46, .ireturn, 1), (47, .aload_n 0, 1), (48, .getfield 31, 3), (51, .ireturn, 1), (52, .aload_n 0, 1), (53, .getfield 34, 3), (56, .ireturn, 1)]
theorem jD101 : jm_okD prog_5_method_7_code jC101 = true := by decide +kernel
def jC102 : List (Nat × Instr × Nat) := [(0, .iload_n 1, 1), (1, .iconst 0, 1), (2, .iconst 3, 1), (3, .invokestatic 86, 3), (6, .ifCond .ne 18, 3), (9, .iload_n 2, 1), (10, .iconst 0, 1), (11, .iconst 2, 1), (12, .invokestatic 86, 3), (15, .ifCond .ne 9, 3), (18, .iload_n 3, 1), (19, .bipush 60, 2), (21, .if_icmp .le 6, 3), (24, .bipush (-2), 2), (26, .ireturn, 1), (27, .iload_n 3, 1), (28, .ifCond .ge 9, 3), (31, .aload_n 0, 1), (32, .iconst 5, 1), (33, .invokevirtual 105, 3), (36, .ireturn, 1), (37, .aload_n 0, 1), (38, .getfield 73, 3), (41, .iload_n 1, 1), (42, .aaload, 1), (43, .iload_n 2, 1), (44, .iload_n 3, 1), (45, .invokevirtual 280, 3), (48, .iload_n 3, 1), (49, .ireturn, 1)]
theorem jD102 : jm_okD prog_1_method_27_code jC102 = true := by decide +kernel
def jC103 : List (Nat × Instr × Nat) := [(0, .aload_n 0, 1), (1, .iload_n 1, 1), (2, .putfield 15, 3), (5, .aload_n 0, 1), (6, .iload_n 2, 1), (7, .putfield 19, 3), (10, .aload_n 0, 1), (11, .getfield 9, 3), (14, .iconst 0, 1), (15, .invokestatic 22, 3), (18, .return_, 1)]
theorem jD103 : jm_okD prog_8_method_3_code jC103 = true := by decide +kernel
def jC104 : List (Nat × Instr × Nat) := [(0, .iload_n 1, 1), (1, .iconst 0, 1), (2, .iconst 3, 1), (3, .invokestatic 86, 3), (6, .ifCond .eq 6, 3), (9, .bipush (-2), 2), (11, .ireturn, 1), (12, .aload_n 0, 1), (13, .getfield 73, 3), (16, .iload_n 1, 1), (17, .aaload, 1), (18, .invokevirtual 102, 3), (21, .ifCond .eq 9, 3), (24, .aload_n 0, 1), (25, .iconst 1, 1), (26, .invokevirtual 105, 3), (29, .ireturn, 1), (30, .aload_n 0, 1), (31, .getfield 73, 3), (34, .iload_n 1, 1), (35, .aaload, 1), (36, .iconst (-1), 1), (37, .putfield 283, 3), (40, .aload_n 0, 1), (41, .getfield 73, 3), (44, .iload_n 1, 1), (45, .aaload, 1), (46, .getfield 109, 3), (49, .ireturn, 1)]
theorem jD104 : jm_okD prog_1_method_28_code jC104 = true := by decide +kernel
def jC105 : List (Nat × Instr × Nat) := [(0, .iload_n 1, 1), (1, .iconst 0, 1), (2, .iconst 3, 1), (3, .invokestatic 86, 3), (6, .ifCond .ne 12, 3), (9, .iload_n 2, 1), (10, .iconst 0, 1), (11, .iconst 2, 1), (12, .invokestatic 86, 3), (15, .ifCond .eq 6, 3), (18, .bipush (-2), 2), (20, .ireturn, 1), (21, .aload_n 0, 1), (22, .getfield 73, 3), (25, .iload_n 1, 1), (26, .aaload, 1), (27, .iload_n 2, 1), (28, .iload_n 3, 1), (29, .invokevirtual 286, 3), (32, .istore 5, 2), (34, .iload 5, 2), (36, .ifCond .eq 10, 3), (39, .aload_n 0, 1), (40, .iload 5, 2), (42, .invokevirtual 105, 3), (45, .ireturn, 1), (46, .aload_n 0, 1), (47, .getfield 73, 3), (50, .iload_n 1, 1), (51, .aaload, 1), (52, .iload_n 3, 1), (53, .iload 4, 2), (55, .invokevirtual 289, 3), (58, .iconst 1, 1), (59, .ireturn, 1)]
theorem jD105 : jm_okD prog_1_method_29_code jC105 = true := by decide +kernel
def jC106 : List (Nat × Instr × Nat) := [(0, .aload_n 0, 1), (1, .invokevirtual 28, 3), (4, .ifCond .eq 5, 3), (7, .iconst 1, 1), (8, .ireturn, 1), (9, .aload_n 0, 1), (10, .getfield 15, 3), (13, .iload_n 1, 1), (14, .if_icmp .eq 5, 3), (17, .iconst 3, 1), (18, .ireturn, 1), (19, .iload_n 2, 1), (20, .ifCond .lt 11, 3), (23, .iload_n 2, 1), (24, .aload_n 0, 1), (25, .getfield 19, 3), (28, .if_icmp .lt 7, 3), (31, .iconst 2, 1), (32, .goto 4, 3), (35, .iconst 0, 1), (36, .ireturn, 1)]
theorem jD106 : jm_okD prog_8_method_4_code jC106 = true := by decide +kernel
def jC107 : List (Nat × Instr × Nat) := [(0, .aload_n 0, 1), (1, .getfield 9, 3), (4, .iload_n 1, 1), (5, .aload_n 0, 1), (6, .getfield 15, 3), (9, .ifCond .ne 8, 3), (12, .iload_n 2, 1), (13, .i2b, 1), (14, .goto 17, 3), (17, .aload_n 0, 1), (18, .getfield 15, 3), (21, .iconst 1, 1), (22, .if_icmp .ne 8, 3), (25, .iload_n 2, 1), (26, .i2s, 1), (27, .goto 4, 3), (30, .iload_n 2, 1), (31, .iastore, 1), (32, .return_, 1)]
theorem jD107 : jm_okD prog_8_method_6_code jC107 = true := by decide +kernel
def jC108 : List (Nat × Instr × Nat) := [(0, .iload_n 1, 1), (1, .iconst 0, 1), (2, .iconst 3, 1), (3, .invokestatic 86, 3), (6, .ifCond .ne 12, 3), (9, .iload_n 2, 1), (10, .iconst 0, 1), (11, .iconst 2, 1), (12, .invokestatic 86, 3), (15, .ifCond .eq 7, 3), (18, .ldc_w 293, 3), (21, .ireturn, 1), (22, .aload_n 0, 1), (23, .getfield 73, 3), (26, .iload_n 1, 1), (27, .aaload, 1), (28, .iload_n 2, 1), (29, .iload_n 3, 1), (30, .invokevirtual 286, 3), (33, .istore 4, 2), (35, .iload 4, 2), (37, .ifCond .eq 13, 3), (40, .aload_n 0, 1), (41, .iload 4, 2), (43, .putfield 77, 3), (46, .ldc_w 293, 3), (49, .ireturn, 1), (50, .aload_n 0, 1), (51, .getfield 73, 3), (54, .iload_n 1, 1), (55, .aaload, 1), (56, .getfield 112, 3), (59, .iload_n 3, 1), (60, .iaload, 1), (61, .ireturn, 1)]
theorem jD108 : jm_okD prog_1_method_30_code jC108 = true := by decide +kernel
def jC109_0 : List (Nat × Instr × Nat) := [(0, .iload_n 1, 1), (1, .iconst 0, 1), (2, .iconst 3, 1), (3, .invokestatic 86, 3), (6, .ifCond .ne 12, 3), (9, .iload_n 3, 1), (10, .iconst 0, 1), (11, .iconst 3, 1), (12, .invokestatic 86, 3), (15, .ifCond .eq 6, 3), (18, .bipush (-2), 2), (20, .ireturn, 1), (21, .aload_n 0, 1), (22, .getfield 73, 3), (25, .iload_n 1, 1), (26, .aaload, 1), (27, .astore 6, 2), (29, .aload_n 0, 1), (30, .getfield 73, 3), (33, .iload_n 3, 1), (34, .aaload, 1), (35, .astore 7, 2), (37, .aload 6, 2), (39, .invokevirtual 102, 3), (42, .ifCond .ne 11, 3), (45, .aload 7, 2), (47, .invokevirtual 102, 3), (50, .ifCond .eq 9, 3), (53, .aload_n 0, 1), (54, .iconst 1, 1), (55, .invokevirtual 105, 3), (58, .ireturn, 1), (59, .aload 6, 2), (61, .getfield 283, 3), (64, .aload 7, 2), (66, .getfield 283, 3), (69, .if_icmp .eq 9, 3), (72, .aload_n 0, 1), (73, .iconst 4, 1), (74, .invokevirtual 105, 3), (77, .ireturn, 1), (78, .aload 6, 2), (80, .iload_n 2, 1), (81, .iload 5, 2), (83, .invokevirtual 294, 3), (86, .ifCond .eq 15, 3), (89, .aload 7, 2), (91, .iload 4, 2), (93, .iload 5, 2), (95, .invokevirtual 294, 3), (98, .ifCond .ne 9, 3), (101, .aload_n 0, 1), (102, .iconst 2, 1), (103, .invokevirtual 105, 3), (106, .ireturn, 1), (107, .aload 6, 2), (109, .getfield 112, 3), (112, .iload_n 2, 1), (113, .aload 7, 2), (115, .getfield 112, 3)]
theorem jD109_0 : jm_okD prog_1_method_31_code jC109_0 = true := by decide +kernel
def jC109_1 : List (Nat × Instr × Nat) := [(118, .iload 4, 2), (120, .iload 5, 2), (122, .invokestatic 297, 3), (125, .iconst 1, 1), (126, .ireturn, 1)]
theorem jD109_1 : jm_okD prog_1_method_31_code jC109_1 = true := by decide +kernel
def jC109 : List (Nat × Instr × Nat) := jC109_0 ++ (jC109_1)
theorem jD109 : jm_okD prog_1_method_31_code jC109 = true := jm_okD_app jD109_0 (jD109_1)
def jC110 : List (Nat × Instr × Nat) := [(0, .iload_n 1, 1), (1, .ifCond .lt 29, 3), (4, .iload_n 2, 1), (5, .ifCond .lt 25, 3), (8, .iload_n 1, 1), (9, .aload_n 0, 1), (10, .getfield 19, 3), (13, .if_icmp .gt 17, 3), (16, .iload_n 2, 1), (17, .aload_n 0, 1), (18, .getfield 19, 3), (21, .iload_n 1, 1), (22, .isub, 1), (23, .if_icmp .gt 7, 3), (26, .iconst 1, 1), (27, .goto 4, 3), (30, .iconst 0, 1), (31, .ireturn, 1)]
theorem jD110 : jm_okD prog_8_method_5_code jC110 = true := by decide +kernel
def jC111 : List (Nat × Instr × Nat) := [(0, .iload_n 1, 1), (1, .iconst 0, 1), (2, .sipush 199, 3), (5, .invokestatic 86, 3), (8, .ifCond .ne 12, 3), (11, .iload_n 2, 1), (12, .iconst 0, 1), (13, .iconst 3, 1), (14, .invokestatic 86, 3), (17, .ifCond .eq 6, 3), (20, .bipush (-2), 2), (22, .ireturn, 1), (23, .aload_n 0, 1), (24, .getfield 73, 3), (27, .iload_n 2, 1), (28, .aaload, 1), (29, .astore_n 3, 1), (30, .aload_n 3, 1), (31, .invokevirtual 102, 3), (34, .ifCond .eq 9, 3), (37, .aload_n 0, 1), (38, .iconst 1, 1), (39, .invokevirtual 105, 3), (42, .ireturn, 1), (43, .aload_n 0, 1), (44, .sipush 200, 3), (47, .invokevirtual 171, 3), (50, .aload_n 3, 1), (51, .getfield 109, 3), (54, .sipush 200, 3), (57, .iload_n 1, 1), (58, .isub, 1), (59, .invokestatic 303, 3), (62, .istore 4, 2), (64, .iconst 0, 1), (65, .istore 5, 2), (67, .iload 5, 2), (69, .iload 4, 2), (71, .if_icmp .ge 26, 3), (74, .aload_n 3, 1), (75, .iload 5, 2), (77, .aload_n 0, 1), (78, .getfield 50, 3), (81, .iload_n 1, 1), (82, .iload 5, 2), (84, .iadd, 1), (85, .invokevirtual 177, 3), (88, .invokevirtual 289, 3), (91, .iinc 5 1, 3), (94, .goto (-27), 3), (97, .iload 4, 2), (99, .ireturn, 1)]
theorem jD111 : jm_okD prog_1_method_32_code jC111 = true := by decide +kernel
def jC112 : List (Nat × Instr × Nat) := [(0, .iload_n 1, 1), (1, .iconst 0, 1), (2, .bipush 8, 2), (4, .invokestatic 86, 3), (7, .ifCond .eq 6, 3), (10, .bipush (-2), 2), (12, .ireturn, 1), (13, .iload_n 1, 1), (14, .tableswitch 87 0 8 #[50, 87, 87, 87, 87, 58, 66, 74, 82], 50), (64, .aload_n 0, 1), (65, .getfield 10, 3), (68, .getfield 131, 3), (71, .ireturn, 1), (72, .aload_n 0, 1), (73, .getfield 37, 3), (76, .getfield 306, 3), (79, .ireturn, 1), (80, .aload_n 0, 1), (81, .getfield 67, 3), (84, .getfield 134, 3), (87, .ireturn, 1), (88, .aload_n 0, 1), (89, .getfield 10, 3), (92, .invokevirtual 309, 3), (95, .ireturn, 1), (96, .aload_n 0, 1), (97, .getfield 77, 3), (100, .ireturn, 1), (101, .aload_n 0, 1), (102, .getfield 30, 3), (105, .iload_n 1, 1), (106, .iconst 1, 1), (107, .isub, 1), (108, .aaload, 1), (109, .getfield 147, 3), (112, .ireturn, 1)]
theorem jD112 : jm_okD prog_1_method_33_code jC112 = true := by decide +kernel
def jC113 : List (Nat × Instr × Nat) := [(0, .iconst 0, 1), (1, .istore_n 1, 1), (2, .iconst 0, 1), (3, .istore_n 2, 1), (4, .iload_n 2, 1), (5, .aload_n 0, 1), (6, .getfield 18, 3), (9, .if_icmp .ge 18, 3), (12, .iload_n 1, 1), (13, .aload_n 0, 1), (14, .iload_n 2, 1), (15, .iconst 0, 1), (16, .invokevirtual 26, 3), (19, .iadd, 1), (20, .istore_n 1, 1), (21, .iinc 2 1, 3), (24, .goto (-20), 3), (27, .iload_n 1, 1), (28, .ireturn, 1)]
theorem jD113 : jm_okD prog_4_method_7_code jC113 = true := by decide +kernel
def jC114_0 : List (Nat × Instr × Nat) := [(0, .ldc2_w 312, 3), (3, .lstore_n 1, 1), (4, .iconst 0, 1), (5, .istore_n 3, 1), (6, .iload_n 3, 1), (7, .bipush 7, 2), (9, .if_icmp .gt 22, 3), (12, .ldc2_w 314, 3), (15, .lload_n 1, 1), (16, .lmul, 1), (17, .aload_n 0, 1), (18, .iload_n 3, 1), (19, .invokevirtual 316, 3), (22, .i2l, 1), (23, .ladd, 1), (24, .lstore_n 1, 1), (25, .iinc 3 1, 3), (28, .goto (-22), 3), (31, .iconst 0, 1), (32, .istore_n 3, 1), (33, .iload_n 3, 1), (34, .iconst 4, 1), (35, .if_icmp .ge 26, 3), (38, .ldc2_w 314, 3), (41, .lload_n 1, 1), (42, .lmul, 1), (43, .aload_n 0, 1), (44, .getfield 30, 3), (47, .iload_n 3, 1), (48, .aaload, 1), (49, .getfield 148, 3), (52, .i2l, 1), (53, .ladd, 1), (54, .lstore_n 1, 1), (55, .iinc 3 1, 3), (58, .goto (-25), 3), (61, .aload_n 0, 1), (62, .lload_n 1, 1), (63, .bipush 100, 2), (65, .invokevirtual 319, 3), (68, .lstore_n 1, 1), (69, .aload_n 0, 1), (70, .lload_n 1, 1), (71, .invokevirtual 323, 3), (74, .lstore_n 1, 1), (75, .aload_n 0, 1), (76, .bipush 60, 2), (78, .invokevirtual 188, 3), (81, .iconst 0, 1), (82, .istore_n 3, 1), (83, .iload_n 3, 1), (84, .iconst 2, 1), (85, .if_icmp .gt 25, 3), (88, .ldc2_w 314, 3), (91, .lload_n 1, 1), (92, .lmul, 1), (93, .aload_n 0, 1), (94, .getfield 60, 3), (97, .iload_n 3, 1), (98, .invokevirtual 191, 3)]
theorem jD114_0 : jm_okD prog_1_method_34_code jC114_0 = true := by decide +kernel
def jC114_1 : List (Nat × Instr × Nat) := [(101, .i2l, 1), (102, .ladd, 1), (103, .lstore_n 1, 1), (104, .iinc 3 1, 3), (107, .goto (-24), 3), (110, .aload_n 0, 1), (111, .iconst 3, 1), (112, .bipush 100, 2), (114, .invokevirtual 230, 3), (117, .iconst 0, 1), (118, .istore_n 3, 1), (119, .iload_n 3, 1), (120, .iconst 3, 1), (121, .if_icmp .gt 24, 3), (124, .ldc2_w 314, 3), (127, .lload_n 1, 1), (128, .lmul, 1), (129, .aload_n 0, 1), (130, .bipush 100, 2), (132, .iload_n 3, 1), (133, .invokevirtual 234, 3), (136, .i2l, 1), (137, .ladd, 1), (138, .lstore_n 1, 1), (139, .iinc 3 1, 3), (142, .goto (-23), 3), (145, .aload_n 0, 1), (146, .lload_n 1, 1), (147, .invokevirtual 327, 3), (150, .lreturn, 1)]
theorem jD114_1 : jm_okD prog_1_method_34_code jC114_1 = true := by decide +kernel
def jC114 : List (Nat × Instr × Nat) := jC114_0 ++ (jC114_1)
theorem jD114 : jm_okD prog_1_method_34_code jC114 = true := jm_okD_app jD114_0 (jD114_1)
def jC115 : List (Nat × Instr × Nat) := [(0, .lload_n 1, 1), (1, .lstore 4, 2), (3, .aload_n 0, 1), (4, .invokevirtual 161, 3), (7, .aload_n 0, 1), (8, .getfield 50, 3), (11, .aload_n 0, 1), (12, .getfield 37, 3), (15, .iload_n 3, 1), (16, .invokevirtual 164, 3), (19, .iconst 0, 1), (20, .istore 6, 2), (22, .iload 6, 2), (24, .aload_n 0, 1), (25, .getfield 10, 3), (28, .getfield 131, 3), (31, .if_icmp .ge 45, 3), (34, .iconst 0, 1), (35, .istore 7, 2), (37, .iload 7, 2), (39, .iconst 5, 1), (40, .if_icmp .gt 30, 3), (43, .ldc2_w 314, 3), (46, .lload 4, 2), (48, .lmul, 1), (49, .aload_n 0, 1), (50, .getfield 50, 3), (53, .iload 6, 2), (55, .iload 7, 2), (57, .invokevirtual 168, 3), (60, .i2l, 1), (61, .ladd, 1), (62, .lstore 4, 2), (64, .iinc 7 1, 3), (67, .goto (-30), 3), (70, .iinc 6 1, 3), (73, .goto (-51), 3), (76, .lload 4, 2), (78, .lreturn, 1)]
theorem jD115 : jm_okD prog_1_method_50_code jC115 = true := by decide +kernel
def jC116 : List (Nat × Instr × Nat) := [(0, .lload_n 1, 1), (1, .lstore_n 3, 1), (2, .aload_n 0, 1), (3, .sipush 200, 3), (6, .invokevirtual 171, 3), (9, .iconst 0, 1), (10, .istore 5, 2), (12, .iload 5, 2), (14, .iconst 3, 1), (15, .if_icmp .ge 40, 3), (18, .iconst 0, 1), (19, .istore 6, 2), (21, .iload 6, 2), (23, .iconst 5, 1), (24, .if_icmp .gt 25, 3), (27, .ldc2_w 314, 3), (30, .lload_n 3, 1), (31, .lmul, 1), (32, .aload_n 0, 1), (33, .iload 5, 2), (35, .iload 6, 2), (37, .invokevirtual 181, 3), (40, .i2l, 1), (41, .ladd, 1), (42, .lstore_n 3, 1), (43, .iinc 6 1, 3), (46, .goto (-25), 3), (49, .iinc 5 1, 3), (52, .goto (-40), 3), (55, .ldc2_w 314, 3), (58, .lload_n 3, 1), (59, .lmul, 1), (60, .aload_n 0, 1), (61, .invokevirtual 184, 3), (64, .i2l, 1), (65, .ladd, 1), (66, .lreturn, 1)]
theorem jD116 : jm_okD prog_1_method_51_code jC116 = true := by decide +kernel
def jC117 : List (Nat × Instr × Nat) := [(0, .lload_n 1, 1), (1, .lstore_n 3, 1), (2, .aload_n 0, 1), (3, .getfield 67, 3), (6, .getfield 134, 3), (9, .ifCond .le 7, 3), (12, .iconst 1, 1), (13, .goto 4, 3), (16, .iconst 0, 1), (17, .istore 5, 2), (19, .iload 5, 2), (21, .ifCond .eq 7, 3), (24, .aload_n 0, 1), (25, .invokevirtual 276, 3), (28, .iconst 0, 1), (29, .istore 6, 2), (31, .iload 6, 2), (33, .iconst 4, 1), (34, .if_icmp .gt 36, 3), (37, .ldc2_w 314, 3), (40, .lload_n 3, 1), (41, .lmul, 1), (42, .iload 5, 2), (44, .ifCond .eq 15, 3), (47, .aload_n 0, 1), (48, .getfield 67, 3), (51, .iload 6, 2), (53, .invokevirtual 279, 3), (56, .goto 5, 3), (59, .bipush (-3), 2), (61, .i2l, 1), (62, .ladd, 1), (63, .lstore_n 3, 1), (64, .iinc 6 1, 3), (67, .goto (-36), 3), (70, .lload_n 3, 1), (71, .lreturn, 1)]
theorem jD117 : jm_okD prog_1_method_52_code jC117 = true := by decide +kernel
def jC118 : List (Nat × Instr × Nat) := [(0, .iload_n 1, 1), (1, .invokestatic 105, 3), (4, .ifCond .eq 21, 3), (7, .iload_n 2, 1), (8, .i2l, 1), (9, .lconst 0, 1), (10, .ldc2_w 109, 3), (13, .invokestatic 95, 3), (16, .ifCond .eq 9, 3), (19, .iload_n 3, 1), (20, .bipush 60, 2), (22, .if_icmp .le 6, 3), (25, .bipush (-2), 2), (27, .ireturn, 1), (28, .iload_n 3, 1), (29, .ifCond .ge 9, 3), (32, .aload_n 0, 1), (33, .iconst 5, 1), (34, .invokevirtual 111, 3), (37, .ireturn, 1), (38, .aload_n 0, 1), (39, .getfield 7, 3), (42, .iload_n 1, 1), (43, .iload_n 2, 1), (44, .iastore, 1), (45, .aload_n 0, 1), (46, .getfield 13, 3), (49, .iload_n 1, 1), (50, .iload_n 3, 1), (51, .iastore, 1), (52, .iconst 0, 1), (53, .istore 4, 2), (55, .iload 4, 2), (57, .iload_n 3, 1), (58, .if_icmp .ge 22, 3), (61, .aload_n 0, 1), (62, .getfield 16, 3), (65, .bipush 60, 2), (67, .iload_n 1, 1), (68, .imul, 1), (69, .iload 4, 2), (71, .iadd, 1), (72, .iconst 0, 1), (73, .iastore, 1), (74, .iinc 4 1, 3), (77, .goto (-22), 3), (80, .iload_n 3, 1), (81, .ireturn, 1)]
theorem jD118 : jm_okD prog_11_method_9_code jC118 = true := by decide +kernel
def jC119 : List (Nat × Instr × Nat) := [(0, .iload_n 0, 1), (1, .i2l, 1), (2, .lconst 0, 1), (3, .ldc2_w 103, 3), (6, .invokestatic 95, 3), (9, .ireturn, 1)]
theorem jD119 : jm_okD prog_11_method_8_code jC119 = true := by decide +kernel
def jC120 : List (Nat × Instr × Nat) := [(0, .lload_n 0, 1), (1, .lload_n 2, 1), (2, .lcmp, 1), (3, .ifCond .lt 14, 3), (6, .lload_n 0, 1), (7, .lload 4, 2), (9, .lcmp, 1), (10, .ifCond .gt 7, 3), (13, .iconst 1, 1), (14, .goto 4, 3), (17, .iconst 0, 1), (18, .ireturn, 1)]
theorem jD120 : jm_okD prog_11_method_3_code jC120 = true := by decide +kernel
def jC121 : List (Nat × Instr × Nat) := [(0, .aload_n 0, 1), (1, .iload_n 1, 1), (2, .putfield 99, 3), (5, .bipush (-10), 2), (7, .iload_n 1, 1), (8, .isub, 1), (9, .ireturn, 1)]
theorem jD121 : jm_okD prog_11_method_7_code jC121 = true := by decide +kernel
def jC122 : List (Nat × Instr × Nat) := [(0, .iload_n 1, 1), (1, .invokestatic 105, 3), (4, .ifCond .ne 6, 3), (7, .bipush (-2), 2), (9, .ireturn, 1), (10, .aload_n 0, 1), (11, .getfield 7, 3), (14, .iload_n 1, 1), (15, .iaload, 1), (16, .ifCond .ge 9, 3), (19, .aload_n 0, 1), (20, .iconst 1, 1), (21, .invokevirtual 111, 3), (24, .ireturn, 1), (25, .aload_n 0, 1), (26, .getfield 7, 3), (29, .iload_n 1, 1), (30, .iconst (-1), 1), (31, .iastore, 1), (32, .aload_n 0, 1), (33, .getfield 13, 3), (36, .iload_n 1, 1), (37, .iaload, 1), (38, .ireturn, 1)]
theorem jD122 : jm_okD prog_11_method_10_code jC122 = true := by decide +kernel
def jC123 : List (Nat × Instr × Nat) := [(0, .iload_n 1, 1), (1, .invokestatic 105, 3), (4, .ifCond .eq 15, 3), (7, .iload_n 2, 1), (8, .i2l, 1), (9, .lconst 0, 1), (10, .ldc2_w 109, 3), (13, .invokestatic 95, 3), (16, .ifCond .ne 6, 3), (19, .bipush (-2), 2), (21, .ireturn, 1), (22, .aload_n 0, 1), (23, .iload_n 1, 1), (24, .iload_n 2, 1), (25, .iload_n 3, 1), (26, .invokevirtual 115, 3), (29, .istore 5, 2), (31, .iload 5, 2), (33, .ifCond .eq 6, 3), (36, .iload 5, 2), (38, .ireturn, 1), (39, .aload_n 0, 1), (40, .getfield 16, 3), (43, .bipush 60, 2), (45, .iload_n 1, 1), (46, .imul, 1), (47, .iload_n 3, 1), (48, .iadd, 1), (49, .iload_n 2, 1), (50, .iload 4, 2), (52, .invokestatic 119, 3), (55, .iastore, 1), (56, .iconst 1, 1), (57, .ireturn, 1)]
theorem jD123 : jm_okD prog_11_method_13_code jC123 = true := by decide +kernel
def jC124 : List (Nat × Instr × Nat) := [(0, .aload_n 0, 1), (1, .getfield 7, 3), (4, .iload_n 1, 1), (5, .iaload, 1), (6, .ifCond .ge 9, 3), (9, .aload_n 0, 1), (10, .iconst 1, 1), (11, .invokevirtual 111, 3), (14, .ireturn, 1), (15, .aload_n 0, 1), (16, .getfield 7, 3), (19, .iload_n 1, 1), (20, .iaload, 1), (21, .iload_n 2, 1), (22, .if_icmp .eq 9, 3), (25, .aload_n 0, 1), (26, .iconst 3, 1), (27, .invokevirtual 111, 3), (30, .ireturn, 1), (31, .iload_n 3, 1), (32, .i2l, 1), (33, .lconst 0, 1), (34, .aload_n 0, 1), (35, .getfield 13, 3), (38, .iload_n 1, 1), (39, .iaload, 1), (40, .iconst 1, 1), (41, .isub, 1), (42, .i2l, 1), (43, .invokestatic 95, 3), (46, .ifCond .eq 7, 3), (49, .iconst 0, 1), (50, .goto 8, 3), (53, .aload_n 0, 1), (54, .iconst 2, 1), (55, .invokevirtual 111, 3), (58, .ireturn, 1)]
theorem jD124 : jm_okD prog_11_method_11_code jC124 = true := by decide +kernel
def jC125 : List (Nat × Instr × Nat) := [(0, .iload_n 0, 1), (1, .ifCond .ne 8, 3), (4, .iload_n 1, 1), (5, .i2b, 1), (6, .goto 14, 3), (9, .iload_n 0, 1), (10, .iconst 1, 1), (11, .if_icmp .ne 8, 3), (14, .iload_n 1, 1), (15, .i2s, 1), (16, .goto 4, 3), (19, .iload_n 1, 1), (20, .ireturn, 1)]
theorem jD125 : jm_okD prog_11_method_12_code jC125 = true := by decide +kernel
def jC126 : List (Nat × Instr × Nat) := [(0, .iload_n 1, 1), (1, .invokestatic 105, 3), (4, .ifCond .eq 25, 3), (7, .iload_n 2, 1), (8, .i2l, 1), (9, .lconst 0, 1), (10, .ldc2_w 109, 3), (13, .invokestatic 95, 3), (16, .ifCond .eq 13, 3), (19, .aload_n 0, 1), (20, .iload_n 1, 1), (21, .iload_n 2, 1), (22, .iload_n 3, 1), (23, .invokevirtual 115, 3), (26, .ifCond .eq 6, 3), (29, .ldc 123, 2), (31, .ireturn, 1), (32, .aload_n 0, 1), (33, .getfield 16, 3), (36, .bipush 60, 2), (38, .iload_n 1, 1), (39, .imul, 1), (40, .iload_n 3, 1), (41, .iadd, 1), (42, .iaload, 1), (43, .ireturn, 1)]
theorem jD126 : jm_okD prog_11_method_14_code jC126 = true := by decide +kernel
def jC127_0 : List (Nat × Instr × Nat) := [(0, .iload_n 1, 1), (1, .invokestatic 105, 3), (4, .ifCond .eq 10, 3), (7, .iload_n 3, 1), (8, .invokestatic 105, 3), (11, .ifCond .ne 6, 3), (14, .bipush (-2), 2), (16, .ireturn, 1), (17, .aload_n 0, 1), (18, .getfield 7, 3), (21, .iload_n 1, 1), (22, .iaload, 1), (23, .ifCond .lt 12, 3), (26, .aload_n 0, 1), (27, .getfield 7, 3), (30, .iload_n 3, 1), (31, .iaload, 1), (32, .ifCond .ge 9, 3), (35, .aload_n 0, 1), (36, .iconst 1, 1), (37, .invokevirtual 111, 3), (40, .ireturn, 1), (41, .aload_n 0, 1), (42, .getfield 7, 3), (45, .iload_n 1, 1), (46, .iaload, 1), (47, .aload_n 0, 1), (48, .getfield 7, 3), (51, .iload_n 3, 1), (52, .iaload, 1), (53, .if_icmp .eq 9, 3), (56, .aload_n 0, 1), (57, .iconst 4, 1), (58, .invokevirtual 111, 3), (61, .ireturn, 1), (62, .iload_n 2, 1), (63, .ifCond .lt 48, 3), (66, .iload 4, 2), (68, .ifCond .lt 43, 3), (71, .iload 5, 2), (73, .ifCond .lt 38, 3), (76, .iload_n 2, 1), (77, .i2l, 1), (78, .iload 5, 2), (80, .i2l, 1), (81, .ladd, 1), (82, .aload_n 0, 1), (83, .getfield 13, 3), (86, .iload_n 1, 1), (87, .iaload, 1), (88, .i2l, 1), (89, .lcmp, 1), (90, .ifCond .gt 21, 3), (93, .iload 4, 2), (95, .i2l, 1), (96, .iload 5, 2), (98, .i2l, 1), (99, .ladd, 1), (100, .aload_n 0, 1), (101, .getfield 13, 3)]
theorem jD127_0 : jm_okD prog_11_method_15_code jC127_0 = true := by decide +kernel
def jC127_1 : List (Nat × Instr × Nat) := [(104, .iload_n 3, 1), (105, .iaload, 1), (106, .i2l, 1), (107, .lcmp, 1), (108, .ifCond .le 9, 3), (111, .aload_n 0, 1), (112, .iconst 2, 1), (113, .invokevirtual 111, 3), (116, .ireturn, 1), (117, .iconst 0, 1), (118, .istore 6, 2), (120, .iload 6, 2), (122, .iload 5, 2), (124, .if_icmp .ge 30, 3), (127, .aload_n 0, 1), (128, .getfield 19, 3), (131, .iload 6, 2), (133, .aload_n 0, 1), (134, .getfield 16, 3), (137, .bipush 60, 2), (139, .iload_n 1, 1), (140, .imul, 1), (141, .iload_n 2, 1), (142, .iadd, 1), (143, .iload 6, 2), (145, .iadd, 1), (146, .iaload, 1), (147, .iastore, 1), (148, .iinc 6 1, 3), (151, .goto (-31), 3), (154, .iconst 0, 1), (155, .istore 6, 2), (157, .iload 6, 2), (159, .iload 5, 2), (161, .if_icmp .ge 31, 3), (164, .aload_n 0, 1), (165, .getfield 16, 3), (168, .bipush 60, 2), (170, .iload_n 3, 1), (171, .imul, 1), (172, .iload 4, 2), (174, .iadd, 1), (175, .iload 6, 2), (177, .iadd, 1), (178, .aload_n 0, 1), (179, .getfield 19, 3), (182, .iload 6, 2), (184, .iaload, 1), (185, .iastore, 1), (186, .iinc 6 1, 3), (189, .goto (-32), 3), (192, .iconst 1, 1), (193, .ireturn, 1)]
theorem jD127_1 : jm_okD prog_11_method_15_code jC127_1 = true := by decide +kernel
def jC127 : List (Nat × Instr × Nat) := jC127_0 ++ (jC127_1)
theorem jD127 : jm_okD prog_11_method_15_code jC127 = true := jm_okD_app jD127_0 (jD127_1)
def jC128_0 : List (Nat × Instr × Nat) := [(0, .iload_n 1, 1), (1, .invokestatic 133, 3), (4, .ifCond .eq 37, 3), (7, .iconst 0, 1), (8, .iload_n 2, 1), (9, .invokestatic 136, 3), (12, .ifCond .eq 29, 3), (15, .iconst 1, 1), (16, .iload_n 3, 1), (17, .invokestatic 136, 3), (20, .ifCond .eq 21, 3), (23, .iconst 2, 1), (24, .iload 4, 2), (26, .invokestatic 136, 3), (29, .ifCond .eq 12, 3), (32, .iconst 3, 1), (33, .iload 5, 2), (35, .invokestatic 136, 3), (38, .ifCond .ne 6, 3), (41, .bipush (-2), 2), (43, .ireturn, 1), (44, .aload_n 0, 1), (45, .getfield 124, 3), (48, .bipush 12, 2), (50, .if_icmp .ne 6, 3), (53, .bipush (-4), 2), (55, .ireturn, 1), (56, .aload_n 0, 1), (57, .getfield 22, 3), (60, .aload_n 0, 1), (61, .getfield 124, 3), (64, .iload_n 1, 1), (65, .iastore, 1), (66, .aload_n 0, 1), (67, .getfield 25, 3), (70, .iconst 4, 1), (71, .aload_n 0, 1), (72, .getfield 124, 3), (75, .imul, 1), (76, .iload_n 2, 1), (77, .iastore, 1), (78, .aload_n 0, 1), (79, .getfield 25, 3), (82, .iconst 4, 1), (83, .aload_n 0, 1), (84, .getfield 124, 3), (87, .imul, 1), (88, .iconst 1, 1), (89, .iadd, 1), (90, .iload_n 3, 1), (91, .iastore, 1), (92, .aload_n 0, 1), (93, .getfield 25, 3), (96, .iconst 4, 1), (97, .aload_n 0, 1), (98, .getfield 124, 3), (101, .imul, 1), (102, .iconst 2, 1), (103, .iadd, 1), (104, .iload 4, 2)]
theorem jD128_0 : jm_okD prog_11_method_19_code jC128_0 = true := by decide +kernel
def jC128_1 : List (Nat × Instr × Nat) := [(106, .iastore, 1), (107, .aload_n 0, 1), (108, .getfield 25, 3), (111, .iconst 4, 1), (112, .aload_n 0, 1), (113, .getfield 124, 3), (116, .imul, 1), (117, .iconst 3, 1), (118, .iadd, 1), (119, .iload 5, 2), (121, .iastore, 1), (122, .aload_n 0, 1), (123, .dup, 1), (124, .getfield 124, 3), (127, .iconst 1, 1), (128, .iadd, 1), (129, .putfield 124, 3), (132, .aload_n 0, 1), (133, .getfield 124, 3), (136, .iconst 1, 1), (137, .isub, 1), (138, .ireturn, 1)]
theorem jD128_1 : jm_okD prog_11_method_19_code jC128_1 = true := by decide +kernel
def jC128 : List (Nat × Instr × Nat) := jC128_0 ++ (jC128_1)
theorem jD128 : jm_okD prog_11_method_19_code jC128 = true := jm_okD_app jD128_0 (jD128_1)
def jC129 : List (Nat × Instr × Nat) := [(0, .iload_n 0, 1), (1, .i2l, 1), (2, .lconst 0, 1), (3, .ldc2_w 103, 3), (6, .invokestatic 95, 3), (9, .ireturn, 1)]
theorem jD129 : jm_okD prog_11_method_18_code jC129 = true := by decide +kernel
def jC130 : List (Nat × Instr × Nat) := [(0, .iload_n 0, 1), (1, .ifCond .ne 15, 3), (4, .iload_n 1, 1), (5, .i2l, 1), (6, .lconst 0, 1), (7, .ldc2_w 127, 3), (10, .invokestatic 95, 3), (13, .goto 46, 3), (16, .iload_n 0, 1), (17, .iconst 1, 1), (18, .if_icmp .ne 15, 3), (21, .iload_n 1, 1), (22, .i2l, 1), (23, .lconst 1, 1), (24, .ldc2_w 129, 3), (27, .invokestatic 95, 3), (30, .goto 29, 3), (33, .iload_n 0, 1), (34, .iconst 2, 1), (35, .if_icmp .ne 15, 3), (38, .iload_n 1, 1), (39, .i2l, 1), (40, .lconst 1, 1), (41, .ldc2_w 131, 3), (44, .invokestatic 95, 3), (47, .goto 12, 3), (50, .iload_n 1, 1), (51, .i2l, 1), (52, .lconst 0, 1), (53, .ldc2_w 131, 3), (56, .invokestatic 95, 3), (59, .ireturn, 1)]
theorem jD130 : jm_okD prog_11_method_17_code jC130 = true := by decide +kernel
def jC131_0 : List (Nat × Instr × Nat) := [(0, .iload_n 1, 1), (1, .invokestatic 105, 3), (4, .ifCond .eq 10, 3), (7, .iload_n 2, 1), (8, .invokestatic 133, 3), (11, .ifCond .ne 6, 3), (14, .bipush (-2), 2), (16, .ireturn, 1), (17, .aload_n 0, 1), (18, .getfield 7, 3), (21, .iload_n 1, 1), (22, .iaload, 1), (23, .ifCond .ge 9, 3), (26, .aload_n 0, 1), (27, .iconst 1, 1), (28, .invokevirtual 111, 3), (31, .ireturn, 1), (32, .iconst 0, 1), (33, .istore_n 3, 1), (34, .iconst 1, 1), (35, .istore 4, 2), (37, .iload 4, 2), (39, .ifCond .eq 92, 3), (42, .iconst 4, 1), (43, .iload_n 3, 1), (44, .imul, 1), (45, .iconst 4, 1), (46, .iadd, 1), (47, .aload_n 0, 1), (48, .getfield 13, 3), (51, .iload_n 1, 1), (52, .iaload, 1), (53, .if_icmp .gt 78, 3), (56, .bipush 60, 2), (58, .iload_n 1, 1), (59, .imul, 1), (60, .iconst 4, 1), (61, .iload_n 3, 1), (62, .imul, 1), (63, .iadd, 1), (64, .istore 5, 2), (66, .aload_n 0, 1), (67, .iload_n 2, 1), (68, .aload_n 0, 1), (69, .getfield 16, 3), (72, .iload 5, 2), (74, .iaload, 1), (75, .aload_n 0, 1), (76, .getfield 16, 3), (79, .iload 5, 2), (81, .iconst 1, 1), (82, .iadd, 1), (83, .iaload, 1), (84, .aload_n 0, 1), (85, .getfield 16, 3), (88, .iload 5, 2), (90, .iconst 2, 1), (91, .iadd, 1), (92, .iaload, 1), (93, .aload_n 0, 1)]
theorem jD131_0 : jm_okD prog_11_method_20_code jC131_0 = true := by decide +kernel
def jC131_1 : List (Nat × Instr × Nat) := [(94, .getfield 16, 3), (97, .iload 5, 2), (99, .iconst 3, 1), (100, .iadd, 1), (101, .iaload, 1), (102, .invokevirtual 140, 3), (105, .ifCond .lt 7, 3), (108, .iconst 1, 1), (109, .goto 4, 3), (112, .iconst 0, 1), (113, .istore 4, 2), (115, .iload_n 3, 1), (116, .iload 4, 2), (118, .ifCond .eq 7, 3), (121, .iconst 1, 1), (122, .goto 4, 3), (125, .iconst 0, 1), (126, .iadd, 1), (127, .istore_n 3, 1), (128, .goto (-91), 3), (131, .iload_n 3, 1), (132, .ireturn, 1)]
theorem jD131_1 : jm_okD prog_11_method_20_code jC131_1 = true := by decide +kernel
def jC131 : List (Nat × Instr × Nat) := jC131_0 ++ (jC131_1)
theorem jD131 : jm_okD prog_11_method_20_code jC131 = true := jm_okD_app jD131_0 (jD131_1)
def jC132 : List (Nat × Instr × Nat) := [(0, .aload_n 0, 1), (1, .iload_n 1, 1), (2, .invokevirtual 144, 3), (5, .ifCond .eq 23, 3), (8, .iload_n 2, 1), (9, .i2l, 1), (10, .lconst 0, 1), (11, .ldc2_w 103, 3), (14, .invokestatic 95, 3), (17, .ifCond .eq 11, 3), (20, .iload_n 2, 1), (21, .iload_n 3, 1), (22, .invokestatic 136, 3), (25, .ifCond .ne 6, 3), (28, .bipush (-2), 2), (30, .ireturn, 1), (31, .aload_n 0, 1), (32, .getfield 25, 3), (35, .iconst 4, 1), (36, .iload_n 1, 1), (37, .imul, 1), (38, .iload_n 2, 1), (39, .iadd, 1), (40, .iaload, 1), (41, .istore 4, 2), (43, .aload_n 0, 1), (44, .getfield 25, 3), (47, .iconst 4, 1), (48, .iload_n 1, 1), (49, .imul, 1), (50, .iload_n 2, 1), (51, .iadd, 1), (52, .iload_n 3, 1), (53, .iastore, 1), (54, .iload 4, 2), (56, .ireturn, 1)]
theorem jD132 : jm_okD prog_11_method_21_code jC132 = true := by decide +kernel
def jC133 : List (Nat × Instr × Nat) := [(0, .iload_n 1, 1), (1, .i2l, 1), (2, .lconst 0, 1), (3, .aload_n 0, 1), (4, .getfield 124, 3), (7, .iconst 1, 1), (8, .isub, 1), (9, .i2l, 1), (10, .invokestatic 95, 3), (13, .ireturn, 1)]
theorem jD133 : jm_okD prog_11_method_16_code jC133 = true := by decide +kernel
def jC134 : List (Nat × Instr × Nat) := [(0, .aload_n 0, 1), (1, .getfield 124, 3), (4, .istore_n 1, 1), (5, .aload_n 0, 1), (6, .iconst 0, 1), (7, .putfield 124, 3), (10, .aload_n 0, 1), (11, .iconst 0, 1), (12, .putfield 147, 3), (15, .iload_n 1, 1), (16, .ireturn, 1)]
theorem jD134 : jm_okD prog_11_method_22_code jC134 = true := by decide +kernel
def jC135 : List (Nat × Instr × Nat) := [(0, .iload_n 1, 1), (1, .iconst 1, 1), (2, .if_icmp .ne 17, 3), (5, .iload_n 2, 1), (6, .i2l, 1), (7, .ldc2_w 150, 3), (10, .ldc2_w 152, 3), (13, .invokestatic 95, 3), (16, .goto 41, 3), (19, .iload_n 1, 1), (20, .i2l, 1), (21, .lconst 0, 1), (22, .ldc2_w 150, 3), (25, .invokestatic 95, 3), (28, .ifCond .eq 28, 3), (31, .iload_n 2, 1), (32, .i2l, 1), (33, .iload_n 1, 1), (34, .iconst 2, 1), (35, .if_icmp .ne 7, 3), (38, .lconst 1, 1), (39, .goto 4, 3), (42, .lconst 0, 1), (43, .ldc2_w 127, 3), (46, .invokestatic 95, 3), (49, .ifCond .eq 7, 3), (52, .iconst 1, 1), (53, .goto 4, 3), (56, .iconst 0, 1), (57, .istore_n 3, 1), (58, .iload_n 3, 1), (59, .ifCond .ne 6, 3), (62, .bipush (-2), 2), (64, .ireturn, 1), (65, .aload_n 0, 1), (66, .getfield 28, 3), (69, .iload_n 1, 1), (70, .iaload, 1), (71, .istore 4, 2), (73, .aload_n 0, 1), (74, .getfield 28, 3), (77, .iload_n 1, 1), (78, .iload_n 2, 1), (79, .iastore, 1), (80, .iload 4, 2), (82, .ireturn, 1)]
theorem jD135 : jm_okD prog_11_method_23_code jC135 = true := by decide +kernel
def jC136 : List (Nat × Instr × Nat) := [(0, .iload_n 1, 1), (1, .invokestatic 154, 3), (4, .ifCond .eq 15, 3), (7, .iload_n 2, 1), (8, .i2l, 1), (9, .lconst 0, 1), (10, .ldc2_w 157, 3), (13, .invokestatic 95, 3), (16, .ifCond .ne 6, 3), (19, .bipush (-2), 2), (21, .ireturn, 1), (22, .aload_n 0, 1), (23, .getfield 34, 3), (26, .iload_n 1, 1), (27, .iaload, 1), (28, .iload_n 1, 1), (29, .ifCond .ne 8, 3), (32, .bipush 60, 2), (34, .goto 5, 3), (37, .bipush 30, 2), (39, .if_icmp .ne 6, 3), (42, .bipush (-4), 2), (44, .ireturn, 1), (45, .aload_n 0, 1), (46, .getfield 31, 3), (49, .bipush 60, 2), (51, .iload_n 1, 1), (52, .imul, 1), (53, .aload_n 0, 1), (54, .getfield 34, 3), (57, .iload_n 1, 1), (58, .iaload, 1), (59, .iadd, 1), (60, .iload_n 2, 1), (61, .iastore, 1), (62, .aload_n 0, 1), (63, .getfield 34, 3), (66, .iload_n 1, 1), (67, .dup2, 1), (68, .iaload, 1), (69, .iconst 1, 1), (70, .iadd, 1), (71, .iastore, 1), (72, .aload_n 0, 1), (73, .getfield 34, 3), (76, .iload_n 1, 1), (77, .iaload, 1), (78, .ireturn, 1)]
theorem jD136 : jm_okD prog_11_method_25_code jC136 = true := by decide +kernel
def jC137 : List (Nat × Instr × Nat) := [(0, .iload_n 0, 1), (1, .i2l, 1), (2, .lconst 0, 1), (3, .ldc2_w 103, 3), (6, .invokestatic 95, 3), (9, .ireturn, 1)]
theorem jD137 : jm_okD prog_11_method_24_code jC137 = true := by decide +kernel
def jC138 : List (Nat × Instr × Nat) := [(0, .iload_n 1, 1), (1, .invokestatic 154, 3), (4, .ifCond .ne 6, 3), (7, .bipush (-2), 2), (9, .ireturn, 1), (10, .aload_n 0, 1), (11, .getfield 34, 3), (14, .iload_n 1, 1), (15, .iaload, 1), (16, .istore_n 2, 1), (17, .aload_n 0, 1), (18, .getfield 34, 3), (21, .iload_n 1, 1), (22, .iconst 0, 1), (23, .iastore, 1), (24, .iload_n 2, 1), (25, .ireturn, 1)]
theorem jD138 : jm_okD prog_11_method_26_code jC138 = true := by decide +kernel
def jC139 : List (Nat × Instr × Nat) := [(0, .iload_n 1, 1), (1, .invokestatic 154, 3), (4, .ifCond .eq 11, 3), (7, .aload_n 0, 1), (8, .iload_n 1, 1), (9, .invokevirtual 201, 3), (12, .goto 5, 3), (15, .bipush (-2), 2), (17, .ireturn, 1)]
theorem jD139 : jm_okD prog_11_method_35_code jC139 = true := by decide +kernel
def jC140 : List (Nat × Instr × Nat) := [(0, .iload_n 1, 1), (1, .ifCond .ne 10, 3), (4, .aload_n 0, 1), (5, .invokevirtual 194, 3), (8, .goto 8, 3), (11, .aload_n 0, 1), (12, .iload_n 1, 1), (13, .invokevirtual 198, 3), (16, .ireturn, 1)]
theorem jD140 : jm_okD prog_11_method_34_code jC140 = true := by decide +kernel
def jC141 : List (Nat × Instr × Nat) := [(0, .aload_n 0, 1), (1, .invokevirtual 184, 3), (4, .aload_n 0, 1), (5, .iconst 0, 1), (6, .putfield 159, 3), (9, .aload_n 0, 1), (10, .getfield 34, 3), (13, .iconst 0, 1), (14, .iaload, 1), (15, .ifCond .le 7, 3), (18, .iconst 1, 1), (19, .goto 4, 3), (22, .iconst 0, 1), (23, .istore_n 1, 1), (24, .iload_n 1, 1), (25, .ifCond .eq 82, 3), (28, .aload_n 0, 1), (29, .invokevirtual 187, 3), (32, .ifCond .ne 12, 3), (35, .aload_n 0, 1), (36, .invokevirtual 184, 3), (39, .aload_n 0, 1), (40, .getfield 159, 3), (43, .ireturn, 1), (44, .aload_n 0, 1), (45, .getfield 159, 3), (48, .aload_n 0, 1), (49, .getfield 34, 3), (52, .iconst 0, 1), (53, .iaload, 1), (54, .if_icmp .ge 7, 3), (57, .iconst 1, 1), (58, .goto 4, 3), (61, .iconst 0, 1), (62, .istore_n 1, 1), (63, .iload_n 1, 1), (64, .ifCond .eq 22, 3), (67, .aload_n 0, 1), (68, .iconst 0, 1), (69, .invokevirtual 162, 3), (72, .bipush 59, 2), (74, .if_icmp .eq 12, 3), (77, .aload_n 0, 1), (78, .invokevirtual 184, 3), (81, .aload_n 0, 1), (82, .getfield 159, 3), (85, .ireturn, 1), (86, .aload_n 0, 1), (87, .dup, 1), (88, .getfield 159, 3), (91, .iload_n 1, 1), (92, .ifCond .eq 7, 3), (95, .iconst 1, 1), (96, .goto 4, 3), (99, .iconst 0, 1), (100, .iadd, 1), (101, .putfield 159, 3), (104, .goto (-80), 3), (107, .iconst (-1), 1), (108, .ireturn, 1)]
theorem jD141 : jm_okD prog_11_method_32_code jC141 = true := by decide +kernel
def jC142 : List (Nat × Instr × Nat) := [(0, .iconst 0, 1), (1, .istore_n 1, 1), (2, .iload_n 1, 1), (3, .sipush 200, 3), (6, .if_icmp .ge 30, 3), (9, .aload_n 0, 1), (10, .getfield 37, 3), (13, .iload_n 1, 1), (14, .iconst 0, 1), (15, .iastore, 1), (16, .aload_n 0, 1), (17, .getfield 40, 3), (20, .iload_n 1, 1), (21, .iconst 0, 1), (22, .iastore, 1), (23, .aload_n 0, 1), (24, .getfield 43, 3), (27, .iload_n 1, 1), (28, .iconst 0, 1), (29, .bastore, 1), (30, .iinc 1 1, 3), (33, .goto (-31), 3), (36, .aload_n 0, 1), (37, .iconst 0, 1), (38, .putfield 169, 3), (41, .aload_n 0, 1), (42, .iconst 0, 1), (43, .putfield 172, 3), (46, .return_, 1)]
theorem jD142 : jm_okD prog_11_method_29_code jC142 = true := by decide +kernel
def jC143_0 : List (Nat × Instr × Nat) := [(0, .aload_n 0, 1), (1, .iconst 0, 1), (2, .invokevirtual 162, 3), (5, .istore_n 1, 1), (6, .iload_n 1, 1), (7, .bipush 104, 2), (9, .if_icmp .eq 23, 3), (12, .iload_n 1, 1), (13, .bipush 115, 2), (15, .if_icmp .eq 17, 3), (18, .iload_n 1, 1), (19, .bipush 108, 2), (21, .if_icmp .eq 11, 3), (24, .iload_n 1, 1), (25, .bipush 111, 2), (27, .if_icmp .eq 5, 3), (30, .iconst 0, 1), (31, .ireturn, 1), (32, .aload_n 0, 1), (33, .dup, 1), (34, .getfield 159, 3), (37, .iconst 1, 1), (38, .iadd, 1), (39, .putfield 159, 3), (42, .iload_n 1, 1), (43, .bipush 115, 2), (45, .if_icmp .ne 28, 3), (48, .aload_n 0, 1), (49, .getfield 169, 3), (52, .sipush 200, 3), (55, .if_icmp .ge 16, 3), (58, .aload_n 0, 1), (59, .getfield 40, 3), (62, .aload_n 0, 1), (63, .getfield 169, 3), (66, .dup2, 1), (67, .iaload, 1), (68, .iconst 1, 1), (69, .iadd, 1), (70, .iastore, 1), (71, .iconst 1, 1), (72, .ireturn, 1), (73, .iload_n 1, 1), (74, .bipush 104, 2), (76, .if_icmp .eq 28, 3), (79, .aload_n 0, 1), (80, .iload_n 1, 1), (81, .bipush 108, 2), (83, .if_icmp .ne 7, 3), (86, .iconst 1, 1), (87, .goto 4, 3), (90, .iconst 0, 1), (91, .putfield 172, 3), (94, .aload_n 0, 1), (95, .aload_n 0, 1), (96, .getfield 169, 3), (99, .invokevirtual 176, 3), (102, .iconst 1, 1), (103, .ireturn, 1), (104, .aload_n 0, 1)]
theorem jD143_0 : jm_okD prog_11_method_31_code jC143_0 = true := by decide +kernel
def jC143_1 : List (Nat × Instr × Nat) := [(105, .iconst 0, 1), (106, .iconst 2, 1), (107, .iconst 0, 1), (108, .bipush 99, 2), (110, .invokevirtual 180, 3), (113, .istore_n 2, 1), (114, .iload_n 2, 1), (115, .ifCond .lt 13, 3), (118, .aload_n 0, 1), (119, .iconst 0, 1), (120, .invokevirtual 162, 3), (123, .bipush 120, 2), (125, .if_icmp .eq 5, 3), (128, .iconst 0, 1), (129, .ireturn, 1), (130, .aload_n 0, 1), (131, .dup, 1), (132, .getfield 159, 3), (135, .iconst 1, 1), (136, .iadd, 1), (137, .putfield 159, 3), (140, .aload_n 0, 1), (141, .iconst 0, 1), (142, .iconst 2, 1), (143, .iconst 1, 1), (144, .bipush 99, 2), (146, .invokevirtual 180, 3), (149, .istore_n 3, 1), (150, .iload_n 3, 1), (151, .ifCond .ge 5, 3), (154, .iconst 0, 1), (155, .ireturn, 1), (156, .aload_n 0, 1), (157, .getfield 169, 3), (160, .istore 4, 2), (162, .iload 4, 2), (164, .aload_n 0, 1), (165, .getfield 169, 3), (168, .iload_n 3, 1), (169, .iadd, 1), (170, .if_icmp .ge 25, 3), (173, .iload 4, 2), (175, .sipush 200, 3), (178, .if_icmp .ge 17, 3), (181, .aload_n 0, 1), (182, .getfield 37, 3), (185, .iload 4, 2), (187, .iload_n 2, 1), (188, .iastore, 1), (189, .iinc 4 1, 3), (192, .goto (-30), 3), (195, .aload_n 0, 1), (196, .dup, 1), (197, .getfield 169, 3), (200, .iload_n 3, 1), (201, .iadd, 1), (202, .putfield 169, 3), (205, .iconst 1, 1), (206, .ireturn, 1)]
theorem jD143_1 : jm_okD prog_11_method_31_code jC143_1 = true := by decide +kernel
def jC143 : List (Nat × Instr × Nat) := jC143_0 ++ (jC143_1)
theorem jD143 : jm_okD prog_11_method_31_code jC143 = true := jm_okD_app jD143_0 (jD143_1)
def jC144 : List (Nat × Instr × Nat) := [(0, .aload_n 0, 1), (1, .getfield 159, 3), (4, .aload_n 0, 1), (5, .getfield 34, 3), (8, .iload_n 1, 1), (9, .iaload, 1), (10, .if_icmp .ge 20, 3), (13, .aload_n 0, 1), (14, .getfield 31, 3), (17, .bipush 60, 2), (19, .iload_n 1, 1), (20, .imul, 1), (21, .aload_n 0, 1), (22, .getfield 159, 3), (25, .iadd, 1), (26, .iaload, 1), (27, .goto 4, 3), (30, .iconst (-1), 1), (31, .ireturn, 1)]
theorem jD144 : jm_okD prog_11_method_27_code jC144 = true := by decide +kernel
def jC145 : List (Nat × Instr × Nat) := [(0, .iload_n 1, 1), (1, .istore_n 2, 1), (2, .iload_n 2, 1), (3, .sipush 200, 3), (6, .if_icmp .ge 19, 3), (9, .aload_n 0, 1), (10, .getfield 43, 3), (13, .iload_n 2, 1), (14, .aload_n 0, 1), (15, .getfield 172, 3), (18, .bastore, 1), (19, .iinc 2 1, 3), (22, .goto (-20), 3), (25, .return_, 1)]
theorem jD145 : jm_okD prog_11_method_30_code jC145 = true := by decide +kernel
def jC146 : List (Nat × Instr × Nat) := [(0, .aload_n 0, 1), (1, .getfield 159, 3), (4, .istore 5, 2), (6, .iconst 0, 1), (7, .istore 6, 2), (9, .aload_n 0, 1), (10, .getfield 159, 3), (13, .iload 5, 2), (15, .iload_n 2, 1), (16, .iadd, 1), (17, .if_icmp .ge 50, 3), (20, .aload_n 0, 1), (21, .iload_n 1, 1), (22, .invokevirtual 162, 3), (25, .i2l, 1), (26, .ldc2_w 165, 3), (29, .ldc2_w 167, 3), (32, .invokestatic 95, 3), (35, .ifCond .eq 32, 3), (38, .bipush 10, 2), (40, .iload 6, 2), (42, .imul, 1), (43, .aload_n 0, 1), (44, .iload_n 1, 1), (45, .invokevirtual 162, 3), (48, .iadd, 1), (49, .bipush 48, 2), (51, .isub, 1), (52, .istore 6, 2), (54, .aload_n 0, 1), (55, .dup, 1), (56, .getfield 159, 3), (59, .iconst 1, 1), (60, .iadd, 1), (61, .putfield 159, 3), (64, .goto (-55), 3), (67, .aload_n 0, 1), (68, .getfield 159, 3), (71, .iload 5, 2), (73, .if_icmp .le 20, 3), (76, .iload 6, 2), (78, .i2l, 1), (79, .iload_n 3, 1), (80, .i2l, 1), (81, .iload 4, 2), (83, .i2l, 1), (84, .invokestatic 95, 3), (87, .ifCond .eq 6, 3), (90, .iload 6, 2), (92, .ireturn, 1), (93, .aload_n 0, 1), (94, .iload 5, 2), (96, .putfield 159, 3), (99, .iconst (-1), 1), (100, .ireturn, 1)]
theorem jD146 : jm_okD prog_11_method_28_code jC146 = true := by decide +kernel
def jC147_0 : List (Nat × Instr × Nat) := [(0, .aload_n 0, 1), (1, .iconst 0, 1), (2, .putfield 159, 3), (5, .aload_n 0, 1), (6, .iconst 0, 1), (7, .putfield 191, 3), (10, .aload_n 0, 1), (11, .getfield 34, 3), (14, .iload_n 1, 1), (15, .iaload, 1), (16, .ifCond .le 7, 3), (19, .iconst 1, 1), (20, .goto 4, 3), (23, .iconst 0, 1), (24, .istore_n 2, 1), (25, .iload_n 2, 1), (26, .ifCond .eq 172, 3), (29, .aload_n 0, 1), (30, .iload_n 1, 1), (31, .invokevirtual 162, 3), (34, .istore_n 3, 1), (35, .iload_n 3, 1), (36, .bipush 103, 2), (38, .if_icmp .eq 20, 3), (41, .iload_n 3, 1), (42, .bipush 110, 2), (44, .if_icmp .eq 14, 3), (47, .iload_n 3, 1), (48, .bipush 116, 2), (50, .if_icmp .eq 8, 3), (53, .aload_n 0, 1), (54, .getfield 159, 3), (57, .ireturn, 1), (58, .aload_n 0, 1), (59, .dup, 1), (60, .getfield 159, 3), (63, .iconst 1, 1), (64, .iadd, 1), (65, .putfield 159, 3), (68, .iload_n 3, 1), (69, .bipush 116, 2), (71, .if_icmp .ne 16, 3), (74, .aload_n 0, 1), (75, .iload_n 1, 1), (76, .iconst 3, 1), (77, .iconst 1, 1), (78, .sipush 200, 3), (81, .invokevirtual 180, 3), (84, .goto 12, 3), (87, .aload_n 0, 1), (88, .iload_n 1, 1), (89, .iconst 2, 1), (90, .iconst 1, 1), (91, .bipush 99, 2), (93, .invokevirtual 180, 3), (96, .istore 4, 2), (98, .iload 4, 2), (100, .ifCond .ge 8, 3), (103, .aload_n 0, 1), (104, .getfield 159, 3)]
theorem jD147_0 : jm_okD prog_11_method_33_code jC147_0 = true := by decide +kernel
def jC147_1 : List (Nat × Instr × Nat) := [(107, .ireturn, 1), (108, .aload_n 0, 1), (109, .getfield 47, 3), (112, .aload_n 0, 1), (113, .getfield 191, 3), (116, .iload_n 3, 1), (117, .iastore, 1), (118, .aload_n 0, 1), (119, .getfield 50, 3), (122, .aload_n 0, 1), (123, .getfield 191, 3), (126, .iload 4, 2), (128, .iastore, 1), (129, .aload_n 0, 1), (130, .dup, 1), (131, .getfield 191, 3), (134, .iconst 1, 1), (135, .iadd, 1), (136, .putfield 191, 3), (139, .aload_n 0, 1), (140, .getfield 159, 3), (143, .aload_n 0, 1), (144, .getfield 34, 3), (147, .iload_n 1, 1), (148, .iaload, 1), (149, .if_icmp .ge 7, 3), (152, .iconst 1, 1), (153, .goto 4, 3), (156, .iconst 0, 1), (157, .istore_n 2, 1), (158, .iload_n 2, 1), (159, .ifCond .eq 18, 3), (162, .aload_n 0, 1), (163, .iload_n 1, 1), (164, .invokevirtual 162, 3), (167, .bipush 124, 2), (169, .if_icmp .eq 8, 3), (172, .aload_n 0, 1), (173, .getfield 159, 3), (176, .ireturn, 1), (177, .aload_n 0, 1), (178, .dup, 1), (179, .getfield 159, 3), (182, .iload_n 2, 1), (183, .ifCond .eq 7, 3), (186, .iconst 1, 1), (187, .goto 4, 3), (190, .iconst 0, 1), (191, .iadd, 1), (192, .putfield 159, 3), (195, .goto (-170), 3), (198, .iconst (-1), 1), (199, .ireturn, 1)]
theorem jD147_1 : jm_okD prog_11_method_33_code jC147_1 = true := by decide +kernel
def jC147 : List (Nat × Instr × Nat) := jC147_0 ++ (jC147_1)
theorem jD147 : jm_okD prog_11_method_33_code jC147 = true := jm_okD_app jD147_0 (jD147_1)
def jC148 : List (Nat × Instr × Nat) := [(0, .iload_n 1, 1), (1, .i2l, 1), (2, .lconst 0, 1), (3, .ldc2_w 204, 3), (6, .invokestatic 95, 3), (9, .ifCond .eq 15, 3), (12, .iload_n 2, 1), (13, .i2l, 1), (14, .lconst 0, 1), (15, .ldc2_w 109, 3), (18, .invokestatic 95, 3), (21, .ifCond .ne 6, 3), (24, .bipush (-2), 2), (26, .ireturn, 1), (27, .aload_n 0, 1), (28, .invokevirtual 194, 3), (31, .pop, 1), (32, .iload_n 2, 1), (33, .ifCond .ne 12, 3), (36, .aload_n 0, 1), (37, .getfield 37, 3), (40, .iload_n 1, 1), (41, .iaload, 1), (42, .goto 31, 3), (45, .iload_n 2, 1), (46, .iconst 1, 1), (47, .if_icmp .ne 12, 3), (50, .aload_n 0, 1), (51, .getfield 40, 3), (54, .iload_n 1, 1), (55, .iaload, 1), (56, .goto 17, 3), (59, .aload_n 0, 1), (60, .getfield 43, 3), (63, .iload_n 1, 1), (64, .baload, 1), (65, .ifCond .eq 7, 3), (68, .iconst 1, 1), (69, .goto 4, 3), (72, .iconst 0, 1), (73, .ireturn, 1)]
theorem jD148 : jm_okD prog_11_method_36_code jC148 = true := by decide +kernel
def jC149 : List (Nat × Instr × Nat) := [(0, .aload_n 0, 1), (1, .iload_n 1, 1), (2, .invokevirtual 144, 3), (5, .ifCond .eq 27, 3), (8, .iload_n 2, 1), (9, .i2l, 1), (10, .lconst 0, 1), (11, .ldc2_w 246, 3), (14, .invokestatic 95, 3), (17, .ifCond .eq 15, 3), (20, .iload_n 3, 1), (21, .i2l, 1), (22, .lconst 0, 1), (23, .ldc2_w 150, 3), (26, .invokestatic 95, 3), (29, .ifCond .ne 6, 3), (32, .bipush (-2), 2), (34, .ireturn, 1), (35, .aload_n 0, 1), (36, .invokevirtual 248, 3), (39, .aload_n 0, 1), (40, .iload_n 2, 1), (41, .invokevirtual 251, 3), (44, .aload_n 0, 1), (45, .iload_n 1, 1), (46, .iload_n 3, 1), (47, .invokevirtual 254, 3), (50, .ireturn, 1)]
theorem jD149 : jm_okD prog_11_method_50_code jC149 = true := by decide +kernel
def jC150 : List (Nat × Instr × Nat) := [(0, .aload_n 0, 1), (1, .aload_n 0, 1), (2, .getfield 28, 3), (5, .iconst 0, 1), (6, .iaload, 1), (7, .putfield 206, 3), (10, .aload_n 0, 1), (11, .aload_n 0, 1), (12, .getfield 28, 3), (15, .iconst 1, 1), (16, .iaload, 1), (17, .putfield 209, 3), (20, .aload_n 0, 1), (21, .iconst (-1), 1), (22, .putfield 212, 3), (25, .aload_n 0, 1), (26, .iconst (-1), 1), (27, .putfield 215, 3), (30, .aload_n 0, 1), (31, .iconst 1, 1), (32, .aload_n 0, 1), (33, .getfield 124, 3), (36, .ishl, 1), (37, .iconst 1, 1), (38, .isub, 1), (39, .putfield 218, 3), (42, .aload_n 0, 1), (43, .invokevirtual 194, 3), (46, .pop, 1), (47, .return_, 1)]
theorem jD150 : jm_okD prog_11_method_37_code jC150 = true := by decide +kernel
def jC151 : List (Nat × Instr × Nat) := [(0, .aload_n 0, 1), (1, .invokevirtual 240, 3), (4, .iconst 0, 1), (5, .istore_n 2, 1), (6, .iload_n 2, 1), (7, .iload_n 1, 1), (8, .if_icmp .ge 14, 3), (11, .aload_n 0, 1), (12, .iload_n 2, 1), (13, .invokevirtual 243, 3), (16, .iinc 2 1, 3), (19, .goto (-13), 3), (22, .return_, 1)]
theorem jD151 : jm_okD prog_11_method_46_code jC151 = true := by decide +kernel
def jC152_0 : List (Nat × Instr × Nat) := [(0, .iconst 0, 1), (1, .istore_n 1, 1), (2, .iload_n 1, 1), (3, .iconst 4, 1), (4, .if_icmp .ge 16, 3), (7, .aload_n 0, 1), (8, .getfield 74, 3), (11, .iload_n 1, 1), (12, .iconst 0, 1), (13, .iastore, 1), (14, .iinc 1 1, 3), (17, .goto (-15), 3), (20, .iconst 0, 1), (21, .istore_n 1, 1), (22, .iload_n 1, 1), (23, .aload_n 0, 1), (24, .getfield 124, 3), (27, .if_icmp .ge 100, 3), (30, .aload_n 0, 1), (31, .getfield 53, 3), (34, .iload_n 1, 1), (35, .iconst 0, 1), (36, .iastore, 1), (37, .aload_n 0, 1), (38, .getfield 56, 3), (41, .iload_n 1, 1), (42, .aload_n 0, 1), (43, .getfield 25, 3), (46, .iconst 4, 1), (47, .iload_n 1, 1), (48, .imul, 1), (49, .iaload, 1), (50, .iastore, 1), (51, .aload_n 0, 1), (52, .getfield 59, 3), (55, .iload_n 1, 1), (56, .iconst 0, 1), (57, .iastore, 1), (58, .aload_n 0, 1), (59, .getfield 62, 3), (62, .iload_n 1, 1), (63, .iconst 0, 1), (64, .iastore, 1), (65, .aload_n 0, 1), (66, .getfield 65, 3), (69, .iload_n 1, 1), (70, .iconst (-1), 1), (71, .iastore, 1), (72, .aload_n 0, 1), (73, .getfield 68, 3), (76, .iload_n 1, 1), (77, .iconst 0, 1), (78, .iastore, 1), (79, .aload_n 0, 1), (80, .iload_n 1, 1), (81, .invokevirtual 221, 3), (84, .ifCond .eq 37, 3), (87, .aload_n 0, 1), (88, .getfield 22, 3), (91, .iload_n 1, 1)]
theorem jD152_0 : jm_okD prog_11_method_39_code jC152_0 = true := by decide +kernel
def jC152_1 : List (Nat × Instr × Nat) := [(92, .iaload, 1), (93, .istore_n 2, 1), (94, .aload_n 0, 1), (95, .getfield 71, 3), (98, .bipush 12, 2), (100, .iload_n 2, 1), (101, .imul, 1), (102, .aload_n 0, 1), (103, .getfield 74, 3), (106, .iload_n 2, 1), (107, .iaload, 1), (108, .iadd, 1), (109, .iload_n 1, 1), (110, .iastore, 1), (111, .aload_n 0, 1), (112, .getfield 74, 3), (115, .iload_n 2, 1), (116, .dup2, 1), (117, .iaload, 1), (118, .iconst 1, 1), (119, .iadd, 1), (120, .iastore, 1), (121, .iinc 1 1, 3), (124, .goto (-102), 3), (127, .return_, 1)]
theorem jD152_1 : jm_okD prog_11_method_39_code jC152_1 = true := by decide +kernel
def jC152 : List (Nat × Instr × Nat) := jC152_0 ++ (jC152_1)
theorem jD152 : jm_okD prog_11_method_39_code jC152 = true := jm_okD_app jD152_0 (jD152_1)
def jC153 : List (Nat × Instr × Nat) := [(0, .aload_n 0, 1), (1, .getfield 218, 3), (4, .iload_n 1, 1), (5, .ishr, 1), (6, .iconst 1, 1), (7, .iand, 1), (8, .iconst 1, 1), (9, .if_icmp .ne 7, 3), (12, .iconst 1, 1), (13, .goto 4, 3), (16, .iconst 0, 1), (17, .ireturn, 1)]
theorem jD153 : jm_okD prog_11_method_38_code jC153 = true := by decide +kernel
def jC154_0 : List (Nat × Instr × Nat) := [(0, .aload_n 0, 1), (1, .getfield 212, 3), (4, .iconst (-1), 1), (5, .if_icmp .ne 12, 3), (8, .aload_n 0, 1), (9, .getfield 40, 3), (12, .iload_n 1, 1), (13, .iaload, 1), (14, .goto 4, 3), (17, .iconst 0, 1), (18, .aload_n 0, 1), (19, .getfield 215, 3), (22, .iload_n 1, 1), (23, .if_icmp .ne 7, 3), (26, .iconst 1, 1), (27, .goto 4, 3), (30, .iconst 0, 1), (31, .iadd, 1), (32, .istore_n 2, 1), (33, .iconst 0, 1), (34, .istore_n 3, 1), (35, .iload_n 3, 1), (36, .iload_n 2, 1), (37, .if_icmp .ge 13, 3), (40, .aload_n 0, 1), (41, .invokevirtual 227, 3), (44, .iinc 3 1, 3), (47, .goto (-12), 3), (50, .aload_n 0, 1), (51, .aload_n 0, 1), (52, .getfield 212, 3), (55, .iconst (-1), 1), (56, .if_icmp .ne 12, 3), (59, .aload_n 0, 1), (60, .getfield 37, 3), (63, .iload_n 1, 1), (64, .iaload, 1), (65, .goto 7, 3), (68, .aload_n 0, 1), (69, .getfield 212, 3), (72, .aload_n 0, 1), (73, .getfield 212, 3), (76, .iconst (-1), 1), (77, .if_icmp .ne 16, 3), (80, .aload_n 0, 1), (81, .getfield 43, 3), (84, .iload_n 1, 1), (85, .baload, 1), (86, .ifCond .eq 7, 3), (89, .iconst 1, 1), (90, .goto 4, 3), (93, .iconst 0, 1), (94, .invokevirtual 230, 3), (97, .iconst 0, 1), (98, .istore_n 3, 1), (99, .iconst 0, 1), (100, .istore 4, 2), (102, .iload 4, 2), (104, .aload_n 0, 1), (105, .getfield 124, 3)]
theorem jD154_0 : jm_okD prog_11_method_45_code jC154_0 = true := by decide +kernel
def jC154_1 : List (Nat × Instr × Nat) := [(108, .if_icmp .ge 41, 3), (111, .aload_n 0, 1), (112, .iload 4, 2), (114, .invokevirtual 221, 3), (117, .ifCond .eq 26, 3), (120, .aload_n 0, 1), (121, .getfield 62, 3), (124, .iload 4, 2), (126, .iaload, 1), (127, .ifCond .ne 16, 3), (130, .aload_n 0, 1), (131, .iload 4, 2), (133, .iload_n 1, 1), (134, .invokevirtual 234, 3), (137, .ifCond .eq 6, 3), (140, .iinc 3 1, 3), (143, .iinc 4 1, 3), (146, .goto (-44), 3), (149, .aload_n 0, 1), (150, .getfield 77, 3), (153, .iload_n 1, 1), (154, .iload_n 3, 1), (155, .iastore, 1), (156, .aload_n 0, 1), (157, .invokevirtual 237, 3), (160, .return_, 1)]
theorem jD154_1 : jm_okD prog_11_method_45_code jC154_1 = true := by decide +kernel
def jC154 : List (Nat × Instr × Nat) := jC154_0 ++ (jC154_1)
theorem jD154 : jm_okD prog_11_method_45_code jC154 = true := jm_okD_app jD154_0 (jD154_1)
def jC155_0 : List (Nat × Instr × Nat) := [(0, .iconst 0, 1), (1, .istore_n 1, 1), (2, .iload_n 1, 1), (3, .iconst 4, 1), (4, .if_icmp .ge 89, 3), (7, .aload_n 0, 1), (8, .getfield 74, 3), (11, .iload_n 1, 1), (12, .iaload, 1), (13, .ifCond .le 74, 3), (16, .aload_n 0, 1), (17, .getfield 71, 3), (20, .bipush 12, 2), (22, .iload_n 1, 1), (23, .imul, 1), (24, .iaload, 1), (25, .istore_n 2, 1), (26, .iconst 1, 1), (27, .istore_n 3, 1), (28, .iload_n 3, 1), (29, .aload_n 0, 1), (30, .getfield 74, 3), (33, .iload_n 1, 1), (34, .iaload, 1), (35, .if_icmp .ge 33, 3), (38, .aload_n 0, 1), (39, .getfield 71, 3), (42, .bipush 12, 2), (44, .iload_n 1, 1), (45, .imul, 1), (46, .iload_n 3, 1), (47, .iadd, 1), (48, .iconst 1, 1), (49, .isub, 1), (50, .aload_n 0, 1), (51, .getfield 71, 3), (54, .bipush 12, 2), (56, .iload_n 1, 1), (57, .imul, 1), (58, .iload_n 3, 1), (59, .iadd, 1), (60, .iaload, 1), (61, .iastore, 1), (62, .iinc 3 1, 3), (65, .goto (-37), 3), (68, .aload_n 0, 1), (69, .getfield 71, 3), (72, .bipush 12, 2), (74, .iload_n 1, 1), (75, .imul, 1), (76, .aload_n 0, 1), (77, .getfield 74, 3), (80, .iload_n 1, 1), (81, .iaload, 1), (82, .iadd, 1), (83, .iconst 1, 1), (84, .isub, 1), (85, .iload_n 2, 1), (86, .iastore, 1), (87, .iinc 1 1, 3)]
theorem jD155_0 : jm_okD prog_11_method_40_code jC155_0 = true := by decide +kernel
def jC155_1 : List (Nat × Instr × Nat) := [(90, .goto (-88), 3), (93, .return_, 1)]
theorem jD155_1 : jm_okD prog_11_method_40_code jC155_1 = true := by decide +kernel
def jC155 : List (Nat × Instr × Nat) := jC155_0 ++ (jC155_1)
theorem jD155 : jm_okD prog_11_method_40_code jC155 = true := jm_okD_app jD155_0 (jD155_1)
def jC156 : List (Nat × Instr × Nat) := [(0, .iconst 0, 1), (1, .istore_n 3, 1), (2, .iload_n 3, 1), (3, .iconst 4, 1), (4, .if_icmp .ge 93, 3), (7, .iload_n 1, 1), (8, .istore 4, 2), (10, .iconst 0, 1), (11, .istore 5, 2), (13, .iload 5, 2), (15, .aload_n 0, 1), (16, .getfield 74, 3), (19, .iload_n 3, 1), (20, .iaload, 1), (21, .if_icmp .ge 70, 3), (24, .aload_n 0, 1), (25, .getfield 71, 3), (28, .bipush 12, 2), (30, .iload_n 3, 1), (31, .imul, 1), (32, .iload 5, 2), (34, .iadd, 1), (35, .iaload, 1), (36, .istore 6, 2), (38, .aload_n 0, 1), (39, .getfield 53, 3), (42, .iload 6, 2), (44, .dup2, 1), (45, .iaload, 1), (46, .iload 4, 2), (48, .iadd, 1), (49, .iastore, 1), (50, .aload_n 0, 1), (51, .getfield 53, 3), (54, .iload 6, 2), (56, .dup2, 1), (57, .iaload, 1), (58, .aload_n 0, 1), (59, .getfield 53, 3), (62, .iload 6, 2), (64, .iaload, 1), (65, .iload_n 2, 1), (66, .ifCond .eq 8, 3), (69, .bipush 64, 2), (71, .goto 5, 3), (74, .bipush 32, 2), (76, .idiv, 1), (77, .isub, 1), (78, .iastore, 1), (79, .iload 4, 2), (81, .iconst 2, 1), (82, .idiv, 1), (83, .istore 4, 2), (85, .iinc 5 1, 3), (88, .goto (-75), 3), (91, .iinc 3 1, 3), (94, .goto (-92), 3), (97, .return_, 1)]
theorem jD156 : jm_okD prog_11_method_41_code jC156 = true := by decide +kernel
def jC157_0 : List (Nat × Instr × Nat) := [(0, .aload_n 0, 1), (1, .getfield 59, 3), (4, .iload_n 1, 1), (5, .aload_n 0, 1), (6, .getfield 53, 3), (9, .iload_n 1, 1), (10, .iaload, 1), (11, .bipush 100, 2), (13, .if_icmp .gt 7, 3), (16, .iconst 0, 1), (17, .goto 22, 3), (20, .aload_n 0, 1), (21, .getfield 53, 3), (24, .iload_n 1, 1), (25, .iaload, 1), (26, .bipush 100, 2), (28, .isub, 1), (29, .aload_n 0, 1), (30, .getfield 56, 3), (33, .iload_n 1, 1), (34, .iaload, 1), (35, .imul, 1), (36, .bipush 40, 2), (38, .idiv, 1), (39, .iastore, 1), (40, .aload_n 0, 1), (41, .getfield 59, 3), (44, .iload_n 1, 1), (45, .iaload, 1), (46, .aload_n 0, 1), (47, .getfield 206, 3), (50, .isub, 1), (51, .istore_n 3, 1), (52, .iload_n 3, 1), (53, .aload_n 0, 1), (54, .getfield 209, 3), (57, .aload_n 0, 1), (58, .iload_n 1, 1), (59, .invokevirtual 224, 3), (62, .imul, 1), (63, .if_icmp .lt 40, 3), (66, .aload_n 0, 1), (67, .getfield 62, 3), (70, .iload_n 1, 1), (71, .iconst 1, 1), (72, .iastore, 1), (73, .aload_n 0, 1), (74, .getfield 65, 3), (77, .iload_n 1, 1), (78, .iload_n 2, 1), (79, .iastore, 1), (80, .aload_n 0, 1), (81, .getfield 68, 3), (84, .iload_n 1, 1), (85, .aload_n 0, 1), (86, .getfield 25, 3), (89, .iconst 4, 1), (90, .iload_n 1, 1), (91, .imul, 1), (92, .iconst 2, 1)]
theorem jD157_0 : jm_okD prog_11_method_43_code jC157_0 = true := by decide +kernel
def jC157_1 : List (Nat × Instr × Nat) := [(93, .iadd, 1), (94, .iaload, 1), (95, .iload_n 3, 1), (96, .imul, 1), (97, .bipush 10, 2), (99, .idiv, 1), (100, .iastore, 1), (101, .iconst 1, 1), (102, .ireturn, 1), (103, .aload_n 0, 1), (104, .getfield 53, 3), (107, .iload_n 1, 1), (108, .iaload, 1), (109, .sipush 250, 3), (112, .if_icmp .le 13, 3), (115, .aload_n 0, 1), (116, .getfield 62, 3), (119, .iload_n 1, 1), (120, .iconst 2, 1), (121, .iastore, 1), (122, .goto 49, 3), (125, .aload_n 0, 1), (126, .getfield 56, 3), (129, .iload_n 1, 1), (130, .iaload, 1), (131, .aload_n 0, 1), (132, .getfield 59, 3), (135, .iload_n 1, 1), (136, .iaload, 1), (137, .aload_n 0, 1), (138, .getfield 25, 3), (141, .iconst 4, 1), (142, .iload_n 1, 1), (143, .imul, 1), (144, .iconst 3, 1), (145, .iadd, 1), (146, .iaload, 1), (147, .imul, 1), (148, .bipush 100, 2), (150, .idiv, 1), (151, .isub, 1), (152, .istore 4, 2), (154, .aload_n 0, 1), (155, .getfield 56, 3), (158, .iload_n 1, 1), (159, .iload 4, 2), (161, .ifCond .ge 7, 3), (164, .iconst 0, 1), (165, .goto 5, 3), (168, .iload 4, 2), (170, .iastore, 1), (171, .iconst 0, 1), (172, .ireturn, 1)]
theorem jD157_1 : jm_okD prog_11_method_43_code jC157_1 = true := by decide +kernel
def jC157 : List (Nat × Instr × Nat) := jC157_0 ++ (jC157_1)
theorem jD157 : jm_okD prog_11_method_43_code jC157 = true := jm_okD_app jD157_0 (jD157_1)
def jC158 : List (Nat × Instr × Nat) := [(0, .aload_n 0, 1), (1, .getfield 25, 3), (4, .iconst 4, 1), (5, .iload_n 1, 1), (6, .imul, 1), (7, .iconst 1, 1), (8, .iadd, 1), (9, .iaload, 1), (10, .aload_n 0, 1), (11, .getfield 56, 3), (14, .iload_n 1, 1), (15, .iaload, 1), (16, .bipush 20, 2), (18, .idiv, 1), (19, .isub, 1), (20, .istore_n 2, 1), (21, .iload_n 2, 1), (22, .iconst 1, 1), (23, .if_icmp .ge 7, 3), (26, .iconst 1, 1), (27, .goto 4, 3), (30, .iload_n 2, 1), (31, .ireturn, 1)]
theorem jD158 : jm_okD prog_11_method_42_code jC158 = true := by decide +kernel
def jC159 : List (Nat × Instr × Nat) := [(0, .iconst 0, 1), (1, .istore_n 1, 1), (2, .iload_n 1, 1), (3, .iconst 4, 1), (4, .if_icmp .ge 76, 3), (7, .iconst 0, 1), (8, .istore_n 2, 1), (9, .iconst 0, 1), (10, .istore_n 3, 1), (11, .iload_n 3, 1), (12, .aload_n 0, 1), (13, .getfield 74, 3), (16, .iload_n 1, 1), (17, .iaload, 1), (18, .if_icmp .ge 49, 3), (21, .aload_n 0, 1), (22, .getfield 71, 3), (25, .bipush 12, 2), (27, .iload_n 1, 1), (28, .imul, 1), (29, .iload_n 3, 1), (30, .iadd, 1), (31, .iaload, 1), (32, .istore 4, 2), (34, .aload_n 0, 1), (35, .getfield 62, 3), (38, .iload 4, 2), (40, .iaload, 1), (41, .iconst 1, 1), (42, .if_icmp .eq 19, 3), (45, .aload_n 0, 1), (46, .getfield 71, 3), (49, .bipush 12, 2), (51, .iload_n 1, 1), (52, .imul, 1), (53, .iload_n 2, 1), (54, .iadd, 1), (55, .iload 4, 2), (57, .iastore, 1), (58, .iinc 2 1, 3), (61, .iinc 3 1, 3), (64, .goto (-53), 3), (67, .aload_n 0, 1), (68, .getfield 74, 3), (71, .iload_n 1, 1), (72, .iload_n 2, 1), (73, .iastore, 1), (74, .iinc 1 1, 3), (77, .goto (-75), 3), (80, .return_, 1)]
theorem jD159 : jm_okD prog_11_method_44_code jC159 = true := by decide +kernel
def jC160 : List (Nat × Instr × Nat) := [(0, .iload_n 2, 1), (1, .tableswitch 70 0 4 #[35, 42, 49, 56, 63], 35), (36, .aload_n 0, 1), (37, .getfield 53, 3), (40, .iload_n 1, 1), (41, .iaload, 1), (42, .ireturn, 1), (43, .aload_n 0, 1), (44, .getfield 56, 3), (47, .iload_n 1, 1), (48, .iaload, 1), (49, .ireturn, 1), (50, .aload_n 0, 1), (51, .getfield 59, 3), (54, .iload_n 1, 1), (55, .iaload, 1), (56, .ireturn, 1), (57, .aload_n 0, 1), (58, .getfield 62, 3), (61, .iload_n 1, 1), (62, .iaload, 1), (63, .ireturn, 1), (64, .aload_n 0, 1), (65, .getfield 65, 3), (68, .iload_n 1, 1), (69, .iaload, 1), (70, .ireturn, 1), (71, .aload_n 0, 1), (72, .getfield 68, 3), (75, .iload_n 1, 1), (76, .iaload, 1), (77, .ireturn, 1)]
theorem jD160 : jm_okD prog_11_method_49_code jC160 = true := by decide +kernel
def jC161 : List (Nat × Instr × Nat) := [(0, .iload_n 1, 1), (1, .i2l, 1), (2, .lconst 0, 1), (3, .ldc2_w 204, 3), (6, .invokestatic 95, 3), (9, .ifCond .ne 6, 3), (12, .bipush (-2), 2), (14, .ireturn, 1), (15, .aload_n 0, 1), (16, .invokevirtual 248, 3), (19, .aload_n 0, 1), (20, .iload_n 1, 1), (21, .iconst 1, 1), (22, .iadd, 1), (23, .invokevirtual 251, 3), (26, .iconst 0, 1), (27, .istore_n 3, 1), (28, .iconst 0, 1), (29, .istore 4, 2), (31, .iload 4, 2), (33, .iload_n 1, 1), (34, .if_icmp .gt 19, 3), (37, .iload_n 3, 1), (38, .aload_n 0, 1), (39, .getfield 77, 3), (42, .iload 4, 2), (44, .iaload, 1), (45, .iadd, 1), (46, .istore_n 3, 1), (47, .iinc 4 1, 3), (50, .goto (-19), 3), (53, .iload_n 2, 1), (54, .ifCond .eq 7, 3), (57, .iload_n 3, 1), (58, .goto 9, 3), (61, .aload_n 0, 1), (62, .getfield 77, 3), (65, .iload_n 1, 1), (66, .iaload, 1), (67, .ireturn, 1)]
theorem jD161 : jm_okD prog_11_method_51_code jC161 = true := by decide +kernel
def jC162 : List (Nat × Instr × Nat) := [(0, .iload_n 1, 1), (1, .invokestatic 279, 3), (4, .ifCond .eq 24, 3), (7, .iload_n 2, 1), (8, .i2l, 1), (9, .lconst 0, 1), (10, .ldc2_w 150, 3), (13, .invokestatic 95, 3), (16, .ifCond .eq 12, 3), (19, .aload_n 0, 1), (20, .iload_n 1, 1), (21, .iload_n 2, 1), (22, .invokevirtual 282, 3), (25, .goto 8, 3), (28, .bipush (-2), 2), (30, .invokestatic 270, 3), (33, .ireturn, 1)]
theorem jD162 : jm_okD prog_11_method_58_code jC162 = true := by decide +kernel
def jC163 : List (Nat × Instr × Nat) := [(0, .iload_n 0, 1), (1, .i2l, 1), (2, .lconst 0, 1), (3, .ldc2_w 109, 3), (6, .invokestatic 95, 3), (9, .ireturn, 1)]
theorem jD163 : jm_okD prog_11_method_57_code jC163 = true := by decide +kernel
def jC164 : List (Nat × Instr × Nat) := [(0, .aload_n 0, 1), (1, .iload_n 1, 1), (2, .iconst 1, 1), (3, .iadd, 1), (4, .invokevirtual 198, 3), (7, .iconst (-1), 1), (8, .if_icmp .eq 9, 3), (11, .bipush (-3), 2), (13, .invokestatic 270, 3), (16, .ireturn, 1), (17, .aload_n 0, 1), (18, .invokevirtual 273, 3), (21, .istore_n 3, 1), (22, .iload_n 2, 1), (23, .tableswitch 58 0 4 #[33, 35, 41, 46, 52], 33), (56, .iload_n 3, 1), (57, .ireturn, 1), (58, .aload_n 0, 1), (59, .iconst 0, 1), (60, .invokevirtual 264, 3), (63, .ireturn, 1), (64, .aload_n 0, 1), (65, .invokevirtual 261, 3), (68, .ireturn, 1), (69, .aload_n 0, 1), (70, .iconst 2, 1), (71, .invokevirtual 264, 3), (74, .ireturn, 1), (75, .aload_n 0, 1), (76, .iload_n 3, 1), (77, .invokevirtual 267, 3), (80, .ireturn, 1), (81, .aload_n 0, 1), (82, .iload_n 3, 1), (83, .invokevirtual 276, 3), (86, .ireturn, 1)]
theorem jD164 : jm_okD prog_11_method_56_code jC164 = true := by decide +kernel
def jC165 : List (Nat × Instr × Nat) := [(0, .ldc 94, 2), (2, .iload_n 0, 1), (3, .iadd, 1), (4, .ireturn, 1)]
theorem jD165 : jm_okD prog_11_method_5_code jC165 = true := by decide +kernel
def jC166 : List (Nat × Instr × Nat) := [(0, .aload_n 0, 1), (1, .invokevirtual 248, 3), (4, .aload_n 0, 1), (5, .invokevirtual 240, 3), (8, .iconst 0, 1), (9, .istore_n 1, 1), (10, .iconst 0, 1), (11, .istore_n 2, 1), (12, .iconst 0, 1), (13, .istore_n 3, 1), (14, .iconst 1, 1), (15, .istore 4, 2), (17, .iload 4, 2), (19, .ifCond .eq 64, 3), (22, .aload_n 0, 1), (23, .iload_n 1, 1), (24, .invokevirtual 243, 3), (27, .iload_n 2, 1), (28, .aload_n 0, 1), (29, .getfield 77, 3), (32, .iload_n 1, 1), (33, .iaload, 1), (34, .iadd, 1), (35, .istore_n 2, 1), (36, .aload_n 0, 1), (37, .getfield 77, 3), (40, .iload_n 1, 1), (41, .iaload, 1), (42, .ifCond .le 7, 3), (45, .iconst 0, 1), (46, .goto 6, 3), (49, .iload_n 3, 1), (50, .iconst 1, 1), (51, .iadd, 1), (52, .istore_n 3, 1), (53, .iinc 1 1, 3), (56, .iload_n 1, 1), (57, .sipush 200, 3), (60, .if_icmp .ge 17, 3), (63, .aload_n 0, 1), (64, .iload_n 1, 1), (65, .iload_n 2, 1), (66, .iload_n 3, 1), (67, .invokevirtual 257, 3), (70, .ifCond .ne 7, 3), (73, .iconst 1, 1), (74, .goto 4, 3), (77, .iconst 0, 1), (78, .istore 4, 2), (80, .goto (-63), 3), (83, .iload_n 1, 1), (84, .ireturn, 1)]
theorem jD166 : jm_okD prog_11_method_53_code jC166 = true := by decide +kernel
def jC167 : List (Nat × Instr × Nat) := [(0, .iconst 0, 1), (1, .istore 4, 2), (3, .iconst 0, 1), (4, .istore 5, 2), (6, .iload 5, 2), (8, .aload_n 0, 1), (9, .getfield 191, 3), (12, .if_icmp .ge 82, 3), (15, .aload_n 0, 1), (16, .getfield 50, 3), (19, .iload 5, 2), (21, .iaload, 1), (22, .istore 6, 2), (24, .iload 4, 2), (26, .ifCond .ne 55, 3), (29, .aload_n 0, 1), (30, .getfield 47, 3), (33, .iload 5, 2), (35, .iaload, 1), (36, .bipush 116, 2), (38, .if_icmp .ne 12, 3), (41, .iload_n 1, 1), (42, .iload 6, 2), (44, .if_icmp .lt 41, 3), (47, .goto 34, 3), (50, .aload_n 0, 1), (51, .getfield 47, 3), (54, .iload 5, 2), (56, .iaload, 1), (57, .bipush 110, 2), (59, .if_icmp .ne 12, 3), (62, .iload_n 2, 1), (63, .iload 6, 2), (65, .if_icmp .lt 20, 3), (68, .goto 13, 3), (71, .iload_n 2, 1), (72, .ifCond .le 13, 3), (75, .iload_n 3, 1), (76, .iload 6, 2), (78, .if_icmp .lt 7, 3), (81, .iconst 1, 1), (82, .goto 4, 3), (85, .iconst 0, 1), (86, .istore 4, 2), (88, .iinc 5 1, 3), (91, .goto (-85), 3), (94, .iload 4, 2), (96, .ireturn, 1)]
theorem jD167 : jm_okD prog_11_method_52_code jC167 = true := by decide +kernel
def jC168 : List (Nat × Instr × Nat) := [(0, .iconst 0, 1), (1, .istore_n 2, 1), (2, .iconst 0, 1), (3, .istore_n 3, 1), (4, .iload_n 3, 1), (5, .aload_n 0, 1), (6, .getfield 124, 3), (9, .if_icmp .ge 35, 3), (12, .iload_n 2, 1), (13, .aload_n 0, 1), (14, .iload_n 3, 1), (15, .invokevirtual 221, 3), (18, .ifCond .eq 17, 3), (21, .aload_n 0, 1), (22, .getfield 62, 3), (25, .iload_n 3, 1), (26, .iaload, 1), (27, .iload_n 1, 1), (28, .if_icmp .ne 7, 3), (31, .iconst 1, 1), (32, .goto 4, 3), (35, .iconst 0, 1), (36, .iadd, 1), (37, .istore_n 2, 1), (38, .iinc 3 1, 3), (41, .goto (-37), 3), (44, .iload_n 2, 1), (45, .ireturn, 1)]
theorem jD168 : jm_okD prog_11_method_47_code jC168 = true := by decide +kernel
def jC169 : List (Nat × Instr × Nat) := [(0, .iconst 0, 1), (1, .istore_n 1, 1), (2, .iconst 0, 1), (3, .istore_n 2, 1), (4, .iload_n 2, 1), (5, .aload_n 0, 1), (6, .getfield 124, 3), (9, .if_icmp .ge 30, 3), (12, .iload_n 1, 1), (13, .aload_n 0, 1), (14, .iload_n 2, 1), (15, .invokevirtual 221, 3), (18, .ifCond .eq 12, 3), (21, .aload_n 0, 1), (22, .getfield 68, 3), (25, .iload_n 2, 1), (26, .iaload, 1), (27, .goto 4, 3), (30, .iconst 0, 1), (31, .iadd, 1), (32, .istore_n 1, 1), (33, .iinc 2 1, 3), (36, .goto (-32), 3), (39, .iload_n 1, 1), (40, .ireturn, 1)]
theorem jD169 : jm_okD prog_11_method_48_code jC169 = true := by decide +kernel
def jC170 : List (Nat × Instr × Nat) := [(0, .iconst 0, 1), (1, .istore_n 2, 1), (2, .iconst 0, 1), (3, .istore_n 3, 1), (4, .iload_n 3, 1), (5, .aload_n 0, 1), (6, .getfield 124, 3), (9, .if_icmp .ge 44, 3), (12, .iload_n 2, 1), (13, .aload_n 0, 1), (14, .getfield 62, 3), (17, .iload_n 3, 1), (18, .iaload, 1), (19, .iconst 1, 1), (20, .if_icmp .ne 24, 3), (23, .iload_n 1, 1), (24, .aload_n 0, 1), (25, .getfield 65, 3), (28, .iload_n 3, 1), (29, .iaload, 1), (30, .isub, 1), (31, .aload_n 0, 1), (32, .getfield 28, 3), (35, .iconst 2, 1), (36, .iaload, 1), (37, .if_icmp .le 7, 3), (40, .iconst 1, 1), (41, .goto 4, 3), (44, .iconst 0, 1), (45, .iadd, 1), (46, .istore_n 2, 1), (47, .iinc 3 1, 3), (50, .goto (-46), 3), (53, .iload_n 2, 1), (54, .ireturn, 1)]
theorem jD170 : jm_okD prog_11_method_54_code jC170 = true := by decide +kernel
def jC171 : List (Nat × Instr × Nat) := [(0, .aload_n 0, 1), (1, .getfield 28, 3), (4, .iconst 3, 1), (5, .iaload, 1), (6, .aload_n 0, 1), (7, .invokevirtual 261, 3), (10, .imul, 1), (11, .aload_n 0, 1), (12, .getfield 28, 3), (15, .iconst 4, 1), (16, .iaload, 1), (17, .aload_n 0, 1), (18, .iconst 0, 1), (19, .invokevirtual 264, 3), (22, .imul, 1), (23, .isub, 1), (24, .aload_n 0, 1), (25, .getfield 28, 3), (28, .iconst 5, 1), (29, .iaload, 1), (30, .aload_n 0, 1), (31, .iconst 2, 1), (32, .invokevirtual 264, 3), (35, .aload_n 0, 1), (36, .iload_n 1, 1), (37, .invokevirtual 267, 3), (40, .iadd, 1), (41, .imul, 1), (42, .isub, 1), (43, .ireturn, 1)]
theorem jD171 : jm_okD prog_11_method_55_code jC171 = true := by decide +kernel
def jC172 : List (Nat × Instr × Nat) := [(0, .aload_n 0, 1), (1, .invokevirtual 285, 3), (4, .ireturn, 1)]
theorem jD172 : jm_okD prog_11_method_60_code jC172 = true := by decide +kernel
def jC173 : List (Nat × Instr × Nat) := [(0, .iconst (-1), 1), (1, .istore_n 1, 1), (2, .iconst 0, 1), (3, .istore_n 2, 1), (4, .iconst 0, 1), (5, .istore_n 3, 1), (6, .iload_n 3, 1), (7, .iconst 3, 1), (8, .if_icmp .ge 46, 3), (11, .aload_n 0, 1), (12, .iload_n 3, 1), (13, .iconst 1, 1), (14, .iadd, 1), (15, .invokevirtual 198, 3), (18, .iconst (-1), 1), (19, .if_icmp .ne 29, 3), (22, .aload_n 0, 1), (23, .aload_n 0, 1), (24, .invokevirtual 273, 3), (27, .invokevirtual 276, 3), (30, .istore 4, 2), (32, .iload_n 1, 1), (33, .iconst (-1), 1), (34, .if_icmp .eq 9, 3), (37, .iload 4, 2), (39, .iload_n 2, 1), (40, .if_icmp .le 8, 3), (43, .iload_n 3, 1), (44, .istore_n 1, 1), (45, .iload 4, 2), (47, .istore_n 2, 1), (48, .iinc 3 1, 3), (51, .goto (-45), 3), (54, .iload_n 1, 1), (55, .ireturn, 1)]
theorem jD173 : jm_okD prog_11_method_59_code jC173 = true := by decide +kernel
def jC174 : List (Nat × Instr × Nat) := [(0, .iload_n 1, 1), (1, .invokestatic 291, 3), (4, .ifCond .eq 24, 3), (7, .iload_n 2, 1), (8, .i2l, 1), (9, .lconst 0, 1), (10, .ldc2_w 109, 3), (13, .invokestatic 95, 3), (16, .ifCond .eq 12, 3), (19, .aload_n 0, 1), (20, .iload_n 1, 1), (21, .iload_n 2, 1), (22, .invokevirtual 294, 3), (25, .goto 5, 3), (28, .bipush (-2), 2), (30, .ireturn, 1)]
theorem jD174 : jm_okD prog_11_method_64_code jC174 = true := by decide +kernel
def jC175 : List (Nat × Instr × Nat) := [(0, .iload_n 0, 1), (1, .i2l, 1), (2, .lconst 1, 1), (3, .ldc2_w 246, 3), (6, .invokestatic 95, 3), (9, .ireturn, 1)]
theorem jD175 : jm_okD prog_11_method_61_code jC175 = true := by decide +kernel
def jC176_0 : List (Nat × Instr × Nat) := [(0, .aload_n 0, 1), (1, .iload_n 1, 1), (2, .invokevirtual 288, 3), (5, .iconst 1, 1), (6, .istore_n 3, 1), (7, .iconst 2, 1), (8, .istore 4, 2), (10, .iload 4, 2), (12, .bipush 100, 2), (14, .if_icmp .ge 76, 3), (17, .aload_n 0, 1), (18, .getfield 80, 3), (21, .iload 4, 2), (23, .iaload, 1), (24, .aload_n 0, 1), (25, .getfield 80, 3), (28, .iload_n 3, 1), (29, .iaload, 1), (30, .if_icmp .gt 35, 3), (33, .aload_n 0, 1), (34, .getfield 80, 3), (37, .iload 4, 2), (39, .iaload, 1), (40, .aload_n 0, 1), (41, .getfield 80, 3), (44, .iload_n 3, 1), (45, .iaload, 1), (46, .if_icmp .ne 23, 3), (49, .aload_n 0, 1), (50, .getfield 83, 3), (53, .iload 4, 2), (55, .iaload, 1), (56, .aload_n 0, 1), (57, .getfield 83, 3), (60, .iload_n 3, 1), (61, .iaload, 1), (62, .if_icmp .ge 7, 3), (65, .iconst 1, 1), (66, .goto 4, 3), (69, .iconst 0, 1), (70, .istore 5, 2), (72, .iload 5, 2), (74, .ifCond .eq 8, 3), (77, .iload 4, 2), (79, .goto 4, 3), (82, .iload_n 3, 1), (83, .istore_n 3, 1), (84, .iinc 4 1, 3), (87, .goto (-77), 3), (90, .iload_n 2, 1), (91, .ifCond .ne 7, 3), (94, .iload_n 3, 1), (95, .goto 23, 3), (98, .iload_n 2, 1), (99, .iconst 1, 1), (100, .if_icmp .ne 12, 3), (103, .aload_n 0, 1), (104, .getfield 80, 3), (107, .iload_n 3, 1), (108, .iaload, 1)]
theorem jD176_0 : jm_okD prog_11_method_63_code jC176_0 = true := by decide +kernel
def jC176_1 : List (Nat × Instr × Nat) := [(109, .goto 9, 3), (112, .aload_n 0, 1), (113, .getfield 83, 3), (116, .iload_n 3, 1), (117, .iaload, 1), (118, .ireturn, 1)]
theorem jD176_1 : jm_okD prog_11_method_63_code jC176_1 = true := by decide +kernel
def jC176 : List (Nat × Instr × Nat) := jC176_0 ++ (jC176_1)
theorem jD176 : jm_okD prog_11_method_63_code jC176 = true := jm_okD_app jD176_0 (jD176_1)
def jC177 : List (Nat × Instr × Nat) := [(0, .aload_n 0, 1), (1, .invokevirtual 248, 3), (4, .iconst 1, 1), (5, .istore_n 2, 1), (6, .iload_n 2, 1), (7, .bipush 100, 2), (9, .if_icmp .ge 41, 3), (12, .aload_n 0, 1), (13, .iload_n 2, 1), (14, .putfield 212, 3), (17, .aload_n 0, 1), (18, .iload_n 1, 1), (19, .invokevirtual 251, 3), (22, .aload_n 0, 1), (23, .getfield 80, 3), (26, .iload_n 2, 1), (27, .aload_n 0, 1), (28, .iconst 1, 1), (29, .invokevirtual 264, 3), (32, .iastore, 1), (33, .aload_n 0, 1), (34, .getfield 83, 3), (37, .iload_n 2, 1), (38, .aload_n 0, 1), (39, .iconst 2, 1), (40, .invokevirtual 264, 3), (43, .iastore, 1), (44, .iinc 2 1, 3), (47, .goto (-41), 3), (50, .return_, 1)]
theorem jD177 : jm_okD prog_11_method_62_code jC177 = true := by decide +kernel
def jC178_0 : List (Nat × Instr × Nat) := [(0, .iload_n 1, 1), (1, .invokestatic 291, 3), (4, .ifCond .eq 8, 3), (7, .iload_n 2, 1), (8, .iconst (-1), 1), (9, .if_icmp .ge 6, 3), (12, .bipush (-2), 2), (14, .ireturn, 1), (15, .aload_n 0, 1), (16, .iload_n 1, 1), (17, .invokevirtual 288, 3), (20, .iconst 0, 1), (21, .istore_n 3, 1), (22, .iconst 1, 1), (23, .istore 4, 2), (25, .iload 4, 2), (27, .bipush 100, 2), (29, .if_icmp .ge 136, 3), (32, .iconst 1, 1), (33, .istore 5, 2), (35, .iconst 1, 1), (36, .istore 6, 2), (38, .iload 6, 2), (40, .bipush 100, 2), (42, .if_icmp .ge 101, 3), (45, .iload 5, 2), (47, .ifCond .eq 96, 3), (50, .aload_n 0, 1), (51, .getfield 80, 3), (54, .iload 6, 2), (56, .iaload, 1), (57, .aload_n 0, 1), (58, .getfield 80, 3), (61, .iload 4, 2), (63, .iaload, 1), (64, .if_icmp .le 24, 3), (67, .aload_n 0, 1), (68, .getfield 83, 3), (71, .iload 6, 2), (73, .iaload, 1), (74, .aload_n 0, 1), (75, .getfield 83, 3), (78, .iload 4, 2), (80, .iaload, 1), (81, .if_icmp .gt 7, 3), (84, .iconst 1, 1), (85, .goto 4, 3), (88, .iconst 0, 1), (89, .istore 7, 2), (91, .iload 7, 2), (93, .ifCond .ne 41, 3), (96, .aload_n 0, 1), (97, .getfield 80, 3), (100, .iload 6, 2), (102, .iaload, 1), (103, .aload_n 0, 1), (104, .getfield 80, 3), (107, .iload 4, 2), (109, .iaload, 1), (110, .if_icmp .ne 20, 3)]
theorem jD178_0 : jm_okD prog_11_method_65_code jC178_0 = true := by decide +kernel
def jC178_1 : List (Nat × Instr × Nat) := [(113, .aload_n 0, 1), (114, .getfield 83, 3), (117, .iload 6, 2), (119, .iaload, 1), (120, .aload_n 0, 1), (121, .getfield 83, 3), (124, .iload 4, 2), (126, .iaload, 1), (127, .if_icmp .lt 7, 3), (130, .iconst 1, 1), (131, .goto 4, 3), (134, .iconst 0, 1), (135, .istore 5, 2), (137, .iinc 6 1, 3), (140, .goto (-102), 3), (143, .iload 5, 2), (145, .ifCond .eq 14, 3), (148, .iload_n 3, 1), (149, .iload_n 2, 1), (150, .if_icmp .ne 6, 3), (153, .iload 4, 2), (155, .ireturn, 1), (156, .iinc 3 1, 3), (159, .iinc 4 1, 3), (162, .goto (-137), 3), (165, .iload_n 2, 1), (166, .iconst (-1), 1), (167, .if_icmp .ne 7, 3), (170, .iload_n 3, 1), (171, .goto 4, 3), (174, .iconst (-1), 1), (175, .ireturn, 1)]
theorem jD178_1 : jm_okD prog_11_method_65_code jC178_1 = true := by decide +kernel
def jC178 : List (Nat × Instr × Nat) := jC178_0 ++ (jC178_1)
theorem jD178 : jm_okD prog_11_method_65_code jC178 = true := jm_okD_app jD178_0 (jD178_1)
def jC179 : List (Nat × Instr × Nat) := [(0, .iload_n 1, 1), (1, .invokestatic 291, 3), (4, .ifCond .eq 10, 3), (7, .iload_n 2, 1), (8, .invokestatic 297, 3), (11, .ifCond .ne 6, 3), (14, .bipush (-2), 2), (16, .ireturn, 1), (17, .aload_n 0, 1), (18, .invokevirtual 248, 3), (21, .iconst 0, 1), (22, .istore_n 3, 1), (23, .iconst (-1), 1), (24, .istore 4, 2), (26, .iconst 0, 1), (27, .istore 5, 2), (29, .iload 5, 2), (31, .bipush 100, 2), (33, .if_icmp .ge 56, 3), (36, .aload_n 0, 1), (37, .iload 5, 2), (39, .putfield 206, 3), (42, .aload_n 0, 1), (43, .iload_n 1, 1), (44, .invokevirtual 251, 3), (47, .aload_n 0, 1), (48, .invokevirtual 261, 3), (51, .iload 4, 2), (53, .if_icmp .le 8, 3), (56, .iload 5, 2), (58, .goto 4, 3), (61, .iload_n 3, 1), (62, .istore_n 3, 1), (63, .aload_n 0, 1), (64, .invokevirtual 261, 3), (67, .iload 4, 2), (69, .if_icmp .le 10, 3), (72, .aload_n 0, 1), (73, .invokevirtual 261, 3), (76, .goto 5, 3), (79, .iload 4, 2), (81, .istore 4, 2), (83, .iinc 5 1, 3), (86, .goto (-57), 3), (89, .iload_n 2, 1), (90, .ifCond .ne 7, 3), (93, .iload_n 3, 1), (94, .goto 5, 3), (97, .iload 4, 2), (99, .ireturn, 1)]
theorem jD179 : jm_okD prog_11_method_66_code jC179 = true := by decide +kernel
def jC180 : List (Nat × Instr × Nat) := [(0, .iload_n 0, 1), (1, .i2l, 1), (2, .lconst 0, 1), (3, .lconst 1, 1), (4, .invokestatic 95, 3), (7, .ireturn, 1)]
theorem jD180 : jm_okD prog_11_method_6_code jC180 = true := by decide +kernel
def jC181 : List (Nat × Instr × Nat) := [(0, .iload_n 1, 1), (1, .invokestatic 291, 3), (4, .ifCond .eq 10, 3), (7, .iload_n 2, 1), (8, .invokestatic 297, 3), (11, .ifCond .ne 6, 3), (14, .bipush (-2), 2), (16, .ireturn, 1), (17, .aload_n 0, 1), (18, .invokevirtual 248, 3), (21, .aload_n 0, 1), (22, .iload_n 1, 1), (23, .invokevirtual 251, 3), (26, .iconst (-1), 1), (27, .istore_n 3, 1), (28, .aload_n 0, 1), (29, .iconst 1, 1), (30, .invokevirtual 264, 3), (33, .istore 4, 2), (35, .iconst 0, 1), (36, .istore 5, 2), (38, .iload 5, 2), (40, .iload_n 1, 1), (41, .if_icmp .ge 59, 3), (44, .aload_n 0, 1), (45, .iload 5, 2), (47, .putfield 215, 3), (50, .aload_n 0, 1), (51, .iload_n 1, 1), (52, .invokevirtual 251, 3), (55, .aload_n 0, 1), (56, .iconst 1, 1), (57, .invokevirtual 264, 3), (60, .iload 4, 2), (62, .if_icmp .le 8, 3), (65, .iload 5, 2), (67, .goto 4, 3), (70, .iload_n 3, 1), (71, .istore_n 3, 1), (72, .aload_n 0, 1), (73, .iconst 1, 1), (74, .invokevirtual 264, 3), (77, .iload 4, 2), (79, .if_icmp .le 11, 3), (82, .aload_n 0, 1), (83, .iconst 1, 1), (84, .invokevirtual 264, 3), (87, .goto 5, 3), (90, .iload 4, 2), (92, .istore 4, 2), (94, .iinc 5 1, 3), (97, .goto (-59), 3), (100, .iload_n 2, 1), (101, .ifCond .ne 7, 3), (104, .iload_n 3, 1), (105, .goto 5, 3), (108, .iload 4, 2), (110, .ireturn, 1)]
theorem jD181 : jm_okD prog_11_method_67_code jC181 = true := by decide +kernel
def jC182 : List (Nat × Instr × Nat) := [(0, .aload_n 0, 1), (1, .iload_n 1, 1), (2, .invokevirtual 144, 3), (5, .ifCond .ne 9, 3), (8, .bipush (-2), 2), (10, .invokestatic 270, 3), (13, .ireturn, 1), (14, .aload_n 0, 1), (15, .invokevirtual 248, 3), (18, .aload_n 0, 1), (19, .sipush 200, 3), (22, .invokevirtual 251, 3), (25, .aload_n 0, 1), (26, .getfield 65, 3), (29, .iload_n 1, 1), (30, .iaload, 1), (31, .istore_n 2, 1), (32, .aload_n 0, 1), (33, .iconst 1, 1), (34, .iload_n 1, 1), (35, .ishl, 1), (36, .putfield 218, 3), (39, .aload_n 0, 1), (40, .sipush 200, 3), (43, .invokevirtual 251, 3), (46, .iload_n 2, 1), (47, .iconst (-1), 1), (48, .if_icmp .eq 13, 3), (51, .aload_n 0, 1), (52, .getfield 65, 3), (55, .iload_n 1, 1), (56, .iaload, 1), (57, .iconst (-1), 1), (58, .if_icmp .ne 11, 3), (61, .bipush (-3), 2), (63, .invokestatic 270, 3), (66, .goto 11, 3), (69, .iload_n 2, 1), (70, .aload_n 0, 1), (71, .getfield 65, 3), (74, .iload_n 1, 1), (75, .iaload, 1), (76, .isub, 1), (77, .ireturn, 1)]
theorem jD182 : jm_okD prog_11_method_68_code jC182 = true := by decide +kernel
def jC183 : List (Nat × Instr × Nat) := [(0, .iconst 2, 1), (1, .iload_n 1, 1), (2, .invokestatic 136, 3), (5, .ifCond .eq 32, 3), (8, .iload_n 2, 1), (9, .invokestatic 291, 3), (12, .ifCond .eq 25, 3), (15, .iload_n 3, 1), (16, .i2l, 1), (17, .lconst 0, 1), (18, .ldc2_w 103, 3), (21, .invokestatic 95, 3), (24, .ifCond .eq 13, 3), (27, .aload_n 0, 1), (28, .iload_n 1, 1), (29, .iload_n 2, 1), (30, .iload_n 3, 1), (31, .invokevirtual 300, 3), (34, .goto 5, 3), (37, .bipush (-2), 2), (39, .ireturn, 1)]
theorem jD183 : jm_okD prog_11_method_70_code jC183 = true := by decide +kernel
def jC184 : List (Nat × Instr × Nat) := [(0, .aload_n 0, 1), (1, .invokevirtual 248, 3), (4, .iconst 0, 1), (5, .istore 4, 2), (7, .iload 4, 2), (9, .aload_n 0, 1), (10, .getfield 124, 3), (13, .if_icmp .ge 43, 3), (16, .aload_n 0, 1), (17, .dup, 1), (18, .getfield 218, 3), (21, .aload_n 0, 1), (22, .getfield 25, 3), (25, .iconst 4, 1), (26, .iload 4, 2), (28, .imul, 1), (29, .iconst 2, 1), (30, .iadd, 1), (31, .iaload, 1), (32, .iload_n 1, 1), (33, .if_icmp .ge 12, 3), (36, .iconst 1, 1), (37, .iload 4, 2), (39, .ishl, 1), (40, .iconst (-1), 1), (41, .ixor, 1), (42, .goto 4, 3), (45, .iconst (-1), 1), (46, .iand, 1), (47, .putfield 218, 3), (50, .iinc 4 1, 3), (53, .goto (-46), 3), (56, .aload_n 0, 1), (57, .iload_n 2, 1), (58, .invokevirtual 251, 3), (61, .iload_n 3, 1), (62, .ifCond .ne 11, 3), (65, .aload_n 0, 1), (66, .iconst 1, 1), (67, .invokevirtual 264, 3), (70, .goto 33, 3), (73, .iload_n 3, 1), (74, .iconst 1, 1), (75, .if_icmp .ne 10, 3), (78, .aload_n 0, 1), (79, .invokevirtual 261, 3), (82, .goto 21, 3), (85, .iload_n 3, 1), (86, .iconst 2, 1), (87, .if_icmp .ne 11, 3), (90, .aload_n 0, 1), (91, .iconst 0, 1), (92, .invokevirtual 264, 3), (95, .goto 8, 3), (98, .aload_n 0, 1), (99, .iconst 2, 1), (100, .invokevirtual 264, 3), (103, .ireturn, 1)]
theorem jD184 : jm_okD prog_11_method_69_code jC184 = true := by decide +kernel
def jC185 : List (Nat × Instr × Nat) := [(0, .iload_n 1, 1), (1, .invokestatic 303, 3), (4, .ifCond .eq 22, 3), (7, .iload_n 2, 1), (8, .invokestatic 303, 3), (11, .ifCond .eq 15, 3), (14, .iload_n 3, 1), (15, .i2l, 1), (16, .lconst 0, 1), (17, .ldc2_w 306, 3), (20, .invokestatic 95, 3), (23, .ifCond .ne 6, 3), (26, .bipush (-2), 2), (28, .ireturn, 1), (29, .iload_n 1, 1), (30, .istore 4, 2), (32, .iconst 0, 1), (33, .istore 5, 2), (35, .iload 5, 2), (37, .iload_n 3, 1), (38, .if_icmp .ge 17, 3), (41, .iload 4, 2), (43, .iload_n 2, 1), (44, .invokestatic 308, 3), (47, .istore 4, 2), (49, .iinc 5 1, 3), (52, .goto (-17), 3), (55, .iload 4, 2), (57, .ireturn, 1)]
theorem jD185 : jm_okD prog_11_method_73_code jC185 = true := by decide +kernel
def jC186 : List (Nat × Instr × Nat) := [(0, .iload_n 0, 1), (1, .i2l, 1), (2, .lconst 0, 1), (3, .ldc2_w 127, 3), (6, .invokestatic 95, 3), (9, .ireturn, 1)]
theorem jD186 : jm_okD prog_11_method_71_code jC186 = true := by decide +kernel
def jC187 : List (Nat × Instr × Nat) := [(0, .iload_n 0, 1), (1, .iload_n 1, 1), (2, .if_icmp .ge 9, 3), (5, .iload_n 1, 1), (6, .iload_n 0, 1), (7, .isub, 1), (8, .goto 6, 3), (11, .iload_n 0, 1), (12, .iload_n 1, 1), (13, .isub, 1), (14, .istore_n 2, 1), (15, .iload_n 2, 1), (16, .iconst 3, 1), (17, .iadd, 1), (18, .iconst 4, 1), (19, .idiv, 1), (20, .istore_n 3, 1), (21, .iload_n 0, 1), (22, .iload_n 1, 1), (23, .if_icmp .ge 9, 3), (26, .iload_n 0, 1), (27, .iload_n 3, 1), (28, .iadd, 1), (29, .goto 6, 3), (32, .iload_n 0, 1), (33, .iload_n 3, 1), (34, .isub, 1), (35, .ireturn, 1)]
theorem jD187 : jm_okD prog_11_method_72_code jC187 = true := by decide +kernel
def jC188 : List (Nat × Instr × Nat) := [(0, .iload_n 1, 1), (1, .invokestatic 303, 3), (4, .ifCond .eq 30, 3), (7, .iload_n 2, 1), (8, .invokestatic 303, 3), (11, .ifCond .eq 23, 3), (14, .iload 4, 2), (16, .invokestatic 303, 3), (19, .ifCond .eq 15, 3), (22, .iload_n 3, 1), (23, .i2l, 1), (24, .lconst 0, 1), (25, .iload 4, 2), (27, .i2l, 1), (28, .invokestatic 95, 3), (31, .ifCond .ne 6, 3), (34, .bipush (-2), 2), (36, .ireturn, 1), (37, .iload_n 1, 1), (38, .istore 5, 2), (40, .iconst 0, 1), (41, .istore 6, 2), (43, .iload 6, 2), (45, .bipush 60, 2), (47, .if_icmp .gt 34, 3), (50, .iload 5, 2), (52, .i2l, 1), (53, .iload_n 3, 1), (54, .i2l, 1), (55, .iload 4, 2), (57, .i2l, 1), (58, .invokestatic 95, 3), (61, .ifCond .eq 6, 3), (64, .iload 6, 2), (66, .ireturn, 1), (67, .iload 5, 2), (69, .iload_n 2, 1), (70, .invokestatic 308, 3), (73, .istore 5, 2), (75, .iinc 6 1, 3), (78, .goto (-35), 3), (81, .iconst (-1), 1), (82, .ireturn, 1)]
theorem jD188 : jm_okD prog_11_method_74_code jC188 = true := by decide +kernel
def jC189_0 : List (Nat × Instr × Nat) := [(0, .iload_n 1, 1), (1, .i2l, 1), (2, .lconst 1, 1), (3, .ldc2_w 315, 3), (6, .invokestatic 95, 3), (9, .ifCond .eq 45, 3), (12, .iload_n 2, 1), (13, .i2l, 1), (14, .lconst 0, 1), (15, .iload_n 1, 1), (16, .i2l, 1), (17, .invokestatic 95, 3), (20, .ifCond .eq 34, 3), (23, .iload_n 3, 1), (24, .i2l, 1), (25, .lconst 0, 1), (26, .iload_n 1, 1), (27, .i2l, 1), (28, .invokestatic 95, 3), (31, .ifCond .eq 23, 3), (34, .iload 4, 2), (36, .i2l, 1), (37, .lconst 0, 1), (38, .iload_n 3, 1), (39, .i2l, 1), (40, .invokestatic 95, 3), (43, .ifCond .eq 11, 3), (46, .iload 5, 2), (48, .invokestatic 297, 3), (51, .ifCond .ne 9, 3), (54, .bipush (-2), 2), (56, .invokestatic 317, 3), (59, .lreturn, 1), (60, .iload_n 1, 1), (61, .iload_n 2, 1), (62, .iload_n 3, 1), (63, .iload 4, 2), (65, .invokestatic 321, 3), (68, .lstore 6, 2), (70, .iload_n 1, 1), (71, .iload_n 3, 1), (72, .invokestatic 311, 3), (75, .lstore 8, 2), (77, .lload 6, 2), (79, .lstore 10, 2), (81, .lload 8, 2), (83, .lstore 12, 2), (85, .lload 12, 2), (87, .lconst 0, 1), (88, .lcmp, 1), (89, .ifCond .eq 21, 3), (92, .lload 10, 2), (94, .lload 12, 2), (96, .lrem, 1), (97, .lstore 14, 2), (99, .lload 12, 2), (101, .lstore 10, 2), (103, .lload 14, 2), (105, .lstore 12, 2), (107, .goto (-22), 3)]
theorem jD189_0 : jm_okD prog_11_method_77_code jC189_0 = true := by decide +kernel
def jC189_1 : List (Nat × Instr × Nat) := [(110, .iload 5, 2), (112, .ifCond .ne 8, 3), (115, .lload 6, 2), (117, .goto 5, 3), (120, .lload 8, 2), (122, .lload 10, 2), (124, .ldiv, 1), (125, .lreturn, 1)]
theorem jD189_1 : jm_okD prog_11_method_77_code jC189_1 = true := by decide +kernel
def jC189 : List (Nat × Instr × Nat) := jC189_0 ++ (jC189_1)
theorem jD189 : jm_okD prog_11_method_77_code jC189 = true := jm_okD_app jD189_0 (jD189_1)
def jC190 : List (Nat × Instr × Nat) := [(0, .ldc2_w 92, 3), (3, .iload_n 0, 1), (4, .i2l, 1), (5, .lsub, 1), (6, .lreturn, 1)]
theorem jD190 : jm_okD prog_11_method_4_code jC190 = true := by decide +kernel
def jC191 : List (Nat × Instr × Nat) := [(0, .iload_n 1, 1), (1, .iload_n 3, 1), (2, .invokestatic 311, 3), (5, .iload_n 0, 1), (6, .iload_n 1, 1), (7, .isub, 1), (8, .iload_n 2, 1), (9, .iload_n 3, 1), (10, .isub, 1), (11, .invokestatic 311, 3), (14, .lmul, 1), (15, .lreturn, 1)]
theorem jD191 : jm_okD prog_11_method_76_code jC191 = true := by decide +kernel
def jC192 : List (Nat × Instr × Nat) := [(0, .iload_n 1, 1), (1, .ifCond .lt 8, 3), (4, .iload_n 1, 1), (5, .iload_n 0, 1), (6, .if_icmp .le 5, 3), (9, .lconst 0, 1), (10, .lreturn, 1), (11, .lconst 1, 1), (12, .lstore_n 2, 1), (13, .iconst 0, 1), (14, .istore 4, 2), (16, .iload 4, 2), (18, .iload_n 1, 1), (19, .if_icmp .ge 23, 3), (22, .lload_n 2, 1), (23, .iload_n 0, 1), (24, .iload 4, 2), (26, .isub, 1), (27, .i2l, 1), (28, .lmul, 1), (29, .iload 4, 2), (31, .iconst 1, 1), (32, .iadd, 1), (33, .i2l, 1), (34, .ldiv, 1), (35, .lstore_n 2, 1), (36, .iinc 4 1, 3), (39, .goto (-23), 3), (42, .lload_n 2, 1), (43, .lreturn, 1)]
theorem jD192 : jm_okD prog_11_method_75_code jC192 = true := by decide +kernel
def jC193_0 : List (Nat × Instr × Nat) := [(0, .iload_n 1, 1), (1, .i2l, 1), (2, .lconst 1, 1), (3, .ldc2_w 315, 3), (6, .invokestatic 95, 3), (9, .ifCond .eq 46, 3), (12, .iload_n 2, 1), (13, .i2l, 1), (14, .lconst 0, 1), (15, .iload_n 1, 1), (16, .i2l, 1), (17, .invokestatic 95, 3), (20, .ifCond .eq 35, 3), (23, .iload_n 3, 1), (24, .i2l, 1), (25, .lconst 0, 1), (26, .iload_n 2, 1), (27, .i2l, 1), (28, .invokestatic 95, 3), (31, .ifCond .eq 24, 3), (34, .iload 4, 2), (36, .i2l, 1), (37, .lconst 0, 1), (38, .ldc2_w 157, 3), (41, .invokestatic 95, 3), (44, .ifCond .eq 11, 3), (47, .iload 5, 2), (49, .invokestatic 297, 3), (52, .ifCond .ne 6, 3), (55, .bipush (-2), 2), (57, .ireturn, 1), (58, .iload_n 1, 1), (59, .iload_n 2, 1), (60, .invokestatic 311, 3), (63, .lstore 6, 2), (65, .iconst (-1), 1), (66, .istore 8, 2), (68, .iconst 0, 1), (69, .istore 9, 2), (71, .iload 9, 2), (73, .iload_n 1, 1), (74, .if_icmp .gt 114, 3), (77, .lconst 0, 1), (78, .lstore 10, 2), (80, .iconst 0, 1), (81, .istore 12, 2), (83, .iload 12, 2), (85, .iload_n 2, 1), (86, .if_icmp .gt 47, 3), (89, .lload 10, 2), (91, .iload 5, 2), (93, .ifCond .ne 12, 3), (96, .iload 12, 2), (98, .iload_n 3, 1), (99, .if_icmp .lt 24, 3), (102, .goto 9, 3), (105, .iload 12, 2), (107, .iload_n 3, 1), (108, .if_icmp .gt 15, 3), (111, .iload_n 1, 1)]
theorem jD193_0 : jm_okD prog_11_method_78_code jC193_0 = true := by decide +kernel
def jC193_1 : List (Nat × Instr × Nat) := [(112, .iload 9, 2), (114, .iload_n 2, 1), (115, .iload 12, 2), (117, .invokestatic 321, 3), (120, .goto 4, 3), (123, .lconst 0, 1), (124, .ladd, 1), (125, .lstore 10, 2), (127, .iinc 12 1, 3), (130, .goto (-47), 3), (133, .lload 10, 2), (135, .ldc2_w 325, 3), (138, .lmul, 1), (139, .iload 4, 2), (141, .i2l, 1), (142, .lload 6, 2), (144, .lmul, 1), (145, .lcmp, 1), (146, .ifCond .le 7, 3), (149, .iconst 1, 1), (150, .goto 4, 3), (153, .iconst 0, 1), (154, .istore 12, 2), (156, .iload 12, 2), (158, .ifCond .eq 20, 3), (161, .iload 5, 2), (163, .iconst 1, 1), (164, .if_icmp .eq 9, 3), (167, .iload 8, 2), (169, .iconst (-1), 1), (170, .if_icmp .ne 8, 3), (173, .iload 9, 2), (175, .goto 5, 3), (178, .iload 8, 2), (180, .istore 8, 2), (182, .iinc 9 1, 3), (185, .goto (-114), 3), (188, .iload 8, 2), (190, .ireturn, 1)]
theorem jD193_1 : jm_okD prog_11_method_78_code jC193_1 = true := by decide +kernel
def jC193 : List (Nat × Instr × Nat) := jC193_0 ++ (jC193_1)
theorem jD193 : jm_okD prog_11_method_78_code jC193 = true := jm_okD_app jD193_0 (jD193_1)
def jC194 : List (Nat × Instr × Nat) := [(0, .aload_n 0, 1), (1, .iload_n 1, 1), (2, .invokevirtual 144, 3), (5, .ifCond .eq 15, 3), (8, .iload_n 2, 1), (9, .i2l, 1), (10, .lconst 0, 1), (11, .ldc2_w 204, 3), (14, .invokestatic 95, 3), (17, .ifCond .ne 6, 3), (20, .bipush (-2), 2), (22, .ireturn, 1), (23, .aload_n 0, 1), (24, .getfield 147, 3), (27, .bipush 12, 2), (29, .if_icmp .ne 6, 3), (32, .bipush (-4), 2), (34, .ireturn, 1), (35, .aload_n 0, 1), (36, .getfield 86, 3), (39, .aload_n 0, 1), (40, .getfield 147, 3), (43, .iload_n 1, 1), (44, .iastore, 1), (45, .aload_n 0, 1), (46, .getfield 89, 3), (49, .aload_n 0, 1), (50, .getfield 147, 3), (53, .iload_n 2, 1), (54, .iastore, 1), (55, .aload_n 0, 1), (56, .dup, 1), (57, .getfield 147, 3), (60, .iconst 1, 1), (61, .iadd, 1), (62, .putfield 147, 3), (65, .aload_n 0, 1), (66, .getfield 147, 3), (69, .ireturn, 1)]
theorem jD194 : jm_okD prog_11_method_79_code jC194 = true := by decide +kernel
def jC195 : List (Nat × Instr × Nat) := [(0, .iload_n 1, 1), (1, .i2l, 1), (2, .lconst 0, 1), (3, .ldc2_w 330, 3), (6, .invokestatic 95, 3), (9, .ifCond .eq 11, 3), (12, .aload_n 0, 1), (13, .iload_n 1, 1), (14, .invokevirtual 332, 3), (17, .goto 5, 3), (20, .bipush (-2), 2), (22, .ireturn, 1)]
theorem jD195 : jm_okD prog_11_method_82_code jC195 = true := by decide +kernel
def jC196_0 : List (Nat × Instr × Nat) := [(0, .aload_n 0, 1), (1, .getfield 147, 3), (4, .ifCond .ne 6, 3), (7, .bipush (-3), 2), (9, .ireturn, 1), (10, .aload_n 0, 1), (11, .invokevirtual 248, 3), (14, .iconst (-1), 1), (15, .istore_n 2, 1), (16, .iconst (-1), 1), (17, .istore_n 3, 1), (18, .iconst 0, 1), (19, .istore 4, 2), (21, .iconst (-1), 1), (22, .istore 5, 2), (24, .iconst 0, 1), (25, .istore 6, 2), (27, .iconst 5, 1), (28, .istore 7, 2), (30, .iload 7, 2), (32, .bipush 16, 2), (34, .if_icmp .ge 82, 3), (37, .aload_n 0, 1), (38, .iload 7, 2), (40, .invokevirtual 327, 3), (43, .istore 8, 2), (45, .iload 8, 2), (47, .ifCond .ne 13, 3), (50, .iload_n 2, 1), (51, .iconst (-1), 1), (52, .if_icmp .ne 8, 3), (55, .iload 7, 2), (57, .goto 4, 3), (60, .iload_n 2, 1), (61, .istore_n 2, 1), (62, .iload 8, 2), (64, .ifCond .ne 8, 3), (67, .iload 7, 2), (69, .goto 4, 3), (72, .iload_n 3, 1), (73, .istore_n 3, 1), (74, .iload 4, 2), (76, .iload 8, 2), (78, .ifCond .ne 7, 3), (81, .iconst 1, 1), (82, .goto 4, 3), (85, .iconst 0, 1), (86, .iadd, 1), (87, .istore 4, 2), (89, .iload 5, 2), (91, .iconst (-1), 1), (92, .if_icmp .eq 10, 3), (95, .iload 8, 2), (97, .iload 6, 2), (99, .if_icmp .ge 11, 3), (102, .iload 7, 2), (104, .istore 5, 2), (106, .iload 8, 2), (108, .istore 6, 2), (110, .iinc 7 1, 3)]
theorem jD196_0 : jm_okD prog_11_method_81_code jC196_0 = true := by decide +kernel
def jC196_1 : List (Nat × Instr × Nat) := [(113, .goto (-83), 3), (116, .iload_n 1, 1), (117, .tableswitch 41 0 3 #[31, 33, 35, 38], 31), (148, .iload_n 2, 1), (149, .ireturn, 1), (150, .iload_n 3, 1), (151, .ireturn, 1), (152, .iload 4, 2), (154, .ireturn, 1), (155, .iload 5, 2), (157, .ireturn, 1), (158, .iload 6, 2), (160, .ireturn, 1)]
theorem jD196_1 : jm_okD prog_11_method_81_code jC196_1 = true := by decide +kernel
def jC196 : List (Nat × Instr × Nat) := jC196_0 ++ (jC196_1)
theorem jD196 : jm_okD prog_11_method_81_code jC196 = true := jm_okD_app jD196_0 (jD196_1)
def jC197 : List (Nat × Instr × Nat) := [(0, .aload_n 0, 1), (1, .iload_n 1, 1), (2, .putfield 209, 3), (5, .aload_n 0, 1), (6, .sipush 200, 3), (9, .invokevirtual 251, 3), (12, .iconst 0, 1), (13, .istore_n 2, 1), (14, .iconst 0, 1), (15, .istore_n 3, 1), (16, .iload_n 3, 1), (17, .aload_n 0, 1), (18, .getfield 147, 3), (21, .if_icmp .ge 73, 3), (24, .aload_n 0, 1), (25, .getfield 65, 3), (28, .aload_n 0, 1), (29, .getfield 86, 3), (32, .iload_n 3, 1), (33, .iaload, 1), (34, .iaload, 1), (35, .istore 4, 2), (37, .iload 4, 2), (39, .aload_n 0, 1), (40, .getfield 89, 3), (43, .iload_n 3, 1), (44, .iaload, 1), (45, .if_icmp .ge 15, 3), (48, .aload_n 0, 1), (49, .getfield 89, 3), (52, .iload_n 3, 1), (53, .iaload, 1), (54, .iload 4, 2), (56, .isub, 1), (57, .goto 12, 3), (60, .iload 4, 2), (62, .aload_n 0, 1), (63, .getfield 89, 3), (66, .iload_n 3, 1), (67, .iaload, 1), (68, .isub, 1), (69, .istore 5, 2), (71, .iload_n 2, 1), (72, .iload 4, 2), (74, .iconst (-1), 1), (75, .if_icmp .ne 9, 3), (78, .sipush 200, 3), (81, .goto 5, 3), (84, .iload 5, 2), (86, .iadd, 1), (87, .istore_n 2, 1), (88, .iinc 3 1, 3), (91, .goto (-75), 3), (94, .iload_n 2, 1), (95, .ireturn, 1)]
theorem jD197 : jm_okD prog_11_method_80_code jC197 = true := by decide +kernel
def jC198_0 : List (Nat × Instr × Nat) := [(0, .iload_n 1, 1), (1, .i2l, 1), (2, .lconst 0, 1), (3, .ldc2_w 204, 3), (6, .invokestatic 95, 3), (9, .ifCond .eq 10, 3), (12, .iload_n 2, 1), (13, .invokestatic 105, 3), (16, .ifCond .ne 6, 3), (19, .bipush (-2), 2), (21, .ireturn, 1), (22, .aload_n 0, 1), (23, .getfield 7, 3), (26, .iload_n 2, 1), (27, .iaload, 1), (28, .ifCond .ge 9, 3), (31, .aload_n 0, 1), (32, .iconst 1, 1), (33, .invokevirtual 111, 3), (36, .ireturn, 1), (37, .aload_n 0, 1), (38, .invokevirtual 248, 3), (41, .aload_n 0, 1), (42, .sipush 200, 3), (45, .invokevirtual 251, 3), (48, .aload_n 0, 1), (49, .getfield 13, 3), (52, .iload_n 2, 1), (53, .iaload, 1), (54, .sipush 200, 3), (57, .iload_n 1, 1), (58, .isub, 1), (59, .if_icmp .ge 12, 3), (62, .aload_n 0, 1), (63, .getfield 13, 3), (66, .iload_n 2, 1), (67, .iaload, 1), (68, .goto 8, 3), (71, .sipush 200, 3), (74, .iload_n 1, 1), (75, .isub, 1), (76, .istore_n 3, 1), (77, .iconst 0, 1), (78, .istore 4, 2), (80, .iload 4, 2), (82, .iload_n 3, 1), (83, .if_icmp .ge 39, 3), (86, .aload_n 0, 1), (87, .getfield 16, 3), (90, .bipush 60, 2), (92, .iload_n 2, 1), (93, .imul, 1), (94, .iload 4, 2), (96, .iadd, 1), (97, .aload_n 0, 1), (98, .getfield 7, 3), (101, .iload_n 2, 1), (102, .iaload, 1), (103, .aload_n 0, 1), (104, .getfield 77, 3)]
theorem jD198_0 : jm_okD prog_11_method_83_code jC198_0 = true := by decide +kernel
def jC198_1 : List (Nat × Instr × Nat) := [(107, .iload_n 1, 1), (108, .iload 4, 2), (110, .iadd, 1), (111, .iaload, 1), (112, .invokestatic 119, 3), (115, .iastore, 1), (116, .iinc 4 1, 3), (119, .goto (-39), 3), (122, .iload_n 3, 1), (123, .ireturn, 1)]
theorem jD198_1 : jm_okD prog_11_method_83_code jC198_1 = true := by decide +kernel
def jC198 : List (Nat × Instr × Nat) := jC198_0 ++ (jC198_1)
theorem jD198 : jm_okD prog_11_method_83_code jC198 = true := jm_okD_app jD198_0 (jD198_1)
def jC199 : List (Nat × Instr × Nat) := [(0, .iconst 0, 1), (1, .istore_n 2, 1), (2, .iload_n 1, 1), (3, .tableswitch 112 0 8 #[49, 54, 54, 54, 54, 63, 73, 78, 107], 49), (52, .aload_n 0, 1), (53, .getfield 124, 3), (56, .ireturn, 1), (57, .aload_n 0, 1), (58, .getfield 34, 3), (61, .iload_n 1, 1), (62, .iconst 1, 1), (63, .isub, 1), (64, .iaload, 1), (65, .ireturn, 1), (66, .aload_n 0, 1), (67, .invokevirtual 194, 3), (70, .pop, 1), (71, .aload_n 0, 1), (72, .getfield 169, 3), (75, .ireturn, 1), (76, .aload_n 0, 1), (77, .getfield 147, 3), (80, .ireturn, 1), (81, .iconst 0, 1), (82, .istore_n 3, 1), (83, .iload_n 3, 1), (84, .aload_n 0, 1), (85, .getfield 124, 3), (88, .if_icmp .ge 20, 3), (91, .iload_n 2, 1), (92, .aload_n 0, 1), (93, .getfield 25, 3), (96, .iconst 4, 1), (97, .iload_n 3, 1), (98, .imul, 1), (99, .iaload, 1), (100, .iadd, 1), (101, .istore_n 2, 1), (102, .iinc 3 1, 3), (105, .goto (-22), 3), (108, .iload_n 2, 1), (109, .ireturn, 1), (110, .aload_n 0, 1), (111, .getfield 99, 3), (114, .ireturn, 1), (115, .bipush (-2), 2), (117, .ireturn, 1)]
theorem jD199 : jm_okD prog_11_method_84_code jC199 = true := by decide +kernel
def jC200_0 : List (Nat × Instr × Nat) := [(0, .ldc2_w 335, 3), (3, .lstore_n 1, 1), (4, .iconst 0, 1), (5, .istore_n 3, 1), (6, .iload_n 3, 1), (7, .bipush 8, 2), (9, .if_icmp .ge 22, 3), (12, .ldc2_w 337, 3), (15, .lload_n 1, 1), (16, .lmul, 1), (17, .aload_n 0, 1), (18, .iload_n 3, 1), (19, .invokevirtual 339, 3), (22, .i2l, 1), (23, .ladd, 1), (24, .lstore_n 1, 1), (25, .iinc 3 1, 3), (28, .goto (-22), 3), (31, .iconst 0, 1), (32, .istore_n 3, 1), (33, .iload_n 3, 1), (34, .iconst 4, 1), (35, .if_icmp .ge 22, 3), (38, .ldc2_w 337, 3), (41, .lload_n 1, 1), (42, .lmul, 1), (43, .aload_n 0, 1), (44, .iload_n 3, 1), (45, .invokevirtual 201, 3), (48, .i2l, 1), (49, .ladd, 1), (50, .lstore_n 1, 1), (51, .iinc 3 1, 3), (54, .goto (-21), 3), (57, .aload_n 0, 1), (58, .invokevirtual 248, 3), (61, .aload_n 0, 1), (62, .bipush 100, 2), (64, .invokevirtual 251, 3), (67, .iconst 0, 1), (68, .istore_n 3, 1), (69, .iload_n 3, 1), (70, .aload_n 0, 1), (71, .getfield 124, 3), (74, .if_icmp .ge 40, 3), (77, .iconst 0, 1), (78, .istore 4, 2), (80, .iload 4, 2), (82, .bipush 6, 2), (84, .if_icmp .ge 24, 3), (87, .ldc2_w 337, 3), (90, .lload_n 1, 1), (91, .lmul, 1), (92, .aload_n 0, 1), (93, .iload_n 3, 1), (94, .iload 4, 2), (96, .invokevirtual 254, 3), (99, .i2l, 1), (100, .ladd, 1), (101, .lstore_n 1, 1)]
theorem jD200_0 : jm_okD prog_11_method_85_code jC200_0 = true := by decide +kernel
def jC200_1 : List (Nat × Instr × Nat) := [(102, .iinc 4 1, 3), (105, .goto (-25), 3), (108, .iinc 3 1, 3), (111, .goto (-42), 3), (114, .iconst 0, 1), (115, .istore_n 3, 1), (116, .iload_n 3, 1), (117, .iconst 3, 1), (118, .if_icmp .ge 40, 3), (121, .iconst 0, 1), (122, .istore 4, 2), (124, .iload 4, 2), (126, .bipush 6, 2), (128, .if_icmp .ge 24, 3), (131, .ldc2_w 337, 3), (134, .lload_n 1, 1), (135, .lmul, 1), (136, .aload_n 0, 1), (137, .iload_n 3, 1), (138, .iload 4, 2), (140, .invokevirtual 282, 3), (143, .i2l, 1), (144, .ladd, 1), (145, .lstore_n 1, 1), (146, .iinc 4 1, 3), (149, .goto (-25), 3), (152, .iinc 3 1, 3), (155, .goto (-39), 3), (158, .ldc2_w 337, 3), (161, .lload_n 1, 1), (162, .lmul, 1), (163, .aload_n 0, 1), (164, .invokevirtual 285, 3), (167, .i2l, 1), (168, .ladd, 1), (169, .lstore_n 1, 1), (170, .iconst 0, 1), (171, .istore_n 3, 1), (172, .iload_n 3, 1), (173, .iconst 3, 1), (174, .if_icmp .ge 24, 3), (177, .ldc2_w 337, 3), (180, .lload_n 1, 1), (181, .lmul, 1), (182, .aload_n 0, 1), (183, .bipush 60, 2), (185, .iload_n 3, 1), (186, .invokevirtual 294, 3), (189, .i2l, 1), (190, .ladd, 1), (191, .lstore_n 1, 1), (192, .iinc 3 1, 3), (195, .goto (-23), 3), (198, .iconst 0, 1), (199, .istore_n 3, 1), (200, .iload_n 3, 1), (201, .iconst 4, 1), (202, .if_icmp .ge 25, 3), (205, .ldc2_w 337, 3), (208, .lload_n 1, 1)]
theorem jD200_1 : jm_okD prog_11_method_85_code jC200_1 = true := by decide +kernel
def jC200_2 : List (Nat × Instr × Nat) := [(209, .lmul, 1), (210, .aload_n 0, 1), (211, .iconst 3, 1), (212, .bipush 100, 2), (214, .iload_n 3, 1), (215, .invokevirtual 300, 3), (218, .i2l, 1), (219, .ladd, 1), (220, .lstore_n 1, 1), (221, .iinc 3 1, 3), (224, .goto (-24), 3), (227, .iconst 0, 1), (228, .istore_n 3, 1), (229, .iload_n 3, 1), (230, .iconst 5, 1), (231, .if_icmp .ge 22, 3), (234, .ldc2_w 337, 3), (237, .lload_n 1, 1), (238, .lmul, 1), (239, .aload_n 0, 1), (240, .iload_n 3, 1), (241, .invokevirtual 332, 3), (244, .i2l, 1), (245, .ladd, 1), (246, .lstore_n 1, 1), (247, .iinc 3 1, 3), (250, .goto (-21), 3), (253, .lload_n 1, 1), (254, .lreturn, 1)]
theorem jD200_2 : jm_okD prog_11_method_85_code jC200_2 = true := by decide +kernel
def jC200 : List (Nat × Instr × Nat) := jC200_0 ++ (jC200_1 ++ (jC200_2))
theorem jD200 : jm_okD prog_11_method_85_code jC200 = true := jm_okD_app jD200_0 (jm_okD_app jD200_1 (jD200_2))
def jC201_0 : List (Nat × Instr × Nat) := [(0, .new 7, 3), (3, .dup, 1), (4, .invokespecial 9, 3), (7, .astore_n 1, 1), (8, .new 10, 3), (11, .dup, 1), (12, .invokespecial 12, 3), (15, .astore_n 2, 1), (16, .iconst 0, 1), (17, .istore_n 3, 1), (18, .iload_n 3, 1), (19, .aload_n 0, 1), (20, .arraylength, 1), (21, .bipush 6, 2), (23, .isub, 1), (24, .if_icmp .gt 1369, 3), (27, .aload_n 0, 1), (28, .iload_n 3, 1), (29, .iaload, 1), (30, .bipush 63, 2), (32, .iand, 1), (33, .tableswitch 1354 0 32 #[147, 210, 243, 286, 299, 332, 365, 388, 411, 444, 487, 536, 569, 582, 615, 648, 681, 714, 737, 780, 823, 876, 940, 1003, 1036, 1059, 1102, 1125, 1178, 1221, 1284, 1317, 1340], 147), (180, .aload_n 1, 1), (181, .aload_n 0, 1), (182, .iload_n 3, 1), (183, .iconst 1, 1), (184, .iadd, 1), (185, .iaload, 1), (186, .aload_n 0, 1), (187, .iload_n 3, 1), (188, .iconst 2, 1), (189, .iadd, 1), (190, .iaload, 1), (191, .aload_n 0, 1), (192, .iload_n 3, 1), (193, .iconst 3, 1), (194, .iadd, 1), (195, .iaload, 1), (196, .aload_n 0, 1), (197, .iload_n 3, 1), (198, .iconst 4, 1), (199, .iadd, 1), (200, .iaload, 1), (201, .aload_n 0, 1), (202, .iload_n 3, 1), (203, .iconst 5, 1), (204, .iadd, 1), (205, .iaload, 1), (206, .invokevirtual 13, 3), (209, .aload_n 2, 1), (210, .aload_n 0, 1), (211, .iload_n 3, 1), (212, .iconst 1, 1), (213, .iadd, 1), (214, .iaload, 1), (215, .aload_n 0, 1), (216, .iload_n 3, 1), (217, .iconst 2, 1), (218, .iadd, 1), (219, .iaload, 1)]
theorem jD201_0 : jm_okD code jC201_0 = true := by decide +kernel
def jC201_1 : List (Nat × Instr × Nat) := [(220, .aload_n 0, 1), (221, .iload_n 3, 1), (222, .iconst 3, 1), (223, .iadd, 1), (224, .iaload, 1), (225, .aload_n 0, 1), (226, .iload_n 3, 1), (227, .iconst 4, 1), (228, .iadd, 1), (229, .iaload, 1), (230, .aload_n 0, 1), (231, .iload_n 3, 1), (232, .iconst 5, 1), (233, .iadd, 1), (234, .iaload, 1), (235, .invokevirtual 17, 3), (238, .if_icmp .eq 1149, 3), (241, .iconst 0, 1), (242, .ireturn, 1), (243, .aload_n 1, 1), (244, .aload_n 0, 1), (245, .iload_n 3, 1), (246, .iconst 1, 1), (247, .iadd, 1), (248, .iaload, 1), (249, .aload_n 0, 1), (250, .iload_n 3, 1), (251, .iconst 2, 1), (252, .iadd, 1), (253, .iaload, 1), (254, .invokevirtual 18, 3), (257, .aload_n 2, 1), (258, .aload_n 0, 1), (259, .iload_n 3, 1), (260, .iconst 1, 1), (261, .iadd, 1), (262, .iaload, 1), (263, .aload_n 0, 1), (264, .iload_n 3, 1), (265, .iconst 2, 1), (266, .iadd, 1), (267, .iaload, 1), (268, .invokevirtual 22, 3), (271, .if_icmp .eq 1116, 3), (274, .iconst 0, 1), (275, .ireturn, 1), (276, .aload_n 1, 1), (277, .aload_n 0, 1), (278, .iload_n 3, 1), (279, .iconst 1, 1), (280, .iadd, 1), (281, .iaload, 1), (282, .aload_n 0, 1), (283, .iload_n 3, 1), (284, .iconst 2, 1), (285, .iadd, 1), (286, .iaload, 1), (287, .aload_n 0, 1), (288, .iload_n 3, 1), (289, .iconst 3, 1)]
theorem jD201_1 : jm_okD code jC201_1 = true := by decide +kernel
def jC201_2 : List (Nat × Instr × Nat) := [(290, .iadd, 1), (291, .iaload, 1), (292, .invokevirtual 23, 3), (295, .aload_n 2, 1), (296, .aload_n 0, 1), (297, .iload_n 3, 1), (298, .iconst 1, 1), (299, .iadd, 1), (300, .iaload, 1), (301, .aload_n 0, 1), (302, .iload_n 3, 1), (303, .iconst 2, 1), (304, .iadd, 1), (305, .iaload, 1), (306, .aload_n 0, 1), (307, .iload_n 3, 1), (308, .iconst 3, 1), (309, .iadd, 1), (310, .iaload, 1), (311, .invokevirtual 27, 3), (314, .if_icmp .eq 1073, 3), (317, .iconst 0, 1), (318, .ireturn, 1), (319, .aload_n 1, 1), (320, .invokevirtual 28, 3), (323, .aload_n 2, 1), (324, .invokevirtual 32, 3), (327, .if_icmp .eq 1060, 3), (330, .iconst 0, 1), (331, .ireturn, 1), (332, .aload_n 1, 1), (333, .aload_n 0, 1), (334, .iload_n 3, 1), (335, .iconst 1, 1), (336, .iadd, 1), (337, .iaload, 1), (338, .aload_n 0, 1), (339, .iload_n 3, 1), (340, .iconst 2, 1), (341, .iadd, 1), (342, .iaload, 1), (343, .invokevirtual 33, 3), (346, .aload_n 2, 1), (347, .aload_n 0, 1), (348, .iload_n 3, 1), (349, .iconst 1, 1), (350, .iadd, 1), (351, .iaload, 1), (352, .aload_n 0, 1), (353, .iload_n 3, 1), (354, .iconst 2, 1), (355, .iadd, 1), (356, .iaload, 1), (357, .invokevirtual 36, 3), (360, .if_icmp .eq 1027, 3), (363, .iconst 0, 1), (364, .ireturn, 1), (365, .aload_n 1, 1), (366, .aload_n 0, 1), (367, .iload_n 3, 1)]
theorem jD201_2 : jm_okD code jC201_2 = true := by decide +kernel
def jC201_3 : List (Nat × Instr × Nat) := [(368, .iconst 1, 1), (369, .iadd, 1), (370, .iaload, 1), (371, .aload_n 0, 1), (372, .iload_n 3, 1), (373, .iconst 2, 1), (374, .iadd, 1), (375, .iaload, 1), (376, .invokevirtual 37, 3), (379, .aload_n 2, 1), (380, .aload_n 0, 1), (381, .iload_n 3, 1), (382, .iconst 1, 1), (383, .iadd, 1), (384, .iaload, 1), (385, .aload_n 0, 1), (386, .iload_n 3, 1), (387, .iconst 2, 1), (388, .iadd, 1), (389, .iaload, 1), (390, .invokevirtual 40, 3), (393, .if_icmp .eq 994, 3), (396, .iconst 0, 1), (397, .ireturn, 1), (398, .aload_n 1, 1), (399, .aload_n 0, 1), (400, .iload_n 3, 1), (401, .iconst 1, 1), (402, .iadd, 1), (403, .iaload, 1), (404, .invokevirtual 41, 3), (407, .aload_n 2, 1), (408, .aload_n 0, 1), (409, .iload_n 3, 1), (410, .iconst 1, 1), (411, .iadd, 1), (412, .iaload, 1), (413, .invokevirtual 45, 3), (416, .if_icmp .eq 971, 3), (419, .iconst 0, 1), (420, .ireturn, 1), (421, .aload_n 1, 1), (422, .aload_n 0, 1), (423, .iload_n 3, 1), (424, .iconst 1, 1), (425, .iadd, 1), (426, .iaload, 1), (427, .invokevirtual 46, 3), (430, .aload_n 2, 1), (431, .aload_n 0, 1), (432, .iload_n 3, 1), (433, .iconst 1, 1), (434, .iadd, 1), (435, .iaload, 1), (436, .invokevirtual 49, 3), (439, .if_icmp .eq 948, 3), (442, .iconst 0, 1), (443, .ireturn, 1), (444, .aload_n 1, 1), (445, .aload_n 0, 1)]
theorem jD201_3 : jm_okD code jC201_3 = true := by decide +kernel
def jC201_4 : List (Nat × Instr × Nat) := [(446, .iload_n 3, 1), (447, .iconst 1, 1), (448, .iadd, 1), (449, .iaload, 1), (450, .aload_n 0, 1), (451, .iload_n 3, 1), (452, .iconst 2, 1), (453, .iadd, 1), (454, .iaload, 1), (455, .invokevirtual 50, 3), (458, .aload_n 2, 1), (459, .aload_n 0, 1), (460, .iload_n 3, 1), (461, .iconst 1, 1), (462, .iadd, 1), (463, .iaload, 1), (464, .aload_n 0, 1), (465, .iload_n 3, 1), (466, .iconst 2, 1), (467, .iadd, 1), (468, .iaload, 1), (469, .invokevirtual 53, 3), (472, .if_icmp .eq 915, 3), (475, .iconst 0, 1), (476, .ireturn, 1), (477, .aload_n 1, 1), (478, .aload_n 0, 1), (479, .iload_n 3, 1), (480, .iconst 1, 1), (481, .iadd, 1), (482, .iaload, 1), (483, .aload_n 0, 1), (484, .iload_n 3, 1), (485, .iconst 2, 1), (486, .iadd, 1), (487, .iaload, 1), (488, .aload_n 0, 1), (489, .iload_n 3, 1), (490, .iconst 3, 1), (491, .iadd, 1), (492, .iaload, 1), (493, .invokevirtual 54, 3), (496, .aload_n 2, 1), (497, .aload_n 0, 1), (498, .iload_n 3, 1), (499, .iconst 1, 1), (500, .iadd, 1), (501, .iaload, 1), (502, .aload_n 0, 1), (503, .iload_n 3, 1), (504, .iconst 2, 1), (505, .iadd, 1), (506, .iaload, 1), (507, .aload_n 0, 1), (508, .iload_n 3, 1), (509, .iconst 3, 1), (510, .iadd, 1), (511, .iaload, 1), (512, .invokevirtual 57, 3), (515, .if_icmp .eq 872, 3)]
theorem jD201_4 : jm_okD code jC201_4 = true := by decide +kernel
def jC201_5 : List (Nat × Instr × Nat) := [(518, .iconst 0, 1), (519, .ireturn, 1), (520, .aload_n 1, 1), (521, .aload_n 0, 1), (522, .iload_n 3, 1), (523, .iconst 1, 1), (524, .iadd, 1), (525, .iaload, 1), (526, .aload_n 0, 1), (527, .iload_n 3, 1), (528, .iconst 2, 1), (529, .iadd, 1), (530, .iaload, 1), (531, .ifCond .eq 7, 3), (534, .iconst 1, 1), (535, .goto 4, 3), (538, .iconst 0, 1), (539, .invokevirtual 58, 3), (542, .aload_n 2, 1), (543, .aload_n 0, 1), (544, .iload_n 3, 1), (545, .iconst 1, 1), (546, .iadd, 1), (547, .iaload, 1), (548, .aload_n 0, 1), (549, .iload_n 3, 1), (550, .iconst 2, 1), (551, .iadd, 1), (552, .iaload, 1), (553, .ifCond .eq 7, 3), (556, .iconst 1, 1), (557, .goto 4, 3), (560, .iconst 0, 1), (561, .invokevirtual 62, 3), (564, .if_icmp .eq 823, 3), (567, .iconst 0, 1), (568, .ireturn, 1), (569, .aload_n 1, 1), (570, .aload_n 0, 1), (571, .iload_n 3, 1), (572, .iconst 1, 1), (573, .iadd, 1), (574, .iaload, 1), (575, .aload_n 0, 1), (576, .iload_n 3, 1), (577, .iconst 2, 1), (578, .iadd, 1), (579, .iaload, 1), (580, .invokevirtual 63, 3), (583, .aload_n 2, 1), (584, .aload_n 0, 1), (585, .iload_n 3, 1), (586, .iconst 1, 1), (587, .iadd, 1), (588, .iaload, 1), (589, .aload_n 0, 1), (590, .iload_n 3, 1), (591, .iconst 2, 1), (592, .iadd, 1), (593, .iaload, 1)]
theorem jD201_5 : jm_okD code jC201_5 = true := by decide +kernel
def jC201_6 : List (Nat × Instr × Nat) := [(594, .invokevirtual 66, 3), (597, .if_icmp .eq 790, 3), (600, .iconst 0, 1), (601, .ireturn, 1), (602, .aload_n 1, 1), (603, .invokevirtual 67, 3), (606, .aload_n 2, 1), (607, .invokevirtual 70, 3), (610, .if_icmp .eq 777, 3), (613, .iconst 0, 1), (614, .ireturn, 1), (615, .aload_n 1, 1), (616, .aload_n 0, 1), (617, .iload_n 3, 1), (618, .iconst 1, 1), (619, .iadd, 1), (620, .iaload, 1), (621, .aload_n 0, 1), (622, .iload_n 3, 1), (623, .iconst 2, 1), (624, .iadd, 1), (625, .iaload, 1), (626, .invokevirtual 71, 3), (629, .aload_n 2, 1), (630, .aload_n 0, 1), (631, .iload_n 3, 1), (632, .iconst 1, 1), (633, .iadd, 1), (634, .iaload, 1), (635, .aload_n 0, 1), (636, .iload_n 3, 1), (637, .iconst 2, 1), (638, .iadd, 1), (639, .iaload, 1), (640, .invokevirtual 74, 3), (643, .if_icmp .eq 744, 3), (646, .iconst 0, 1), (647, .ireturn, 1), (648, .aload_n 1, 1), (649, .aload_n 0, 1), (650, .iload_n 3, 1), (651, .iconst 1, 1), (652, .iadd, 1), (653, .iaload, 1), (654, .aload_n 0, 1), (655, .iload_n 3, 1), (656, .iconst 2, 1), (657, .iadd, 1), (658, .iaload, 1), (659, .invokevirtual 75, 3), (662, .aload_n 2, 1), (663, .aload_n 0, 1), (664, .iload_n 3, 1), (665, .iconst 1, 1), (666, .iadd, 1), (667, .iaload, 1), (668, .aload_n 0, 1), (669, .iload_n 3, 1), (670, .iconst 2, 1), (671, .iadd, 1)]
theorem jD201_6 : jm_okD code jC201_6 = true := by decide +kernel
def jC201_7 : List (Nat × Instr × Nat) := [(672, .iaload, 1), (673, .invokevirtual 78, 3), (676, .if_icmp .eq 711, 3), (679, .iconst 0, 1), (680, .ireturn, 1), (681, .aload_n 1, 1), (682, .aload_n 0, 1), (683, .iload_n 3, 1), (684, .iconst 1, 1), (685, .iadd, 1), (686, .iaload, 1), (687, .aload_n 0, 1), (688, .iload_n 3, 1), (689, .iconst 2, 1), (690, .iadd, 1), (691, .iaload, 1), (692, .invokevirtual 79, 3), (695, .aload_n 2, 1), (696, .aload_n 0, 1), (697, .iload_n 3, 1), (698, .iconst 1, 1), (699, .iadd, 1), (700, .iaload, 1), (701, .aload_n 0, 1), (702, .iload_n 3, 1), (703, .iconst 2, 1), (704, .iadd, 1), (705, .iaload, 1), (706, .invokevirtual 82, 3), (709, .if_icmp .eq 678, 3), (712, .iconst 0, 1), (713, .ireturn, 1), (714, .aload_n 1, 1), (715, .aload_n 0, 1), (716, .iload_n 3, 1), (717, .iconst 1, 1), (718, .iadd, 1), (719, .iaload, 1), (720, .aload_n 0, 1), (721, .iload_n 3, 1), (722, .iconst 2, 1), (723, .iadd, 1), (724, .iaload, 1), (725, .invokevirtual 83, 3), (728, .aload_n 2, 1), (729, .aload_n 0, 1), (730, .iload_n 3, 1), (731, .iconst 1, 1), (732, .iadd, 1), (733, .iaload, 1), (734, .aload_n 0, 1), (735, .iload_n 3, 1), (736, .iconst 2, 1), (737, .iadd, 1), (738, .iaload, 1), (739, .invokevirtual 86, 3), (742, .if_icmp .eq 645, 3), (745, .iconst 0, 1), (746, .ireturn, 1), (747, .aload_n 1, 1)]
theorem jD201_7 : jm_okD code jC201_7 = true := by decide +kernel
def jC201_8 : List (Nat × Instr × Nat) := [(748, .aload_n 0, 1), (749, .iload_n 3, 1), (750, .iconst 1, 1), (751, .iadd, 1), (752, .iaload, 1), (753, .invokevirtual 87, 3), (756, .aload_n 2, 1), (757, .aload_n 0, 1), (758, .iload_n 3, 1), (759, .iconst 1, 1), (760, .iadd, 1), (761, .iaload, 1), (762, .invokevirtual 90, 3), (765, .if_icmp .eq 622, 3), (768, .iconst 0, 1), (769, .ireturn, 1), (770, .aload_n 1, 1), (771, .aload_n 0, 1), (772, .iload_n 3, 1), (773, .iconst 1, 1), (774, .iadd, 1), (775, .iaload, 1), (776, .aload_n 0, 1), (777, .iload_n 3, 1), (778, .iconst 2, 1), (779, .iadd, 1), (780, .iaload, 1), (781, .aload_n 0, 1), (782, .iload_n 3, 1), (783, .iconst 3, 1), (784, .iadd, 1), (785, .iaload, 1), (786, .invokevirtual 91, 3), (789, .aload_n 2, 1), (790, .aload_n 0, 1), (791, .iload_n 3, 1), (792, .iconst 1, 1), (793, .iadd, 1), (794, .iaload, 1), (795, .aload_n 0, 1), (796, .iload_n 3, 1), (797, .iconst 2, 1), (798, .iadd, 1), (799, .iaload, 1), (800, .aload_n 0, 1), (801, .iload_n 3, 1), (802, .iconst 3, 1), (803, .iadd, 1), (804, .iaload, 1), (805, .invokevirtual 94, 3), (808, .if_icmp .eq 579, 3), (811, .iconst 0, 1), (812, .ireturn, 1), (813, .aload_n 1, 1), (814, .aload_n 0, 1), (815, .iload_n 3, 1), (816, .iconst 1, 1), (817, .iadd, 1), (818, .iaload, 1), (819, .aload_n 0, 1)]
theorem jD201_8 : jm_okD code jC201_8 = true := by decide +kernel
def jC201_9 : List (Nat × Instr × Nat) := [(820, .iload_n 3, 1), (821, .iconst 2, 1), (822, .iadd, 1), (823, .iaload, 1), (824, .aload_n 0, 1), (825, .iload_n 3, 1), (826, .iconst 3, 1), (827, .iadd, 1), (828, .iaload, 1), (829, .invokevirtual 95, 3), (832, .aload_n 2, 1), (833, .aload_n 0, 1), (834, .iload_n 3, 1), (835, .iconst 1, 1), (836, .iadd, 1), (837, .iaload, 1), (838, .aload_n 0, 1), (839, .iload_n 3, 1), (840, .iconst 2, 1), (841, .iadd, 1), (842, .iaload, 1), (843, .aload_n 0, 1), (844, .iload_n 3, 1), (845, .iconst 3, 1), (846, .iadd, 1), (847, .iaload, 1), (848, .invokevirtual 98, 3), (851, .if_icmp .eq 536, 3), (854, .iconst 0, 1), (855, .ireturn, 1), (856, .aload_n 1, 1), (857, .aload_n 0, 1), (858, .iload_n 3, 1), (859, .iconst 1, 1), (860, .iadd, 1), (861, .iaload, 1), (862, .aload_n 0, 1), (863, .iload_n 3, 1), (864, .iconst 2, 1), (865, .iadd, 1), (866, .iaload, 1), (867, .aload_n 0, 1), (868, .iload_n 3, 1), (869, .iconst 3, 1), (870, .iadd, 1), (871, .iaload, 1), (872, .aload_n 0, 1), (873, .iload_n 3, 1), (874, .iconst 4, 1), (875, .iadd, 1), (876, .iaload, 1), (877, .invokevirtual 99, 3), (880, .aload_n 2, 1), (881, .aload_n 0, 1), (882, .iload_n 3, 1), (883, .iconst 1, 1), (884, .iadd, 1), (885, .iaload, 1), (886, .aload_n 0, 1), (887, .iload_n 3, 1)]
theorem jD201_9 : jm_okD code jC201_9 = true := by decide +kernel
def jC201_10 : List (Nat × Instr × Nat) := [(888, .iconst 2, 1), (889, .iadd, 1), (890, .iaload, 1), (891, .aload_n 0, 1), (892, .iload_n 3, 1), (893, .iconst 3, 1), (894, .iadd, 1), (895, .iaload, 1), (896, .aload_n 0, 1), (897, .iload_n 3, 1), (898, .iconst 4, 1), (899, .iadd, 1), (900, .iaload, 1), (901, .invokevirtual 103, 3), (904, .if_icmp .eq 483, 3), (907, .iconst 0, 1), (908, .ireturn, 1), (909, .aload_n 1, 1), (910, .aload_n 0, 1), (911, .iload_n 3, 1), (912, .iconst 1, 1), (913, .iadd, 1), (914, .iaload, 1), (915, .aload_n 0, 1), (916, .iload_n 3, 1), (917, .iconst 2, 1), (918, .iadd, 1), (919, .iaload, 1), (920, .aload_n 0, 1), (921, .iload_n 3, 1), (922, .iconst 3, 1), (923, .iadd, 1), (924, .iaload, 1), (925, .aload_n 0, 1), (926, .iload_n 3, 1), (927, .iconst 4, 1), (928, .iadd, 1), (929, .iaload, 1), (930, .aload_n 0, 1), (931, .iload_n 3, 1), (932, .iconst 5, 1), (933, .iadd, 1), (934, .iaload, 1), (935, .invokevirtual 104, 3), (938, .aload_n 2, 1), (939, .aload_n 0, 1), (940, .iload_n 3, 1), (941, .iconst 1, 1), (942, .iadd, 1), (943, .iaload, 1), (944, .aload_n 0, 1), (945, .iload_n 3, 1), (946, .iconst 2, 1), (947, .iadd, 1), (948, .iaload, 1), (949, .aload_n 0, 1), (950, .iload_n 3, 1), (951, .iconst 3, 1), (952, .iadd, 1), (953, .iaload, 1)]
theorem jD201_10 : jm_okD code jC201_10 = true := by decide +kernel
def jC201_11 : List (Nat × Instr × Nat) := [(954, .aload_n 0, 1), (955, .iload_n 3, 1), (956, .iconst 4, 1), (957, .iadd, 1), (958, .iaload, 1), (959, .aload_n 0, 1), (960, .iload_n 3, 1), (961, .iconst 5, 1), (962, .iadd, 1), (963, .iaload, 1), (964, .invokevirtual 108, 3), (967, .lcmp, 1), (968, .ifCond .eq 419, 3), (971, .iconst 0, 1), (972, .ireturn, 1), (973, .aload_n 1, 1), (974, .aload_n 0, 1), (975, .iload_n 3, 1), (976, .iconst 1, 1), (977, .iadd, 1), (978, .iaload, 1), (979, .aload_n 0, 1), (980, .iload_n 3, 1), (981, .iconst 2, 1), (982, .iadd, 1), (983, .iaload, 1), (984, .aload_n 0, 1), (985, .iload_n 3, 1), (986, .iconst 3, 1), (987, .iadd, 1), (988, .iaload, 1), (989, .aload_n 0, 1), (990, .iload_n 3, 1), (991, .iconst 4, 1), (992, .iadd, 1), (993, .iaload, 1), (994, .aload_n 0, 1), (995, .iload_n 3, 1), (996, .iconst 5, 1), (997, .iadd, 1), (998, .iaload, 1), (999, .invokevirtual 109, 3), (1002, .aload_n 2, 1), (1003, .aload_n 0, 1), (1004, .iload_n 3, 1), (1005, .iconst 1, 1), (1006, .iadd, 1), (1007, .iaload, 1), (1008, .aload_n 0, 1), (1009, .iload_n 3, 1), (1010, .iconst 2, 1), (1011, .iadd, 1), (1012, .iaload, 1), (1013, .aload_n 0, 1), (1014, .iload_n 3, 1), (1015, .iconst 3, 1), (1016, .iadd, 1), (1017, .iaload, 1), (1018, .aload_n 0, 1), (1019, .iload_n 3, 1)]
theorem jD201_11 : jm_okD code jC201_11 = true := by decide +kernel
def jC201_12 : List (Nat × Instr × Nat) := [(1020, .iconst 4, 1), (1021, .iadd, 1), (1022, .iaload, 1), (1023, .aload_n 0, 1), (1024, .iload_n 3, 1), (1025, .iconst 5, 1), (1026, .iadd, 1), (1027, .iaload, 1), (1028, .invokevirtual 112, 3), (1031, .if_icmp .eq 356, 3), (1034, .iconst 0, 1), (1035, .ireturn, 1), (1036, .aload_n 1, 1), (1037, .aload_n 0, 1), (1038, .iload_n 3, 1), (1039, .iconst 1, 1), (1040, .iadd, 1), (1041, .iaload, 1), (1042, .aload_n 0, 1), (1043, .iload_n 3, 1), (1044, .iconst 2, 1), (1045, .iadd, 1), (1046, .iaload, 1), (1047, .invokevirtual 113, 3), (1050, .aload_n 2, 1), (1051, .aload_n 0, 1), (1052, .iload_n 3, 1), (1053, .iconst 1, 1), (1054, .iadd, 1), (1055, .iaload, 1), (1056, .aload_n 0, 1), (1057, .iload_n 3, 1), (1058, .iconst 2, 1), (1059, .iadd, 1), (1060, .iaload, 1), (1061, .invokevirtual 116, 3), (1064, .if_icmp .eq 323, 3), (1067, .iconst 0, 1), (1068, .ireturn, 1), (1069, .aload_n 1, 1), (1070, .aload_n 0, 1), (1071, .iload_n 3, 1), (1072, .iconst 1, 1), (1073, .iadd, 1), (1074, .iaload, 1), (1075, .invokevirtual 117, 3), (1078, .aload_n 2, 1), (1079, .aload_n 0, 1), (1080, .iload_n 3, 1), (1081, .iconst 1, 1), (1082, .iadd, 1), (1083, .iaload, 1), (1084, .invokevirtual 120, 3), (1087, .if_icmp .eq 300, 3), (1090, .iconst 0, 1), (1091, .ireturn, 1), (1092, .aload_n 1, 1), (1093, .aload_n 0, 1), (1094, .iload_n 3, 1), (1095, .iconst 1, 1)]
theorem jD201_12 : jm_okD code jC201_12 = true := by decide +kernel
def jC201_13 : List (Nat × Instr × Nat) := [(1096, .iadd, 1), (1097, .iaload, 1), (1098, .aload_n 0, 1), (1099, .iload_n 3, 1), (1100, .iconst 2, 1), (1101, .iadd, 1), (1102, .iaload, 1), (1103, .aload_n 0, 1), (1104, .iload_n 3, 1), (1105, .iconst 3, 1), (1106, .iadd, 1), (1107, .iaload, 1), (1108, .invokevirtual 121, 3), (1111, .aload_n 2, 1), (1112, .aload_n 0, 1), (1113, .iload_n 3, 1), (1114, .iconst 1, 1), (1115, .iadd, 1), (1116, .iaload, 1), (1117, .aload_n 0, 1), (1118, .iload_n 3, 1), (1119, .iconst 2, 1), (1120, .iadd, 1), (1121, .iaload, 1), (1122, .aload_n 0, 1), (1123, .iload_n 3, 1), (1124, .iconst 3, 1), (1125, .iadd, 1), (1126, .iaload, 1), (1127, .invokevirtual 124, 3), (1130, .if_icmp .eq 257, 3), (1133, .iconst 0, 1), (1134, .ireturn, 1), (1135, .aload_n 1, 1), (1136, .aload_n 0, 1), (1137, .iload_n 3, 1), (1138, .iconst 1, 1), (1139, .iadd, 1), (1140, .iaload, 1), (1141, .invokevirtual 125, 3), (1144, .aload_n 2, 1), (1145, .aload_n 0, 1), (1146, .iload_n 3, 1), (1147, .iconst 1, 1), (1148, .iadd, 1), (1149, .iaload, 1), (1150, .invokevirtual 128, 3), (1153, .if_icmp .eq 234, 3), (1156, .iconst 0, 1), (1157, .ireturn, 1), (1158, .aload_n 1, 1), (1159, .aload_n 0, 1), (1160, .iload_n 3, 1), (1161, .iconst 1, 1), (1162, .iadd, 1), (1163, .iaload, 1), (1164, .aload_n 0, 1), (1165, .iload_n 3, 1), (1166, .iconst 2, 1), (1167, .iadd, 1)]
theorem jD201_13 : jm_okD code jC201_13 = true := by decide +kernel
def jC201_14 : List (Nat × Instr × Nat) := [(1168, .iaload, 1), (1169, .aload_n 0, 1), (1170, .iload_n 3, 1), (1171, .iconst 3, 1), (1172, .iadd, 1), (1173, .iaload, 1), (1174, .aload_n 0, 1), (1175, .iload_n 3, 1), (1176, .iconst 4, 1), (1177, .iadd, 1), (1178, .iaload, 1), (1179, .invokevirtual 129, 3), (1182, .aload_n 2, 1), (1183, .aload_n 0, 1), (1184, .iload_n 3, 1), (1185, .iconst 1, 1), (1186, .iadd, 1), (1187, .iaload, 1), (1188, .aload_n 0, 1), (1189, .iload_n 3, 1), (1190, .iconst 2, 1), (1191, .iadd, 1), (1192, .iaload, 1), (1193, .aload_n 0, 1), (1194, .iload_n 3, 1), (1195, .iconst 3, 1), (1196, .iadd, 1), (1197, .iaload, 1), (1198, .aload_n 0, 1), (1199, .iload_n 3, 1), (1200, .iconst 4, 1), (1201, .iadd, 1), (1202, .iaload, 1), (1203, .invokevirtual 132, 3), (1206, .if_icmp .eq 181, 3), (1209, .iconst 0, 1), (1210, .ireturn, 1), (1211, .aload_n 1, 1), (1212, .aload_n 0, 1), (1213, .iload_n 3, 1), (1214, .iconst 1, 1), (1215, .iadd, 1), (1216, .iaload, 1), (1217, .aload_n 0, 1), (1218, .iload_n 3, 1), (1219, .iconst 2, 1), (1220, .iadd, 1), (1221, .iaload, 1), (1222, .aload_n 0, 1), (1223, .iload_n 3, 1), (1224, .iconst 3, 1), (1225, .iadd, 1), (1226, .iaload, 1), (1227, .invokevirtual 133, 3), (1230, .aload_n 2, 1), (1231, .aload_n 0, 1), (1232, .iload_n 3, 1), (1233, .iconst 1, 1), (1234, .iadd, 1), (1235, .iaload, 1)]
theorem jD201_14 : jm_okD code jC201_14 = true := by decide +kernel
def jC201_15 : List (Nat × Instr × Nat) := [(1236, .aload_n 0, 1), (1237, .iload_n 3, 1), (1238, .iconst 2, 1), (1239, .iadd, 1), (1240, .iaload, 1), (1241, .aload_n 0, 1), (1242, .iload_n 3, 1), (1243, .iconst 3, 1), (1244, .iadd, 1), (1245, .iaload, 1), (1246, .invokevirtual 136, 3), (1249, .if_icmp .eq 138, 3), (1252, .iconst 0, 1), (1253, .ireturn, 1), (1254, .aload_n 1, 1), (1255, .aload_n 0, 1), (1256, .iload_n 3, 1), (1257, .iconst 1, 1), (1258, .iadd, 1), (1259, .iaload, 1), (1260, .aload_n 0, 1), (1261, .iload_n 3, 1), (1262, .iconst 2, 1), (1263, .iadd, 1), (1264, .iaload, 1), (1265, .aload_n 0, 1), (1266, .iload_n 3, 1), (1267, .iconst 3, 1), (1268, .iadd, 1), (1269, .iaload, 1), (1270, .aload_n 0, 1), (1271, .iload_n 3, 1), (1272, .iconst 4, 1), (1273, .iadd, 1), (1274, .iaload, 1), (1275, .aload_n 0, 1), (1276, .iload_n 3, 1), (1277, .iconst 5, 1), (1278, .iadd, 1), (1279, .iaload, 1), (1280, .invokevirtual 137, 3), (1283, .aload_n 2, 1), (1284, .aload_n 0, 1), (1285, .iload_n 3, 1), (1286, .iconst 1, 1), (1287, .iadd, 1), (1288, .iaload, 1), (1289, .aload_n 0, 1), (1290, .iload_n 3, 1), (1291, .iconst 2, 1), (1292, .iadd, 1), (1293, .iaload, 1), (1294, .aload_n 0, 1), (1295, .iload_n 3, 1), (1296, .iconst 3, 1), (1297, .iadd, 1), (1298, .iaload, 1), (1299, .aload_n 0, 1), (1300, .iload_n 3, 1), (1301, .iconst 4, 1)]
theorem jD201_15 : jm_okD code jC201_15 = true := by decide +kernel
def jC201_16 : List (Nat × Instr × Nat) := [(1302, .iadd, 1), (1303, .iaload, 1), (1304, .aload_n 0, 1), (1305, .iload_n 3, 1), (1306, .iconst 5, 1), (1307, .iadd, 1), (1308, .iaload, 1), (1309, .invokevirtual 140, 3), (1312, .if_icmp .eq 75, 3), (1315, .iconst 0, 1), (1316, .ireturn, 1), (1317, .aload_n 1, 1), (1318, .aload_n 0, 1), (1319, .iload_n 3, 1), (1320, .iconst 1, 1), (1321, .iadd, 1), (1322, .iaload, 1), (1323, .aload_n 0, 1), (1324, .iload_n 3, 1), (1325, .iconst 2, 1), (1326, .iadd, 1), (1327, .iaload, 1), (1328, .invokevirtual 141, 3), (1331, .aload_n 2, 1), (1332, .aload_n 0, 1), (1333, .iload_n 3, 1), (1334, .iconst 1, 1), (1335, .iadd, 1), (1336, .iaload, 1), (1337, .aload_n 0, 1), (1338, .iload_n 3, 1), (1339, .iconst 2, 1), (1340, .iadd, 1), (1341, .iaload, 1), (1342, .invokevirtual 144, 3), (1345, .if_icmp .eq 42, 3), (1348, .iconst 0, 1), (1349, .ireturn, 1), (1350, .aload_n 1, 1), (1351, .aload_n 0, 1), (1352, .iload_n 3, 1), (1353, .iconst 1, 1), (1354, .iadd, 1), (1355, .iaload, 1), (1356, .invokevirtual 145, 3), (1359, .aload_n 2, 1), (1360, .aload_n 0, 1), (1361, .iload_n 3, 1), (1362, .iconst 1, 1), (1363, .iadd, 1), (1364, .iaload, 1), (1365, .invokevirtual 148, 3), (1368, .if_icmp .eq 19, 3), (1371, .iconst 0, 1), (1372, .ireturn, 1), (1373, .aload_n 1, 1), (1374, .invokevirtual 149, 3), (1377, .aload_n 2, 1), (1378, .invokevirtual 153, 3), (1381, .lcmp, 1)]
theorem jD201_16 : jm_okD code jC201_16 = true := by decide +kernel
def jC201_17 : List (Nat × Instr × Nat) := [(1382, .ifCond .eq 5, 3), (1385, .iconst 0, 1), (1386, .ireturn, 1), (1387, .iinc 3 6, 3), (1390, .goto (-1372), 3), (1393, .iconst 1, 1), (1394, .ireturn, 1)]
theorem jD201_17 : jm_okD code jC201_17 = true := by decide +kernel
def jC201 : List (Nat × Instr × Nat) := jC201_0 ++ (jC201_1 ++ (jC201_2 ++ (jC201_3 ++ (jC201_4 ++ (jC201_5 ++ (jC201_6 ++ (jC201_7 ++ (jC201_8 ++ (jC201_9 ++ (jC201_10 ++ (jC201_11 ++ (jC201_12 ++ (jC201_13 ++ (jC201_14 ++ (jC201_15 ++ (jC201_16 ++ (jC201_17)))))))))))))))))
theorem jD201 : jm_okD code jC201 = true := jm_okD_app jD201_0 (jm_okD_app jD201_1 (jm_okD_app jD201_2 (jm_okD_app jD201_3 (jm_okD_app jD201_4 (jm_okD_app jD201_5 (jm_okD_app jD201_6 (jm_okD_app jD201_7 (jm_okD_app jD201_8 (jm_okD_app jD201_9 (jm_okD_app jD201_10 (jm_okD_app jD201_11 (jm_okD_app jD201_12 (jm_okD_app jD201_13 (jm_okD_app jD201_14 (jm_okD_app jD201_15 (jm_okD_app jD201_16 (jD201_17)))))))))))))))))
def jm_codes : List (List (Nat × Instr × Nat)) := [jC0, jC1, jC2, jC3, jC4, jC5, jC6, jC7, jC8, jC9, jC10, jC11, jC12, jC13, jC14, jC15, jC16, jC17, jC18, jC19, jC20, jC21, jC22, jC23, jC24, jC25, jC26, jC27, jC28, jC29, jC30, jC31, jC32, jC33, jC34, jC35, jC36, jC37, jC38, jC39, jC40, jC41, jC42, jC43, jC44, jC45, jC46, jC47, jC48, jC49, jC50, jC51, jC52, jC53, jC54, jC55, jC56, jC57, jC58, jC59, jC60, jC61, jC62, jC63, jC64, jC65, jC66, jC67, jC68, jC69, jC70, jC71, jC72, jC73, jC74, jC75, jC76, jC77, jC78, jC79, jC80, jC81, jC82, jC83, jC84, jC85, jC86, jC87, jC88, jC89, jC90, jC91, jC92, jC93, jC94, jC95, jC96, jC97, jC98, jC99, jC100, jC101, jC102, jC103, jC104, jC105, jC106, jC107, jC108, jC109, jC110, jC111, jC112, jC113, jC114, jC115, jC116, jC117, jC118, jC119, jC120, jC121, jC122, jC123, jC124, jC125, jC126, jC127, jC128, jC129, jC130, jC131, jC132, jC133, jC134, jC135, jC136, jC137, jC138, jC139, jC140, jC141, jC142, jC143, jC144, jC145, jC146, jC147, jC148, jC149, jC150, jC151, jC152, jC153, jC154, jC155, jC156, jC157, jC158, jC159, jC160, jC161, jC162, jC163, jC164, jC165, jC166, jC167, jC168, jC169, jC170, jC171, jC172, jC173, jC174, jC175, jC176, jC177, jC178, jC179, jC180, jC181, jC182, jC183, jC184, jC185, jC186, jC187, jC188, jC189, jC190, jC191, jC192, jC193, jC194, jC195, jC196, jC197, jC198, jC199, jC200, jC201]
def jm_code (m pc : Nat) : Option (Instr × Nat) := match jm_codes[m]? with
  | some l => jm_lk l pc
  | none => none
end
section
theorem jm_lk_mem {β : Type} {l : List (Nat × β)} {n : Nat} {v : β} (h : jm_lk l n = some v) : (n, v) ∈ l := by
  induction l with
  | nil => cases h
  | cons q r ih =>
    obtain ⟨k, x⟩ := q
    rw [jm_lk] at h
    split at h
    · next hb => cases h; rw [Nat.eq_of_beq_eq_true hb]; exact List.mem_cons_self
    · exact List.mem_cons_of_mem _ (ih h)
theorem jm_lk2_mem {β : Type} {l : List (Nat × Nat × β)} {o n : Nat} {v : β} (h : jm_lk2 l o n = some v) : (o, n, v) ∈ l := by
  induction l with
  | nil => cases h
  | cons q r ih =>
    obtain ⟨j, k, x⟩ := q
    rw [jm_lk2] at h
    split at h
    · next hb =>
      rw [Bool.and_eq_true] at hb
      cases h
      rw [Nat.eq_of_beq_eq_true hb.1, Nat.eq_of_beq_eq_true hb.2]
      exact List.mem_cons_self
    · exact List.mem_cons_of_mem _ (ih h)
abbrev jm_M : Type := Nat × MethodName × ByteArray × Nat × Option FieldType × Nat × Bool × Nat × Nat × Nat × Nat × Nat
def jDz0 : List (jm_M × List (Nat × Instr × Nat)) := [(jMt0, jC0), (jMt1, jC1), (jMt2, jC2), (jMt3, jC3), (jMt4, jC4), (jMt5, jC5), (jMt6, jC6), (jMt7, jC7), (jMt8, jC8), (jMt9, jC9), (jMt10, jC10), (jMt11, jC11), (jMt12, jC12), (jMt13, jC13), (jMt14, jC14), (jMt15, jC15)]
theorem jDr0 : ∀ p ∈ jDz0, jm_okD p.1.2.2.1 p.2 = true := List.forall_mem_cons.mpr ⟨jD0, List.forall_mem_cons.mpr ⟨jD1, List.forall_mem_cons.mpr ⟨jD2, List.forall_mem_cons.mpr ⟨jD3, List.forall_mem_cons.mpr ⟨jD4, List.forall_mem_cons.mpr ⟨jD5, List.forall_mem_cons.mpr ⟨jD6, List.forall_mem_cons.mpr ⟨jD7, List.forall_mem_cons.mpr ⟨jD8, List.forall_mem_cons.mpr ⟨jD9, List.forall_mem_cons.mpr ⟨jD10, List.forall_mem_cons.mpr ⟨jD11, List.forall_mem_cons.mpr ⟨jD12, List.forall_mem_cons.mpr ⟨jD13, List.forall_mem_cons.mpr ⟨jD14, List.forall_mem_cons.mpr ⟨jD15, fun _ h => absurd h List.not_mem_nil⟩⟩⟩⟩⟩⟩⟩⟩⟩⟩⟩⟩⟩⟩⟩⟩
def jDz1 : List (jm_M × List (Nat × Instr × Nat)) := [(jMt16, jC16), (jMt17, jC17), (jMt18, jC18), (jMt19, jC19), (jMt20, jC20), (jMt21, jC21), (jMt22, jC22), (jMt23, jC23), (jMt24, jC24), (jMt25, jC25), (jMt26, jC26), (jMt27, jC27), (jMt28, jC28), (jMt29, jC29), (jMt30, jC30), (jMt31, jC31)]
theorem jDr1 : ∀ p ∈ jDz1, jm_okD p.1.2.2.1 p.2 = true := List.forall_mem_cons.mpr ⟨jD16, List.forall_mem_cons.mpr ⟨jD17, List.forall_mem_cons.mpr ⟨jD18, List.forall_mem_cons.mpr ⟨jD19, List.forall_mem_cons.mpr ⟨jD20, List.forall_mem_cons.mpr ⟨jD21, List.forall_mem_cons.mpr ⟨jD22, List.forall_mem_cons.mpr ⟨jD23, List.forall_mem_cons.mpr ⟨jD24, List.forall_mem_cons.mpr ⟨jD25, List.forall_mem_cons.mpr ⟨jD26, List.forall_mem_cons.mpr ⟨jD27, List.forall_mem_cons.mpr ⟨jD28, List.forall_mem_cons.mpr ⟨jD29, List.forall_mem_cons.mpr ⟨jD30, List.forall_mem_cons.mpr ⟨jD31, fun _ h => absurd h List.not_mem_nil⟩⟩⟩⟩⟩⟩⟩⟩⟩⟩⟩⟩⟩⟩⟩⟩
def jDz2 : List (jm_M × List (Nat × Instr × Nat)) := [(jMt32, jC32), (jMt33, jC33), (jMt34, jC34), (jMt35, jC35), (jMt36, jC36), (jMt37, jC37), (jMt38, jC38), (jMt39, jC39), (jMt40, jC40), (jMt41, jC41), (jMt42, jC42), (jMt43, jC43), (jMt44, jC44), (jMt45, jC45), (jMt46, jC46), (jMt47, jC47)]
theorem jDr2 : ∀ p ∈ jDz2, jm_okD p.1.2.2.1 p.2 = true := List.forall_mem_cons.mpr ⟨jD32, List.forall_mem_cons.mpr ⟨jD33, List.forall_mem_cons.mpr ⟨jD34, List.forall_mem_cons.mpr ⟨jD35, List.forall_mem_cons.mpr ⟨jD36, List.forall_mem_cons.mpr ⟨jD37, List.forall_mem_cons.mpr ⟨jD38, List.forall_mem_cons.mpr ⟨jD39, List.forall_mem_cons.mpr ⟨jD40, List.forall_mem_cons.mpr ⟨jD41, List.forall_mem_cons.mpr ⟨jD42, List.forall_mem_cons.mpr ⟨jD43, List.forall_mem_cons.mpr ⟨jD44, List.forall_mem_cons.mpr ⟨jD45, List.forall_mem_cons.mpr ⟨jD46, List.forall_mem_cons.mpr ⟨jD47, fun _ h => absurd h List.not_mem_nil⟩⟩⟩⟩⟩⟩⟩⟩⟩⟩⟩⟩⟩⟩⟩⟩
def jDz3 : List (jm_M × List (Nat × Instr × Nat)) := [(jMt48, jC48), (jMt49, jC49), (jMt50, jC50), (jMt51, jC51), (jMt52, jC52), (jMt53, jC53), (jMt54, jC54), (jMt55, jC55), (jMt56, jC56), (jMt57, jC57), (jMt58, jC58), (jMt59, jC59), (jMt60, jC60), (jMt61, jC61), (jMt62, jC62), (jMt63, jC63)]
theorem jDr3 : ∀ p ∈ jDz3, jm_okD p.1.2.2.1 p.2 = true := List.forall_mem_cons.mpr ⟨jD48, List.forall_mem_cons.mpr ⟨jD49, List.forall_mem_cons.mpr ⟨jD50, List.forall_mem_cons.mpr ⟨jD51, List.forall_mem_cons.mpr ⟨jD52, List.forall_mem_cons.mpr ⟨jD53, List.forall_mem_cons.mpr ⟨jD54, List.forall_mem_cons.mpr ⟨jD55, List.forall_mem_cons.mpr ⟨jD56, List.forall_mem_cons.mpr ⟨jD57, List.forall_mem_cons.mpr ⟨jD58, List.forall_mem_cons.mpr ⟨jD59, List.forall_mem_cons.mpr ⟨jD60, List.forall_mem_cons.mpr ⟨jD61, List.forall_mem_cons.mpr ⟨jD62, List.forall_mem_cons.mpr ⟨jD63, fun _ h => absurd h List.not_mem_nil⟩⟩⟩⟩⟩⟩⟩⟩⟩⟩⟩⟩⟩⟩⟩⟩
def jDz4 : List (jm_M × List (Nat × Instr × Nat)) := [(jMt64, jC64), (jMt65, jC65), (jMt66, jC66), (jMt67, jC67), (jMt68, jC68), (jMt69, jC69), (jMt70, jC70), (jMt71, jC71), (jMt72, jC72), (jMt73, jC73), (jMt74, jC74), (jMt75, jC75), (jMt76, jC76), (jMt77, jC77), (jMt78, jC78), (jMt79, jC79)]
theorem jDr4 : ∀ p ∈ jDz4, jm_okD p.1.2.2.1 p.2 = true := List.forall_mem_cons.mpr ⟨jD64, List.forall_mem_cons.mpr ⟨jD65, List.forall_mem_cons.mpr ⟨jD66, List.forall_mem_cons.mpr ⟨jD67, List.forall_mem_cons.mpr ⟨jD68, List.forall_mem_cons.mpr ⟨jD69, List.forall_mem_cons.mpr ⟨jD70, List.forall_mem_cons.mpr ⟨jD71, List.forall_mem_cons.mpr ⟨jD72, List.forall_mem_cons.mpr ⟨jD73, List.forall_mem_cons.mpr ⟨jD74, List.forall_mem_cons.mpr ⟨jD75, List.forall_mem_cons.mpr ⟨jD76, List.forall_mem_cons.mpr ⟨jD77, List.forall_mem_cons.mpr ⟨jD78, List.forall_mem_cons.mpr ⟨jD79, fun _ h => absurd h List.not_mem_nil⟩⟩⟩⟩⟩⟩⟩⟩⟩⟩⟩⟩⟩⟩⟩⟩
def jDz5 : List (jm_M × List (Nat × Instr × Nat)) := [(jMt80, jC80), (jMt81, jC81), (jMt82, jC82), (jMt83, jC83), (jMt84, jC84), (jMt85, jC85), (jMt86, jC86), (jMt87, jC87), (jMt88, jC88), (jMt89, jC89), (jMt90, jC90), (jMt91, jC91), (jMt92, jC92), (jMt93, jC93), (jMt94, jC94), (jMt95, jC95)]
theorem jDr5 : ∀ p ∈ jDz5, jm_okD p.1.2.2.1 p.2 = true := List.forall_mem_cons.mpr ⟨jD80, List.forall_mem_cons.mpr ⟨jD81, List.forall_mem_cons.mpr ⟨jD82, List.forall_mem_cons.mpr ⟨jD83, List.forall_mem_cons.mpr ⟨jD84, List.forall_mem_cons.mpr ⟨jD85, List.forall_mem_cons.mpr ⟨jD86, List.forall_mem_cons.mpr ⟨jD87, List.forall_mem_cons.mpr ⟨jD88, List.forall_mem_cons.mpr ⟨jD89, List.forall_mem_cons.mpr ⟨jD90, List.forall_mem_cons.mpr ⟨jD91, List.forall_mem_cons.mpr ⟨jD92, List.forall_mem_cons.mpr ⟨jD93, List.forall_mem_cons.mpr ⟨jD94, List.forall_mem_cons.mpr ⟨jD95, fun _ h => absurd h List.not_mem_nil⟩⟩⟩⟩⟩⟩⟩⟩⟩⟩⟩⟩⟩⟩⟩⟩
def jDz6 : List (jm_M × List (Nat × Instr × Nat)) := [(jMt96, jC96), (jMt97, jC97), (jMt98, jC98), (jMt99, jC99), (jMt100, jC100), (jMt101, jC101), (jMt102, jC102), (jMt103, jC103), (jMt104, jC104), (jMt105, jC105), (jMt106, jC106), (jMt107, jC107), (jMt108, jC108), (jMt109, jC109), (jMt110, jC110), (jMt111, jC111)]
theorem jDr6 : ∀ p ∈ jDz6, jm_okD p.1.2.2.1 p.2 = true := List.forall_mem_cons.mpr ⟨jD96, List.forall_mem_cons.mpr ⟨jD97, List.forall_mem_cons.mpr ⟨jD98, List.forall_mem_cons.mpr ⟨jD99, List.forall_mem_cons.mpr ⟨jD100, List.forall_mem_cons.mpr ⟨jD101, List.forall_mem_cons.mpr ⟨jD102, List.forall_mem_cons.mpr ⟨jD103, List.forall_mem_cons.mpr ⟨jD104, List.forall_mem_cons.mpr ⟨jD105, List.forall_mem_cons.mpr ⟨jD106, List.forall_mem_cons.mpr ⟨jD107, List.forall_mem_cons.mpr ⟨jD108, List.forall_mem_cons.mpr ⟨jD109, List.forall_mem_cons.mpr ⟨jD110, List.forall_mem_cons.mpr ⟨jD111, fun _ h => absurd h List.not_mem_nil⟩⟩⟩⟩⟩⟩⟩⟩⟩⟩⟩⟩⟩⟩⟩⟩
def jDz7 : List (jm_M × List (Nat × Instr × Nat)) := [(jMt112, jC112), (jMt113, jC113), (jMt114, jC114), (jMt115, jC115), (jMt116, jC116), (jMt117, jC117), (jMt118, jC118), (jMt119, jC119), (jMt120, jC120), (jMt121, jC121), (jMt122, jC122), (jMt123, jC123), (jMt124, jC124), (jMt125, jC125), (jMt126, jC126), (jMt127, jC127)]
theorem jDr7 : ∀ p ∈ jDz7, jm_okD p.1.2.2.1 p.2 = true := List.forall_mem_cons.mpr ⟨jD112, List.forall_mem_cons.mpr ⟨jD113, List.forall_mem_cons.mpr ⟨jD114, List.forall_mem_cons.mpr ⟨jD115, List.forall_mem_cons.mpr ⟨jD116, List.forall_mem_cons.mpr ⟨jD117, List.forall_mem_cons.mpr ⟨jD118, List.forall_mem_cons.mpr ⟨jD119, List.forall_mem_cons.mpr ⟨jD120, List.forall_mem_cons.mpr ⟨jD121, List.forall_mem_cons.mpr ⟨jD122, List.forall_mem_cons.mpr ⟨jD123, List.forall_mem_cons.mpr ⟨jD124, List.forall_mem_cons.mpr ⟨jD125, List.forall_mem_cons.mpr ⟨jD126, List.forall_mem_cons.mpr ⟨jD127, fun _ h => absurd h List.not_mem_nil⟩⟩⟩⟩⟩⟩⟩⟩⟩⟩⟩⟩⟩⟩⟩⟩
def jDz8 : List (jm_M × List (Nat × Instr × Nat)) := [(jMt128, jC128), (jMt129, jC129), (jMt130, jC130), (jMt131, jC131), (jMt132, jC132), (jMt133, jC133), (jMt134, jC134), (jMt135, jC135), (jMt136, jC136), (jMt137, jC137), (jMt138, jC138), (jMt139, jC139), (jMt140, jC140), (jMt141, jC141), (jMt142, jC142), (jMt143, jC143)]
theorem jDr8 : ∀ p ∈ jDz8, jm_okD p.1.2.2.1 p.2 = true := List.forall_mem_cons.mpr ⟨jD128, List.forall_mem_cons.mpr ⟨jD129, List.forall_mem_cons.mpr ⟨jD130, List.forall_mem_cons.mpr ⟨jD131, List.forall_mem_cons.mpr ⟨jD132, List.forall_mem_cons.mpr ⟨jD133, List.forall_mem_cons.mpr ⟨jD134, List.forall_mem_cons.mpr ⟨jD135, List.forall_mem_cons.mpr ⟨jD136, List.forall_mem_cons.mpr ⟨jD137, List.forall_mem_cons.mpr ⟨jD138, List.forall_mem_cons.mpr ⟨jD139, List.forall_mem_cons.mpr ⟨jD140, List.forall_mem_cons.mpr ⟨jD141, List.forall_mem_cons.mpr ⟨jD142, List.forall_mem_cons.mpr ⟨jD143, fun _ h => absurd h List.not_mem_nil⟩⟩⟩⟩⟩⟩⟩⟩⟩⟩⟩⟩⟩⟩⟩⟩
def jDz9 : List (jm_M × List (Nat × Instr × Nat)) := [(jMt144, jC144), (jMt145, jC145), (jMt146, jC146), (jMt147, jC147), (jMt148, jC148), (jMt149, jC149), (jMt150, jC150), (jMt151, jC151), (jMt152, jC152), (jMt153, jC153), (jMt154, jC154), (jMt155, jC155), (jMt156, jC156), (jMt157, jC157), (jMt158, jC158), (jMt159, jC159)]
theorem jDr9 : ∀ p ∈ jDz9, jm_okD p.1.2.2.1 p.2 = true := List.forall_mem_cons.mpr ⟨jD144, List.forall_mem_cons.mpr ⟨jD145, List.forall_mem_cons.mpr ⟨jD146, List.forall_mem_cons.mpr ⟨jD147, List.forall_mem_cons.mpr ⟨jD148, List.forall_mem_cons.mpr ⟨jD149, List.forall_mem_cons.mpr ⟨jD150, List.forall_mem_cons.mpr ⟨jD151, List.forall_mem_cons.mpr ⟨jD152, List.forall_mem_cons.mpr ⟨jD153, List.forall_mem_cons.mpr ⟨jD154, List.forall_mem_cons.mpr ⟨jD155, List.forall_mem_cons.mpr ⟨jD156, List.forall_mem_cons.mpr ⟨jD157, List.forall_mem_cons.mpr ⟨jD158, List.forall_mem_cons.mpr ⟨jD159, fun _ h => absurd h List.not_mem_nil⟩⟩⟩⟩⟩⟩⟩⟩⟩⟩⟩⟩⟩⟩⟩⟩
def jDz10 : List (jm_M × List (Nat × Instr × Nat)) := [(jMt160, jC160), (jMt161, jC161), (jMt162, jC162), (jMt163, jC163), (jMt164, jC164), (jMt165, jC165), (jMt166, jC166), (jMt167, jC167), (jMt168, jC168), (jMt169, jC169), (jMt170, jC170), (jMt171, jC171), (jMt172, jC172), (jMt173, jC173), (jMt174, jC174), (jMt175, jC175)]
theorem jDr10 : ∀ p ∈ jDz10, jm_okD p.1.2.2.1 p.2 = true := List.forall_mem_cons.mpr ⟨jD160, List.forall_mem_cons.mpr ⟨jD161, List.forall_mem_cons.mpr ⟨jD162, List.forall_mem_cons.mpr ⟨jD163, List.forall_mem_cons.mpr ⟨jD164, List.forall_mem_cons.mpr ⟨jD165, List.forall_mem_cons.mpr ⟨jD166, List.forall_mem_cons.mpr ⟨jD167, List.forall_mem_cons.mpr ⟨jD168, List.forall_mem_cons.mpr ⟨jD169, List.forall_mem_cons.mpr ⟨jD170, List.forall_mem_cons.mpr ⟨jD171, List.forall_mem_cons.mpr ⟨jD172, List.forall_mem_cons.mpr ⟨jD173, List.forall_mem_cons.mpr ⟨jD174, List.forall_mem_cons.mpr ⟨jD175, fun _ h => absurd h List.not_mem_nil⟩⟩⟩⟩⟩⟩⟩⟩⟩⟩⟩⟩⟩⟩⟩⟩
def jDz11 : List (jm_M × List (Nat × Instr × Nat)) := [(jMt176, jC176), (jMt177, jC177), (jMt178, jC178), (jMt179, jC179), (jMt180, jC180), (jMt181, jC181), (jMt182, jC182), (jMt183, jC183), (jMt184, jC184), (jMt185, jC185), (jMt186, jC186), (jMt187, jC187), (jMt188, jC188), (jMt189, jC189), (jMt190, jC190), (jMt191, jC191)]
theorem jDr11 : ∀ p ∈ jDz11, jm_okD p.1.2.2.1 p.2 = true := List.forall_mem_cons.mpr ⟨jD176, List.forall_mem_cons.mpr ⟨jD177, List.forall_mem_cons.mpr ⟨jD178, List.forall_mem_cons.mpr ⟨jD179, List.forall_mem_cons.mpr ⟨jD180, List.forall_mem_cons.mpr ⟨jD181, List.forall_mem_cons.mpr ⟨jD182, List.forall_mem_cons.mpr ⟨jD183, List.forall_mem_cons.mpr ⟨jD184, List.forall_mem_cons.mpr ⟨jD185, List.forall_mem_cons.mpr ⟨jD186, List.forall_mem_cons.mpr ⟨jD187, List.forall_mem_cons.mpr ⟨jD188, List.forall_mem_cons.mpr ⟨jD189, List.forall_mem_cons.mpr ⟨jD190, List.forall_mem_cons.mpr ⟨jD191, fun _ h => absurd h List.not_mem_nil⟩⟩⟩⟩⟩⟩⟩⟩⟩⟩⟩⟩⟩⟩⟩⟩
def jDz12 : List (jm_M × List (Nat × Instr × Nat)) := [(jMt192, jC192), (jMt193, jC193), (jMt194, jC194), (jMt195, jC195), (jMt196, jC196), (jMt197, jC197), (jMt198, jC198), (jMt199, jC199), (jMt200, jC200), (jMt201, jC201)]
theorem jDr12 : ∀ p ∈ jDz12, jm_okD p.1.2.2.1 p.2 = true := List.forall_mem_cons.mpr ⟨jD192, List.forall_mem_cons.mpr ⟨jD193, List.forall_mem_cons.mpr ⟨jD194, List.forall_mem_cons.mpr ⟨jD195, List.forall_mem_cons.mpr ⟨jD196, List.forall_mem_cons.mpr ⟨jD197, List.forall_mem_cons.mpr ⟨jD198, List.forall_mem_cons.mpr ⟨jD199, List.forall_mem_cons.mpr ⟨jD200, List.forall_mem_cons.mpr ⟨jD201, fun _ h => absurd h List.not_mem_nil⟩⟩⟩⟩⟩⟩⟩⟩⟩⟩
set_option maxRecDepth 100000 in
def jDz : List (jm_M × List (Nat × Instr × Nat)) := jDz0 ++ (jDz1 ++ (jDz2 ++ (jDz3 ++ (jDz4 ++ (jDz5 ++ (jDz6 ++ (jDz7 ++ (jDz8 ++ (jDz9 ++ (jDz10 ++ (jDz11 ++ (jDz12))))))))))))
set_option maxRecDepth 100000 in
theorem jDz_eq : jDz = jm_mt.zip jm_codes := rfl
theorem jDr : ∀ p ∈ jDz, jm_okD p.1.2.2.1 p.2 = true := by
  show ∀ p ∈ jDz0 ++ (jDz1 ++ (jDz2 ++ (jDz3 ++ (jDz4 ++ (jDz5 ++ (jDz6 ++ (jDz7 ++ (jDz8 ++ (jDz9 ++ (jDz10 ++ (jDz11 ++ (jDz12)))))))))))), jm_okD p.1.2.2.1 p.2 = true
  exact List.forall_mem_append.mpr ⟨jDr0, List.forall_mem_append.mpr ⟨jDr1, List.forall_mem_append.mpr ⟨jDr2, List.forall_mem_append.mpr ⟨jDr3, List.forall_mem_append.mpr ⟨jDr4, List.forall_mem_append.mpr ⟨jDr5, List.forall_mem_append.mpr ⟨jDr6, List.forall_mem_append.mpr ⟨jDr7, List.forall_mem_append.mpr ⟨jDr8, List.forall_mem_append.mpr ⟨jDr9, List.forall_mem_append.mpr ⟨jDr10, List.forall_mem_append.mpr ⟨jDr11, jDr12⟩⟩⟩⟩⟩⟩⟩⟩⟩⟩⟩⟩
theorem jm_mt_len : jm_mt.length = 202 := by decide +kernel
theorem jm_codes_len : jm_codes.length = 202 := by decide +kernel
theorem jm_dec {m pc : Nat} {r : Instr × Nat} {mt : jm_M} (hm : jm_mt[m]? = some mt) (h : jm_code m pc = some r) : decode mt.2.2.1 pc = .ok r := by
  unfold jm_code at h
  cases hc : jm_codes[m]? with
  | none => rw [hc] at h; cases h
  | some l =>
    rw [hc] at h
    have hz : (mt, l) ∈ jDz := by
      rw [jDz_eq]
      refine List.mem_of_getElem? (i := m) ?_
      rw [List.getElem?_zip_eq_some]
      exact ⟨hm, hc⟩
    have h1 := jDr _ hz
    have h2 := List.all_eq_true.mp h1 _ (jm_lk_mem h)
    exact of_decide_eq_true h2
def jm_tg : List Cond := lw_tbl.filter goodWord
theorem jm_tg_of {i : Nat} {w : Cond} (h : lw_tbl[i]? = some w) (hg : goodWord w = true) : w ∈ jm_tg := List.mem_filter.mpr ⟨List.mem_of_getElem? h, hg⟩
theorem jm_tg_tbl {w : Cond} (h : w ∈ jm_tg) : w ∈ lw_tbl := (List.mem_filter.mp h).1
theorem jm_tg_good {w : Cond} (h : w ∈ jm_tg) : goodWord w = true := (List.mem_filter.mp h).2
def jm_okF (e : Nat × Nat × Nat × Nat × Nat) : Bool := match jm_own[e.1]?, jm_cl[e.2.2.1]? with
  | some own, some (C, T, N) => decide (e.2.2.2.1 < N) && (decide ((T e.2.2.2.1).1 = C) && (decide (lw_tbl[e.2.2.2.2]? = some (.fieldLink own e.2.1 C (T e.2.2.2.1).2.1 (T e.2.2.2.1).2.2.1)) || decide (lw_tbl[e.2.2.2.2]? = some (.fieldLinkNest own e.2.1 C (T e.2.2.2.1).2.1 (T e.2.2.2.1).2.2.1 "PopPan"))))
  | _, _ => false
theorem jm_okF_all : jm_fl.all jm_okF = true := by decide +kernel
def jm_okC (e : Nat × Nat × Int32 × Nat) : Bool := match jm_own[e.1]? with
  | some own => decide (lw_tbl[e.2.2.2]? = some (.constant own e.2.1 e.2.2.1))
  | _ => false
theorem jm_okC_all : jm_lc.all jm_okC = true := by decide +kernel
def jm_okL (e : Nat × Nat × Int64 × Nat) : Bool := match jm_own[e.1]? with
  | some own => decide (lw_tbl[e.2.2.2]? = some (.constantLong own e.2.1 e.2.2.1))
  | _ => false
theorem jm_okL_all : jm_ll.all jm_okL = true := by decide +kernel
def jm_okS (e : Nat × Nat × Nat × Nat) : Bool := match jm_own[e.1]?, jm_stv[e.2.2.1]? with
  | some own, some q => decide (lw_tbl[e.2.2.2]? = some (.fieldLink own e.2.1 "PopPan" q.1 "[I"))
  | _, _ => false
theorem jm_okS_all : jm_sl.all jm_okS = true := by decide +kernel
def jm_nn (k : Nat) : Option MethodName := match k with
  | 1000 => some arraycopyName
  | 1001 => some Lib.Math.max.name
  | 1002 => some Lib.Math.min.name
  | 1003 => some Lib.Math.abs.name
  | 1004 => some Lib.MathLoose.max_long.x
  | _ => none
theorem jm_w0 : Cond.native arraycopyName ∈ lw_tbl ∧ Cond.static arraycopyName ∈ lw_tbl ∧ Cond.initialized "java/lang/System" ∈ lw_tbl ∧ Cond.initialized "java/lang/Math" ∈ lw_tbl := by decide +kernel
theorem jm_w1 : Cond.static Lib.Math.max.name ∈ lw_tbl ∧ Cond.code Lib.Math.max.name Lib.Math.max.code 2 (some .int) ∈ lw_tbl := by decide +kernel
theorem jm_w2 : Cond.static Lib.Math.min.name ∈ lw_tbl ∧ Cond.code Lib.Math.min.name Lib.Math.min.code 2 (some .int) ∈ lw_tbl := by decide +kernel
theorem jm_w3 : Cond.static Lib.Math.abs.name ∈ lw_tbl ∧ Cond.code Lib.Math.abs.name Lib.Math.abs.code 1 (some .int) ∈ lw_tbl := by decide +kernel
theorem jm_w4 : Cond.static Lib.MathLoose.max_long.x ∈ lw_tbl ∧ Cond.code Lib.MathLoose.max_long.x Lib.MathLoose.max_long.code 4 (some .long) ∈ lw_tbl := by decide +kernel
def jm_okM (e : Nat × Nat × Nat × Nat) : Bool := match jm_own[e.1]? with
  | some own => match Nat.ble 1000 e.2.2.1 with
    | true => match jm_nn e.2.2.1 with
      | some y => decide (lw_tbl[e.2.2.2]? = some (.methodLink own e.2.1 y))
      | none => false
    | false => match jm_mt[e.2.2.1]? with
      | some mt => decide (lw_tbl[e.2.2.2]? = some (.methodLink own e.2.1 mt.2.1)) && decide (e.2.2.1 < 201)
      | none => false
  | _ => false
theorem jm_okM_all : jm_ml.all jm_okM = true := by decide +kernel
/-- what the tables say of a method that is called -/
def jm_okY (t : jm_M) : Bool := decide (jm_own[t.1]? = some t.2.1.cls) && (decide (t.2.2.2.1 ≤ 19) && (plainName t.2.1.cls && (decide (t.2.1.cls ≠ "java/lang/invoke/MethodHandle") && (decide (t.2.1.cls ≠ "java/lang/invoke/VarHandle") &&
  (decide ((parseMethodDescriptor t.2.1.desc).map (fun d => d.parameters.length) = some (if t.2.2.2.2.2.2.1 = true then t.2.2.2.2.2.2.2.1 else t.2.2.2.2.2.2.2.1 - 1)) && (decide (lw_tbl[t.2.2.2.2.2.2.2.2.2.2.2]? = some (.initialized t.2.1.cls)) &&
  (if t.2.2.2.2.2.2.1 = true then decide (lw_tbl[t.2.2.2.2.2.2.2.2.2.1]? = some (.static t.2.1)) else decide (lw_tbl[t.2.2.2.2.2.2.2.2.2.1]? = some (.instanceMethod t.2.1)) && (decide (lw_tbl[t.2.2.2.2.2.2.2.2.2.2.1]? = some (.selects t.2.1.cls t.2.1 t.2.1)) && decide (1 ≤ t.2.2.2.2.2.2.2.1)))))))))
theorem jm_okY_all : (jm_mt.take 201).all jm_okY = true := by decide +kernel
set_option maxRecDepth 100000 in
theorem jK0 : lw_tbl[350]? = some (.code jMt0.2.1 jMt0.2.2.1 jMt0.2.2.2.1 jMt0.2.2.2.2.1) := rfl
set_option maxRecDepth 100000 in
theorem jK1 : lw_tbl[353]? = some (.code jMt1.2.1 jMt1.2.2.1 jMt1.2.2.2.1 jMt1.2.2.2.2.1) := rfl
set_option maxRecDepth 100000 in
theorem jK2 : lw_tbl[356]? = some (.code jMt2.2.1 jMt2.2.2.1 jMt2.2.2.2.1 jMt2.2.2.2.2.1) := rfl
set_option maxRecDepth 100000 in
theorem jK3 : lw_tbl[359]? = some (.code jMt3.2.1 jMt3.2.2.1 jMt3.2.2.2.1 jMt3.2.2.2.2.1) := rfl
set_option maxRecDepth 100000 in
theorem jK4 : lw_tbl[367]? = some (.code jMt4.2.1 jMt4.2.2.1 jMt4.2.2.2.1 jMt4.2.2.2.2.1) := rfl
set_option maxRecDepth 100000 in
theorem jK5 : lw_tbl[371]? = some (.code jMt5.2.1 jMt5.2.2.1 jMt5.2.2.2.1 jMt5.2.2.2.2.1) := rfl
set_option maxRecDepth 100000 in
theorem jK6 : lw_tbl[375]? = some (.code jMt6.2.1 jMt6.2.2.1 jMt6.2.2.2.1 jMt6.2.2.2.2.1) := rfl
set_option maxRecDepth 100000 in
theorem jK7 : lw_tbl[379]? = some (.code jMt7.2.1 jMt7.2.2.1 jMt7.2.2.2.1 jMt7.2.2.2.2.1) := rfl
set_option maxRecDepth 100000 in
theorem jK8 : lw_tbl[383]? = some (.code jMt8.2.1 jMt8.2.2.1 jMt8.2.2.2.1 jMt8.2.2.2.2.1) := rfl
set_option maxRecDepth 100000 in
theorem jK9 : lw_tbl[387]? = some (.code jMt9.2.1 jMt9.2.2.1 jMt9.2.2.2.1 jMt9.2.2.2.2.1) := rfl
set_option maxRecDepth 100000 in
theorem jK10 : lw_tbl[391]? = some (.code jMt10.2.1 jMt10.2.2.1 jMt10.2.2.2.1 jMt10.2.2.2.2.1) := rfl
set_option maxRecDepth 100000 in
theorem jK11 : lw_tbl[395]? = some (.code jMt11.2.1 jMt11.2.2.1 jMt11.2.2.2.1 jMt11.2.2.2.2.1) := rfl
set_option maxRecDepth 100000 in
theorem jK12 : lw_tbl[399]? = some (.code jMt12.2.1 jMt12.2.2.1 jMt12.2.2.2.1 jMt12.2.2.2.2.1) := rfl
set_option maxRecDepth 100000 in
theorem jK13 : lw_tbl[404]? = some (.code jMt13.2.1 jMt13.2.2.1 jMt13.2.2.2.1 jMt13.2.2.2.2.1) := rfl
set_option maxRecDepth 100000 in
theorem jK14 : lw_tbl[408]? = some (.code jMt14.2.1 jMt14.2.2.1 jMt14.2.2.2.1 jMt14.2.2.2.2.1) := rfl
set_option maxRecDepth 100000 in
theorem jK15 : lw_tbl[416]? = some (.code jMt15.2.1 jMt15.2.2.1 jMt15.2.2.2.1 jMt15.2.2.2.2.1) := rfl
set_option maxRecDepth 100000 in
theorem jK16 : lw_tbl[420]? = some (.code jMt16.2.1 jMt16.2.2.1 jMt16.2.2.2.1 jMt16.2.2.2.2.1) := rfl
set_option maxRecDepth 100000 in
theorem jK17 : lw_tbl[424]? = some (.code jMt17.2.1 jMt17.2.2.1 jMt17.2.2.2.1 jMt17.2.2.2.2.1) := rfl
set_option maxRecDepth 100000 in
theorem jK18 : lw_tbl[428]? = some (.code jMt18.2.1 jMt18.2.2.1 jMt18.2.2.2.1 jMt18.2.2.2.2.1) := rfl
set_option maxRecDepth 100000 in
theorem jK19 : lw_tbl[432]? = some (.code jMt19.2.1 jMt19.2.2.1 jMt19.2.2.2.1 jMt19.2.2.2.2.1) := rfl
set_option maxRecDepth 100000 in
theorem jK20 : lw_tbl[436]? = some (.code jMt20.2.1 jMt20.2.2.1 jMt20.2.2.2.1 jMt20.2.2.2.2.1) := rfl
set_option maxRecDepth 100000 in
theorem jK21 : lw_tbl[439]? = some (.code jMt21.2.1 jMt21.2.2.1 jMt21.2.2.2.1 jMt21.2.2.2.2.1) := rfl
set_option maxRecDepth 100000 in
theorem jK22 : lw_tbl[443]? = some (.code jMt22.2.1 jMt22.2.2.1 jMt22.2.2.2.1 jMt22.2.2.2.2.1) := rfl
set_option maxRecDepth 100000 in
theorem jK23 : lw_tbl[447]? = some (.code jMt23.2.1 jMt23.2.2.1 jMt23.2.2.2.1 jMt23.2.2.2.2.1) := rfl
set_option maxRecDepth 100000 in
theorem jK24 : lw_tbl[451]? = some (.code jMt24.2.1 jMt24.2.2.1 jMt24.2.2.2.1 jMt24.2.2.2.2.1) := rfl
set_option maxRecDepth 100000 in
theorem jK25 : lw_tbl[455]? = some (.code jMt25.2.1 jMt25.2.2.1 jMt25.2.2.2.1 jMt25.2.2.2.2.1) := rfl
set_option maxRecDepth 100000 in
theorem jK26 : lw_tbl[459]? = some (.code jMt26.2.1 jMt26.2.2.1 jMt26.2.2.2.1 jMt26.2.2.2.2.1) := rfl
set_option maxRecDepth 100000 in
theorem jK27 : lw_tbl[463]? = some (.code jMt27.2.1 jMt27.2.2.1 jMt27.2.2.2.1 jMt27.2.2.2.2.1) := rfl
set_option maxRecDepth 100000 in
theorem jK28 : lw_tbl[467]? = some (.code jMt28.2.1 jMt28.2.2.1 jMt28.2.2.2.1 jMt28.2.2.2.2.1) := rfl
set_option maxRecDepth 100000 in
theorem jK29 : lw_tbl[472]? = some (.code jMt29.2.1 jMt29.2.2.1 jMt29.2.2.2.1 jMt29.2.2.2.2.1) := rfl
set_option maxRecDepth 100000 in
theorem jK30 : lw_tbl[477]? = some (.code jMt30.2.1 jMt30.2.2.1 jMt30.2.2.2.1 jMt30.2.2.2.2.1) := rfl
set_option maxRecDepth 100000 in
theorem jK31 : lw_tbl[482]? = some (.code jMt31.2.1 jMt31.2.2.1 jMt31.2.2.2.1 jMt31.2.2.2.2.1) := rfl
set_option maxRecDepth 100000 in
theorem jK32 : lw_tbl[487]? = some (.code jMt32.2.1 jMt32.2.2.1 jMt32.2.2.2.1 jMt32.2.2.2.2.1) := rfl
set_option maxRecDepth 100000 in
theorem jK33 : lw_tbl[498]? = some (.code jMt33.2.1 jMt33.2.2.1 jMt33.2.2.2.1 jMt33.2.2.2.2.1) := rfl
set_option maxRecDepth 100000 in
theorem jK34 : lw_tbl[502]? = some (.code jMt34.2.1 jMt34.2.2.1 jMt34.2.2.2.1 jMt34.2.2.2.2.1) := rfl
set_option maxRecDepth 100000 in
theorem jK35 : lw_tbl[506]? = some (.code jMt35.2.1 jMt35.2.2.1 jMt35.2.2.2.1 jMt35.2.2.2.2.1) := rfl
set_option maxRecDepth 100000 in
theorem jK36 : lw_tbl[510]? = some (.code jMt36.2.1 jMt36.2.2.1 jMt36.2.2.2.1 jMt36.2.2.2.2.1) := rfl
set_option maxRecDepth 100000 in
theorem jK37 : lw_tbl[514]? = some (.code jMt37.2.1 jMt37.2.2.1 jMt37.2.2.2.1 jMt37.2.2.2.2.1) := rfl
set_option maxRecDepth 100000 in
theorem jK38 : lw_tbl[518]? = some (.code jMt38.2.1 jMt38.2.2.1 jMt38.2.2.2.1 jMt38.2.2.2.2.1) := rfl
set_option maxRecDepth 100000 in
theorem jK39 : lw_tbl[524]? = some (.code jMt39.2.1 jMt39.2.2.1 jMt39.2.2.2.1 jMt39.2.2.2.2.1) := rfl
set_option maxRecDepth 100000 in
theorem jK40 : lw_tbl[528]? = some (.code jMt40.2.1 jMt40.2.2.1 jMt40.2.2.2.1 jMt40.2.2.2.2.1) := rfl
set_option maxRecDepth 100000 in
theorem jK41 : lw_tbl[532]? = some (.code jMt41.2.1 jMt41.2.2.1 jMt41.2.2.2.1 jMt41.2.2.2.2.1) := rfl
set_option maxRecDepth 100000 in
theorem jK42 : lw_tbl[536]? = some (.code jMt42.2.1 jMt42.2.2.1 jMt42.2.2.2.1 jMt42.2.2.2.2.1) := rfl
set_option maxRecDepth 100000 in
theorem jK43 : lw_tbl[540]? = some (.code jMt43.2.1 jMt43.2.2.1 jMt43.2.2.2.1 jMt43.2.2.2.2.1) := rfl
set_option maxRecDepth 100000 in
theorem jK44 : lw_tbl[547]? = some (.code jMt44.2.1 jMt44.2.2.1 jMt44.2.2.2.1 jMt44.2.2.2.2.1) := rfl
set_option maxRecDepth 100000 in
theorem jK45 : lw_tbl[551]? = some (.code jMt45.2.1 jMt45.2.2.1 jMt45.2.2.2.1 jMt45.2.2.2.2.1) := rfl
set_option maxRecDepth 100000 in
theorem jK46 : lw_tbl[558]? = some (.code jMt46.2.1 jMt46.2.2.1 jMt46.2.2.2.1 jMt46.2.2.2.2.1) := rfl
set_option maxRecDepth 100000 in
theorem jK47 : lw_tbl[562]? = some (.code jMt47.2.1 jMt47.2.2.1 jMt47.2.2.2.1 jMt47.2.2.2.2.1) := rfl
set_option maxRecDepth 100000 in
theorem jK48 : lw_tbl[566]? = some (.code jMt48.2.1 jMt48.2.2.1 jMt48.2.2.2.1 jMt48.2.2.2.2.1) := rfl
set_option maxRecDepth 100000 in
theorem jK49 : lw_tbl[570]? = some (.code jMt49.2.1 jMt49.2.2.1 jMt49.2.2.2.1 jMt49.2.2.2.2.1) := rfl
set_option maxRecDepth 100000 in
theorem jK50 : lw_tbl[574]? = some (.code jMt50.2.1 jMt50.2.2.1 jMt50.2.2.2.1 jMt50.2.2.2.2.1) := rfl
set_option maxRecDepth 100000 in
theorem jK51 : lw_tbl[578]? = some (.code jMt51.2.1 jMt51.2.2.1 jMt51.2.2.2.1 jMt51.2.2.2.2.1) := rfl
set_option maxRecDepth 100000 in
theorem jK52 : lw_tbl[582]? = some (.code jMt52.2.1 jMt52.2.2.1 jMt52.2.2.2.1 jMt52.2.2.2.2.1) := rfl
set_option maxRecDepth 100000 in
theorem jK53 : lw_tbl[586]? = some (.code jMt53.2.1 jMt53.2.2.1 jMt53.2.2.2.1 jMt53.2.2.2.2.1) := rfl
set_option maxRecDepth 100000 in
theorem jK54 : lw_tbl[590]? = some (.code jMt54.2.1 jMt54.2.2.1 jMt54.2.2.2.1 jMt54.2.2.2.2.1) := rfl
set_option maxRecDepth 100000 in
theorem jK55 : lw_tbl[595]? = some (.code jMt55.2.1 jMt55.2.2.1 jMt55.2.2.2.1 jMt55.2.2.2.2.1) := rfl
set_option maxRecDepth 100000 in
theorem jK56 : lw_tbl[600]? = some (.code jMt56.2.1 jMt56.2.2.1 jMt56.2.2.2.1 jMt56.2.2.2.2.1) := rfl
set_option maxRecDepth 100000 in
theorem jK57 : lw_tbl[605]? = some (.code jMt57.2.1 jMt57.2.2.1 jMt57.2.2.2.1 jMt57.2.2.2.2.1) := rfl
set_option maxRecDepth 100000 in
theorem jK58 : lw_tbl[610]? = some (.code jMt58.2.1 jMt58.2.2.1 jMt58.2.2.2.1 jMt58.2.2.2.2.1) := rfl
set_option maxRecDepth 100000 in
theorem jK59 : lw_tbl[614]? = some (.code jMt59.2.1 jMt59.2.2.1 jMt59.2.2.2.1 jMt59.2.2.2.2.1) := rfl
set_option maxRecDepth 100000 in
theorem jK60 : lw_tbl[619]? = some (.code jMt60.2.1 jMt60.2.2.1 jMt60.2.2.2.1 jMt60.2.2.2.2.1) := rfl
set_option maxRecDepth 100000 in
theorem jK61 : lw_tbl[623]? = some (.code jMt61.2.1 jMt61.2.2.1 jMt61.2.2.2.1 jMt61.2.2.2.2.1) := rfl
set_option maxRecDepth 100000 in
theorem jK62 : lw_tbl[627]? = some (.code jMt62.2.1 jMt62.2.2.1 jMt62.2.2.2.1 jMt62.2.2.2.2.1) := rfl
set_option maxRecDepth 100000 in
theorem jK63 : lw_tbl[631]? = some (.code jMt63.2.1 jMt63.2.2.1 jMt63.2.2.2.1 jMt63.2.2.2.2.1) := rfl
set_option maxRecDepth 100000 in
theorem jK64 : lw_tbl[635]? = some (.code jMt64.2.1 jMt64.2.2.1 jMt64.2.2.2.1 jMt64.2.2.2.2.1) := rfl
set_option maxRecDepth 100000 in
theorem jK65 : lw_tbl[639]? = some (.code jMt65.2.1 jMt65.2.2.1 jMt65.2.2.2.1 jMt65.2.2.2.2.1) := rfl
set_option maxRecDepth 100000 in
theorem jK66 : lw_tbl[643]? = some (.code jMt66.2.1 jMt66.2.2.1 jMt66.2.2.2.1 jMt66.2.2.2.2.1) := rfl
set_option maxRecDepth 100000 in
theorem jK67 : lw_tbl[647]? = some (.code jMt67.2.1 jMt67.2.2.1 jMt67.2.2.2.1 jMt67.2.2.2.2.1) := rfl
set_option maxRecDepth 100000 in
theorem jK68 : lw_tbl[651]? = some (.code jMt68.2.1 jMt68.2.2.1 jMt68.2.2.2.1 jMt68.2.2.2.2.1) := rfl
set_option maxRecDepth 100000 in
theorem jK69 : lw_tbl[655]? = some (.code jMt69.2.1 jMt69.2.2.1 jMt69.2.2.2.1 jMt69.2.2.2.2.1) := rfl
set_option maxRecDepth 100000 in
theorem jK70 : lw_tbl[659]? = some (.code jMt70.2.1 jMt70.2.2.1 jMt70.2.2.2.1 jMt70.2.2.2.2.1) := rfl
set_option maxRecDepth 100000 in
theorem jK71 : lw_tbl[663]? = some (.code jMt71.2.1 jMt71.2.2.1 jMt71.2.2.2.1 jMt71.2.2.2.2.1) := rfl
set_option maxRecDepth 100000 in
theorem jK72 : lw_tbl[667]? = some (.code jMt72.2.1 jMt72.2.2.1 jMt72.2.2.2.1 jMt72.2.2.2.2.1) := rfl
set_option maxRecDepth 100000 in
theorem jK73 : lw_tbl[671]? = some (.code jMt73.2.1 jMt73.2.2.1 jMt73.2.2.2.1 jMt73.2.2.2.2.1) := rfl
set_option maxRecDepth 100000 in
theorem jK74 : lw_tbl[675]? = some (.code jMt74.2.1 jMt74.2.2.1 jMt74.2.2.2.1 jMt74.2.2.2.2.1) := rfl
set_option maxRecDepth 100000 in
theorem jK75 : lw_tbl[679]? = some (.code jMt75.2.1 jMt75.2.2.1 jMt75.2.2.2.1 jMt75.2.2.2.2.1) := rfl
set_option maxRecDepth 100000 in
theorem jK76 : lw_tbl[683]? = some (.code jMt76.2.1 jMt76.2.2.1 jMt76.2.2.2.1 jMt76.2.2.2.2.1) := rfl
set_option maxRecDepth 100000 in
theorem jK77 : lw_tbl[688]? = some (.code jMt77.2.1 jMt77.2.2.1 jMt77.2.2.2.1 jMt77.2.2.2.2.1) := rfl
set_option maxRecDepth 100000 in
theorem jK78 : lw_tbl[692]? = some (.code jMt78.2.1 jMt78.2.2.1 jMt78.2.2.2.1 jMt78.2.2.2.2.1) := rfl
set_option maxRecDepth 100000 in
theorem jK79 : lw_tbl[696]? = some (.code jMt79.2.1 jMt79.2.2.1 jMt79.2.2.2.1 jMt79.2.2.2.2.1) := rfl
set_option maxRecDepth 100000 in
theorem jK80 : lw_tbl[700]? = some (.code jMt80.2.1 jMt80.2.2.1 jMt80.2.2.2.1 jMt80.2.2.2.2.1) := rfl
set_option maxRecDepth 100000 in
theorem jK81 : lw_tbl[704]? = some (.code jMt81.2.1 jMt81.2.2.1 jMt81.2.2.2.1 jMt81.2.2.2.2.1) := rfl
set_option maxRecDepth 100000 in
theorem jK82 : lw_tbl[708]? = some (.code jMt82.2.1 jMt82.2.2.1 jMt82.2.2.2.1 jMt82.2.2.2.2.1) := rfl
set_option maxRecDepth 100000 in
theorem jK83 : lw_tbl[711]? = some (.code jMt83.2.1 jMt83.2.2.1 jMt83.2.2.2.1 jMt83.2.2.2.2.1) := rfl
set_option maxRecDepth 100000 in
theorem jK84 : lw_tbl[714]? = some (.code jMt84.2.1 jMt84.2.2.1 jMt84.2.2.2.1 jMt84.2.2.2.2.1) := rfl
set_option maxRecDepth 100000 in
theorem jK85 : lw_tbl[721]? = some (.code jMt85.2.1 jMt85.2.2.1 jMt85.2.2.2.1 jMt85.2.2.2.2.1) := rfl
set_option maxRecDepth 100000 in
theorem jK86 : lw_tbl[725]? = some (.code jMt86.2.1 jMt86.2.2.1 jMt86.2.2.2.1 jMt86.2.2.2.2.1) := rfl
set_option maxRecDepth 100000 in
theorem jK87 : lw_tbl[728]? = some (.code jMt87.2.1 jMt87.2.2.1 jMt87.2.2.2.1 jMt87.2.2.2.2.1) := rfl
set_option maxRecDepth 100000 in
theorem jK88 : lw_tbl[732]? = some (.code jMt88.2.1 jMt88.2.2.1 jMt88.2.2.2.1 jMt88.2.2.2.2.1) := rfl
set_option maxRecDepth 100000 in
theorem jK89 : lw_tbl[735]? = some (.code jMt89.2.1 jMt89.2.2.1 jMt89.2.2.2.1 jMt89.2.2.2.2.1) := rfl
set_option maxRecDepth 100000 in
theorem jK90 : lw_tbl[738]? = some (.code jMt90.2.1 jMt90.2.2.1 jMt90.2.2.2.1 jMt90.2.2.2.2.1) := rfl
set_option maxRecDepth 100000 in
theorem jK91 : lw_tbl[745]? = some (.code jMt91.2.1 jMt91.2.2.1 jMt91.2.2.2.1 jMt91.2.2.2.2.1) := rfl
set_option maxRecDepth 100000 in
theorem jK92 : lw_tbl[748]? = some (.code jMt92.2.1 jMt92.2.2.1 jMt92.2.2.2.1 jMt92.2.2.2.2.1) := rfl
set_option maxRecDepth 100000 in
theorem jK93 : lw_tbl[753]? = some (.code jMt93.2.1 jMt93.2.2.1 jMt93.2.2.2.1 jMt93.2.2.2.2.1) := rfl
set_option maxRecDepth 100000 in
theorem jK94 : lw_tbl[757]? = some (.code jMt94.2.1 jMt94.2.2.1 jMt94.2.2.2.1 jMt94.2.2.2.2.1) := rfl
set_option maxRecDepth 100000 in
theorem jK95 : lw_tbl[761]? = some (.code jMt95.2.1 jMt95.2.2.1 jMt95.2.2.2.1 jMt95.2.2.2.2.1) := rfl
set_option maxRecDepth 100000 in
theorem jK96 : lw_tbl[765]? = some (.code jMt96.2.1 jMt96.2.2.1 jMt96.2.2.2.1 jMt96.2.2.2.2.1) := rfl
set_option maxRecDepth 100000 in
theorem jK97 : lw_tbl[769]? = some (.code jMt97.2.1 jMt97.2.2.1 jMt97.2.2.2.1 jMt97.2.2.2.2.1) := rfl
set_option maxRecDepth 100000 in
theorem jK98 : lw_tbl[773]? = some (.code jMt98.2.1 jMt98.2.2.1 jMt98.2.2.2.1 jMt98.2.2.2.2.1) := rfl
set_option maxRecDepth 100000 in
theorem jK99 : lw_tbl[777]? = some (.code jMt99.2.1 jMt99.2.2.1 jMt99.2.2.2.1 jMt99.2.2.2.2.1) := rfl
set_option maxRecDepth 100000 in
theorem jK100 : lw_tbl[781]? = some (.code jMt100.2.1 jMt100.2.2.1 jMt100.2.2.2.1 jMt100.2.2.2.2.1) := rfl
set_option maxRecDepth 100000 in
theorem jK101 : lw_tbl[787]? = some (.code jMt101.2.1 jMt101.2.2.1 jMt101.2.2.2.1 jMt101.2.2.2.2.1) := rfl
set_option maxRecDepth 100000 in
theorem jK102 : lw_tbl[791]? = some (.code jMt102.2.1 jMt102.2.2.1 jMt102.2.2.2.1 jMt102.2.2.2.2.1) := rfl
set_option maxRecDepth 100000 in
theorem jK103 : lw_tbl[795]? = some (.code jMt103.2.1 jMt103.2.2.1 jMt103.2.2.2.1 jMt103.2.2.2.2.1) := rfl
set_option maxRecDepth 100000 in
theorem jK104 : lw_tbl[800]? = some (.code jMt104.2.1 jMt104.2.2.1 jMt104.2.2.2.1 jMt104.2.2.2.2.1) := rfl
set_option maxRecDepth 100000 in
theorem jK105 : lw_tbl[804]? = some (.code jMt105.2.1 jMt105.2.2.1 jMt105.2.2.2.1 jMt105.2.2.2.2.1) := rfl
set_option maxRecDepth 100000 in
theorem jK106 : lw_tbl[808]? = some (.code jMt106.2.1 jMt106.2.2.1 jMt106.2.2.2.1 jMt106.2.2.2.2.1) := rfl
set_option maxRecDepth 100000 in
theorem jK107 : lw_tbl[813]? = some (.code jMt107.2.1 jMt107.2.2.1 jMt107.2.2.2.1 jMt107.2.2.2.2.1) := rfl
set_option maxRecDepth 100000 in
theorem jK108 : lw_tbl[817]? = some (.code jMt108.2.1 jMt108.2.2.1 jMt108.2.2.2.1 jMt108.2.2.2.2.1) := rfl
set_option maxRecDepth 100000 in
theorem jK109 : lw_tbl[822]? = some (.code jMt109.2.1 jMt109.2.2.1 jMt109.2.2.2.1 jMt109.2.2.2.2.1) := rfl
set_option maxRecDepth 100000 in
theorem jK110 : lw_tbl[826]? = some (.code jMt110.2.1 jMt110.2.2.1 jMt110.2.2.2.1 jMt110.2.2.2.2.1) := rfl
set_option maxRecDepth 100000 in
theorem jK111 : lw_tbl[831]? = some (.code jMt111.2.1 jMt111.2.2.1 jMt111.2.2.2.1 jMt111.2.2.2.2.1) := rfl
set_option maxRecDepth 100000 in
theorem jK112 : lw_tbl[836]? = some (.code jMt112.2.1 jMt112.2.2.1 jMt112.2.2.2.1 jMt112.2.2.2.2.1) := rfl
set_option maxRecDepth 100000 in
theorem jK113 : lw_tbl[840]? = some (.code jMt113.2.1 jMt113.2.2.1 jMt113.2.2.2.1 jMt113.2.2.2.2.1) := rfl
set_option maxRecDepth 100000 in
theorem jK114 : lw_tbl[845]? = some (.code jMt114.2.1 jMt114.2.2.1 jMt114.2.2.2.1 jMt114.2.2.2.2.1) := rfl
set_option maxRecDepth 100000 in
theorem jK115 : lw_tbl[852]? = some (.code jMt115.2.1 jMt115.2.2.1 jMt115.2.2.2.1 jMt115.2.2.2.2.1) := rfl
set_option maxRecDepth 100000 in
theorem jK116 : lw_tbl[856]? = some (.code jMt116.2.1 jMt116.2.2.1 jMt116.2.2.2.1 jMt116.2.2.2.2.1) := rfl
set_option maxRecDepth 100000 in
theorem jK117 : lw_tbl[860]? = some (.code jMt117.2.1 jMt117.2.2.1 jMt117.2.2.2.1 jMt117.2.2.2.2.1) := rfl
set_option maxRecDepth 100000 in
theorem jK118 : lw_tbl[988]? = some (.code jMt118.2.1 jMt118.2.2.1 jMt118.2.2.2.1 jMt118.2.2.2.2.1) := rfl
set_option maxRecDepth 100000 in
theorem jK119 : lw_tbl[991]? = some (.code jMt119.2.1 jMt119.2.2.1 jMt119.2.2.2.1 jMt119.2.2.2.2.1) := rfl
set_option maxRecDepth 100000 in
theorem jK120 : lw_tbl[995]? = some (.code jMt120.2.1 jMt120.2.2.1 jMt120.2.2.2.1 jMt120.2.2.2.2.1) := rfl
set_option maxRecDepth 100000 in
theorem jK121 : lw_tbl[1000]? = some (.code jMt121.2.1 jMt121.2.2.1 jMt121.2.2.2.1 jMt121.2.2.2.2.1) := rfl
set_option maxRecDepth 100000 in
theorem jK122 : lw_tbl[1004]? = some (.code jMt122.2.1 jMt122.2.2.1 jMt122.2.2.2.1 jMt122.2.2.2.2.1) := rfl
set_option maxRecDepth 100000 in
theorem jK123 : lw_tbl[1008]? = some (.code jMt123.2.1 jMt123.2.2.1 jMt123.2.2.2.1 jMt123.2.2.2.2.1) := rfl
set_option maxRecDepth 100000 in
theorem jK124 : lw_tbl[1012]? = some (.code jMt124.2.1 jMt124.2.2.1 jMt124.2.2.2.1 jMt124.2.2.2.2.1) := rfl
set_option maxRecDepth 100000 in
theorem jK125 : lw_tbl[1015]? = some (.code jMt125.2.1 jMt125.2.2.1 jMt125.2.2.2.1 jMt125.2.2.2.2.1) := rfl
set_option maxRecDepth 100000 in
theorem jK126 : lw_tbl[1019]? = some (.code jMt126.2.1 jMt126.2.2.1 jMt126.2.2.2.1 jMt126.2.2.2.2.1) := rfl
set_option maxRecDepth 100000 in
theorem jK127 : lw_tbl[1024]? = some (.code jMt127.2.1 jMt127.2.2.1 jMt127.2.2.2.1 jMt127.2.2.2.2.1) := rfl
set_option maxRecDepth 100000 in
theorem jK128 : lw_tbl[1028]? = some (.code jMt128.2.1 jMt128.2.2.1 jMt128.2.2.2.1 jMt128.2.2.2.2.1) := rfl
set_option maxRecDepth 100000 in
theorem jK129 : lw_tbl[1031]? = some (.code jMt129.2.1 jMt129.2.2.1 jMt129.2.2.2.1 jMt129.2.2.2.2.1) := rfl
set_option maxRecDepth 100000 in
theorem jK130 : lw_tbl[1034]? = some (.code jMt130.2.1 jMt130.2.2.1 jMt130.2.2.2.1 jMt130.2.2.2.2.1) := rfl
set_option maxRecDepth 100000 in
theorem jK131 : lw_tbl[1041]? = some (.code jMt131.2.1 jMt131.2.2.1 jMt131.2.2.2.1 jMt131.2.2.2.2.1) := rfl
set_option maxRecDepth 100000 in
theorem jK132 : lw_tbl[1046]? = some (.code jMt132.2.1 jMt132.2.2.1 jMt132.2.2.2.1 jMt132.2.2.2.2.1) := rfl
set_option maxRecDepth 100000 in
theorem jK133 : lw_tbl[1050]? = some (.code jMt133.2.1 jMt133.2.2.1 jMt133.2.2.2.1 jMt133.2.2.2.2.1) := rfl
set_option maxRecDepth 100000 in
theorem jK134 : lw_tbl[1054]? = some (.code jMt134.2.1 jMt134.2.2.1 jMt134.2.2.2.1 jMt134.2.2.2.2.1) := rfl
set_option maxRecDepth 100000 in
theorem jK135 : lw_tbl[1058]? = some (.code jMt135.2.1 jMt135.2.2.1 jMt135.2.2.2.1 jMt135.2.2.2.2.1) := rfl
set_option maxRecDepth 100000 in
theorem jK136 : lw_tbl[1064]? = some (.code jMt136.2.1 jMt136.2.2.1 jMt136.2.2.2.1 jMt136.2.2.2.2.1) := rfl
set_option maxRecDepth 100000 in
theorem jK137 : lw_tbl[1067]? = some (.code jMt137.2.1 jMt137.2.2.1 jMt137.2.2.2.1 jMt137.2.2.2.2.1) := rfl
set_option maxRecDepth 100000 in
theorem jK138 : lw_tbl[1072]? = some (.code jMt138.2.1 jMt138.2.2.1 jMt138.2.2.2.1 jMt138.2.2.2.2.1) := rfl
set_option maxRecDepth 100000 in
theorem jK139 : lw_tbl[1076]? = some (.code jMt139.2.1 jMt139.2.2.1 jMt139.2.2.2.1 jMt139.2.2.2.2.1) := rfl
set_option maxRecDepth 100000 in
theorem jK140 : lw_tbl[1080]? = some (.code jMt140.2.1 jMt140.2.2.1 jMt140.2.2.2.1 jMt140.2.2.2.2.1) := rfl
set_option maxRecDepth 100000 in
theorem jK141 : lw_tbl[1084]? = some (.code jMt141.2.1 jMt141.2.2.1 jMt141.2.2.2.1 jMt141.2.2.2.2.1) := rfl
set_option maxRecDepth 100000 in
theorem jK142 : lw_tbl[1088]? = some (.code jMt142.2.1 jMt142.2.2.1 jMt142.2.2.2.1 jMt142.2.2.2.2.1) := rfl
set_option maxRecDepth 100000 in
theorem jK143 : lw_tbl[1092]? = some (.code jMt143.2.1 jMt143.2.2.1 jMt143.2.2.2.1 jMt143.2.2.2.2.1) := rfl
set_option maxRecDepth 100000 in
theorem jK144 : lw_tbl[1096]? = some (.code jMt144.2.1 jMt144.2.2.1 jMt144.2.2.2.1 jMt144.2.2.2.2.1) := rfl
set_option maxRecDepth 100000 in
theorem jK145 : lw_tbl[1100]? = some (.code jMt145.2.1 jMt145.2.2.1 jMt145.2.2.2.1 jMt145.2.2.2.2.1) := rfl
set_option maxRecDepth 100000 in
theorem jK146 : lw_tbl[1104]? = some (.code jMt146.2.1 jMt146.2.2.1 jMt146.2.2.2.1 jMt146.2.2.2.2.1) := rfl
set_option maxRecDepth 100000 in
theorem jK147 : lw_tbl[1110]? = some (.code jMt147.2.1 jMt147.2.2.1 jMt147.2.2.2.1 jMt147.2.2.2.2.1) := rfl
set_option maxRecDepth 100000 in
theorem jK148 : lw_tbl[1114]? = some (.code jMt148.2.1 jMt148.2.2.1 jMt148.2.2.2.1 jMt148.2.2.2.2.1) := rfl
set_option maxRecDepth 100000 in
theorem jK149 : lw_tbl[1119]? = some (.code jMt149.2.1 jMt149.2.2.1 jMt149.2.2.2.1 jMt149.2.2.2.2.1) := rfl
set_option maxRecDepth 100000 in
theorem jK150 : lw_tbl[1124]? = some (.code jMt150.2.1 jMt150.2.2.1 jMt150.2.2.2.1 jMt150.2.2.2.2.1) := rfl
set_option maxRecDepth 100000 in
theorem jK151 : lw_tbl[1128]? = some (.code jMt151.2.1 jMt151.2.2.1 jMt151.2.2.2.1 jMt151.2.2.2.2.1) := rfl
set_option maxRecDepth 100000 in
theorem jK152 : lw_tbl[1132]? = some (.code jMt152.2.1 jMt152.2.2.1 jMt152.2.2.2.1 jMt152.2.2.2.2.1) := rfl
set_option maxRecDepth 100000 in
theorem jK153 : lw_tbl[1136]? = some (.code jMt153.2.1 jMt153.2.2.1 jMt153.2.2.2.1 jMt153.2.2.2.2.1) := rfl
set_option maxRecDepth 100000 in
theorem jK154 : lw_tbl[1140]? = some (.code jMt154.2.1 jMt154.2.2.1 jMt154.2.2.2.1 jMt154.2.2.2.2.1) := rfl
set_option maxRecDepth 100000 in
theorem jK155 : lw_tbl[1144]? = some (.code jMt155.2.1 jMt155.2.2.1 jMt155.2.2.2.1 jMt155.2.2.2.2.1) := rfl
set_option maxRecDepth 100000 in
theorem jK156 : lw_tbl[1148]? = some (.code jMt156.2.1 jMt156.2.2.1 jMt156.2.2.2.1 jMt156.2.2.2.2.1) := rfl
set_option maxRecDepth 100000 in
theorem jK157 : lw_tbl[1152]? = some (.code jMt157.2.1 jMt157.2.2.1 jMt157.2.2.2.1 jMt157.2.2.2.2.1) := rfl
set_option maxRecDepth 100000 in
theorem jK158 : lw_tbl[1156]? = some (.code jMt158.2.1 jMt158.2.2.1 jMt158.2.2.2.1 jMt158.2.2.2.2.1) := rfl
set_option maxRecDepth 100000 in
theorem jK159 : lw_tbl[1160]? = some (.code jMt159.2.1 jMt159.2.2.1 jMt159.2.2.2.1 jMt159.2.2.2.2.1) := rfl
set_option maxRecDepth 100000 in
theorem jK160 : lw_tbl[1164]? = some (.code jMt160.2.1 jMt160.2.2.1 jMt160.2.2.2.1 jMt160.2.2.2.2.1) := rfl
set_option maxRecDepth 100000 in
theorem jK161 : lw_tbl[1168]? = some (.code jMt161.2.1 jMt161.2.2.1 jMt161.2.2.2.1 jMt161.2.2.2.2.1) := rfl
set_option maxRecDepth 100000 in
theorem jK162 : lw_tbl[1172]? = some (.code jMt162.2.1 jMt162.2.2.1 jMt162.2.2.2.1 jMt162.2.2.2.2.1) := rfl
set_option maxRecDepth 100000 in
theorem jK163 : lw_tbl[1175]? = some (.code jMt163.2.1 jMt163.2.2.1 jMt163.2.2.2.1 jMt163.2.2.2.2.1) := rfl
set_option maxRecDepth 100000 in
theorem jK164 : lw_tbl[1179]? = some (.code jMt164.2.1 jMt164.2.2.1 jMt164.2.2.2.1 jMt164.2.2.2.2.1) := rfl
set_option maxRecDepth 100000 in
theorem jK165 : lw_tbl[1182]? = some (.code jMt165.2.1 jMt165.2.2.1 jMt165.2.2.2.1 jMt165.2.2.2.2.1) := rfl
set_option maxRecDepth 100000 in
theorem jK166 : lw_tbl[1187]? = some (.code jMt166.2.1 jMt166.2.2.1 jMt166.2.2.2.1 jMt166.2.2.2.2.1) := rfl
set_option maxRecDepth 100000 in
theorem jK167 : lw_tbl[1191]? = some (.code jMt167.2.1 jMt167.2.2.1 jMt167.2.2.2.1 jMt167.2.2.2.2.1) := rfl
set_option maxRecDepth 100000 in
theorem jK168 : lw_tbl[1195]? = some (.code jMt168.2.1 jMt168.2.2.1 jMt168.2.2.2.1 jMt168.2.2.2.2.1) := rfl
set_option maxRecDepth 100000 in
theorem jK169 : lw_tbl[1199]? = some (.code jMt169.2.1 jMt169.2.2.1 jMt169.2.2.2.1 jMt169.2.2.2.2.1) := rfl
set_option maxRecDepth 100000 in
theorem jK170 : lw_tbl[1203]? = some (.code jMt170.2.1 jMt170.2.2.1 jMt170.2.2.2.1 jMt170.2.2.2.2.1) := rfl
set_option maxRecDepth 100000 in
theorem jK171 : lw_tbl[1207]? = some (.code jMt171.2.1 jMt171.2.2.1 jMt171.2.2.2.1 jMt171.2.2.2.2.1) := rfl
set_option maxRecDepth 100000 in
theorem jK172 : lw_tbl[1211]? = some (.code jMt172.2.1 jMt172.2.2.1 jMt172.2.2.2.1 jMt172.2.2.2.2.1) := rfl
set_option maxRecDepth 100000 in
theorem jK173 : lw_tbl[1215]? = some (.code jMt173.2.1 jMt173.2.2.1 jMt173.2.2.2.1 jMt173.2.2.2.2.1) := rfl
set_option maxRecDepth 100000 in
theorem jK174 : lw_tbl[1219]? = some (.code jMt174.2.1 jMt174.2.2.1 jMt174.2.2.2.1 jMt174.2.2.2.2.1) := rfl
set_option maxRecDepth 100000 in
theorem jK175 : lw_tbl[1222]? = some (.code jMt175.2.1 jMt175.2.2.1 jMt175.2.2.2.1 jMt175.2.2.2.2.1) := rfl
set_option maxRecDepth 100000 in
theorem jK176 : lw_tbl[1226]? = some (.code jMt176.2.1 jMt176.2.2.1 jMt176.2.2.2.1 jMt176.2.2.2.2.1) := rfl
set_option maxRecDepth 100000 in
theorem jK177 : lw_tbl[1230]? = some (.code jMt177.2.1 jMt177.2.2.1 jMt177.2.2.2.1 jMt177.2.2.2.2.1) := rfl
set_option maxRecDepth 100000 in
theorem jK178 : lw_tbl[1234]? = some (.code jMt178.2.1 jMt178.2.2.1 jMt178.2.2.2.1 jMt178.2.2.2.2.1) := rfl
set_option maxRecDepth 100000 in
theorem jK179 : lw_tbl[1238]? = some (.code jMt179.2.1 jMt179.2.2.1 jMt179.2.2.2.1 jMt179.2.2.2.2.1) := rfl
set_option maxRecDepth 100000 in
theorem jK180 : lw_tbl[1241]? = some (.code jMt180.2.1 jMt180.2.2.1 jMt180.2.2.2.1 jMt180.2.2.2.2.1) := rfl
set_option maxRecDepth 100000 in
theorem jK181 : lw_tbl[1245]? = some (.code jMt181.2.1 jMt181.2.2.1 jMt181.2.2.2.1 jMt181.2.2.2.2.1) := rfl
set_option maxRecDepth 100000 in
theorem jK182 : lw_tbl[1249]? = some (.code jMt182.2.1 jMt182.2.2.1 jMt182.2.2.2.1 jMt182.2.2.2.2.1) := rfl
set_option maxRecDepth 100000 in
theorem jK183 : lw_tbl[1253]? = some (.code jMt183.2.1 jMt183.2.2.1 jMt183.2.2.2.1 jMt183.2.2.2.2.1) := rfl
set_option maxRecDepth 100000 in
theorem jK184 : lw_tbl[1257]? = some (.code jMt184.2.1 jMt184.2.2.1 jMt184.2.2.2.1 jMt184.2.2.2.2.1) := rfl
set_option maxRecDepth 100000 in
theorem jK185 : lw_tbl[1261]? = some (.code jMt185.2.1 jMt185.2.2.1 jMt185.2.2.2.1 jMt185.2.2.2.2.1) := rfl
set_option maxRecDepth 100000 in
theorem jK186 : lw_tbl[1264]? = some (.code jMt186.2.1 jMt186.2.2.1 jMt186.2.2.2.1 jMt186.2.2.2.2.1) := rfl
set_option maxRecDepth 100000 in
theorem jK187 : lw_tbl[1268]? = some (.code jMt187.2.1 jMt187.2.2.1 jMt187.2.2.2.1 jMt187.2.2.2.2.1) := rfl
set_option maxRecDepth 100000 in
theorem jK188 : lw_tbl[1272]? = some (.code jMt188.2.1 jMt188.2.2.1 jMt188.2.2.2.1 jMt188.2.2.2.2.1) := rfl
set_option maxRecDepth 100000 in
theorem jK189 : lw_tbl[1276]? = some (.code jMt189.2.1 jMt189.2.2.1 jMt189.2.2.2.1 jMt189.2.2.2.2.1) := rfl
set_option maxRecDepth 100000 in
theorem jK190 : lw_tbl[1280]? = some (.code jMt190.2.1 jMt190.2.2.1 jMt190.2.2.2.1 jMt190.2.2.2.2.1) := rfl
set_option maxRecDepth 100000 in
theorem jK191 : lw_tbl[1284]? = some (.code jMt191.2.1 jMt191.2.2.1 jMt191.2.2.2.1 jMt191.2.2.2.2.1) := rfl
set_option maxRecDepth 100000 in
theorem jK192 : lw_tbl[1287]? = some (.code jMt192.2.1 jMt192.2.2.1 jMt192.2.2.2.1 jMt192.2.2.2.2.1) := rfl
set_option maxRecDepth 100000 in
theorem jK193 : lw_tbl[1291]? = some (.code jMt193.2.1 jMt193.2.2.1 jMt193.2.2.2.1 jMt193.2.2.2.2.1) := rfl
set_option maxRecDepth 100000 in
theorem jK194 : lw_tbl[1296]? = some (.code jMt194.2.1 jMt194.2.2.1 jMt194.2.2.2.1 jMt194.2.2.2.2.1) := rfl
set_option maxRecDepth 100000 in
theorem jK195 : lw_tbl[1300]? = some (.code jMt195.2.1 jMt195.2.2.1 jMt195.2.2.2.1 jMt195.2.2.2.2.1) := rfl
set_option maxRecDepth 100000 in
theorem jK196 : lw_tbl[1305]? = some (.code jMt196.2.1 jMt196.2.2.1 jMt196.2.2.2.1 jMt196.2.2.2.2.1) := rfl
set_option maxRecDepth 100000 in
theorem jK197 : lw_tbl[1309]? = some (.code jMt197.2.1 jMt197.2.2.1 jMt197.2.2.2.1 jMt197.2.2.2.2.1) := rfl
set_option maxRecDepth 100000 in
theorem jK198 : lw_tbl[1313]? = some (.code jMt198.2.1 jMt198.2.2.1 jMt198.2.2.2.1 jMt198.2.2.2.2.1) := rfl
set_option maxRecDepth 100000 in
theorem jK199 : lw_tbl[1317]? = some (.code jMt199.2.1 jMt199.2.2.1 jMt199.2.2.2.1 jMt199.2.2.2.2.1) := rfl
set_option maxRecDepth 100000 in
theorem jK200 : lw_tbl[1321]? = some (.code jMt200.2.1 jMt200.2.2.1 jMt200.2.2.2.1 jMt200.2.2.2.2.1) := rfl
def jKz0 : List jm_M := [jMt0, jMt1, jMt2, jMt3, jMt4, jMt5, jMt6, jMt7, jMt8, jMt9, jMt10, jMt11, jMt12, jMt13, jMt14, jMt15]
theorem jKr0 : ∀ t ∈ jKz0, lw_tbl[t.2.2.2.2.2.2.2.2.1]? = some (.code t.2.1 t.2.2.1 t.2.2.2.1 t.2.2.2.2.1) := List.forall_mem_cons.mpr ⟨jK0, List.forall_mem_cons.mpr ⟨jK1, List.forall_mem_cons.mpr ⟨jK2, List.forall_mem_cons.mpr ⟨jK3, List.forall_mem_cons.mpr ⟨jK4, List.forall_mem_cons.mpr ⟨jK5, List.forall_mem_cons.mpr ⟨jK6, List.forall_mem_cons.mpr ⟨jK7, List.forall_mem_cons.mpr ⟨jK8, List.forall_mem_cons.mpr ⟨jK9, List.forall_mem_cons.mpr ⟨jK10, List.forall_mem_cons.mpr ⟨jK11, List.forall_mem_cons.mpr ⟨jK12, List.forall_mem_cons.mpr ⟨jK13, List.forall_mem_cons.mpr ⟨jK14, List.forall_mem_cons.mpr ⟨jK15, fun _ h => absurd h List.not_mem_nil⟩⟩⟩⟩⟩⟩⟩⟩⟩⟩⟩⟩⟩⟩⟩⟩
def jKz1 : List jm_M := [jMt16, jMt17, jMt18, jMt19, jMt20, jMt21, jMt22, jMt23, jMt24, jMt25, jMt26, jMt27, jMt28, jMt29, jMt30, jMt31]
theorem jKr1 : ∀ t ∈ jKz1, lw_tbl[t.2.2.2.2.2.2.2.2.1]? = some (.code t.2.1 t.2.2.1 t.2.2.2.1 t.2.2.2.2.1) := List.forall_mem_cons.mpr ⟨jK16, List.forall_mem_cons.mpr ⟨jK17, List.forall_mem_cons.mpr ⟨jK18, List.forall_mem_cons.mpr ⟨jK19, List.forall_mem_cons.mpr ⟨jK20, List.forall_mem_cons.mpr ⟨jK21, List.forall_mem_cons.mpr ⟨jK22, List.forall_mem_cons.mpr ⟨jK23, List.forall_mem_cons.mpr ⟨jK24, List.forall_mem_cons.mpr ⟨jK25, List.forall_mem_cons.mpr ⟨jK26, List.forall_mem_cons.mpr ⟨jK27, List.forall_mem_cons.mpr ⟨jK28, List.forall_mem_cons.mpr ⟨jK29, List.forall_mem_cons.mpr ⟨jK30, List.forall_mem_cons.mpr ⟨jK31, fun _ h => absurd h List.not_mem_nil⟩⟩⟩⟩⟩⟩⟩⟩⟩⟩⟩⟩⟩⟩⟩⟩
def jKz2 : List jm_M := [jMt32, jMt33, jMt34, jMt35, jMt36, jMt37, jMt38, jMt39, jMt40, jMt41, jMt42, jMt43, jMt44, jMt45, jMt46, jMt47]
theorem jKr2 : ∀ t ∈ jKz2, lw_tbl[t.2.2.2.2.2.2.2.2.1]? = some (.code t.2.1 t.2.2.1 t.2.2.2.1 t.2.2.2.2.1) := List.forall_mem_cons.mpr ⟨jK32, List.forall_mem_cons.mpr ⟨jK33, List.forall_mem_cons.mpr ⟨jK34, List.forall_mem_cons.mpr ⟨jK35, List.forall_mem_cons.mpr ⟨jK36, List.forall_mem_cons.mpr ⟨jK37, List.forall_mem_cons.mpr ⟨jK38, List.forall_mem_cons.mpr ⟨jK39, List.forall_mem_cons.mpr ⟨jK40, List.forall_mem_cons.mpr ⟨jK41, List.forall_mem_cons.mpr ⟨jK42, List.forall_mem_cons.mpr ⟨jK43, List.forall_mem_cons.mpr ⟨jK44, List.forall_mem_cons.mpr ⟨jK45, List.forall_mem_cons.mpr ⟨jK46, List.forall_mem_cons.mpr ⟨jK47, fun _ h => absurd h List.not_mem_nil⟩⟩⟩⟩⟩⟩⟩⟩⟩⟩⟩⟩⟩⟩⟩⟩
def jKz3 : List jm_M := [jMt48, jMt49, jMt50, jMt51, jMt52, jMt53, jMt54, jMt55, jMt56, jMt57, jMt58, jMt59, jMt60, jMt61, jMt62, jMt63]
theorem jKr3 : ∀ t ∈ jKz3, lw_tbl[t.2.2.2.2.2.2.2.2.1]? = some (.code t.2.1 t.2.2.1 t.2.2.2.1 t.2.2.2.2.1) := List.forall_mem_cons.mpr ⟨jK48, List.forall_mem_cons.mpr ⟨jK49, List.forall_mem_cons.mpr ⟨jK50, List.forall_mem_cons.mpr ⟨jK51, List.forall_mem_cons.mpr ⟨jK52, List.forall_mem_cons.mpr ⟨jK53, List.forall_mem_cons.mpr ⟨jK54, List.forall_mem_cons.mpr ⟨jK55, List.forall_mem_cons.mpr ⟨jK56, List.forall_mem_cons.mpr ⟨jK57, List.forall_mem_cons.mpr ⟨jK58, List.forall_mem_cons.mpr ⟨jK59, List.forall_mem_cons.mpr ⟨jK60, List.forall_mem_cons.mpr ⟨jK61, List.forall_mem_cons.mpr ⟨jK62, List.forall_mem_cons.mpr ⟨jK63, fun _ h => absurd h List.not_mem_nil⟩⟩⟩⟩⟩⟩⟩⟩⟩⟩⟩⟩⟩⟩⟩⟩
def jKz4 : List jm_M := [jMt64, jMt65, jMt66, jMt67, jMt68, jMt69, jMt70, jMt71, jMt72, jMt73, jMt74, jMt75, jMt76, jMt77, jMt78, jMt79]
theorem jKr4 : ∀ t ∈ jKz4, lw_tbl[t.2.2.2.2.2.2.2.2.1]? = some (.code t.2.1 t.2.2.1 t.2.2.2.1 t.2.2.2.2.1) := List.forall_mem_cons.mpr ⟨jK64, List.forall_mem_cons.mpr ⟨jK65, List.forall_mem_cons.mpr ⟨jK66, List.forall_mem_cons.mpr ⟨jK67, List.forall_mem_cons.mpr ⟨jK68, List.forall_mem_cons.mpr ⟨jK69, List.forall_mem_cons.mpr ⟨jK70, List.forall_mem_cons.mpr ⟨jK71, List.forall_mem_cons.mpr ⟨jK72, List.forall_mem_cons.mpr ⟨jK73, List.forall_mem_cons.mpr ⟨jK74, List.forall_mem_cons.mpr ⟨jK75, List.forall_mem_cons.mpr ⟨jK76, List.forall_mem_cons.mpr ⟨jK77, List.forall_mem_cons.mpr ⟨jK78, List.forall_mem_cons.mpr ⟨jK79, fun _ h => absurd h List.not_mem_nil⟩⟩⟩⟩⟩⟩⟩⟩⟩⟩⟩⟩⟩⟩⟩⟩
def jKz5 : List jm_M := [jMt80, jMt81, jMt82, jMt83, jMt84, jMt85, jMt86, jMt87, jMt88, jMt89, jMt90, jMt91, jMt92, jMt93, jMt94, jMt95]
theorem jKr5 : ∀ t ∈ jKz5, lw_tbl[t.2.2.2.2.2.2.2.2.1]? = some (.code t.2.1 t.2.2.1 t.2.2.2.1 t.2.2.2.2.1) := List.forall_mem_cons.mpr ⟨jK80, List.forall_mem_cons.mpr ⟨jK81, List.forall_mem_cons.mpr ⟨jK82, List.forall_mem_cons.mpr ⟨jK83, List.forall_mem_cons.mpr ⟨jK84, List.forall_mem_cons.mpr ⟨jK85, List.forall_mem_cons.mpr ⟨jK86, List.forall_mem_cons.mpr ⟨jK87, List.forall_mem_cons.mpr ⟨jK88, List.forall_mem_cons.mpr ⟨jK89, List.forall_mem_cons.mpr ⟨jK90, List.forall_mem_cons.mpr ⟨jK91, List.forall_mem_cons.mpr ⟨jK92, List.forall_mem_cons.mpr ⟨jK93, List.forall_mem_cons.mpr ⟨jK94, List.forall_mem_cons.mpr ⟨jK95, fun _ h => absurd h List.not_mem_nil⟩⟩⟩⟩⟩⟩⟩⟩⟩⟩⟩⟩⟩⟩⟩⟩
def jKz6 : List jm_M := [jMt96, jMt97, jMt98, jMt99, jMt100, jMt101, jMt102, jMt103, jMt104, jMt105, jMt106, jMt107, jMt108, jMt109, jMt110, jMt111]
theorem jKr6 : ∀ t ∈ jKz6, lw_tbl[t.2.2.2.2.2.2.2.2.1]? = some (.code t.2.1 t.2.2.1 t.2.2.2.1 t.2.2.2.2.1) := List.forall_mem_cons.mpr ⟨jK96, List.forall_mem_cons.mpr ⟨jK97, List.forall_mem_cons.mpr ⟨jK98, List.forall_mem_cons.mpr ⟨jK99, List.forall_mem_cons.mpr ⟨jK100, List.forall_mem_cons.mpr ⟨jK101, List.forall_mem_cons.mpr ⟨jK102, List.forall_mem_cons.mpr ⟨jK103, List.forall_mem_cons.mpr ⟨jK104, List.forall_mem_cons.mpr ⟨jK105, List.forall_mem_cons.mpr ⟨jK106, List.forall_mem_cons.mpr ⟨jK107, List.forall_mem_cons.mpr ⟨jK108, List.forall_mem_cons.mpr ⟨jK109, List.forall_mem_cons.mpr ⟨jK110, List.forall_mem_cons.mpr ⟨jK111, fun _ h => absurd h List.not_mem_nil⟩⟩⟩⟩⟩⟩⟩⟩⟩⟩⟩⟩⟩⟩⟩⟩
def jKz7 : List jm_M := [jMt112, jMt113, jMt114, jMt115, jMt116, jMt117, jMt118, jMt119, jMt120, jMt121, jMt122, jMt123, jMt124, jMt125, jMt126, jMt127]
theorem jKr7 : ∀ t ∈ jKz7, lw_tbl[t.2.2.2.2.2.2.2.2.1]? = some (.code t.2.1 t.2.2.1 t.2.2.2.1 t.2.2.2.2.1) := List.forall_mem_cons.mpr ⟨jK112, List.forall_mem_cons.mpr ⟨jK113, List.forall_mem_cons.mpr ⟨jK114, List.forall_mem_cons.mpr ⟨jK115, List.forall_mem_cons.mpr ⟨jK116, List.forall_mem_cons.mpr ⟨jK117, List.forall_mem_cons.mpr ⟨jK118, List.forall_mem_cons.mpr ⟨jK119, List.forall_mem_cons.mpr ⟨jK120, List.forall_mem_cons.mpr ⟨jK121, List.forall_mem_cons.mpr ⟨jK122, List.forall_mem_cons.mpr ⟨jK123, List.forall_mem_cons.mpr ⟨jK124, List.forall_mem_cons.mpr ⟨jK125, List.forall_mem_cons.mpr ⟨jK126, List.forall_mem_cons.mpr ⟨jK127, fun _ h => absurd h List.not_mem_nil⟩⟩⟩⟩⟩⟩⟩⟩⟩⟩⟩⟩⟩⟩⟩⟩
def jKz8 : List jm_M := [jMt128, jMt129, jMt130, jMt131, jMt132, jMt133, jMt134, jMt135, jMt136, jMt137, jMt138, jMt139, jMt140, jMt141, jMt142, jMt143]
theorem jKr8 : ∀ t ∈ jKz8, lw_tbl[t.2.2.2.2.2.2.2.2.1]? = some (.code t.2.1 t.2.2.1 t.2.2.2.1 t.2.2.2.2.1) := List.forall_mem_cons.mpr ⟨jK128, List.forall_mem_cons.mpr ⟨jK129, List.forall_mem_cons.mpr ⟨jK130, List.forall_mem_cons.mpr ⟨jK131, List.forall_mem_cons.mpr ⟨jK132, List.forall_mem_cons.mpr ⟨jK133, List.forall_mem_cons.mpr ⟨jK134, List.forall_mem_cons.mpr ⟨jK135, List.forall_mem_cons.mpr ⟨jK136, List.forall_mem_cons.mpr ⟨jK137, List.forall_mem_cons.mpr ⟨jK138, List.forall_mem_cons.mpr ⟨jK139, List.forall_mem_cons.mpr ⟨jK140, List.forall_mem_cons.mpr ⟨jK141, List.forall_mem_cons.mpr ⟨jK142, List.forall_mem_cons.mpr ⟨jK143, fun _ h => absurd h List.not_mem_nil⟩⟩⟩⟩⟩⟩⟩⟩⟩⟩⟩⟩⟩⟩⟩⟩
def jKz9 : List jm_M := [jMt144, jMt145, jMt146, jMt147, jMt148, jMt149, jMt150, jMt151, jMt152, jMt153, jMt154, jMt155, jMt156, jMt157, jMt158, jMt159]
theorem jKr9 : ∀ t ∈ jKz9, lw_tbl[t.2.2.2.2.2.2.2.2.1]? = some (.code t.2.1 t.2.2.1 t.2.2.2.1 t.2.2.2.2.1) := List.forall_mem_cons.mpr ⟨jK144, List.forall_mem_cons.mpr ⟨jK145, List.forall_mem_cons.mpr ⟨jK146, List.forall_mem_cons.mpr ⟨jK147, List.forall_mem_cons.mpr ⟨jK148, List.forall_mem_cons.mpr ⟨jK149, List.forall_mem_cons.mpr ⟨jK150, List.forall_mem_cons.mpr ⟨jK151, List.forall_mem_cons.mpr ⟨jK152, List.forall_mem_cons.mpr ⟨jK153, List.forall_mem_cons.mpr ⟨jK154, List.forall_mem_cons.mpr ⟨jK155, List.forall_mem_cons.mpr ⟨jK156, List.forall_mem_cons.mpr ⟨jK157, List.forall_mem_cons.mpr ⟨jK158, List.forall_mem_cons.mpr ⟨jK159, fun _ h => absurd h List.not_mem_nil⟩⟩⟩⟩⟩⟩⟩⟩⟩⟩⟩⟩⟩⟩⟩⟩
def jKz10 : List jm_M := [jMt160, jMt161, jMt162, jMt163, jMt164, jMt165, jMt166, jMt167, jMt168, jMt169, jMt170, jMt171, jMt172, jMt173, jMt174, jMt175]
theorem jKr10 : ∀ t ∈ jKz10, lw_tbl[t.2.2.2.2.2.2.2.2.1]? = some (.code t.2.1 t.2.2.1 t.2.2.2.1 t.2.2.2.2.1) := List.forall_mem_cons.mpr ⟨jK160, List.forall_mem_cons.mpr ⟨jK161, List.forall_mem_cons.mpr ⟨jK162, List.forall_mem_cons.mpr ⟨jK163, List.forall_mem_cons.mpr ⟨jK164, List.forall_mem_cons.mpr ⟨jK165, List.forall_mem_cons.mpr ⟨jK166, List.forall_mem_cons.mpr ⟨jK167, List.forall_mem_cons.mpr ⟨jK168, List.forall_mem_cons.mpr ⟨jK169, List.forall_mem_cons.mpr ⟨jK170, List.forall_mem_cons.mpr ⟨jK171, List.forall_mem_cons.mpr ⟨jK172, List.forall_mem_cons.mpr ⟨jK173, List.forall_mem_cons.mpr ⟨jK174, List.forall_mem_cons.mpr ⟨jK175, fun _ h => absurd h List.not_mem_nil⟩⟩⟩⟩⟩⟩⟩⟩⟩⟩⟩⟩⟩⟩⟩⟩
def jKz11 : List jm_M := [jMt176, jMt177, jMt178, jMt179, jMt180, jMt181, jMt182, jMt183, jMt184, jMt185, jMt186, jMt187, jMt188, jMt189, jMt190, jMt191]
theorem jKr11 : ∀ t ∈ jKz11, lw_tbl[t.2.2.2.2.2.2.2.2.1]? = some (.code t.2.1 t.2.2.1 t.2.2.2.1 t.2.2.2.2.1) := List.forall_mem_cons.mpr ⟨jK176, List.forall_mem_cons.mpr ⟨jK177, List.forall_mem_cons.mpr ⟨jK178, List.forall_mem_cons.mpr ⟨jK179, List.forall_mem_cons.mpr ⟨jK180, List.forall_mem_cons.mpr ⟨jK181, List.forall_mem_cons.mpr ⟨jK182, List.forall_mem_cons.mpr ⟨jK183, List.forall_mem_cons.mpr ⟨jK184, List.forall_mem_cons.mpr ⟨jK185, List.forall_mem_cons.mpr ⟨jK186, List.forall_mem_cons.mpr ⟨jK187, List.forall_mem_cons.mpr ⟨jK188, List.forall_mem_cons.mpr ⟨jK189, List.forall_mem_cons.mpr ⟨jK190, List.forall_mem_cons.mpr ⟨jK191, fun _ h => absurd h List.not_mem_nil⟩⟩⟩⟩⟩⟩⟩⟩⟩⟩⟩⟩⟩⟩⟩⟩
def jKz12 : List jm_M := [jMt192, jMt193, jMt194, jMt195, jMt196, jMt197, jMt198, jMt199, jMt200]
theorem jKr12 : ∀ t ∈ jKz12, lw_tbl[t.2.2.2.2.2.2.2.2.1]? = some (.code t.2.1 t.2.2.1 t.2.2.2.1 t.2.2.2.2.1) := List.forall_mem_cons.mpr ⟨jK192, List.forall_mem_cons.mpr ⟨jK193, List.forall_mem_cons.mpr ⟨jK194, List.forall_mem_cons.mpr ⟨jK195, List.forall_mem_cons.mpr ⟨jK196, List.forall_mem_cons.mpr ⟨jK197, List.forall_mem_cons.mpr ⟨jK198, List.forall_mem_cons.mpr ⟨jK199, List.forall_mem_cons.mpr ⟨jK200, fun _ h => absurd h List.not_mem_nil⟩⟩⟩⟩⟩⟩⟩⟩⟩
def jKz : List jm_M := jKz0 ++ (jKz1 ++ (jKz2 ++ (jKz3 ++ (jKz4 ++ (jKz5 ++ (jKz6 ++ (jKz7 ++ (jKz8 ++ (jKz9 ++ (jKz10 ++ (jKz11 ++ (jKz12))))))))))))
set_option maxRecDepth 100000 in
theorem jKz_eq : jKz = jm_mt.take 201 := rfl
theorem jKr : ∀ t ∈ jKz, lw_tbl[t.2.2.2.2.2.2.2.2.1]? = some (.code t.2.1 t.2.2.1 t.2.2.2.1 t.2.2.2.2.1) := by
  show ∀ t ∈ jKz0 ++ (jKz1 ++ (jKz2 ++ (jKz3 ++ (jKz4 ++ (jKz5 ++ (jKz6 ++ (jKz7 ++ (jKz8 ++ (jKz9 ++ (jKz10 ++ (jKz11 ++ (jKz12)))))))))))), lw_tbl[t.2.2.2.2.2.2.2.2.1]? = some (.code t.2.1 t.2.2.1 t.2.2.2.1 t.2.2.2.2.1)
  exact List.forall_mem_append.mpr ⟨jKr0, List.forall_mem_append.mpr ⟨jKr1, List.forall_mem_append.mpr ⟨jKr2, List.forall_mem_append.mpr ⟨jKr3, List.forall_mem_append.mpr ⟨jKr4, List.forall_mem_append.mpr ⟨jKr5, List.forall_mem_append.mpr ⟨jKr6, List.forall_mem_append.mpr ⟨jKr7, List.forall_mem_append.mpr ⟨jKr8, List.forall_mem_append.mpr ⟨jKr9, List.forall_mem_append.mpr ⟨jKr10, List.forall_mem_append.mpr ⟨jKr11, jKr12⟩⟩⟩⟩⟩⟩⟩⟩⟩⟩⟩⟩
/-- whom a method calls is lower than it -/
def jm_okH (p : jm_M × List (Nat × Instr × Nat)) : Bool := p.2.all fun q => match q.2.1 with
  | .invokestatic k => match jm_lk2 jm_ml p.1.1 k with
    | some e => match Nat.ble 1000 e.1 with
      | true => decide (1 ≤ p.1.2.2.2.2.2.1)
      | false => match jm_mt[e.1]? with
        | some t => decide (t.2.2.2.2.2.1 + 1 ≤ p.1.2.2.2.2.2.1)
        | none => false
    | none => true
  | .invokevirtual k => match jm_lk2 jm_ml p.1.1 k with
    | some e => match Nat.ble 1000 e.1 with
      | true => decide (1 ≤ p.1.2.2.2.2.2.1)
      | false => match jm_mt[e.1]? with
        | some t => decide (t.2.2.2.2.2.1 + 1 ≤ p.1.2.2.2.2.2.1)
        | none => false
    | none => true
  | _ => true
theorem jm_okH_all : (jm_mt.zip jm_codes).all jm_okH = true := by decide +kernel
end
section
/-! ===== the pure machine's steps are the machine's ===== -/
def jm_rv (α : Nat → Nat) : Value → Value
  | .ref a => .ref (α a)
  | v => v
theorem jm_rv_cat (α : Nat → Nat) (v : Value) : (jm_rv α v).category = v.category := by cases v <;> rfl
def jm_fv (α : Nat → Nat) (σ : jm_S) (a k : Nat) (f : Option Nat) : Value := match f with
  | none => .int (σ a k)
  | some q => .ref (α q)
def jm_cell (α : Nat → Nat) (κ : Nat → ClassId) (σ : jm_S) (a : Nat) (c : jm_C) : va_E := match c with
  | .inl (ci, fs) => .inr (ci, fs.mapIdx (jm_fv α σ a))
  | .inr (.inl (_, n)) => .inl (κ a, n, .inl (σ a))
  | .inr (.inr (_, ts)) => .inl (κ a, ts.length, .inr (.inr (.inr (.inr (fun i => (ts[i]?).map α)))))
def jm_enc (α : Nat → Nat) (κ : Nat → ClassId) (σ : jm_S) : va_W := jm_sk.mapIdx (fun a c => (α a, jm_cell α κ σ a c))
theorem jm_enc_at {α : Nat → Nat} {κ : Nat → ClassId} {σ : jm_S} {a : Nat} {c : jm_C} (h : jm_sk[a]? = some c) : (jm_enc α κ σ)[a]? = some (α a, jm_cell α κ σ a c) := by
  unfold jm_enc
  rw [List.getElem?_mapIdx, h]
  rfl
theorem jm_enc_inv {α : Nat → Nat} {κ : Nat → ClassId} {σ : jm_S} {a : Nat} {q : Nat × va_E} (h : (jm_enc α κ σ)[a]? = some q) : ∃ c, jm_sk[a]? = some c ∧ q = (α a, jm_cell α κ σ a c) := by
  unfold jm_enc at h
  rw [List.getElem?_mapIdx] at h
  cases hs : jm_sk[a]? with
  | none => rw [hs] at h; cases h
  | some c => rw [hs] at h; cases h; exact ⟨c, rfl, rfl⟩
theorem jm_cell_ne {α : Nat → Nat} {κ : Nat → ClassId} {σ : jm_S} {a b : Nat} {f : Nat → Int32} {c : jm_C} (h : b ≠ a) : jm_cell α κ (jm_row σ a f) b c = jm_cell α κ σ b c := by
  have e : jm_row σ a f b = σ b := by simp [jm_row, h]
  rcases c with ⟨ci, fs⟩ | ⟨b', n⟩ | ⟨C, ts⟩
  · show Sum.inr (ci, fs.mapIdx (jm_fv α (jm_row σ a f) b)) = Sum.inr (ci, fs.mapIdx (jm_fv α σ b))
    have e2 : jm_fv α (jm_row σ a f) b = jm_fv α σ b := by
      funext k o
      cases o with
      | none => simp only [jm_fv, e]
      | some q => rfl
    rw [e2]
  · show Sum.inl _ = Sum.inl _
    rw [e]
  · rfl
theorem jm_enc_set {α : Nat → Nat} {κ : Nat → ClassId} {σ : jm_S} {a : Nat} {c : jm_C} {f : Nat → Int32} {e : va_E} (h : jm_sk[a]? = some c) (he : e = jm_cell α κ (jm_row σ a f) a c) : (jm_enc α κ σ).set a (α a, e) = jm_enc α κ (jm_row σ a f) := by
  subst he
  apply List.ext_getElem?
  intro b
  by_cases hb : a = b
  · subst hb
    have hl : a < (jm_enc α κ σ).length := (List.getElem?_eq_some_iff.mp (jm_enc_at (α := α) (κ := κ) (σ := σ) h)).1
    rw [List.getElem?_set_self hl, jm_enc_at h]
  · rw [List.getElem?_set_ne hb]
    cases hs : jm_sk[b]? with
    | none =>
      unfold jm_enc
      rw [List.getElem?_mapIdx, List.getElem?_mapIdx, hs]
      rfl
    | some c' =>
      rw [jm_enc_at hs, jm_enc_at hs, jm_cell_ne (Ne.symm hb)]
theorem jm_sk_lt {a : Nat} {c : jm_C} (h : jm_sk[a]? = some c) : a < 89 := (List.getElem?_eq_some_iff.mp h).1
def jm_lv (α : Nat → Nat) (ls : jm_L) : List (Nat × Value) := (List.range ls.length).filterMap (fun i => (jm_get ls i).map (fun v => (i, jm_rv α v)))
theorem jm_get_lt {ls : jm_L} {i : Nat} {v : Value} (h : jm_get ls i = some v) : i < ls.length ∧ ls[i]? = some (some v) := by
  unfold jm_get at h
  split at h
  · next w hw => cases h; exact ⟨(List.getElem?_eq_some_iff.mp hw).1, hw⟩
  · cases h
theorem jm_lv_mem {α : Nat → Nat} {ls : jm_L} {i : Nat} {v : Value} (h : jm_get ls i = some v) : (i, jm_rv α v) ∈ jm_lv α ls := by
  refine List.mem_filterMap.mpr ⟨i, List.mem_range.mpr (jm_get_lt h).1, ?_⟩
  rw [h]; rfl
theorem jm_lv_inv {α : Nat → Nat} {ls : jm_L} {q : Nat × Value} (h : q ∈ jm_lv α ls) : ∃ v, jm_get ls q.1 = some v ∧ q.2 = jm_rv α v := by
  obtain ⟨i, -, hi⟩ := List.mem_filterMap.mp h
  cases hg : jm_get ls i with
  | none => rw [hg] at hi; cases hi
  | some v => rw [hg] at hi; cases hi; exact ⟨v, hg, rfl⟩
theorem jm_has_at {α : Nat → Nat} {ls : jm_L} {larr : Array Slot} {nL i : Nat} {v : Value} (hl : lv_has larr nL (jm_lv α ls)) (h : jm_get ls i = some v) : larr[i]? = some (.val (jm_rv α v)) := hl.2.2 _ (jm_lv_mem h)
theorem jm_has_sub {larr : Array Slot} {nL : Nat} {l l' : List (Nat × Value)} (hl : lv_has larr nL l) (h : ∀ q ∈ l', q ∈ l) : lv_has larr nL l' := ⟨hl.1, hl.2.1, fun q hq => hl.2.2 q (h q hq)⟩
theorem jm_pre_len (ls : jm_L) (i : Nat) : (jm_pre ls i).length = ls.length := by
  unfold jm_pre
  split
  · rfl
  · split
    · split <;> simp
    · rfl
theorem jm_pre_get {ls : jm_L} {i j : Nat} {v : Value} (hg : jm_get (jm_pre ls i) j = some v) : jm_get ls j = some v ∧ ¬ (j + 1 = i ∧ v.category = 2) := by
  have h := (jm_get_lt hg).2
  clear hg
  unfold jm_pre at h
  split at h
  · exact ⟨by unfold jm_get; rw [h], fun q => by omega⟩
  · next k =>
    split at h
    · next w hw =>
      have key : ∀ (e : (ls.set k none)[j]? = some (some v)), jm_get ls j = some v ∧ ¬ (j + 1 = k + 1 ∧ v.category = 2) := by
        intro e
        by_cases hk : k = j
        · subst hk
          rw [List.getElem?_set_self (List.getElem?_eq_some_iff.mp hw).1] at e
          cases e
        · rw [List.getElem?_set_ne hk] at e
          exact ⟨by unfold jm_get; rw [e], fun q => hk (by omega)⟩
      split at h
      · exact key h
      · exact key h
      · next hn1 hn2 =>
        refine ⟨by unfold jm_get; rw [h], fun q => ?_⟩
        have hkj : k = j := by omega
        subst hkj
        rw [hw] at h
        cases h
        cases v with
        | long z => exact hn1 z rfl
        | double z => exact hn2 z rfl
        | _ => cases q.2
    · next hn =>
      refine ⟨by unfold jm_get; rw [h], fun q => ?_⟩
      have hkj : k = j := by omega
      subst hkj
      exact hn v h
theorem jm_lv_set1 {α : Nat → Nat} {ls : jm_L} {i : Nat} {v : Value} (hi : i < ls.length) : ∀ q ∈ jm_lv α (jm_set1 ls i v), q ∈ (i, jm_rv α v) :: (jm_lv α ls).filter (fun q => !(q.1 == i) && !(q.1 + 1 == i && q.2.category == 2)) := by
  rintro ⟨j, w⟩ hq
  obtain ⟨u, hu, hw⟩ := jm_lv_inv hq
  dsimp only at hu hw
  subst hw
  by_cases hj : j = i
  · subst hj
    have h2 := (jm_get_lt hu).2
    unfold jm_set1 at h2
    rw [List.getElem?_set_self (by rw [jm_pre_len]; exact hi)] at h2
    cases h2
    exact List.mem_cons_self
  · have h2 := (jm_get_lt hu).2
    unfold jm_set1 at h2
    rw [List.getElem?_set_ne (Ne.symm hj)] at h2
    obtain ⟨h3, h4⟩ := jm_pre_get (ls := ls) (i := i) (j := j) (v := u) (by unfold jm_get; rw [h2])
    refine List.mem_cons_of_mem _ (List.mem_filter.mpr ⟨jm_lv_mem h3, ?_⟩)
    simp only [jm_rv_cat]
    simp [hj]
    by_cases e : j + 1 = i
    · exact Or.inr (fun e2 => h4 ⟨e, e2⟩)
    · exact Or.inl e
theorem jm_lv_set2 {α : Nat → Nat} {ls : jm_L} {i : Nat} {v : Value} (hi : i + 1 < ls.length) : ∀ q ∈ jm_lv α (jm_set2 ls i v), q ∈ (i, jm_rv α v) :: (jm_lv α ls).filter (fun q => !(q.1 == i) && (!(q.1 == i + 1) && !(q.1 + 1 == i && q.2.category == 2))) := by
  rintro ⟨j, w⟩ hq
  obtain ⟨u, hu, hw⟩ := jm_lv_inv hq
  dsimp only at hu hw
  subst hw
  have h2 := (jm_get_lt hu).2
  unfold jm_set2 at h2
  by_cases hj1 : j = i + 1
  · subst hj1
    rw [List.getElem?_set_self (by rw [List.length_set, jm_pre_len]; exact hi)] at h2
    cases h2
  rw [List.getElem?_set_ne (Ne.symm hj1)] at h2
  by_cases hj : j = i
  · subst hj
    rw [List.getElem?_set_self (by rw [jm_pre_len]; omega)] at h2
    cases h2
    exact List.mem_cons_self
  · rw [List.getElem?_set_ne (Ne.symm hj)] at h2
    obtain ⟨h3, h4⟩ := jm_pre_get (ls := ls) (i := i) (j := j) (v := u) (by unfold jm_get; rw [h2])
    refine List.mem_cons_of_mem _ (List.mem_filter.mpr ⟨jm_lv_mem h3, ?_⟩)
    simp only [jm_rv_cat]
    simp [hj, hj1]
    by_cases e : j + 1 = i
    · exact Or.inr (fun e2 => h4 ⟨e, e2⟩)
    · exact Or.inl e
theorem jm_set1_len (ls : jm_L) (i : Nat) (v : Value) : (jm_set1 ls i v).length = ls.length := by
  unfold jm_set1; rw [List.length_set, jm_pre_len]
theorem jm_set2_len (ls : jm_L) (i : Nat) (v : Value) : (jm_set2 ls i v).length = ls.length := by
  unfold jm_set2; rw [List.length_set, List.length_set, jm_pre_len]
theorem jm_ent_lv (vs : List Value) : ∀ (k i : Nat) (v : Value), (jm_ent vs)[i]? = some (some v) → (k + i, v) ∈ lv_args k vs := by
  induction vs with
  | nil => intro k i v h; simp [jm_ent] at h
  | cons u r ih =>
    intro k i v h
    have two : ∀ (w : Value), w.category = 2 → (some w :: none :: jm_ent r)[i]? = some (some v) → (k + i, v) ∈ lv_args k (w :: r) := by
      intro w hw hh
      rw [lv_args]
      match i, hh with
      | 0, hh => cases hh; exact List.mem_cons_self
      | 1, hh => cases hh
      | j + 2, hh =>
        refine List.mem_cons_of_mem _ ?_
        rw [hw]
        have := ih (k + 2) j v (by simpa using hh)
        rw [show k + (j + 2) = k + 2 + j by omega]
        exact this
    have one : ∀ (w : Value), w.category = 1 → (some w :: jm_ent r)[i]? = some (some v) → (k + i, v) ∈ lv_args k (w :: r) := by
      intro w hw hh
      rw [lv_args]
      match i, hh with
      | 0, hh => cases hh; exact List.mem_cons_self
      | j + 1, hh =>
        refine List.mem_cons_of_mem _ ?_
        rw [hw]
        have := ih (k + 1) j v (by simpa using hh)
        rw [show k + (j + 1) = k + 1 + j by omega]
        exact this
    cases u with
    | long z => exact two _ rfl h
    | double z => exact two _ rfl h
    | _ => exact one _ rfl h
end
section
/-! ===== what inverts ===== -/
theorem jm_nx_i {pc : Nat} {ls : jm_L} {st : List Value} {σ : jm_S} {s' : jm_N} (h : jm_nx pc ls st σ = some (.inl s')) : s' = (pc, ls, st, σ) := by
  unfold jm_nx at h
  cases h
  rfl
theorem jm_1_i {st : List Value} {f : Int32 → List Value → Option jm_A} {r : jm_A} (h : jm_1 st f = some r) : ∃ x t, st = .int x :: t ∧ f x t = some r := by
  unfold jm_1 at h
  split at h
  · exact ⟨_, _, rfl, h⟩
  · cases h
theorem jm_2_i {st : List Value} {f : Int32 → Int32 → List Value → Option jm_A} {r : jm_A} (h : jm_2 st f = some r) : ∃ x y t, st = .int y :: .int x :: t ∧ f x y t = some r := by
  unfold jm_2 at h
  split at h
  · exact ⟨_, _, _, rfl, h⟩
  · cases h
theorem jm_l2_i {st : List Value} {f : Int64 → Int64 → List Value → Option jm_A} {r : jm_A} (h : jm_l2 st f = some r) : ∃ x y t, st = .long y :: .long x :: t ∧ f x y t = some r := by
  unfold jm_l2 at h
  split at h
  · exact ⟨_, _, _, rfl, h⟩
  · cases h
theorem jm_r1_i {st : List Value} {f : Nat → List Value → Option jm_A} {r : jm_A} (h : jm_r1 st f = some r) : ∃ x t, st = .ref x :: t ∧ f x t = some r := by
  unfold jm_r1 at h
  split at h
  · exact ⟨_, _, rfl, h⟩
  · cases h
theorem jm_ri_i {st : List Value} {f : Nat → Int32 → List Value → Option jm_A} {r : jm_A} (h : jm_ri st f = some r) : ∃ a i t, st = .int i :: .ref a :: t ∧ f a i t = some r := by
  unfold jm_ri at h
  split at h
  · exact ⟨_, _, _, rfl, h⟩
  · cases h
theorem jm_rx_i {st : List Value} {f : Nat → Int32 → List Value → Option jm_A} {r : jm_A} (h : jm_rx st f = some r) : ∃ a i t, st = .int i :: .ref a :: t ∧ f a i t = some r := by
  unfold jm_rx at h
  split at h
  · exact ⟨_, _, _, rfl, h⟩
  · cases h
theorem jm_rix_i {st : List Value} {f : Nat → Int32 → Int32 → List Value → Option jm_A} {r : jm_A} (h : jm_rix st f = some r) : ∃ a i x t, st = .int x :: .int i :: .ref a :: t ∧ f a i x t = some r := by
  unfold jm_rix at h
  split at h
  · exact ⟨_, _, _, _, rfl, h⟩
  · cases h
theorem jm_cp_i {st : List Value} {f : Nat → Int32 → Nat → Int32 → Int32 → List Value → Option jm_A} {r : jm_A} (h : jm_cp st f = some r) : ∃ a sp b dp n t, st = .int n :: .int dp :: .ref b :: .int sp :: .ref a :: t ∧ f a sp b dp n t = some r := by
  unfold jm_cp at h
  split at h
  · exact ⟨_, _, _, _, _, _, rfl, h⟩
  · cases h
theorem jm_ld_i {v : Option Value} {f : Int32 → Option jm_A} {r : jm_A} (h : jm_ld v f = some r) : ∃ x, v = some (.int x) ∧ f x = some r := by
  unfold jm_ld at h
  split at h
  · exact ⟨_, rfl, h⟩
  · cases h
theorem jm_ldl_i {v : Option Value} {f : Int64 → Option jm_A} {r : jm_A} (h : jm_ldl v f = some r) : ∃ x, v = some (.long x) ∧ f x = some r := by
  unfold jm_ldl at h
  split at h
  · exact ⟨_, rfl, h⟩
  · cases h
theorem jm_lda_i {v : Option Value} {f : Nat → Option jm_A} {r : jm_A} (h : jm_lda v f = some r) : ∃ x, v = some (.ref x) ∧ f x = some r := by
  unfold jm_lda at h
  split at h
  · exact ⟨_, rfl, h⟩
  · cases h
theorem jm_ob_i {β : Type} {v : Option β} {f : β → Option jm_A} {r : jm_A} (h : jm_ob v f = some r) : ∃ x, v = some x ∧ f x = some r := by
  unfold jm_ob at h
  split at h
  · exact ⟨_, rfl, h⟩
  · cases h
theorem jm_jmp_i {pc : Nat} {off : Int} {ls : jm_L} {st : List Value} {σ : jm_S} {s' : jm_N} (h : jm_jmp pc off ls st σ = some (.inl s')) : ∃ t : Nat, (pc : Int) + off = (t : Int) ∧ s' = (t, ls, st, σ) := by
  unfold jm_jmp at h
  split at h
  · next hp => exact ⟨((pc : Int) + off).toNat, (Int.toNat_of_nonneg hp).symm, jm_nx_i h⟩
  · cases h
theorem jm_gf_i {ci k a : Nat} {σ : jm_S} {v : Value} (h : jm_gf ci k a σ = some v) : ∃ fs, jm_sk[a]? = some (.inl (ci, fs)) ∧ ((fs[k]? = some none ∧ v = .int (σ a k)) ∨ ∃ q, fs[k]? = some (some q) ∧ v = .ref q) := by
  unfold jm_gf at h
  split at h
  · next c fs hs =>
    split at h
    · next hb =>
      rw [Nat.eq_of_beq_eq_true hb] at hs
      refine ⟨fs, hs, ?_⟩
      split at h
      · next e => cases h; exact Or.inl ⟨e, rfl⟩
      · next q e => cases h; exact Or.inr ⟨q, e, rfl⟩
      · cases h
    · cases h
  · cases h
theorem jm_pf_i {ci k a : Nat} {x : Int32} {σ τ : jm_S} (h : jm_pf ci k a x σ = some τ) : ∃ fs, jm_sk[a]? = some (.inl (ci, fs)) ∧ fs[k]? = some none ∧ (jm_isZ ci k = true → x = 0 ∨ x = 1) ∧ τ = jm_up σ a k x := by
  unfold jm_pf at h
  split at h
  · next c fs hs =>
    split at h
    · next hb =>
      rw [Nat.eq_of_beq_eq_true hb] at hs
      split at h
      · next e =>
        split at h
        · cases h
        · next hz => cases h; exact ⟨fs, hs, e, fun z => Classical.byContradiction fun z2 => hz ⟨z, z2⟩, rfl⟩
      · cases h
    · cases h
  · cases h
theorem jm_wi_i {a : Nat} {b : Bool} {n : Nat} (h : jm_wi a b = some n) : jm_sk[a]? = some (.inr (.inl (b, n))) := by
  unfold jm_wi at h
  split at h
  · next c n' hs =>
    split at h
    · next hc => cases h; rw [hs, hc]
    · cases h
  · cases h
theorem jm_wr_i {a : Nat} {ts : List Nat} (h : jm_wr a = some ts) : ∃ C, jm_sk[a]? = some (.inr (.inr (C, ts))) := by
  unfold jm_wr at h
  split at h
  · next C t' hs => cases h; exact ⟨C, hs⟩
  · cases h
theorem jm_oc_i {a c : Nat} (h : jm_oc a = some c) : ∃ fs, jm_sk[a]? = some (.inl (c, fs)) := by
  unfold jm_oc at h
  split at h
  · next C t' hs => cases h; exact ⟨_, hs⟩
  · cases h
/-! ===== classes ===== -/
theorem jm_clf {ci N : Nat} {C : String} {T : u_T} (h : jm_cl[ci]? = some (C, T, N)) : ∃ ty : Nat → FieldType, (∀ k, k < N → parseFieldDescriptor (T k).2.2.1 = some (ty k)) ∧ (∀ a, a < N → ∀ b, b < N → a ≠ b → (T a).2.1 ≠ (T b).2.1) ∧ ∀ w ∈ u_ws C T N, w ∈ lw_tbl := by
  match ci, h with
  | 0, h => cases h; exact ⟨jY0, jYo0, jNm0, jIn0⟩
  | 1, h => cases h; exact ⟨jY1, jYo1, jNm1, jIn1⟩
  | 2, h => cases h; exact ⟨jY2, jYo2, jNm2, jIn2⟩
  | 3, h => cases h; exact ⟨jY3, jYo3, jNm3, jIn3⟩
  | 4, h => cases h; exact ⟨jY4, jYo4, jNm4, jIn4⟩
  | 5, h => cases h; exact ⟨jY5, jYo5, jNm5, jIn5⟩
  | 6, h => cases h; exact ⟨jY6, jYo6, jNm6, jIn6⟩
  | 7, h => cases h; exact ⟨jY7, jYo7, jNm7, jIn7⟩
  | 8, h => cases h; exact ⟨jY8, jYo8, jNm8, jIn8⟩
  | 9, h => cases h; exact ⟨jY9, jYo9, jNm9, jIn9⟩
  | n + 10, h => simp at h
theorem jm_lays_good {C : String} {T : u_T} {N : Nat} : ∀ w ∈ u_ws C T N, goodWord w = true := by
  intro w hw
  obtain ⟨k, -, rfl⟩ := List.mem_map.mp hw
  unfold u_lay
  split <;> rfl
theorem jm_cli {ci N : Nat} {C : String} {T : u_T} (h : jm_cl[ci]? = some (C, T, N)) : ∀ w ∈ u_ws C T N, w ∈ jm_tg := by
  obtain ⟨-, -, -, h3⟩ := jm_clf h
  exact fun w hw => List.mem_filter.mpr ⟨h3 w hw, jm_lays_good w hw⟩
def jm_okN (c : jm_C) : Bool := match c with
  | .inl (ci, fs) => match jm_cl[ci]? with
    | some (_, T, N) => decide (fs.length = N) && (List.range fs.length).all (fun k => match fs[k]? with
      | some none => !(T k).2.2.2 && (decide ((T k).2.2.1 = "I") || decide ((T k).2.2.1 = "Z"))
      | _ => true)
    | none => false
  | _ => true
theorem jm_okN_all : jm_sk.all jm_okN = true := by decide +kernel
theorem jm_okN_of {a ci k : Nat} {fs : List (Option Nat)} (h : jm_sk[a]? = some (.inl (ci, fs))) : ∃ C T N, jm_cl[ci]? = some (C, T, N) ∧ fs.length = N ∧ (fs[k]? = some none → (T k).2.2.2 = false ∧ ((T k).2.2.1 = "I" ∨ (T k).2.2.1 = "Z")) := by
  have h1 := List.all_eq_true.mp jm_okN_all _ (List.mem_of_getElem? h)
  unfold jm_okN at h1
  dsimp only at h1
  split at h1
  · next C T N hc =>
    rw [Bool.and_eq_true] at h1
    refine ⟨C, T, N, hc, of_decide_eq_true h1.1, fun hk => ?_⟩
    have h2 := List.all_eq_true.mp h1.2 k (List.mem_range.mpr (List.getElem?_eq_some_iff.mp hk).1)
    rw [hk] at h2
    simp only [Bool.and_eq_true, Bool.not_eq_true', Bool.or_eq_true, decide_eq_true_eq] at h2
    exact h2
  · cases h1
/-! ===== the world ===== -/
def jm_bt (b : Bool) : FieldType := match b with
  | true => .boolean
  | false => .int
def jm_kc (κ : Nat → ClassId) (U : State) (a : Nat) (c : jm_C) : Prop := match c with
  | .inl _ => True
  | .inr (.inl (b, _)) => ArrOfT U (κ a) (jm_bt b) ∧ va_RA U (κ a) (jm_bt b)
  | .inr (.inr (C, _)) => ArrOfT U (κ a) (.object C) ∧ va_RA U (κ a) (.object C)
def jm_K (D : va_G) (κ : Nat → ClassId) (U : State) : Prop := va_K D jm_cl [] U ∧ ∀ a c, jm_sk[a]? = some c → jm_kc κ U a c
theorem jm_K.moved {D : va_G} {κ : Nat → ClassId} {u U : State} (hvm : u.vm.Alike U.vm) (h : jm_K D κ u) : jm_K D κ U := by
  refine ⟨va_K.moved hvm h.1, fun a c hc => ?_⟩
  have h1 := h.2 a c hc
  rcases c with ⟨ci, fs⟩ | ⟨b', n⟩ | ⟨C, ts⟩
  · exact trivial
  · exact ⟨arrOfT_moved hvm h1.1, h1.2.moved hvm⟩
  · exact ⟨arrOfT_moved hvm h1.1, h1.2.moved hvm⟩
theorem jm_K.num {D : va_G} {κ : Nat → ClassId} {U : State} (h : jm_K D κ U) {a n : Nat} {b : Bool} (hs : jm_sk[a]? = some (.inr (.inl (b, n)))) : va_K D jm_cl [(κ a, jm_bt b)] U := by
  refine ⟨h.1.1, fun k q hk => ?_⟩
  match k, hk with
  | 0, hk => cases hk; exact h.2 a _ hs
  | k + 1, hk => simp at hk
theorem jm_K.two {D : va_G} {κ : Nat → ClassId} {U : State} (h : jm_K D κ U) {a n a' n' : Nat} {b b' : Bool} (hs : jm_sk[a]? = some (.inr (.inl (b, n)))) (hs' : jm_sk[a']? = some (.inr (.inl (b', n')))) : va_K D jm_cl [(κ a, jm_bt b), (κ a', jm_bt b')] U := by
  refine ⟨h.1.1, fun k q hk => ?_⟩
  match k, hk with
  | 0, hk => cases hk; exact h.2 a _ hs
  | 1, hk => cases hk; exact h.2 a' _ hs'
  | k + 2, hk => simp at hk
theorem jm_K.ref {D : va_G} {κ : Nat → ClassId} {U : State} (h : jm_K D κ U) {a : Nat} {C : String} {ts : List Nat} (hs : jm_sk[a]? = some (.inr (.inr (C, ts)))) : va_K D jm_cl [(κ a, .object C)] U := by
  refine ⟨h.1.1, fun k q hk => ?_⟩
  match k, hk with
  | 0, hk => cases hk; exact h.2 a _ hs
  | k + 1, hk => simp at hk
def jm_T (α : Nat → Nat) (xs : Nat → Int32) (L : Nat) (A : Nat → Prop) (U : State) (H : Heap) : Prop :=
  (∀ i q, jm_stv[i]? = some q → va_Z "PopPan" q.1 "[I" (.ref (α (1000 + i))) A U H ∧ va_T .int (α (1000 + i)) q.2.length (fun j => .int (q.2.getD j 0)) A U H) ∧ va_T .int (α 1005) L (fun j => .int (xs j)) A U H
theorem jm_T.moved {α : Nat → Nat} {xs : Nat → Int32} {L : Nat} {A : Nat → Prop} {u U : State} {H : Heap} (hvm : u.vm.Alike U.vm) (h : jm_T α xs L A u H) : jm_T α xs L A U H :=
  ⟨fun i q hq => ⟨(h.1 i q hq).1.moved hvm, (h.1 i q hq).2.moved hvm⟩, h.2.moved hvm⟩
theorem jm_T.kept {α : Nat → Nat} {xs : Nat → Int32} {L : Nat} {A : Nat → Prop} {U : State} {H H1 : Heap} (h : jm_T α xs L A U H) (hq : ∀ a : Nat, a < H.size → ¬ A a → H1[a]? = H[a]?) : jm_T α xs L A U H1 :=
  ⟨fun i q h1 => ⟨(h.1 i q h1).1.kept hq, (h.1 i q h1).2.kept hq⟩, h.2.kept hq⟩
theorem jm_T.narrow {α : Nat → Nat} {xs : Nat → Int32} {L : Nat} {A B : Nat → Prop} {U : State} {H : Heap} (h : jm_T α xs L A U H) (hAB : ∀ q, B q → A q) : jm_T α xs L B U H :=
  ⟨fun i q h1 => ⟨(h.1 i q h1).1.narrow hAB, (h.1 i q h1).2.narrow hAB⟩, h.2.narrow hAB⟩
def jm_A0 (α : Nat → Nat) : Nat → Prop := fun q => ∃ a, a < 89 ∧ q = α a
def jm_inj (α : Nat → Nat) : Prop := ∀ a b, a < 89 → b < 89 → α a = α b → a = b
theorem jm_enc_D {α : Nat → Nat} {κ : Nat → ClassId} {σ : jm_S} {A : Nat → Prop} (hi : jm_inj α) (hA : ∀ a, a < 89 → A (α a)) : va_D A (jm_enc α κ σ) := by
  refine ⟨fun i j p q h1 h2 e => ?_, fun k q h => ?_⟩
  · obtain ⟨c1, s1, rfl⟩ := jm_enc_inv h1
    obtain ⟨c2, s2, rfl⟩ := jm_enc_inv h2
    exact hi i j (jm_sk_lt s1) (jm_sk_lt s2) e
  · obtain ⟨c1, s1, rfl⟩ := jm_enc_inv h
    exact hA k (jm_sk_lt s1)
def jm_X (xs : Nat → Int32) (L : Nat) (σ : jm_S) : Prop := σ 1005 = xs ∧ (σ 1006 0).toNatClampNeg = L
theorem jm_X.row {xs : Nat → Int32} {L : Nat} {σ : jm_S} (h : jm_X xs L σ) {a : Nat} (ha : a < 89) (f : Nat → Int32) : jm_X xs L (jm_row σ a f) := by
  refine ⟨?_, ?_⟩
  · unfold jm_row
    rw [if_neg (by omega)]
    exact h.1
  · unfold jm_row
    rw [if_neg (by omega)]
    exact h.2
def jm_Nn (U : State) : Prop := ∀ a i b n d h, Cond.fieldLinkNest a i b n d h ∈ lw_tbl → va_Nw (.fieldLinkNest a i b n d h) U
section SND
variable {D : va_G} {α : Nat → Nat} {κ : Nat → ClassId} {xs : Nat → Int32} {L : Nat}
variable {p : Program} {l : Launch} {e : Env} {R : Room} {s : State} {mid : MethodId} {args : Array Value} {below : List Frame} {meth : Method} {c : Code} {cells slots : Nat} {Q : State → Prop} {A : Nat → Prop}
def jm_Cx (D : va_G) (α : Nat → Nat) (κ : Nat → ClassId) (xs : Nat → Int32) (L : Nat) (p : Program) (R : Room) (s : State) (mid : MethodId) (args : Array Value) (c : Code) (cells slots : Nat) (A : Nat → Prop) (mt : jm_M) : Prop :=
  p.tables.exec = Jvm.exec ∧ c.code = mt.2.2.1 ∧ c.maxLocals = mt.2.2.2.1 ∧ (∃ own, jm_own[mt.1]? = some own ∧ s.vm.findClass own = some mid.cls) ∧ (∀ w ∈ jm_tg, w.before args s = true) ∧ jm_K D κ s ∧ jm_T α xs L A s s.heap ∧ (∀ a, a < 89 → A (α a)) ∧ (mt.2.2.2.2.2.1 ≤ R.frames ∧ 38 * mt.2.2.2.2.2.1 ≤ R.locals) ∧ (cells ≤ R.cells ∧ slots ≤ R.slots) ∧ jm_inj α ∧ jm_Nn s
def jm_W (D : va_G) (α : Nat → Nat) (κ : Nat → ClassId) (xs : Nat → Int32) (L : Nat) (p : Program) (l : Launch) (e : Env) (R : Room) (s : State) (mid : MethodId) (args : Array Value) (below : List Frame) (meth : Method) (c : Code) (cells slots : Nat) (Q : State → Prop) (A : Nat → Prop) (mt : jm_M) (N : jm_N) : Prop :=
  ∀ (H : Heap) (locs : List Loc) (larr : Array Slot), va_P D jm_cl (jm_enc α κ N.2.2.2) H → va_S A s.heap H locs → lv_has larr mt.2.2.2.1 (jm_lv α N.2.1) → N.2.1.length = mt.2.2.2.1 → jm_X xs L N.2.2.2 → W p l e R s mid args below meth c H locs cells slots Q (F0 mid N.1 larr (N.2.2.1.map (jm_rv α)))

theorem jm_x_iconst {mt : jm_M} (C : jm_Cx D α κ xs L p R s mid args c cells slots A mt) {pc : Nat} {ls : jm_L} {σ : jm_S} {st : List Value} {z : Int} (hd : decode mt.2.2.1 pc = .ok (.iconst z, 1)) (k : jm_W D α κ xs L p l e R s mid args below meth c cells slots Q A mt (pc + 1, ls, .int (Int32.ofInt z) :: st, σ)) : jm_W D α κ xs L p l e R s mid args below meth c cells slots Q A mt (pc, ls, st, σ) := by
  obtain ⟨hx, hb, hml, ⟨own, ho, hown⟩, hts, hK, hT, hA, hR, hcs, hinj, hnn⟩ := C
  intro H locs larr hP hS hl hlen hX
  exact lv_iconst hx hb hd rfl (k H locs larr hP hS hl hlen hX)

theorem jm_x_bipush {mt : jm_M} (C : jm_Cx D α κ xs L p R s mid args c cells slots A mt) {pc : Nat} {ls : jm_L} {σ : jm_S} {st : List Value} {z : Int} (hd : decode mt.2.2.1 pc = .ok (.bipush z, 2)) (k : jm_W D α κ xs L p l e R s mid args below meth c cells slots Q A mt (pc + 2, ls, .int (Int8.ofInt z).toInt32 :: st, σ)) : jm_W D α κ xs L p l e R s mid args below meth c cells slots Q A mt (pc, ls, st, σ) := by
  obtain ⟨hx, hb, hml, ⟨own, ho, hown⟩, hts, hK, hT, hA, hR, hcs, hinj, hnn⟩ := C
  intro H locs larr hP hS hl hlen hX
  exact lv_bipush hx hb hd rfl (k H locs larr hP hS hl hlen hX)

theorem jm_x_sipush {mt : jm_M} (C : jm_Cx D α κ xs L p R s mid args c cells slots A mt) {pc : Nat} {ls : jm_L} {σ : jm_S} {st : List Value} {z : Int} (hd : decode mt.2.2.1 pc = .ok (.sipush z, 3)) (k : jm_W D α κ xs L p l e R s mid args below meth c cells slots Q A mt (pc + 3, ls, .int (Int16.ofInt z).toInt32 :: st, σ)) : jm_W D α κ xs L p l e R s mid args below meth c cells slots Q A mt (pc, ls, st, σ) := by
  obtain ⟨hx, hb, hml, ⟨own, ho, hown⟩, hts, hK, hT, hA, hR, hcs, hinj, hnn⟩ := C
  intro H locs larr hP hS hl hlen hX
  exact lv_sipush hx hb hd rfl (k H locs larr hP hS hl hlen hX)

theorem jm_x_lconst {mt : jm_M} (C : jm_Cx D α κ xs L p R s mid args c cells slots A mt) {pc : Nat} {ls : jm_L} {σ : jm_S} {st : List Value} {z : Fin 2} (hd : decode mt.2.2.1 pc = .ok (.lconst z, 1)) (k : jm_W D α κ xs L p l e R s mid args below meth c cells slots Q A mt (pc + 1, ls, .long (Int64.ofNat (z : Nat)) :: st, σ)) : jm_W D α κ xs L p l e R s mid args below meth c cells slots Q A mt (pc, ls, st, σ) := by
  obtain ⟨hx, hb, hml, ⟨own, ho, hown⟩, hts, hK, hT, hA, hR, hcs, hinj, hnn⟩ := C
  intro H locs larr hP hS hl hlen hX
  exact lv_lconst hx hb hd rfl (k H locs larr hP hS hl hlen hX)

theorem jm_x_iload_n {mt : jm_M} (C : jm_Cx D α κ xs L p R s mid args c cells slots A mt) {pc : Nat} {ls : jm_L} {σ : jm_S} {st : List Value} {z : Fin 4} {x : Int32} (hd : decode mt.2.2.1 pc = .ok (.iload_n z, 1)) (hg : jm_get ls z = some (.int x)) (k : jm_W D α κ xs L p l e R s mid args below meth c cells slots Q A mt (pc + 1, ls, .int x :: st, σ)) : jm_W D α κ xs L p l e R s mid args below meth c cells slots Q A mt (pc, ls, st, σ) := by
  obtain ⟨hx, hb, hml, ⟨own, ho, hown⟩, hts, hK, hT, hA, hR, hcs, hinj, hnn⟩ := C
  intro H locs larr hP hS hl hlen hX
  exact lv_iload_n hx hb hd rfl (jm_has_at hl hg) (k H locs larr hP hS hl hlen hX)

theorem jm_x_iload {mt : jm_M} (C : jm_Cx D α κ xs L p R s mid args c cells slots A mt) {pc : Nat} {ls : jm_L} {σ : jm_S} {st : List Value} {z : Nat} {x : Int32} (hd : decode mt.2.2.1 pc = .ok (.iload z, 2)) (hg : jm_get ls z = some (.int x)) (k : jm_W D α κ xs L p l e R s mid args below meth c cells slots Q A mt (pc + 2, ls, .int x :: st, σ)) : jm_W D α κ xs L p l e R s mid args below meth c cells slots Q A mt (pc, ls, st, σ) := by
  obtain ⟨hx, hb, hml, ⟨own, ho, hown⟩, hts, hK, hT, hA, hR, hcs, hinj, hnn⟩ := C
  intro H locs larr hP hS hl hlen hX
  exact lv_iload hx hb hd (jm_has_at hl hg) (k H locs larr hP hS hl hlen hX)

theorem jm_x_istore_n {mt : jm_M} (C : jm_Cx D α κ xs L p R s mid args c cells slots A mt) {pc : Nat} {ls : jm_L} {σ : jm_S} {st : List Value} {z : Fin 4} {x : Int32} (hd : decode mt.2.2.1 pc = .ok (.istore_n z, 1)) (hz : (z : Nat) < ls.length) (k : jm_W D α κ xs L p l e R s mid args below meth c cells slots Q A mt (pc + 1, jm_set1 ls z (.int x), st, σ)) : jm_W D α κ xs L p l e R s mid args below meth c cells slots Q A mt (pc, ls, .int x :: st, σ) := by
  obtain ⟨hx, hb, hml, ⟨own, ho, hown⟩, hts, hK, hT, hA, hR, hcs, hinj, hnn⟩ := C
  intro H locs larr hP hS hl hlen hX
  refine lv_istore_n hx hb hd rfl hl (by rw [← hlen]; exact hz) rfl (fun la ha => ?_)
  exact k H locs la hP hS (jm_has_sub ha (jm_lv_set1 hz)) (by rw [← hlen]; exact jm_set1_len _ _ _) hX

theorem jm_x_istore {mt : jm_M} (C : jm_Cx D α κ xs L p R s mid args c cells slots A mt) {pc : Nat} {ls : jm_L} {σ : jm_S} {st : List Value} {z : Nat} {x : Int32} (hd : decode mt.2.2.1 pc = .ok (.istore z, 2)) (hz : z < ls.length) (k : jm_W D α κ xs L p l e R s mid args below meth c cells slots Q A mt (pc + 2, jm_set1 ls z (.int x), st, σ)) : jm_W D α κ xs L p l e R s mid args below meth c cells slots Q A mt (pc, ls, .int x :: st, σ) := by
  obtain ⟨hx, hb, hml, ⟨own, ho, hown⟩, hts, hK, hT, hA, hR, hcs, hinj, hnn⟩ := C
  intro H locs larr hP hS hl hlen hX
  refine lv_istore hx hb hd hl (by rw [← hlen]; exact hz) rfl (fun la ha => ?_)
  exact k H locs la hP hS (jm_has_sub ha (jm_lv_set1 hz)) (by rw [← hlen]; exact jm_set1_len _ _ _) hX

theorem jm_x_lload_n {mt : jm_M} (C : jm_Cx D α κ xs L p R s mid args c cells slots A mt) {pc : Nat} {ls : jm_L} {σ : jm_S} {st : List Value} {z : Fin 4} {x : Int64} (hd : decode mt.2.2.1 pc = .ok (.lload_n z, 1)) (hg : jm_get ls z = some (.long x)) (k : jm_W D α κ xs L p l e R s mid args below meth c cells slots Q A mt (pc + 1, ls, .long x :: st, σ)) : jm_W D α κ xs L p l e R s mid args below meth c cells slots Q A mt (pc, ls, st, σ) := by
  obtain ⟨hx, hb, hml, ⟨own, ho, hown⟩, hts, hK, hT, hA, hR, hcs, hinj, hnn⟩ := C
  intro H locs larr hP hS hl hlen hX
  exact lv_lload_n hx hb hd rfl (jm_has_at hl hg) (k H locs larr hP hS hl hlen hX)

theorem jm_x_lload {mt : jm_M} (C : jm_Cx D α κ xs L p R s mid args c cells slots A mt) {pc : Nat} {ls : jm_L} {σ : jm_S} {st : List Value} {z : Nat} {x : Int64} (hd : decode mt.2.2.1 pc = .ok (.lload z, 2)) (hg : jm_get ls z = some (.long x)) (k : jm_W D α κ xs L p l e R s mid args below meth c cells slots Q A mt (pc + 2, ls, .long x :: st, σ)) : jm_W D α κ xs L p l e R s mid args below meth c cells slots Q A mt (pc, ls, st, σ) := by
  obtain ⟨hx, hb, hml, ⟨own, ho, hown⟩, hts, hK, hT, hA, hR, hcs, hinj, hnn⟩ := C
  intro H locs larr hP hS hl hlen hX
  exact lv_lload hx hb hd (jm_has_at hl hg) (k H locs larr hP hS hl hlen hX)

theorem jm_x_lstore_n {mt : jm_M} (C : jm_Cx D α κ xs L p R s mid args c cells slots A mt) {pc : Nat} {ls : jm_L} {σ : jm_S} {st : List Value} {z : Fin 4} {x : Int64} (hd : decode mt.2.2.1 pc = .ok (.lstore_n z, 1)) (hz : (z : Nat) + 1 < ls.length) (k : jm_W D α κ xs L p l e R s mid args below meth c cells slots Q A mt (pc + 1, jm_set2 ls z (.long x), st, σ)) : jm_W D α κ xs L p l e R s mid args below meth c cells slots Q A mt (pc, ls, .long x :: st, σ) := by
  obtain ⟨hx, hb, hml, ⟨own, ho, hown⟩, hts, hK, hT, hA, hR, hcs, hinj, hnn⟩ := C
  intro H locs larr hP hS hl hlen hX
  refine lv_lstore_n hx hb hd rfl hl (by rw [← hlen]; exact hz) rfl (fun la ha => ?_)
  exact k H locs la hP hS (jm_has_sub ha (jm_lv_set2 hz)) (by rw [← hlen]; exact jm_set2_len _ _ _) hX

theorem jm_x_lstore {mt : jm_M} (C : jm_Cx D α κ xs L p R s mid args c cells slots A mt) {pc : Nat} {ls : jm_L} {σ : jm_S} {st : List Value} {z : Nat} {x : Int64} (hd : decode mt.2.2.1 pc = .ok (.lstore z, 2)) (hz : z + 1 < ls.length) (k : jm_W D α κ xs L p l e R s mid args below meth c cells slots Q A mt (pc + 2, jm_set2 ls z (.long x), st, σ)) : jm_W D α κ xs L p l e R s mid args below meth c cells slots Q A mt (pc, ls, .long x :: st, σ) := by
  obtain ⟨hx, hb, hml, ⟨own, ho, hown⟩, hts, hK, hT, hA, hR, hcs, hinj, hnn⟩ := C
  intro H locs larr hP hS hl hlen hX
  refine lv_lstore hx hb hd hl (by rw [← hlen]; exact hz) rfl (fun la ha => ?_)
  exact k H locs la hP hS (jm_has_sub ha (jm_lv_set2 hz)) (by rw [← hlen]; exact jm_set2_len _ _ _) hX

theorem jm_x_aload_n {mt : jm_M} (C : jm_Cx D α κ xs L p R s mid args c cells slots A mt) {pc : Nat} {ls : jm_L} {σ : jm_S} {st : List Value} {z : Fin 4} {x : Nat} (hd : decode mt.2.2.1 pc = .ok (.aload_n z, 1)) (hg : jm_get ls z = some (.ref x)) (k : jm_W D α κ xs L p l e R s mid args below meth c cells slots Q A mt (pc + 1, ls, .ref x :: st, σ)) : jm_W D α κ xs L p l e R s mid args below meth c cells slots Q A mt (pc, ls, st, σ) := by
  obtain ⟨hx, hb, hml, ⟨own, ho, hown⟩, hts, hK, hT, hA, hR, hcs, hinj, hnn⟩ := C
  intro H locs larr hP hS hl hlen hX
  exact lv_aload_n hx hb hd rfl (jm_has_at hl hg) (k H locs larr hP hS hl hlen hX)

theorem jm_x_aload {mt : jm_M} (C : jm_Cx D α κ xs L p R s mid args c cells slots A mt) {pc : Nat} {ls : jm_L} {σ : jm_S} {st : List Value} {z : Nat} {x : Nat} (hd : decode mt.2.2.1 pc = .ok (.aload z, 2)) (hg : jm_get ls z = some (.ref x)) (k : jm_W D α κ xs L p l e R s mid args below meth c cells slots Q A mt (pc + 2, ls, .ref x :: st, σ)) : jm_W D α κ xs L p l e R s mid args below meth c cells slots Q A mt (pc, ls, st, σ) := by
  obtain ⟨hx, hb, hml, ⟨own, ho, hown⟩, hts, hK, hT, hA, hR, hcs, hinj, hnn⟩ := C
  intro H locs larr hP hS hl hlen hX
  exact lv_aload hx hb hd (jm_has_at hl hg) (k H locs larr hP hS hl hlen hX)

theorem jm_x_astore_n {mt : jm_M} (C : jm_Cx D α κ xs L p R s mid args c cells slots A mt) {pc : Nat} {ls : jm_L} {σ : jm_S} {st : List Value} {z : Fin 4} {x : Nat} (hd : decode mt.2.2.1 pc = .ok (.astore_n z, 1)) (hz : (z : Nat) < ls.length) (k : jm_W D α κ xs L p l e R s mid args below meth c cells slots Q A mt (pc + 1, jm_set1 ls z (.ref x), st, σ)) : jm_W D α κ xs L p l e R s mid args below meth c cells slots Q A mt (pc, ls, .ref x :: st, σ) := by
  obtain ⟨hx, hb, hml, ⟨own, ho, hown⟩, hts, hK, hT, hA, hR, hcs, hinj, hnn⟩ := C
  intro H locs larr hP hS hl hlen hX
  refine lv_astore_n hx hb hd rfl hl (by rw [← hlen]; exact hz) rfl (fun la ha => ?_)
  exact k H locs la hP hS (jm_has_sub ha (jm_lv_set1 hz)) (by rw [← hlen]; exact jm_set1_len _ _ _) hX

theorem jm_x_astore {mt : jm_M} (C : jm_Cx D α κ xs L p R s mid args c cells slots A mt) {pc : Nat} {ls : jm_L} {σ : jm_S} {st : List Value} {z : Nat} {x : Nat} (hd : decode mt.2.2.1 pc = .ok (.astore z, 2)) (hz : z < ls.length) (k : jm_W D α κ xs L p l e R s mid args below meth c cells slots Q A mt (pc + 2, jm_set1 ls z (.ref x), st, σ)) : jm_W D α κ xs L p l e R s mid args below meth c cells slots Q A mt (pc, ls, .ref x :: st, σ) := by
  obtain ⟨hx, hb, hml, ⟨own, ho, hown⟩, hts, hK, hT, hA, hR, hcs, hinj, hnn⟩ := C
  intro H locs larr hP hS hl hlen hX
  refine lv_astore hx hb hd hl (by rw [← hlen]; exact hz) rfl (fun la ha => ?_)
  exact k H locs la hP hS (jm_has_sub ha (jm_lv_set1 hz)) (by rw [← hlen]; exact jm_set1_len _ _ _) hX

theorem jm_x_iinc {mt : jm_M} (C : jm_Cx D α κ xs L p R s mid args c cells slots A mt) {pc : Nat} {ls : jm_L} {σ : jm_S} {st : List Value} {z : Nat} {y : Int} {x : Int32} (hd : decode mt.2.2.1 pc = .ok (.iinc z y, 3)) (hg : jm_get ls z = some (.int x)) (k : jm_W D α κ xs L p l e R s mid args below meth c cells slots Q A mt (pc + 3, jm_set1 ls z (.int (x + Int32.ofInt y)), st, σ)) : jm_W D α κ xs L p l e R s mid args below meth c cells slots Q A mt (pc, ls, st, σ) := by
  obtain ⟨hx, hb, hml, ⟨own, ho, hown⟩, hts, hK, hT, hA, hR, hcs, hinj, hnn⟩ := C
  intro H locs larr hP hS hl hlen hX
  obtain ⟨j, hj⟩ := List.getElem?_of_mem (jm_lv_mem (α := α) hg)
  have hz := (jm_get_lt hg).1
  refine lv_iinc hx hb hd hl (k := j) hj rfl (by rw [← hlen]; exact hz) rfl (fun la ha => ?_)
  exact k H locs la hP hS (jm_has_sub ha (jm_lv_set1 hz)) (by rw [← hlen]; exact jm_set1_len _ _ _) hX

theorem jm_x_iadd {mt : jm_M} (C : jm_Cx D α κ xs L p R s mid args c cells slots A mt) {pc : Nat} {ls : jm_L} {σ : jm_S} {st : List Value} {x y : Int32} (hd : decode mt.2.2.1 pc = .ok (.iadd, 1)) (k : jm_W D α κ xs L p l e R s mid args below meth c cells slots Q A mt (pc + 1, ls, .int (x + y) :: st, σ)) : jm_W D α κ xs L p l e R s mid args below meth c cells slots Q A mt (pc, ls, .int y :: .int x :: st, σ) := by
  obtain ⟨hx, hb, hml, ⟨own, ho, hown⟩, hts, hK, hT, hA, hR, hcs, hinj, hnn⟩ := C
  intro H locs larr hP hS hl hlen hX
  exact lv_iadd hx hb hd (k H locs larr hP hS hl hlen hX)

theorem jm_x_isub {mt : jm_M} (C : jm_Cx D α κ xs L p R s mid args c cells slots A mt) {pc : Nat} {ls : jm_L} {σ : jm_S} {st : List Value} {x y : Int32} (hd : decode mt.2.2.1 pc = .ok (.isub, 1)) (k : jm_W D α κ xs L p l e R s mid args below meth c cells slots Q A mt (pc + 1, ls, .int (x - y) :: st, σ)) : jm_W D α κ xs L p l e R s mid args below meth c cells slots Q A mt (pc, ls, .int y :: .int x :: st, σ) := by
  obtain ⟨hx, hb, hml, ⟨own, ho, hown⟩, hts, hK, hT, hA, hR, hcs, hinj, hnn⟩ := C
  intro H locs larr hP hS hl hlen hX
  exact lv_isub hx hb hd (k H locs larr hP hS hl hlen hX)

theorem jm_x_imul {mt : jm_M} (C : jm_Cx D α κ xs L p R s mid args c cells slots A mt) {pc : Nat} {ls : jm_L} {σ : jm_S} {st : List Value} {x y : Int32} (hd : decode mt.2.2.1 pc = .ok (.imul, 1)) (k : jm_W D α κ xs L p l e R s mid args below meth c cells slots Q A mt (pc + 1, ls, .int (x * y) :: st, σ)) : jm_W D α κ xs L p l e R s mid args below meth c cells slots Q A mt (pc, ls, .int y :: .int x :: st, σ) := by
  obtain ⟨hx, hb, hml, ⟨own, ho, hown⟩, hts, hK, hT, hA, hR, hcs, hinj, hnn⟩ := C
  intro H locs larr hP hS hl hlen hX
  exact lv_imul hx hb hd (k H locs larr hP hS hl hlen hX)

theorem jm_x_iand {mt : jm_M} (C : jm_Cx D α κ xs L p R s mid args c cells slots A mt) {pc : Nat} {ls : jm_L} {σ : jm_S} {st : List Value} {x y : Int32} (hd : decode mt.2.2.1 pc = .ok (.iand, 1)) (k : jm_W D α κ xs L p l e R s mid args below meth c cells slots Q A mt (pc + 1, ls, .int (x &&& y) :: st, σ)) : jm_W D α κ xs L p l e R s mid args below meth c cells slots Q A mt (pc, ls, .int y :: .int x :: st, σ) := by
  obtain ⟨hx, hb, hml, ⟨own, ho, hown⟩, hts, hK, hT, hA, hR, hcs, hinj, hnn⟩ := C
  intro H locs larr hP hS hl hlen hX
  exact lv_iand hx hb hd (k H locs larr hP hS hl hlen hX)

theorem jm_x_ixor {mt : jm_M} (C : jm_Cx D α κ xs L p R s mid args c cells slots A mt) {pc : Nat} {ls : jm_L} {σ : jm_S} {st : List Value} {x y : Int32} (hd : decode mt.2.2.1 pc = .ok (.ixor, 1)) (k : jm_W D α κ xs L p l e R s mid args below meth c cells slots Q A mt (pc + 1, ls, .int (x ^^^ y) :: st, σ)) : jm_W D α κ xs L p l e R s mid args below meth c cells slots Q A mt (pc, ls, .int y :: .int x :: st, σ) := by
  obtain ⟨hx, hb, hml, ⟨own, ho, hown⟩, hts, hK, hT, hA, hR, hcs, hinj, hnn⟩ := C
  intro H locs larr hP hS hl hlen hX
  exact lv_ixor hx hb hd (k H locs larr hP hS hl hlen hX)

theorem jm_x_ishl {mt : jm_M} (C : jm_Cx D α κ xs L p R s mid args c cells slots A mt) {pc : Nat} {ls : jm_L} {σ : jm_S} {st : List Value} {x y : Int32} (hd : decode mt.2.2.1 pc = .ok (.ishl, 1)) (k : jm_W D α κ xs L p l e R s mid args below meth c cells slots Q A mt (pc + 1, ls, .int (x <<< (y &&& 31)) :: st, σ)) : jm_W D α κ xs L p l e R s mid args below meth c cells slots Q A mt (pc, ls, .int y :: .int x :: st, σ) := by
  obtain ⟨hx, hb, hml, ⟨own, ho, hown⟩, hts, hK, hT, hA, hR, hcs, hinj, hnn⟩ := C
  intro H locs larr hP hS hl hlen hX
  exact lv_ishl hx hb hd (k H locs larr hP hS hl hlen hX)

theorem jm_x_ishr {mt : jm_M} (C : jm_Cx D α κ xs L p R s mid args c cells slots A mt) {pc : Nat} {ls : jm_L} {σ : jm_S} {st : List Value} {x y : Int32} (hd : decode mt.2.2.1 pc = .ok (.ishr, 1)) (k : jm_W D α κ xs L p l e R s mid args below meth c cells slots Q A mt (pc + 1, ls, .int (x >>> (y &&& 31)) :: st, σ)) : jm_W D α κ xs L p l e R s mid args below meth c cells slots Q A mt (pc, ls, .int y :: .int x :: st, σ) := by
  obtain ⟨hx, hb, hml, ⟨own, ho, hown⟩, hts, hK, hT, hA, hR, hcs, hinj, hnn⟩ := C
  intro H locs larr hP hS hl hlen hX
  exact lv_ishr hx hb hd (k H locs larr hP hS hl hlen hX)

theorem jm_x_ladd {mt : jm_M} (C : jm_Cx D α κ xs L p R s mid args c cells slots A mt) {pc : Nat} {ls : jm_L} {σ : jm_S} {st : List Value} {x y : Int64} (hd : decode mt.2.2.1 pc = .ok (.ladd, 1)) (k : jm_W D α κ xs L p l e R s mid args below meth c cells slots Q A mt (pc + 1, ls, .long (x + y) :: st, σ)) : jm_W D α κ xs L p l e R s mid args below meth c cells slots Q A mt (pc, ls, .long y :: .long x :: st, σ) := by
  obtain ⟨hx, hb, hml, ⟨own, ho, hown⟩, hts, hK, hT, hA, hR, hcs, hinj, hnn⟩ := C
  intro H locs larr hP hS hl hlen hX
  exact lv_ladd hx hb hd (k H locs larr hP hS hl hlen hX)

theorem jm_x_lsub {mt : jm_M} (C : jm_Cx D α κ xs L p R s mid args c cells slots A mt) {pc : Nat} {ls : jm_L} {σ : jm_S} {st : List Value} {x y : Int64} (hd : decode mt.2.2.1 pc = .ok (.lsub, 1)) (k : jm_W D α κ xs L p l e R s mid args below meth c cells slots Q A mt (pc + 1, ls, .long (x - y) :: st, σ)) : jm_W D α κ xs L p l e R s mid args below meth c cells slots Q A mt (pc, ls, .long y :: .long x :: st, σ) := by
  obtain ⟨hx, hb, hml, ⟨own, ho, hown⟩, hts, hK, hT, hA, hR, hcs, hinj, hnn⟩ := C
  intro H locs larr hP hS hl hlen hX
  exact lv_lsub hx hb hd (k H locs larr hP hS hl hlen hX)

theorem jm_x_lmul {mt : jm_M} (C : jm_Cx D α κ xs L p R s mid args c cells slots A mt) {pc : Nat} {ls : jm_L} {σ : jm_S} {st : List Value} {x y : Int64} (hd : decode mt.2.2.1 pc = .ok (.lmul, 1)) (k : jm_W D α κ xs L p l e R s mid args below meth c cells slots Q A mt (pc + 1, ls, .long (x * y) :: st, σ)) : jm_W D α κ xs L p l e R s mid args below meth c cells slots Q A mt (pc, ls, .long y :: .long x :: st, σ) := by
  obtain ⟨hx, hb, hml, ⟨own, ho, hown⟩, hts, hK, hT, hA, hR, hcs, hinj, hnn⟩ := C
  intro H locs larr hP hS hl hlen hX
  exact lv_lmul hx hb hd (k H locs larr hP hS hl hlen hX)

theorem jm_x_idiv {mt : jm_M} (C : jm_Cx D α κ xs L p R s mid args c cells slots A mt) {pc : Nat} {ls : jm_L} {σ : jm_S} {st : List Value} {x y : Int32} (hd : decode mt.2.2.1 pc = .ok (.idiv, 1)) (hy : ¬ y = 0) (k : jm_W D α κ xs L p l e R s mid args below meth c cells slots Q A mt (pc + 1, ls, .int (x / y) :: st, σ)) : jm_W D α κ xs L p l e R s mid args below meth c cells slots Q A mt (pc, ls, .int y :: .int x :: st, σ) := by
  obtain ⟨hx, hb, hml, ⟨own, ho, hown⟩, hts, hK, hT, hA, hR, hcs, hinj, hnn⟩ := C
  intro H locs larr hP hS hl hlen hX
  exact lv_idiv hx hb hd hy (k H locs larr hP hS hl hlen hX)

theorem jm_x_ldiv {mt : jm_M} (C : jm_Cx D α κ xs L p R s mid args c cells slots A mt) {pc : Nat} {ls : jm_L} {σ : jm_S} {st : List Value} {x y : Int64} (hd : decode mt.2.2.1 pc = .ok (.ldiv, 1)) (hy : ¬ y = 0) (k : jm_W D α κ xs L p l e R s mid args below meth c cells slots Q A mt (pc + 1, ls, .long (x / y) :: st, σ)) : jm_W D α κ xs L p l e R s mid args below meth c cells slots Q A mt (pc, ls, .long y :: .long x :: st, σ) := by
  obtain ⟨hx, hb, hml, ⟨own, ho, hown⟩, hts, hK, hT, hA, hR, hcs, hinj, hnn⟩ := C
  intro H locs larr hP hS hl hlen hX
  exact lv_ldiv hx hb hd hy (k H locs larr hP hS hl hlen hX)

theorem jm_x_lrem {mt : jm_M} (C : jm_Cx D α κ xs L p R s mid args c cells slots A mt) {pc : Nat} {ls : jm_L} {σ : jm_S} {st : List Value} {x y : Int64} (hd : decode mt.2.2.1 pc = .ok (.lrem, 1)) (hy : ¬ y = 0) (k : jm_W D α κ xs L p l e R s mid args below meth c cells slots Q A mt (pc + 1, ls, .long (x - x / y * y) :: st, σ)) : jm_W D α κ xs L p l e R s mid args below meth c cells slots Q A mt (pc, ls, .long y :: .long x :: st, σ) := by
  obtain ⟨hx, hb, hml, ⟨own, ho, hown⟩, hts, hK, hT, hA, hR, hcs, hinj, hnn⟩ := C
  intro H locs larr hP hS hl hlen hX
  exact lv_lrem hx hb hd hy (k H locs larr hP hS hl hlen hX)

theorem jm_x_ineg {mt : jm_M} (C : jm_Cx D α κ xs L p R s mid args c cells slots A mt) {pc : Nat} {ls : jm_L} {σ : jm_S} {st : List Value} {x : Int32} (hd : decode mt.2.2.1 pc = .ok (.ineg, 1)) (k : jm_W D α κ xs L p l e R s mid args below meth c cells slots Q A mt (pc + 1, ls, .int (-x) :: st, σ)) : jm_W D α κ xs L p l e R s mid args below meth c cells slots Q A mt (pc, ls, .int x :: st, σ) := by
  obtain ⟨hx, hb, hml, ⟨own, ho, hown⟩, hts, hK, hT, hA, hR, hcs, hinj, hnn⟩ := C
  intro H locs larr hP hS hl hlen hX
  exact lv_ineg hx hb hd (k H locs larr hP hS hl hlen hX)

theorem jm_x_lcmp {mt : jm_M} (C : jm_Cx D α κ xs L p R s mid args c cells slots A mt) {pc : Nat} {ls : jm_L} {σ : jm_S} {st : List Value} {x y : Int64} (hd : decode mt.2.2.1 pc = .ok (.lcmp, 1)) (k : jm_W D α κ xs L p l e R s mid args below meth c cells slots Q A mt (pc + 1, ls, .int (lg_cmp x y) :: st, σ)) : jm_W D α κ xs L p l e R s mid args below meth c cells slots Q A mt (pc, ls, .long y :: .long x :: st, σ) := by
  obtain ⟨hx, hb, hml, ⟨own, ho, hown⟩, hts, hK, hT, hA, hR, hcs, hinj, hnn⟩ := C
  intro H locs larr hP hS hl hlen hX
  exact W.lcmp hx hb hd (k H locs larr hP hS hl hlen hX)

theorem jm_x_i2l {mt : jm_M} (C : jm_Cx D α κ xs L p R s mid args c cells slots A mt) {pc : Nat} {ls : jm_L} {σ : jm_S} {st : List Value} {x : Int32} (hd : decode mt.2.2.1 pc = .ok (.i2l, 1)) (k : jm_W D α κ xs L p l e R s mid args below meth c cells slots Q A mt (pc + 1, ls, .long x.toInt64 :: st, σ)) : jm_W D α κ xs L p l e R s mid args below meth c cells slots Q A mt (pc, ls, .int x :: st, σ) := by
  obtain ⟨hx, hb, hml, ⟨own, ho, hown⟩, hts, hK, hT, hA, hR, hcs, hinj, hnn⟩ := C
  intro H locs larr hP hS hl hlen hX
  exact lv_i2l hx hb hd rfl (k H locs larr hP hS hl hlen hX)

theorem jm_x_i2b {mt : jm_M} (C : jm_Cx D α κ xs L p R s mid args c cells slots A mt) {pc : Nat} {ls : jm_L} {σ : jm_S} {st : List Value} {x : Int32} (hd : decode mt.2.2.1 pc = .ok (.i2b, 1)) (k : jm_W D α κ xs L p l e R s mid args below meth c cells slots Q A mt (pc + 1, ls, .int x.toInt8.toInt32 :: st, σ)) : jm_W D α κ xs L p l e R s mid args below meth c cells slots Q A mt (pc, ls, .int x :: st, σ) := by
  obtain ⟨hx, hb, hml, ⟨own, ho, hown⟩, hts, hK, hT, hA, hR, hcs, hinj, hnn⟩ := C
  intro H locs larr hP hS hl hlen hX
  exact lv_i2b hx hb hd rfl (k H locs larr hP hS hl hlen hX)

theorem jm_x_i2s {mt : jm_M} (C : jm_Cx D α κ xs L p R s mid args c cells slots A mt) {pc : Nat} {ls : jm_L} {σ : jm_S} {st : List Value} {x : Int32} (hd : decode mt.2.2.1 pc = .ok (.i2s, 1)) (k : jm_W D α κ xs L p l e R s mid args below meth c cells slots Q A mt (pc + 1, ls, .int x.toInt16.toInt32 :: st, σ)) : jm_W D α κ xs L p l e R s mid args below meth c cells slots Q A mt (pc, ls, .int x :: st, σ) := by
  obtain ⟨hx, hb, hml, ⟨own, ho, hown⟩, hts, hK, hT, hA, hR, hcs, hinj, hnn⟩ := C
  intro H locs larr hP hS hl hlen hX
  exact lv_i2s hx hb hd rfl (k H locs larr hP hS hl hlen hX)

theorem jm_x_dup {mt : jm_M} (C : jm_Cx D α κ xs L p R s mid args c cells slots A mt) {pc : Nat} {ls : jm_L} {σ : jm_S} {st : List Value} {v : Value} (hd : decode mt.2.2.1 pc = .ok (.dup, 1)) (hv : v.category = 1) (k : jm_W D α κ xs L p l e R s mid args below meth c cells slots Q A mt (pc + 1, ls, v :: v :: st, σ)) : jm_W D α κ xs L p l e R s mid args below meth c cells slots Q A mt (pc, ls, v :: st, σ) := by
  obtain ⟨hx, hb, hml, ⟨own, ho, hown⟩, hts, hK, hT, hA, hR, hcs, hinj, hnn⟩ := C
  intro H locs larr hP hS hl hlen hX
  exact lv_dup hx hb hd (by rw [jm_rv_cat]; exact hv) (k H locs larr hP hS hl hlen hX)

theorem jm_x_pop {mt : jm_M} (C : jm_Cx D α κ xs L p R s mid args c cells slots A mt) {pc : Nat} {ls : jm_L} {σ : jm_S} {st : List Value} {v : Value} (hd : decode mt.2.2.1 pc = .ok (.pop, 1)) (hv : v.category = 1) (k : jm_W D α κ xs L p l e R s mid args below meth c cells slots Q A mt (pc + 1, ls, st, σ)) : jm_W D α κ xs L p l e R s mid args below meth c cells slots Q A mt (pc, ls, v :: st, σ) := by
  obtain ⟨hx, hb, hml, ⟨own, ho, hown⟩, hts, hK, hT, hA, hR, hcs, hinj, hnn⟩ := C
  intro H locs larr hP hS hl hlen hX
  exact lv_pop hx hb hd (by rw [jm_rv_cat]; exact hv) (k H locs larr hP hS hl hlen hX)

theorem jm_x_dup2 {mt : jm_M} (C : jm_Cx D α κ xs L p R s mid args c cells slots A mt) {pc : Nat} {ls : jm_L} {σ : jm_S} {st : List Value} {v u : Value} (hd : decode mt.2.2.1 pc = .ok (.dup2, 1)) (hv : v.category = 1) (hu : u.category = 1) (k : jm_W D α κ xs L p l e R s mid args below meth c cells slots Q A mt (pc + 1, ls, v :: u :: v :: u :: st, σ)) : jm_W D α κ xs L p l e R s mid args below meth c cells slots Q A mt (pc, ls, v :: u :: st, σ) := by
  obtain ⟨hx, hb, hml, ⟨own, ho, hown⟩, hts, hK, hT, hA, hR, hcs, hinj, hnn⟩ := C
  intro H locs larr hP hS hl hlen hX
  exact lv_dup2_11 hx hb hd (by rw [jm_rv_cat]; exact hv) (by rw [jm_rv_cat]; exact hu) (k H locs larr hP hS hl hlen hX)

theorem jm_x_goto {mt : jm_M} (C : jm_Cx D α κ xs L p R s mid args c cells slots A mt) {pc : Nat} {ls : jm_L} {σ : jm_S} {st : List Value} {z : Int} {t : Nat} (hd : decode mt.2.2.1 pc = .ok (.goto z, 3)) (ht : (pc : Int) + z = (t : Int)) (k : jm_W D α κ xs L p l e R s mid args below meth c cells slots Q A mt (t, ls, st, σ)) : jm_W D α κ xs L p l e R s mid args below meth c cells slots Q A mt (pc, ls, st, σ) := by
  obtain ⟨hx, hb, hml, ⟨own, ho, hown⟩, hts, hK, hT, hA, hR, hcs, hinj, hnn⟩ := C
  intro H locs larr hP hS hl hlen hX
  exact lv_goto hx hb hd ht (k H locs larr hP hS hl hlen hX)
end SND
end
section
section SND2
variable {D : va_G} {α : Nat → Nat} {κ : Nat → ClassId} {xs : Nat → Int32} {L : Nat}
variable {p : Program} {l : Launch} {e : Env} {R : Room} {s : State} {mid : MethodId} {args : Array Value} {below : List Frame} {meth : Method} {c : Code} {cells slots : Nat} {Q : State → Prop} {A : Nat → Prop}
theorem jm_br_i {b : Bool} {pc : Nat} {off : Int} {ls : jm_L} {st : List Value} {σ : jm_S} {s1 : jm_N} (h : jm_br b pc off ls st σ = some (.inl s1)) : ∃ t : Nat, (pc : Int) + off = (t : Int) ∧ ((b = true ∧ s1 = (t, ls, st, σ)) ∨ (b = false ∧ s1 = (pc + 3, ls, st, σ))) := by
  unfold jm_br at h
  split at h
  · next hp =>
    refine ⟨((pc : Int) + off).toNat, (Int.toNat_of_nonneg hp).symm, ?_⟩
    split at h
    · next hb => exact Or.inl ⟨hb, jm_nx_i h⟩
    · next hb => exact Or.inr ⟨by simpa using hb, jm_nx_i h⟩
  · cases h
theorem jm_mapset {α : Nat → Nat} {σ : jm_S} {a k : Nat} {x : Int32} {fs : List (Option Nat)} (hfs : fs[k]? = some none) : (fs.mapIdx (jm_fv α σ a)).set k (.int x) = fs.mapIdx (jm_fv α (jm_row σ a (upd (σ a) k x)) a) := by
  have hl1 : k < (fs.mapIdx (jm_fv α σ a)).length := by rw [List.length_mapIdx]; exact (List.getElem?_eq_some_iff.mp hfs).1
  apply List.ext_getElem?
  intro j
  by_cases hj : k = j
  · subst hj
    rw [List.getElem?_set_self hl1, List.getElem?_mapIdx, hfs]
    simp [jm_fv, jm_row, upd]
  · rw [List.getElem?_set_ne hj, List.getElem?_mapIdx, List.getElem?_mapIdx]
    cases fs[j]? with
    | none => rfl
    | some o' =>
      cases o' with
      | none => simp [jm_fv, jm_row, upd, Ne.symm hj]
      | some r => rfl
theorem jm_x_if {mt : jm_M} (C : jm_Cx D α κ xs L p R s mid args c cells slots A mt) {pc : Nat} {ls : jm_L} {σ : jm_S} {st : List Value} {cd : ClassFile.Cond} {z : Int} {x : Int32} (hd : decode mt.2.2.1 pc = .ok (.ifCond cd z, 3)) {s1 : jm_N} (hs : jm_br (jm_cmp cd x 0) pc z ls st σ = some (.inl s1)) (k : jm_W D α κ xs L p l e R s mid args below meth c cells slots Q A mt s1) : jm_W D α κ xs L p l e R s mid args below meth c cells slots Q A mt (pc, ls, .int x :: st, σ) := by
  obtain ⟨hx, hb, hml, ⟨own, ho, hown⟩, hts, hK, hT, hA, hR, hcs, hinj, hnn⟩ := C
  intro H locs larr hP hS hl hlen hX
  obtain ⟨t, ht, ⟨hc, rfl⟩ | ⟨hc, rfl⟩⟩ := jm_br_i hs
  · cases cd
    · exact lv_if_eq hx hb hd ht (fun _ => (k H locs larr hP hS hl hlen hX)) (fun q => absurd (of_decide_eq_true hc) q)
    · exact lv_if_ne hx hb hd ht (fun _ => (k H locs larr hP hS hl hlen hX)) (fun q => absurd q (of_decide_eq_true hc))
    · exact lv_if_lt hx hb hd ht (fun _ => (k H locs larr hP hS hl hlen hX)) (fun q => absurd (of_decide_eq_true hc) q)
    · exact lv_if_ge hx hb hd ht (fun _ => (k H locs larr hP hS hl hlen hX)) (fun q => absurd (of_decide_eq_true hc) q)
    · exact lv_if_gt hx hb hd ht (fun _ => (k H locs larr hP hS hl hlen hX)) (fun q => absurd (of_decide_eq_true hc) q)
    · exact lv_if_le hx hb hd ht (fun _ => (k H locs larr hP hS hl hlen hX)) (fun q => absurd (of_decide_eq_true hc) q)
  · cases cd
    · exact lv_if_eq hx hb hd ht (fun q => absurd q (of_decide_eq_false hc)) (fun _ => (k H locs larr hP hS hl hlen hX))
    · exact lv_if_ne hx hb hd ht (fun q => absurd q (of_decide_eq_false hc)) (fun _ => (k H locs larr hP hS hl hlen hX))
    · exact lv_if_lt hx hb hd ht (fun q => absurd q (of_decide_eq_false hc)) (fun _ => (k H locs larr hP hS hl hlen hX))
    · exact lv_if_ge hx hb hd ht (fun q => absurd q (of_decide_eq_false hc)) (fun _ => (k H locs larr hP hS hl hlen hX))
    · exact lv_if_gt hx hb hd ht (fun q => absurd q (of_decide_eq_false hc)) (fun _ => (k H locs larr hP hS hl hlen hX))
    · exact lv_if_le hx hb hd ht (fun q => absurd q (of_decide_eq_false hc)) (fun _ => (k H locs larr hP hS hl hlen hX))
theorem jm_x_icmp {mt : jm_M} (C : jm_Cx D α κ xs L p R s mid args c cells slots A mt) {pc : Nat} {ls : jm_L} {σ : jm_S} {st : List Value} {cd : ClassFile.Cond} {z : Int} {x y : Int32} (hd : decode mt.2.2.1 pc = .ok (.if_icmp cd z, 3)) {s1 : jm_N} (hs : jm_br (jm_cmp cd x y) pc z ls st σ = some (.inl s1)) (k : jm_W D α κ xs L p l e R s mid args below meth c cells slots Q A mt s1) : jm_W D α κ xs L p l e R s mid args below meth c cells slots Q A mt (pc, ls, .int y :: .int x :: st, σ) := by
  obtain ⟨hx, hb, hml, ⟨own, ho, hown⟩, hts, hK, hT, hA, hR, hcs, hinj, hnn⟩ := C
  intro H locs larr hP hS hl hlen hX
  obtain ⟨t, ht, ⟨hc, rfl⟩ | ⟨hc, rfl⟩⟩ := jm_br_i hs
  · cases cd
    · exact lv_icmp_eq hx hb hd ht (fun _ => (k H locs larr hP hS hl hlen hX)) (fun q => absurd (of_decide_eq_true hc) q)
    · exact lv_icmp_ne hx hb hd ht (fun _ => (k H locs larr hP hS hl hlen hX)) (fun q => absurd q (of_decide_eq_true hc))
    · exact lv_icmp_lt hx hb hd ht (fun _ => (k H locs larr hP hS hl hlen hX)) (fun q => absurd (of_decide_eq_true hc) q)
    · exact lv_icmp_ge hx hb hd ht (fun _ => (k H locs larr hP hS hl hlen hX)) (fun q => absurd (of_decide_eq_true hc) q)
    · exact lv_icmp_gt hx hb hd ht (fun _ => (k H locs larr hP hS hl hlen hX)) (fun q => absurd (of_decide_eq_true hc) q)
    · exact lv_icmp_le hx hb hd ht (fun _ => (k H locs larr hP hS hl hlen hX)) (fun q => absurd (of_decide_eq_true hc) q)
  · cases cd
    · exact lv_icmp_eq hx hb hd ht (fun q => absurd q (of_decide_eq_false hc)) (fun _ => (k H locs larr hP hS hl hlen hX))
    · exact lv_icmp_ne hx hb hd ht (fun q => absurd q (of_decide_eq_false hc)) (fun _ => (k H locs larr hP hS hl hlen hX))
    · exact lv_icmp_lt hx hb hd ht (fun q => absurd q (of_decide_eq_false hc)) (fun _ => (k H locs larr hP hS hl hlen hX))
    · exact lv_icmp_ge hx hb hd ht (fun q => absurd q (of_decide_eq_false hc)) (fun _ => (k H locs larr hP hS hl hlen hX))
    · exact lv_icmp_gt hx hb hd ht (fun q => absurd q (of_decide_eq_false hc)) (fun _ => (k H locs larr hP hS hl hlen hX))
    · exact lv_icmp_le hx hb hd ht (fun q => absurd q (of_decide_eq_false hc)) (fun _ => (k H locs larr hP hS hl hlen hX))
theorem jm_x_tsO {mt : jm_M} (C : jm_Cx D α κ xs L p R s mid args c cells slots A mt) {pc : Nat} {ls : jm_L} {σ : jm_S} {st : List Value} {d lo hi : Int} {offs : Array Int} {ln : Nat} {x : Int32} {t : Nat} (hd : decode mt.2.2.1 pc = .ok (.tableswitch d lo hi offs, ln)) (h : x.toInt < lo ∨ hi < x.toInt) (ht : (pc : Int) + d = (t : Int)) (k : jm_W D α κ xs L p l e R s mid args below meth c cells slots Q A mt (t, ls, st, σ)) : jm_W D α κ xs L p l e R s mid args below meth c cells slots Q A mt (pc, ls, .int x :: st, σ) := by
  obtain ⟨hx, hb, hml, ⟨own, ho, hown⟩, hts, hK, hT, hA, hR, hcs, hinj, hnn⟩ := C
  intro H locs larr hP hS hl hlen hX
  exact lv_tableOut hx hb hd h ht (k H locs larr hP hS hl hlen hX)

theorem jm_x_tsI {mt : jm_M} (C : jm_Cx D α κ xs L p R s mid args c cells slots A mt) {pc : Nat} {ls : jm_L} {σ : jm_S} {st : List Value} {d lo hi z : Int} {offs : Array Int} {ln : Nat} {x : Int32} {t : Nat} (hd : decode mt.2.2.1 pc = .ok (.tableswitch d lo hi offs, ln)) (h : ¬ (x.toInt < lo ∨ hi < x.toInt)) (hz : offs[(x.toInt - lo).toNat]? = some z) (ht : (pc : Int) + z = (t : Int)) (k : jm_W D α κ xs L p l e R s mid args below meth c cells slots Q A mt (t, ls, st, σ)) : jm_W D α κ xs L p l e R s mid args below meth c cells slots Q A mt (pc, ls, .int x :: st, σ) := by
  obtain ⟨hx, hb, hml, ⟨own, ho, hown⟩, hts, hK, hT, hA, hR, hcs, hinj, hnn⟩ := C
  intro H locs larr hP hS hl hlen hX
  exact lv_tableIn hx hb hd (fun q => h (Or.inl q)) (fun q => h (Or.inr q)) hz ht (k H locs larr hP hS hl hlen hX)

theorem jm_x_ldc {mt : jm_M} (C : jm_Cx D α κ xs L p R s mid args c cells slots A mt) {pc : Nat} {ls : jm_L} {σ : jm_S} {st : List Value} {z : Nat} {q : Int32 × Nat} (hd : decode mt.2.2.1 pc = .ok (.ldc z, 2)) (hq : jm_lk2 jm_lc mt.1 z = some q) (k : jm_W D α κ xs L p l e R s mid args below meth c cells slots Q A mt (pc + 2, ls, .int q.1 :: st, σ)) : jm_W D α κ xs L p l e R s mid args below meth c cells slots Q A mt (pc, ls, st, σ) := by
  obtain ⟨hx, hb, hml, ⟨own, ho, hown⟩, hts, hK, hT, hA, hR, hcs, hinj, hnn⟩ := C
  intro H locs larr hP hS hl hlen hX
  have h1 := List.all_eq_true.mp jm_okC_all _ (jm_lk2_mem hq)
  unfold jm_okC at h1
  dsimp only at h1
  rw [ho] at h1
  exact lv_ldc hx hb hown (hts _ (jm_tg_of (of_decide_eq_true h1) rfl)) hd (k H locs larr hP hS hl hlen hX)

theorem jm_x_ldcw {mt : jm_M} (C : jm_Cx D α κ xs L p R s mid args c cells slots A mt) {pc : Nat} {ls : jm_L} {σ : jm_S} {st : List Value} {z : Nat} {q : Int32 × Nat} (hd : decode mt.2.2.1 pc = .ok (.ldc_w z, 3)) (hq : jm_lk2 jm_lc mt.1 z = some q) (k : jm_W D α κ xs L p l e R s mid args below meth c cells slots Q A mt (pc + 3, ls, .int q.1 :: st, σ)) : jm_W D α κ xs L p l e R s mid args below meth c cells slots Q A mt (pc, ls, st, σ) := by
  obtain ⟨hx, hb, hml, ⟨own, ho, hown⟩, hts, hK, hT, hA, hR, hcs, hinj, hnn⟩ := C
  intro H locs larr hP hS hl hlen hX
  have h1 := List.all_eq_true.mp jm_okC_all _ (jm_lk2_mem hq)
  unfold jm_okC at h1
  dsimp only at h1
  rw [ho] at h1
  exact lv_ldcw hx hb hown (hts _ (jm_tg_of (of_decide_eq_true h1) rfl)) hd (k H locs larr hP hS hl hlen hX)

theorem jm_x_ldc2 {mt : jm_M} (C : jm_Cx D α κ xs L p R s mid args c cells slots A mt) {pc : Nat} {ls : jm_L} {σ : jm_S} {st : List Value} {z : Nat} {q : Int64 × Nat} (hd : decode mt.2.2.1 pc = .ok (.ldc2_w z, 3)) (hq : jm_lk2 jm_ll mt.1 z = some q) (k : jm_W D α κ xs L p l e R s mid args below meth c cells slots Q A mt (pc + 3, ls, .long q.1 :: st, σ)) : jm_W D α κ xs L p l e R s mid args below meth c cells slots Q A mt (pc, ls, st, σ) := by
  obtain ⟨hx, hb, hml, ⟨own, ho, hown⟩, hts, hK, hT, hA, hR, hcs, hinj, hnn⟩ := C
  intro H locs larr hP hS hl hlen hX
  have h1 := List.all_eq_true.mp jm_okL_all _ (jm_lk2_mem hq)
  unfold jm_okL at h1
  dsimp only at h1
  rw [ho] at h1
  exact lv_ldc2 hx hb hown (hts _ (jm_tg_of (of_decide_eq_true h1) rfl)) hd (k H locs larr hP hS hl hlen hX)

theorem jm_x_getf {mt : jm_M} (C : jm_Cx D α κ xs L p R s mid args c cells slots A mt) {pc : Nat} {ls : jm_L} {σ : jm_S} {st : List Value} {z a : Nat} {q : Nat × Nat × Nat} {v : Value} (hd : decode mt.2.2.1 pc = .ok (.getfield z, 3)) (hq : jm_lk2 jm_fl mt.1 z = some q) (hv : jm_gf q.1 q.2.1 a σ = some v) (k : jm_W D α κ xs L p l e R s mid args below meth c cells slots Q A mt (pc + 3, ls, v :: st, σ)) : jm_W D α κ xs L p l e R s mid args below meth c cells slots Q A mt (pc, ls, .ref a :: st, σ) := by
  obtain ⟨hx, hb, hml, ⟨own, ho, hown⟩, hts, hK, hT, hA, hR, hcs, hinj, hnn⟩ := C
  intro H locs larr hP hS hl hlen hX
  have h1 := List.all_eq_true.mp jm_okF_all _ (jm_lk2_mem hq)
  unfold jm_okF at h1
  dsimp only at h1
  rw [ho] at h1
  split at h1
  · next own' C T N ho' hc =>
    cases ho'
    obtain ⟨fs, hs, hfs⟩ := jm_gf_i hv
    simp only [Bool.and_eq_true, Bool.or_eq_true, decide_eq_true_eq] at h1
    obtain ⟨hk, hC, hlk⟩ := h1
    have he := jm_enc_at (α := α) (κ := κ) (σ := σ) hs
    have hfv : (fs.mapIdx (jm_fv α σ a))[q.2.1]? = some (jm_rv α v) := by
      rw [List.getElem?_mapIdx]
      rcases hfs with ⟨e1, rfl⟩ | ⟨r, e1, rfl⟩ <;> rw [e1] <;> rfl
    rcases hlk with hlk | hlk
    · exact va_get hx hb hts (jm_cli hc) hown hK.1 hP a he hc q.2.1 hk (hts _ (jm_tg_of hlk rfl)) (fun x hx => by rw [← hC]; exact hx) hfv hd (k H locs larr hP hS hl hlen hX)
    · exact va_getN hx hb hts (jm_cli hc) hown hK.1 hP a he hc q.2.1 hk (va_Nw.use rfl (hnn _ _ _ _ _ _ (List.mem_of_getElem? hlk))) (fun x hx => by rw [← hC]; exact hx) hfv hd (k H locs larr hP hS hl hlen hX)
  · cases h1

theorem jm_x_putf {mt : jm_M} (C : jm_Cx D α κ xs L p R s mid args c cells slots A mt) {pc : Nat} {ls : jm_L} {σ : jm_S} {st : List Value} {z a : Nat} {q : Nat × Nat × Nat} {x : Int32} {τ : jm_S} (hd : decode mt.2.2.1 pc = .ok (.putfield z, 3)) (hq : jm_lk2 jm_fl mt.1 z = some q) (hv : jm_pf q.1 q.2.1 a x σ = some τ) (k : jm_W D α κ xs L p l e R s mid args below meth c cells slots Q A mt (pc + 3, ls, st, τ)) : jm_W D α κ xs L p l e R s mid args below meth c cells slots Q A mt (pc, ls, .int x :: .ref a :: st, σ) := by
  obtain ⟨hx, hb, hml, ⟨own, ho, hown⟩, hts, hK, hT, hA, hR, hcs, hinj, hnn⟩ := C
  intro H locs larr hP hS hl hlen hX
  have h1 := List.all_eq_true.mp jm_okF_all _ (jm_lk2_mem hq)
  unfold jm_okF at h1
  dsimp only at h1
  rw [ho] at h1
  split at h1
  · next own' C T N ho' hc =>
    cases ho'
    obtain ⟨fs, hs, hfs, hz01, rfl⟩ := jm_pf_i hv
    simp only [Bool.and_eq_true, Bool.or_eq_true, decide_eq_true_eq] at h1
    obtain ⟨hk, hC, hlk⟩ := h1
    have he := jm_enc_at (α := α) (κ := κ) (σ := σ) hs
    obtain ⟨C', T', N', hc', hfl, hnf⟩ := jm_okN_of (k := q.2.1) hs
    cases hc.symm.trans hc'
    obtain ⟨hfin, hty⟩ := hnf hfs
    obtain ⟨ty0, hty0, hnm, -⟩ := jm_clf hc
    have hD := jm_enc_D (κ := κ) (σ := σ) hinj hA
    have hl1 : q.2.1 < (fs.mapIdx (jm_fv α σ a)).length := by rw [List.length_mapIdx, hfl]; exact hk
    obtain ⟨ty, hd1, hn1, hf1⟩ : ∃ ty, parseFieldDescriptor (T q.2.1).2.2.1 = some ty ∧ narrow ty (.int x) = .int x ∧ fits ty (.int x) = true := by
      rcases hty with h | h
      · exact ⟨.int, by rw [h]; decide +kernel, rfl, rfl⟩
      · have hx01 := hz01 (by unfold jm_isZ; rw [hc]; exact decide_eq_true h)
        refine ⟨.boolean, by rw [h]; decide +kernel, ?_, ?_⟩
        · rcases hx01 with rfl | rfl <;> decide +kernel
        · rcases hx01 with rfl | rfl <;> decide +kernel
    have hset : (jm_enc α κ σ).set a (α a, .inr (q.1, (fs.mapIdx (jm_fv α σ a)).set q.2.1 (.int x))) = jm_enc α κ (jm_up σ a q.2.1 x) := by
      exact jm_enc_set hs (by rw [jm_mapset hfs]; rfl)
    have fin : ∀ (H1 : Heap) (locs1 : List Loc), va_P D jm_cl ((jm_enc α κ σ).set a (α a, .inr (q.1, (fs.mapIdx (jm_fv α σ a)).set q.2.1 (.int x)))) H1 → va_D A ((jm_enc α κ σ).set a (α a, .inr (q.1, (fs.mapIdx (jm_fv α σ a)).set q.2.1 (.int x)))) → va_S A s.heap H1 locs1 → W p l e R s mid args below meth c H1 locs1 cells slots Q (F0 mid (pc + 3) larr (st.map (jm_rv α))) := by
      intro H1 locs1 p1 _ s1
      rw [hset] at p1
      exact k H1 locs1 larr p1 s1 hl hlen (hX.row (jm_sk_lt hs) _)
    rcases hlk with hlk | hlk
    · exact va_put hx hb hts (jm_cli hc) ty0 hty0 hnm hown hK.1 hP hD hS a he hc q.2.1 hk (hts _ (jm_tg_of hlk rfl)) (fun x hx => by rw [← hC]; exact hx) hfin hd1 hn1 hf1 hl1 hd fin
    · exact va_putN hx hb hts (jm_cli hc) ty0 hty0 hnm hown hK.1 hP hD hS a he hc q.2.1 hk (va_Nw.use rfl (hnn _ _ _ _ _ _ (List.mem_of_getElem? hlk))) (fun x hx => by rw [← hC]; exact hx) hfin hd1 hn1 hf1 hl1 hd fin
  · cases h1

theorem jm_x_gets {mt : jm_M} (C : jm_Cx D α κ xs L p R s mid args c cells slots A mt) {pc : Nat} {ls : jm_L} {σ : jm_S} {st : List Value} {z : Nat} {q : Nat × Nat} (hd : decode mt.2.2.1 pc = .ok (.getstatic z, 3)) (hq : jm_lk2 jm_sl mt.1 z = some q) (k : jm_W D α κ xs L p l e R s mid args below meth c cells slots Q A mt (pc + 3, ls, .ref (1000 + q.1) :: st, σ)) : jm_W D α κ xs L p l e R s mid args below meth c cells slots Q A mt (pc, ls, st, σ) := by
  obtain ⟨hx, hb, hml, ⟨own, ho, hown⟩, hts, hK, hT, hA, hR, hcs, hinj, hnn⟩ := C
  intro H locs larr hP hS hl hlen hX
  have h1 := List.all_eq_true.mp jm_okS_all _ (jm_lk2_mem hq)
  unfold jm_okS at h1
  dsimp only at h1
  rw [ho] at h1
  split at h1
  · next own' r ho' hr =>
    cases ho'
    exact va_gets hx hb (hT.1 q.1 r hr).1 hS hown (hts _ (jm_tg_of (of_decide_eq_true h1) rfl)) (fun x hx => hx) hd (k H locs larr hP hS hl hlen hX)
  · cases h1

theorem jm_x_iaload {mt : jm_M} (C : jm_Cx D α κ xs L p R s mid args c cells slots A mt) {pc : Nat} {ls : jm_L} {σ : jm_S} {st : List Value} {a : Nat} {j : Int32} {q : Nat × (Nat → Int32)} (hd : decode mt.2.2.1 pc = .ok (.iaload, 1)) (hq : jm_ia a σ = some q) (hj : ¬ (j < 0 ∨ q.1 ≤ j.toNatClampNeg)) (k : jm_W D α κ xs L p l e R s mid args below meth c cells slots Q A mt (pc + 1, ls, .int (q.2 j.toNatClampNeg) :: st, σ)) : jm_W D α κ xs L p l e R s mid args below meth c cells slots Q A mt (pc, ls, .int j :: .ref a :: st, σ) := by
  obtain ⟨hx, hb, hml, ⟨own, ho, hown⟩, hts, hK, hT, hA, hR, hcs, hinj, hnn⟩ := C
  intro H locs larr hP hS hl hlen hX
  have hX1 : σ 1005 = xs := hX.1
  have hX2 : (σ 1006 0).toNatClampNeg = L := hX.2
  unfold jm_ia at hq
  split at hq
  · next hge =>
    unfold jm_im at hq
    split at hq
    · next he =>
      cases hq
      have ea := Nat.eq_of_beq_eq_true he
      subst ea
      refine va_ti hx hb hT.2 hS (i := j) (by rw [← hX2]; exact hj) (v := .int (σ 1005 j.toNatClampNeg)) (by rw [hX1]) hd (k H locs larr hP hS hl hlen hX)
    · split at hq
      · next r hr =>
        cases hq
        have ea : 1000 + (a - 1000) = a := by have := Nat.le_of_ble_eq_true hge; omega
        have ht := (hT.1 (a - 1000) r hr).2
        rw [ea] at ht
        exact va_ti hx hb ht hS (i := j) hj rfl hd (k H locs larr hP hS hl hlen hX)
      · cases hq
  · split at hq
    · next n hs =>
      cases hq
      exact va_iald hx hb (hK.num hs) hP a 0 (jm_enc_at hs) rfl (i := j) hj hd (k H locs larr hP hS hl hlen hX)
    · cases hq

theorem jm_x_baload {mt : jm_M} (C : jm_Cx D α κ xs L p R s mid args c cells slots A mt) {pc : Nat} {ls : jm_L} {σ : jm_S} {st : List Value} {a n : Nat} {j : Int32} (hd : decode mt.2.2.1 pc = .ok (.baload, 1)) (hq : jm_wi a true = some n) (hj : ¬ (j < 0 ∨ n ≤ j.toNatClampNeg)) (k : jm_W D α κ xs L p l e R s mid args below meth c cells slots Q A mt (pc + 1, ls, .int (σ a j.toNatClampNeg) :: st, σ)) : jm_W D α κ xs L p l e R s mid args below meth c cells slots Q A mt (pc, ls, .int j :: .ref a :: st, σ) := by
  obtain ⟨hx, hb, hml, ⟨own, ho, hown⟩, hts, hK, hT, hA, hR, hcs, hinj, hnn⟩ := C
  intro H locs larr hP hS hl hlen hX
  have hs := jm_wi_i hq
  exact va_zald hx hb (hK.num hs) hP a 0 (jm_enc_at hs) rfl (i := j) hj hd (k H locs larr hP hS hl hlen hX)

theorem jm_x_iastore {mt : jm_M} (C : jm_Cx D α κ xs L p R s mid args c cells slots A mt) {pc : Nat} {ls : jm_L} {σ : jm_S} {st : List Value} {a n : Nat} {j x : Int32} (hd : decode mt.2.2.1 pc = .ok (.iastore, 1)) (hq : jm_wi a false = some n) (hj : ¬ (j < 0 ∨ n ≤ j.toNatClampNeg)) (k : jm_W D α κ xs L p l e R s mid args below meth c cells slots Q A mt (pc + 1, ls, st, jm_up σ a j.toNatClampNeg x)) : jm_W D α κ xs L p l e R s mid args below meth c cells slots Q A mt (pc, ls, .int x :: .int j :: .ref a :: st, σ) := by
  obtain ⟨hx, hb, hml, ⟨own, ho, hown⟩, hts, hK, hT, hA, hR, hcs, hinj, hnn⟩ := C
  intro H locs larr hP hS hl hlen hX
  have hs := jm_wi_i hq
  have hD := jm_enc_D (κ := κ) (σ := σ) hinj hA
  refine va_iast hx hb (hK.num hs) hP hD hS a 0 (jm_enc_at hs) rfl (i := j) (x := x) hj hd (fun H1 locs1 p1 _ s1 => ?_)
  have hset : (jm_enc α κ σ).set a (α a, .inl (κ a, n, .inl (upd (σ a) j.toNatClampNeg x))) = jm_enc α κ (jm_up σ a j.toNatClampNeg x) := by
    refine jm_enc_set hs ?_
    show Sum.inl _ = Sum.inl _
    simp [jm_row]
  rw [hset] at p1
  exact k H1 locs1 larr p1 s1 hl hlen (hX.row (jm_sk_lt hs) _)

theorem jm_x_bastore {mt : jm_M} (C : jm_Cx D α κ xs L p R s mid args c cells slots A mt) {pc : Nat} {ls : jm_L} {σ : jm_S} {st : List Value} {a n : Nat} {j x : Int32} (hd : decode mt.2.2.1 pc = .ok (.bastore, 1)) (hq : jm_wi a true = some n) (hj : ¬ (j < 0 ∨ n ≤ j.toNatClampNeg)) (h01 : x = 0 ∨ x = 1) (k : jm_W D α κ xs L p l e R s mid args below meth c cells slots Q A mt (pc + 1, ls, st, jm_up σ a j.toNatClampNeg x)) : jm_W D α κ xs L p l e R s mid args below meth c cells slots Q A mt (pc, ls, .int x :: .int j :: .ref a :: st, σ) := by
  obtain ⟨hx, hb, hml, ⟨own, ho, hown⟩, hts, hK, hT, hA, hR, hcs, hinj, hnn⟩ := C
  intro H locs larr hP hS hl hlen hX
  have hs := jm_wi_i hq
  have hD := jm_enc_D (κ := κ) (σ := σ) hinj hA
  refine va_zast hx hb (hK.num hs) hP hD hS a 0 (jm_enc_at hs) rfl (i := j) (x := x) hj hd (fun H1 locs1 p1 _ s1 => ?_)
  have hnar : vp_nar .boolean x = x := by rcases h01 with rfl | rfl <;> decide +kernel
  rw [hnar] at p1
  have hset : (jm_enc α κ σ).set a (α a, .inl (κ a, n, .inl (upd (σ a) j.toNatClampNeg x))) = jm_enc α κ (jm_up σ a j.toNatClampNeg x) := by
    refine jm_enc_set hs ?_
    show Sum.inl _ = Sum.inl _
    simp [jm_row]
  rw [hset] at p1
  exact k H1 locs1 larr p1 s1 hl hlen (hX.row (jm_sk_lt hs) _)

theorem jm_x_aaload {mt : jm_M} (C : jm_Cx D α κ xs L p R s mid args c cells slots A mt) {pc : Nat} {ls : jm_L} {σ : jm_S} {st : List Value} {a q : Nat} {j : Int32} {ts : List Nat} (hd : decode mt.2.2.1 pc = .ok (.aaload, 1)) (hq : jm_wr a = some ts) (hj : ¬ (j < 0 ∨ ts.length ≤ j.toNatClampNeg)) (ht : ts[j.toNatClampNeg]? = some q) (k : jm_W D α κ xs L p l e R s mid args below meth c cells slots Q A mt (pc + 1, ls, .ref q :: st, σ)) : jm_W D α κ xs L p l e R s mid args below meth c cells slots Q A mt (pc, ls, .int j :: .ref a :: st, σ) := by
  obtain ⟨hx, hb, hml, ⟨own, ho, hown⟩, hts, hK, hT, hA, hR, hcs, hinj, hnn⟩ := C
  intro H locs larr hP hS hl hlen hX
  obtain ⟨C, hs⟩ := jm_wr_i hq
  refine va_aldq hx hb (hK.ref hs) hP a 0 (jm_enc_at hs) rfl (i := j) hj hd ?_
  rw [ht]
  exact (k H locs larr hP hS hl hlen hX)

theorem jm_x_alen {mt : jm_M} (C : jm_Cx D α κ xs L p R s mid args c cells slots A mt) {pc : Nat} {ls : jm_L} {σ : jm_S} {st : List Value} {a n : Nat} (hd : decode mt.2.2.1 pc = .ok (.arraylength, 1)) (hq : jm_len a σ = some n) (k : jm_W D α κ xs L p l e R s mid args below meth c cells slots Q A mt (pc + 1, ls, .int (Int32.ofNat n) :: st, σ)) : jm_W D α κ xs L p l e R s mid args below meth c cells slots Q A mt (pc, ls, .ref a :: st, σ) := by
  obtain ⟨hx, hb, hml, ⟨own, ho, hown⟩, hts, hK, hT, hA, hR, hcs, hinj, hnn⟩ := C
  intro H locs larr hP hS hl hlen hX
  have hX2 : (σ 1006 0).toNatClampNeg = L := hX.2
  unfold jm_len at hq
  split at hq
  · next hge =>
    unfold jm_im at hq
    split at hq
    · next he =>
      cases hq
      have ea := Nat.eq_of_beq_eq_true he
      subst ea
      exact va_tlen hx hb hT.2 hS (by rw [hX2]) hd (k H locs larr hP hS hl hlen hX)
    · split at hq
      · next r hr =>
        cases hq
        have ea : 1000 + (a - 1000) = a := by have := Nat.le_of_ble_eq_true hge; omega
        have ht := (hT.1 (a - 1000) r hr).2
        rw [ea] at ht
        exact va_tlen hx hb ht hS rfl hd (k H locs larr hP hS hl hlen hX)
      · cases hq
  · split at hq
    · next b n' hs =>
      cases hq
      exact va_alen hx hb (hK.num hs) hP a 0 (jm_enc_at hs) rfl rfl hd (k H locs larr hP hS hl hlen hX)
    · cases hq

theorem jm_x_max {mt : jm_M} (C : jm_Cx D α κ xs L p R s mid args c cells slots A mt) {pc : Nat} {ls : jm_L} {σ : jm_S} {st : List Value} {z : Nat} {pl : Nat} {x y : Int32} (hd : decode mt.2.2.1 pc = .ok (.invokestatic z, 3)) (hq : jm_lk2 jm_ml mt.1 z = some (1001, pl)) (h1f : 1 ≤ mt.2.2.2.2.2.1) (hcat : ¬ 8 < jm_cat st) (k : jm_W D α κ xs L p l e R s mid args below meth c cells slots Q A mt (pc + 3, ls, .int (if x < y then y else x) :: st, σ)) : jm_W D α κ xs L p l e R s mid args below meth c cells slots Q A mt (pc, ls, .int y :: .int x :: st, σ) := by
  obtain ⟨hx, hb, hml, ⟨own, ho, hown⟩, hts, hK, hT, hA, hR, hcs, hinj, hnn⟩ := C
  intro H locs larr hP hS hl hlen hX
  have h1 := List.all_eq_true.mp jm_okM_all _ (jm_lk2_mem hq)
  unfold jm_okM at h1
  dsimp only at h1
  rw [ho] at h1
  have hlk := of_decide_eq_true h1
  have hcs2 : (List.map (fun v => v.category) (st.map (jm_rv α))).sum = jm_cat st := by
    unfold jm_cat
    rw [List.map_map]
    congr 2
    funext v
    exact jm_rv_cat α v
  exact va_mmax hx hb (by rw [hml, hl.1]) hown (hts _ (jm_tg_of hlk rfl)) (hts _ (List.mem_filter.mpr ⟨jm_w1.1, rfl⟩)) (hts _ (List.mem_filter.mpr ⟨jm_w0.2.2.2, rfl⟩)) (hts _ (List.mem_filter.mpr ⟨jm_w1.2, rfl⟩)) (by omega) (by rw [hcs2]; omega) hcs.1 hcs.2 hd (k H locs larr hP hS hl hlen hX)

theorem jm_x_min {mt : jm_M} (C : jm_Cx D α κ xs L p R s mid args c cells slots A mt) {pc : Nat} {ls : jm_L} {σ : jm_S} {st : List Value} {z : Nat} {pl : Nat} {x y : Int32} (hd : decode mt.2.2.1 pc = .ok (.invokestatic z, 3)) (hq : jm_lk2 jm_ml mt.1 z = some (1002, pl)) (h1f : 1 ≤ mt.2.2.2.2.2.1) (hcat : ¬ 8 < jm_cat st) (k : jm_W D α κ xs L p l e R s mid args below meth c cells slots Q A mt (pc + 3, ls, .int (if y < x then y else x) :: st, σ)) : jm_W D α κ xs L p l e R s mid args below meth c cells slots Q A mt (pc, ls, .int y :: .int x :: st, σ) := by
  obtain ⟨hx, hb, hml, ⟨own, ho, hown⟩, hts, hK, hT, hA, hR, hcs, hinj, hnn⟩ := C
  intro H locs larr hP hS hl hlen hX
  have h1 := List.all_eq_true.mp jm_okM_all _ (jm_lk2_mem hq)
  unfold jm_okM at h1
  dsimp only at h1
  rw [ho] at h1
  have hlk := of_decide_eq_true h1
  have hcs2 : (List.map (fun v => v.category) (st.map (jm_rv α))).sum = jm_cat st := by
    unfold jm_cat
    rw [List.map_map]
    congr 2
    funext v
    exact jm_rv_cat α v
  exact va_mmin hx hb (by rw [hml, hl.1]) hown (hts _ (jm_tg_of hlk rfl)) (hts _ (List.mem_filter.mpr ⟨jm_w2.1, rfl⟩)) (hts _ (List.mem_filter.mpr ⟨jm_w0.2.2.2, rfl⟩)) (hts _ (List.mem_filter.mpr ⟨jm_w2.2, rfl⟩)) (by omega) (by rw [hcs2]; omega) hcs.1 hcs.2 hd (k H locs larr hP hS hl hlen hX)

theorem jm_x_abs {mt : jm_M} (C : jm_Cx D α κ xs L p R s mid args c cells slots A mt) {pc : Nat} {ls : jm_L} {σ : jm_S} {st : List Value} {z : Nat} {pl : Nat} {x : Int32} (hd : decode mt.2.2.1 pc = .ok (.invokestatic z, 3)) (hq : jm_lk2 jm_ml mt.1 z = some (1003, pl)) (h1f : 1 ≤ mt.2.2.2.2.2.1) (hcat : ¬ 8 < jm_cat st) (k : jm_W D α κ xs L p l e R s mid args below meth c cells slots Q A mt (pc + 3, ls, .int (if 0 ≤ x then x else 0 - x) :: st, σ)) : jm_W D α κ xs L p l e R s mid args below meth c cells slots Q A mt (pc, ls, .int x :: st, σ) := by
  obtain ⟨hx, hb, hml, ⟨own, ho, hown⟩, hts, hK, hT, hA, hR, hcs, hinj, hnn⟩ := C
  intro H locs larr hP hS hl hlen hX
  have h1 := List.all_eq_true.mp jm_okM_all _ (jm_lk2_mem hq)
  unfold jm_okM at h1
  dsimp only at h1
  rw [ho] at h1
  have hlk := of_decide_eq_true h1
  have hcs2 : (List.map (fun v => v.category) (st.map (jm_rv α))).sum = jm_cat st := by
    unfold jm_cat
    rw [List.map_map]
    congr 2
    funext v
    exact jm_rv_cat α v
  exact va_mabs hx hb (by rw [hml, hl.1]) hown (hts _ (jm_tg_of hlk rfl)) (hts _ (List.mem_filter.mpr ⟨jm_w3.1, rfl⟩)) (hts _ (List.mem_filter.mpr ⟨jm_w0.2.2.2, rfl⟩)) (hts _ (List.mem_filter.mpr ⟨jm_w3.2, rfl⟩)) (by omega) (by rw [hcs2]; omega) hcs.1 hcs.2 hd (k H locs larr hP hS hl hlen hX)

theorem jm_x_maxl {mt : jm_M} (C : jm_Cx D α κ xs L p R s mid args c cells slots A mt) {pc : Nat} {ls : jm_L} {σ : jm_S} {st : List Value} {z : Nat} {pl : Nat} {x y : Int64} (hd : decode mt.2.2.1 pc = .ok (.invokestatic z, 3)) (hq : jm_lk2 jm_ml mt.1 z = some (1004, pl)) (h1f : 1 ≤ mt.2.2.2.2.2.1) (hcat : ¬ 8 < jm_cat st) (k : jm_W D α κ xs L p l e R s mid args below meth c cells slots Q A mt (pc + 3, ls, .long (if y < x then x else y) :: st, σ)) : jm_W D α κ xs L p l e R s mid args below meth c cells slots Q A mt (pc, ls, .long y :: .long x :: st, σ) := by
  obtain ⟨hx, hb, hml, ⟨own, ho, hown⟩, hts, hK, hT, hA, hR, hcs, hinj, hnn⟩ := C
  intro H locs larr hP hS hl hlen hX
  have h1 := List.all_eq_true.mp jm_okM_all _ (jm_lk2_mem hq)
  unfold jm_okM at h1
  dsimp only at h1
  rw [ho] at h1
  have hlk := of_decide_eq_true h1
  have hcs2 : (List.map (fun v => v.category) (st.map (jm_rv α))).sum = jm_cat st := by
    unfold jm_cat
    rw [List.map_map]
    congr 2
    funext v
    exact jm_rv_cat α v
  exact va_mmax_long hx hb (by rw [hml, hl.1]) hown (hts _ (jm_tg_of hlk rfl)) (hts _ (List.mem_filter.mpr ⟨jm_w4.1, rfl⟩)) (hts _ (List.mem_filter.mpr ⟨jm_w0.2.2.2, rfl⟩)) (hts _ (List.mem_filter.mpr ⟨jm_w4.2, rfl⟩)) (by omega) (by rw [hcs2]; omega) hcs.1 hcs.2 hd (k H locs larr hP hS hl hlen hX)

theorem jm_x_cpy {mt : jm_M} (C : jm_Cx D α κ xs L p R s mid args c cells slots A mt) {pc : Nat} {ls : jm_L} {σ : jm_S} {st : List Value} {z : Nat} {pl : Nat} {a b n0 n1 : Nat} {sp dp n : Int32} (h0 : jm_wi a false = some n0) (h1w : jm_wi b false = some n1) (hh : ¬ (sp < 0 ∨ dp < 0 ∨ n < 0 ∨ n0 < sp.toNatClampNeg + n.toNatClampNeg ∨ n1 < dp.toNatClampNeg + n.toNatClampNeg ∨ 8 < jm_cat st)) (hd : decode mt.2.2.1 pc = .ok (.invokestatic z, 3)) (hq : jm_lk2 jm_ml mt.1 z = some (1000, pl)) (h1f : 1 ≤ mt.2.2.2.2.2.1) (hcat : ¬ 8 < jm_cat st) (k : jm_W D α κ xs L p l e R s mid args below meth c cells slots Q A mt (pc + 3, ls, st, jm_row σ b (va_cpy (σ a) (σ b) sp.toNatClampNeg dp.toNatClampNeg n.toNatClampNeg))) : jm_W D α κ xs L p l e R s mid args below meth c cells slots Q A mt (pc, ls, .int n :: .int dp :: .ref b :: .int sp :: .ref a :: st, σ) := by
  obtain ⟨hx, hb, hml, ⟨own, ho, hown⟩, hts, hK, hT, hA, hR, hcs, hinj, hnn⟩ := C
  intro H locs larr hP hS hl hlen hX
  have h1 := List.all_eq_true.mp jm_okM_all _ (jm_lk2_mem hq)
  unfold jm_okM at h1
  dsimp only at h1
  rw [ho] at h1
  have hlk := of_decide_eq_true h1
  have hcs2 : (List.map (fun v => v.category) (st.map (jm_rv α))).sum = jm_cat st := by
    unfold jm_cat
    rw [List.map_map]
    congr 2
    funext v
    exact jm_rv_cat α v
  have hs0 := jm_wi_i h0
  have hs1 := jm_wi_i h1w
  have hD := jm_enc_D (κ := κ) (σ := σ) hinj hA
  have hwords : nativeFrameWords "java/lang/System" "arraycopy" 5 ≤ 19 := by decide +kernel
  refine va_copyi hx hb (by rw [hml, hl.1]) hown (hts _ (jm_tg_of hlk rfl)) (hts _ (List.mem_filter.mpr ⟨jm_w0.1, rfl⟩)) (hts _ (List.mem_filter.mpr ⟨jm_w0.2.1, rfl⟩)) (hts _ (List.mem_filter.mpr ⟨jm_w0.2.2.1, rfl⟩)) (hK.two hs0 hs1) hP hD hS a b 0 1 (jm_enc_at hs0) (jm_enc_at hs1) rfl rfl rfl (sp := sp) (dp := dp) (n := n) (fun q => hh (Or.inl q)) (fun q => hh (Or.inr (Or.inl q))) (fun q => hh (Or.inr (Or.inr (Or.inl q)))) (Nat.not_lt.mp fun q => hh (Or.inr (Or.inr (Or.inr (Or.inl q))))) (Nat.not_lt.mp fun q => hh (Or.inr (Or.inr (Or.inr (Or.inr (Or.inl q)))))) (fun i _ => rfl) (by omega) (by rw [hcs2]; omega) hd (fun H1 locs1 p1 _ s1 => ?_)
  have hset : (jm_enc α κ σ).set b (α b, .inl (κ b, n1, .inl (va_cpy (σ a) (σ b) sp.toNatClampNeg dp.toNatClampNeg n.toNatClampNeg))) = jm_enc α κ (jm_row σ b (va_cpy (σ a) (σ b) sp.toNatClampNeg dp.toNatClampNeg n.toNatClampNeg)) := by
    refine jm_enc_set hs1 ?_
    show Sum.inl _ = Sum.inl _
    simp [jm_row]
  rw [hset] at p1
  exact k H1 locs1 larr p1 s1 hl hlen (hX.row (jm_sk_lt hs1) _)

end SND2
end
section
section SND3
variable {D : va_G} {α : Nat → Nat} {κ : Nat → ClassId} {xs : Nat → Int32} {L : Nat}
variable {p : Program} {l : Launch} {e : Env} {R : Room} {s : State} {mid : MethodId} {args : Array Value} {below : List Frame} {meth : Method} {c : Code} {cells slots : Nat} {Q : State → Prop} {A : Nat → Prop}
def jm_Wd (D : va_G) (α : Nat → Nat) (κ : Nat → ClassId) (xs : Nat → Int32) (L : Nat) (U : State) (σ : jm_S) : Prop := va_P D jm_cl (jm_enc α κ σ) U.heap ∧ jm_K D κ U ∧ jm_T α xs L (jm_A0 α) U U.heap ∧ jm_X xs L σ
def jm_rm (h : Nat) : Room := { frames := h, cells := 0, slots := 0, locals := 38 * h }
def jm_Pc (D : va_G) (α : Nat → Nat) (κ : Nat → ClassId) (xs : Nat → Int32) (L : Nat) (as : List Value) (σ : jm_S) : Array Value → State → Prop := va_Pc (as.map (jm_rv α)) (fun U => jm_Wd D α κ xs L U σ ∧ jm_Nn U)
def jm_Qc (D : va_G) (α : Nat → Nat) (κ : Nat → ClassId) (xs : Nat → Int32) (L : Nat) (v : Option Value) (τ : jm_S) : Array Value → State → Outcome → State → Prop := fun _ st oc t => oc = .returned (v.map (jm_rv α)) ∧ jm_Wd D α κ xs L t τ ∧ va_F (jm_A0 α) st t
def jm_ws (mt : jm_M) : List Cond := .code mt.2.1 mt.2.2.1 mt.2.2.2.1 mt.2.2.2.2.1 :: jm_tg
def jm_Met (D : va_G) (α : Nat → Nat) (κ : Nat → ClassId) (xs : Nat → Int32) (L : Nat) (l : Launch) (mt : jm_M) (as : List Value) (σ : jm_S) (v : Option Value) (τ : jm_S) : Prop :=
  Met l mt.2.1 (jm_ws mt) (jm_rm mt.2.2.2.2.2.1) (jm_Pc D α κ xs L as σ) (jm_Qc D α κ xs L v τ) 0 0 (jm_A0 α)
theorem jm_blind {as : List Value} {σ : jm_S} : FrameBlind (jm_Pc D α κ xs L as σ) := by
  intro a U g mk h
  obtain ⟨h0, ⟨h1, h2, h3, h4⟩, h5⟩ := h
  exact ⟨h0, ⟨h1, h2.moved (u := U) (U := U.calling g mk a) (Vm.Alike.refl U.vm), h3.moved (u := U) (U := U.calling g mk a) (Vm.Alike.refl U.vm), h4⟩, fun a1 i b n d h hw => va_Nw.same rfl (u := U) (U := U.calling g mk a) rfl (h5 a1 i b n d h hw)⟩
theorem jm_goodIn {y : Nat} {mt : jm_M} (hm : jm_mt[y]? = some mt) (hy : y < 201) : GoodIn jm_tg (jm_ws mt) := by
  have hz : mt ∈ jKz := by
    rw [jKz_eq]
    refine List.mem_of_getElem? (i := y) ?_
    rw [List.getElem?_take]
    rw [if_pos hy]
    exact hm
  have h1 := jKr mt hz
  intro w hw
  rcases List.mem_cons.mp hw with rfl | h
  · exact ⟨jm_tg_of h1 rfl, good_of_word rfl⟩
  · exact ⟨h, good_of_word (jm_tg_good h)⟩
theorem jm_okY_of {y : Nat} {mt : jm_M} (hm : jm_mt[y]? = some mt) (hy : y < 201) : jm_okY mt = true := by
  refine List.all_eq_true.mp jm_okY_all mt ?_
  refine List.mem_of_getElem? (i := y) ?_
  rw [List.getElem?_take, if_pos hy]
  exact hm
theorem jm_ml_of {own : String} {o z y pl : Nat} (ho : jm_own[o]? = some own) (hq : jm_lk2 jm_ml o z = some (y, pl)) (hy : Nat.ble 1000 y = false) {mt : jm_M} (hm : jm_mt[y]? = some mt) : Cond.methodLink own z mt.2.1 ∈ jm_tg ∧ y < 201 := by
  have h1 := List.all_eq_true.mp jm_okM_all _ (jm_lk2_mem hq)
  unfold jm_okM at h1
  dsimp only at h1
  rw [ho] at h1
  dsimp only at h1
  rw [hy] at h1
  dsimp only at h1
  rw [hm] at h1
  simp only [Bool.and_eq_true, decide_eq_true_eq] at h1
  exact ⟨jm_tg_of h1.1 rfl, h1.2⟩
theorem jm_hgt {m pc z n : Nat} {mt : jm_M} (hm : jm_mt[m]? = some mt) {i : Instr} (hc : jm_code m pc = some (i, n)) (hi : i = .invokestatic z ∨ i = .invokevirtual z) {y pl : Nat} (hq : jm_lk2 jm_ml mt.1 z = some (y, pl)) : (Nat.ble 1000 y = true → 1 ≤ mt.2.2.2.2.2.1) ∧ (Nat.ble 1000 y = false → ∀ t, jm_mt[y]? = some t → t.2.2.2.2.2.1 + 1 ≤ mt.2.2.2.2.2.1) := by
  unfold jm_code at hc
  cases hcc : jm_codes[m]? with
  | none => rw [hcc] at hc; cases hc
  | some cl =>
    rw [hcc] at hc
    have hz : (mt, cl) ∈ jm_mt.zip jm_codes := by
      refine List.mem_of_getElem? (i := m) ?_
      rw [List.getElem?_zip_eq_some]
      exact ⟨hm, hcc⟩
    have h1 := List.all_eq_true.mp jm_okH_all _ hz
    have h2 := List.all_eq_true.mp h1 _ (jm_lk_mem hc)
    rcases hi with rfl | rfl
    all_goals
      dsimp only at h2
      rw [hq] at h2
      dsimp only at h2
      refine ⟨fun hb => ?_, fun hb t ht => ?_⟩
      · rw [hb] at h2
        exact of_decide_eq_true h2
      · rw [hb] at h2
        dsimp only at h2
        rw [ht] at h2
        exact of_decide_eq_true h2
theorem jm_own_cl {ci N : Nat} {C own : String} {T : u_T} (h : jm_cl[ci]? = some (C, T, N)) (ho : jm_own[ci]? = some own) : own = C := by
  match ci, h, ho with
  | 0, h, ho => cases h; cases ho; rfl
  | 1, h, ho => cases h; cases ho; rfl
  | 2, h, ho => cases h; cases ho; rfl
  | 3, h, ho => cases h; cases ho; rfl
  | 4, h, ho => cases h; cases ho; rfl
  | 5, h, ho => cases h; cases ho; rfl
  | 6, h, ho => cases h; cases ho; rfl
  | 7, h, ho => cases h; cases ho; rfl
  | 8, h, ho => cases h; cases ho; rfl
  | 9, h, ho => cases h; cases ho; rfl
  | n + 10, h, ho => simp at h
theorem jm_cat_rv (st : List Value) : ((st.map (jm_rv α)).map fun v => v.category).sum = jm_cat st := by
  unfold jm_cat
  rw [List.map_map]
  congr 2
  funext v
  exact jm_rv_cat α v
/-- behind a call -/
theorem jm_after {mt : jm_M} (C : jm_Cx D α κ xs L p R s mid args c cells slots A mt) {pc : Nat} {ls : jm_L} {τ : jm_S} {rest : List Value} {v : Option Value} {st0 : List Value} {a0 : Array Value} {H : Heap} {locs : List Loc} {larr : Array Slot}
    (hr : va_Run p l e R s mid args below meth c H locs cells slots 0 0 (F0 mid pc larr st0) (rest.map (jm_rv α)) (jm_Qc D α κ xs L v τ a0) (jm_A0 α)) (hS : va_S A s.heap H locs) (hl : lv_has larr mt.2.2.2.1 (jm_lv α ls)) (hlen : ls.length = mt.2.2.2.1)
    (k : jm_W D α κ xs L p l e R s mid args below meth c cells slots Q A mt (pc + 3, ls, v.toList ++ rest, τ)) : W p l e R s mid args below meth c H locs cells slots Q (F0 mid pc larr st0) := by
  obtain ⟨hx, hb, hml, ⟨own, ho, hown⟩, hts, hK, hT, hA, hR, hcs, hinj, hnn⟩ := C
  intro T hTh X
  obtain ⟨v', st₀, t, T', L', h0, X', hL, e1, e2, ⟨hv, hWd, hF⟩, hgo⟩ := hr T hTh X
  have hv' : v' = v.map (jm_rv α) := by injection hv
  subst hv'
  have hAA : ∀ q, jm_A0 α q → A q := fun q ⟨a, ha, e⟩ => by rw [e]; exact hA a ha
  rw [va_F, h0] at hF
  have hS1 : va_S A s.heap T'.heap (locs ++ L') := by
    refine ⟨Nat.le_trans hS.1 (by rw [e1]; exact hF.1), fun q h1 h2 => ?_, fun q hq => ?_⟩
    · rw [e1, hF.2 q (Nat.lt_of_lt_of_le h1 hS.1) (fun z => h2 (hAA q z))]
      exact hS.2.1 q h1 h2
    · rcases List.mem_append.mp hq with h | h
      · exact hS.2.2 q h
      · exact hAA _ (hL q h)
  obtain ⟨t2, a1, b1⟩ := k T'.heap (locs ++ L') larr (by rw [e1]; exact hWd.1) hS1 hl hlen hWd.2.2.2 T' rfl X'
  refine ⟨t2, hgo t2 ?_, b1⟩
  cases v with
  | none => exact a1
  | some u => exact a1
theorem jm_prc {mt : jm_M} (C : jm_Cx D α κ xs L p R s mid args c cells slots A mt) {σ : jm_S} {as : List Value} {H : Heap} {locs : List Loc} (hP : va_P D jm_cl (jm_enc α κ σ) H) (hS : va_S A s.heap H locs) (hX : jm_X xs L σ) : ∀ U : State, U.heap = H → s.WarmedH U.vm → jm_Pc D α κ xs L as σ (as.map (jm_rv α)).toArray U := by
  obtain ⟨hx, hb, hml, ⟨own, ho, hown⟩, hts, hK, hT, hA, hR, hcs, hinj, hnn⟩ := C
  intro U hU hW
  have hAA : ∀ q, jm_A0 α q → A q := fun q ⟨a, ha, e⟩ => by rw [e]; exact hA a ha
  refine ⟨rfl, ⟨by rw [hU]; exact hP, hK.moved hW.alike, ?_, hX⟩, fun a i b n d h hw => va_Nw.warmF hW (hnn a i b n d h hw)⟩
  rw [hU]
  exact (((hT.kept (fun q h1 h2 => hS.2.1 q h1 h2))).moved hW.alike).narrow hAA
theorem jm_x_calls {mt : jm_M} (C : jm_Cx D α κ xs L p R s mid args c cells slots A mt) {pc : Nat} {ls : jm_L} {σ τ : jm_S} {rest as : List Value} {v : Option Value} {z y pl : Nat} {my : jm_M} (hd : decode mt.2.2.1 pc = .ok (.invokestatic z, 3)) (hq : jm_lk2 jm_ml mt.1 z = some (y, pl)) (hy : Nat.ble 1000 y = false) (hmy : jm_mt[y]? = some my) (hh : my.2.2.2.2.2.1 + 1 ≤ mt.2.2.2.2.2.1) (hstat : my.2.2.2.2.2.2.1 = true) (hn : as.length = my.2.2.2.2.2.2.2.1) (hcat : jm_cat rest ≤ 8)
    (M : jm_Met D α κ xs L l my as σ v τ) (k : jm_W D α κ xs L p l e R s mid args below meth c cells slots Q A mt (pc + 3, ls, v.toList ++ rest, τ)) : jm_W D α κ xs L p l e R s mid args below meth c cells slots Q A mt (pc, ls, as.reverse ++ rest, σ) := by
  intro H locs larr hP hS hl hlen hX
  obtain ⟨hx, hb, hml, ⟨own, ho, hown⟩, hts, hK, hT, hA, hR, hcs, hinj, hnn⟩ := id C
  obtain ⟨hlk, hyl⟩ := jm_ml_of ho hq hy hmy
  have hY := jm_okY_of hmy hyl
  unfold jm_okY at hY
  rw [hstat] at hY
  simp only [Bool.and_eq_true, decide_eq_true_eq, if_true] at hY
  obtain ⟨y1, y2, y3, y4, y5, y6, y7, y8⟩ := hY
  have hst0 : ((as.reverse ++ rest).map (jm_rv α)) = (as.map (jm_rv α)).reverse ++ rest.map (jm_rv α) := by rw [List.map_append, List.map_reverse]
  refine jm_after C (va_runS (As := as.map (jm_rv α)) (rest := rest.map (jm_rv α)) (n := my.2.2.2.2.2.2.2.1) ⟨hx, hb, hml, hown, hts⟩ M ⟨callB_of _ hts (jm_goodIn hmy hyl) rfl rfl rfl (hts _ (jm_tg_of y7 rfl)) (hts _ hlk) ⟨y4, y5, y6⟩ ⟨?_, ?_⟩, hts _ (jm_tg_of y8 rfl)⟩ ⟨jm_blind, jm_prc C hP hS hX⟩ rfl ?_ hl.1 hst0 ?_ hd ⟨?_, ?_⟩) hS hl hlen k
  · show my.2.2.2.2.2.1 + 1 ≤ R.frames
    omega
  · show 8 + (my.2.2.2.1 + 11) + 38 * my.2.2.2.2.2.1 ≤ R.locals
    omega
  · rw [List.length_map]; exact hn
  · exact lv_room (by rw [jm_cat_rv]; exact hcat)
  · exact hcs.1
  · exact hcs.2
theorem jm_x_callv {mt : jm_M} (C : jm_Cx D α κ xs L p R s mid args c cells slots A mt) {pc : Nat} {ls : jm_L} {σ τ : jm_S} {rest as : List Value} {a : Nat} {v : Option Value} {z y pl : Nat} {my : jm_M} (hd : decode mt.2.2.1 pc = .ok (.invokevirtual z, 3)) (hq : jm_lk2 jm_ml mt.1 z = some (y, pl)) (hy : Nat.ble 1000 y = false) (hmy : jm_mt[y]? = some my) (hh : my.2.2.2.2.2.1 + 1 ≤ mt.2.2.2.2.2.1) (hstat : my.2.2.2.2.2.2.1 = false) (hn : as.length + 1 = my.2.2.2.2.2.2.2.1) (hoc : jm_oc a = some my.1) (hcat : jm_cat rest ≤ 8)
    (M : jm_Met D α κ xs L l my (.ref a :: as) σ v τ) (k : jm_W D α κ xs L p l e R s mid args below meth c cells slots Q A mt (pc + 3, ls, v.toList ++ rest, τ)) : jm_W D α κ xs L p l e R s mid args below meth c cells slots Q A mt (pc, ls, as.reverse ++ .ref a :: rest, σ) := by
  intro H locs larr hP hS hl hlen hX
  obtain ⟨hx, hb, hml, ⟨own, ho, hown⟩, hts, hK, hT, hA, hR, hcs, hinj, hnn⟩ := id C
  obtain ⟨hlk, hyl⟩ := jm_ml_of ho hq hy hmy
  have hY := jm_okY_of hmy hyl
  unfold jm_okY at hY
  rw [hstat] at hY
  simp only [Bool.and_eq_true, decide_eq_true_eq, Bool.false_eq_true, if_false] at hY
  obtain ⟨y1, y2, y3, y4, y5, y6, y7, y8, y9, -⟩ := hY
  obtain ⟨fs, hsk⟩ := jm_oc_i hoc
  obtain ⟨C', T', N', hcl, -, -⟩ := jm_okN_of (k := 0) hsk
  have hcls : my.2.1.cls = C' := jm_own_cl hcl y1
  have hrecv := va_recv hK.1 hP hcl (jm_enc_at hsk)
  dsimp only at hrecv
  rw [← hcls] at hrecv
  have hst0 : ((as.reverse ++ .ref a :: rest).map (jm_rv α)) = (as.map (jm_rv α)).reverse ++ .ref (α a) :: rest.map (jm_rv α) := by rw [List.map_append, List.map_reverse]; rfl
  refine jm_after C (va_runV (C := my.2.1.cls) (b := α a) (As := as.map (jm_rv α)) (rest := rest.map (jm_rv α)) (n := my.2.2.2.2.2.2.2.1 - 1) ⟨hx, hb, hml, hown, hts⟩ M ⟨callB_of _ hts (jm_goodIn hmy hyl) rfl rfl rfl (hts _ (jm_tg_of y7 rfl)) (hts _ hlk) ⟨y4, y5, y6⟩ ⟨?_, ?_⟩, hts _ (jm_tg_of y8 rfl), hts _ (jm_tg_of y9 rfl)⟩ ⟨jm_blind, hrecv, jm_prc (as := .ref a :: as) C hP hS hX⟩ rfl ?_ hl.1 hst0 ?_ hd ⟨?_, ?_⟩) hS hl hlen k
  · show my.2.2.2.2.2.1 + 1 ≤ R.frames
    omega
  · show 8 + (my.2.2.2.1 + 11) + 38 * my.2.2.2.2.2.1 ≤ R.locals
    omega
  · rw [List.length_map]; omega
  · exact lv_room (by rw [jm_cat_rv]; exact hcat)
  · exact hcs.1
  · exact hcs.2
end SND3
end
section
section SND4
variable {D : va_G} {α : Nat → Nat} {κ : Nat → ClassId} {xs : Nat → Int32} {L : Nat}
variable {p : Program} {l : Launch} {e : Env} {R : Room} {s : State} {mid : MethodId} {args : Array Value} {below : List Frame} {meth : Method} {c : Code} {cells slots : Nat} {Q : State → Prop} {A : Nat → Prop}
def jm_act (m : Nat) (N : jm_N) : Option jm_A := match jm_mt[m]?, jm_code m N.1 with
  | some mt, some (i, n) => match Nat.beq N.2.1.length mt.2.2.2.1 with
    | true => jm_do mt.1 mt.2.2.2.2.1 i n N.1 N.2.1 N.2.2.1 N.2.2.2
    | false => none
  | _, _ => none
def jm_ini (m : Nat) (as : List Value) : jm_L := match jm_mt[m]? with
  | some mt => jm_pad mt.2.2.2.1 (jm_ent as)
  | none => []
theorem jm_act_i {m : Nat} {N : jm_N} {r : jm_A} (h : jm_act m N = some r) : ∃ mt i n, jm_mt[m]? = some mt ∧ jm_code m N.1 = some (i, n) ∧ N.2.1.length = mt.2.2.2.1 ∧ jm_do mt.1 mt.2.2.2.2.1 i n N.1 N.2.1 N.2.2.1 N.2.2.2 = some r := by
  unfold jm_act at h
  split at h
  · next mt i n h1 h2 =>
    split at h
    · next hb => exact ⟨mt, i, n, h1, h2, Nat.eq_of_beq_eq_true hb, h⟩
    · cases h
  · cases h
/-- a return that fits the method -/
def jm_RT (mt : jm_M) (pc : Nat) (v : Option Value) : Prop :=
  (∃ x ty, v = some (.int x) ∧ decode mt.2.2.1 pc = .ok (.ireturn, 1) ∧ mt.2.2.2.2.1 = some ty ∧ narrow ty (.int x) = .int x) ∨ (∃ x, v = some (.long x) ∧ decode mt.2.2.1 pc = .ok (.lreturn, 1) ∧ mt.2.2.2.2.1 = some .long) ∨ (v = none ∧ decode mt.2.2.1 pc = .ok (.return_, 1) ∧ mt.2.2.2.2.1 = none)
/-- what each action owes -/
def jm_owe (D : va_G) (α : Nat → Nat) (κ : Nat → ClassId) (xs : Nat → Int32) (L : Nat) (p : Program) (l : Launch) (e : Env) (R : Room) (s : State) (mid : MethodId) (args : Array Value) (below : List Frame) (meth : Method) (c : Code) (cells slots : Nat) (Q : State → Prop) (A : Nat → Prop) (mt : jm_M) (pc : Nat) (a : jm_A) : Prop := match a with
  | .inl s1 => jm_W D α κ xs L p l e R s mid args below meth c cells slots Q A mt s1
  | .inr (.inl r) => jm_RT mt pc r.1 → ∀ (H : Heap) (locs : List Loc) (larr : Array Slot), va_P D jm_cl (jm_enc α κ r.2) H → va_S A s.heap H locs → jm_X xs L r.2 → W p l e R s mid args below meth c H locs cells slots Q (F0 mid pc larr (r.1.toList.map (jm_rv α)))
  | .inr (.inr (y, as, k)) => ∃ my v τ, jm_mt[y]? = some my ∧ jm_Met D α κ xs L l my as k.2.2.2 v τ ∧ jm_W D α κ xs L p l e R s mid args below meth c cells slots Q A mt (k.1, k.2.1, v.toList ++ k.2.2.1, τ)
theorem jm_call_split (o z : Nat) (vir : Bool) {pc : Nat} {ls : jm_L} {st : List Value} {σ : jm_S} {a : jm_A} (h : jm_call o z vir pc ls st σ = some a) :
    (∃ k pl, jm_lk2 jm_ml o z = some (k, pl) ∧ Nat.ble 1000 k = true ∧ vir = false ∧ jm_nat k pc ls st σ = some a) ∨
    (∃ y pl my as rest, jm_lk2 jm_ml o z = some (y, pl) ∧ Nat.ble 1000 y = false ∧ jm_mt[y]? = some my ∧ my.2.2.2.2.2.2.1 = !vir ∧ as.length = my.2.2.2.2.2.2.2.1 ∧ st = as.reverse ++ rest ∧ jm_cat rest ≤ 8 ∧ (vir = true → ∃ b bs, as = .ref b :: bs ∧ jm_oc b = some my.1) ∧ a = .inr (.inr (y, as, (pc + 3, ls, rest, σ)))) := by
  unfold jm_call at h
  obtain ⟨⟨k, pl⟩, hq, h⟩ := jm_ob_i h
  dsimp only at h
  split at h
  · next hb =>
    split at h
    · exact Or.inl ⟨k, pl, hq, hb, rfl, h⟩
    · cases h
  · next hb =>
    obtain ⟨my, hmy, h⟩ := jm_ob_i h
    split at h
    · next hc =>
      obtain ⟨c1, c2, c3⟩ := hc
      have hlen : ((st.take my.2.2.2.2.2.2.2.1).reverse).length = my.2.2.2.2.2.2.2.1 := by rw [List.length_reverse, List.length_take]; omega
      have hst : st = ((st.take my.2.2.2.2.2.2.2.1).reverse).reverse ++ st.drop my.2.2.2.2.2.2.2.1 := by rw [List.reverse_reverse, List.take_append_drop]
      split at h
      · next hv =>
        split at h
        · next b bs heq =>
          split at h
          · next hoc =>
            cases h
            rw [heq] at hlen hst
            exact Or.inr ⟨k, pl, my, _, _, hq, hb, hmy, c3, hlen, hst, c2, fun _ => ⟨b, bs, rfl, hoc⟩, rfl⟩
          · cases h
        · cases h
      · next hv =>
        cases h
        exact Or.inr ⟨k, pl, my, _, _, hq, hb, hmy, c3, hlen, hst, c2, fun q => absurd q hv, rfl⟩
    · cases h

theorem jm_do_call {m : Nat} {mt : jm_M} (hm : jm_mt[m]? = some mt) (C : jm_Cx D α κ xs L p R s mid args c cells slots A mt) {pc z n : Nat} {ls : jm_L} {st : List Value} {σ : jm_S} {i : Instr} {vir : Bool} (hc : jm_code m pc = some (i, n)) (hi : (i = .invokestatic z ∧ vir = false) ∨ (i = .invokevirtual z ∧ vir = true)) (hn : n = 3) {a : jm_A} (ha : jm_call mt.1 z vir pc ls st σ = some a) (k : jm_owe D α κ xs L p l e R s mid args below meth c cells slots Q A mt pc a) : jm_W D α κ xs L p l e R s mid args below meth c cells slots Q A mt (pc, ls, st, σ) := by
  have hd := jm_dec hm hc
  subst hn
  rcases jm_call_split _ _ _ ha with ⟨y, pl, hq, hb, hv, h⟩ | ⟨y, pl, my, as, rest, hq, hb, hmy, hs, hlen, hst, hcat, hoc, rfl⟩
  · obtain ⟨rfl, -⟩ : i = .invokestatic z ∧ vir = false := by
      rcases hi with h | ⟨-, h⟩
      · exact h
      · rw [hv] at h; cases h
    have h1 := (jm_hgt hm hc (Or.inl rfl) hq).1 hb
    unfold jm_nat at h
    split at h
    · obtain ⟨a1, sp, b1, dp, n1, t, rfl, h9⟩ := jm_cp_i h
      obtain ⟨n0, hw0, h9⟩ := jm_ob_i h9
      obtain ⟨n2, hw1, h9⟩ := jm_ob_i h9
      split at h9
      · cases h9
      · next hh =>
        cases h9
        exact jm_x_cpy C hw0 hw1 hh hd hq h1 (fun q => hh (Or.inr (Or.inr (Or.inr (Or.inr (Or.inr q)))))) k
    · obtain ⟨x, y1, t, rfl, h9⟩ := jm_2_i h
      split at h9
      · cases h9
      · next hh => cases h9; exact jm_x_max C hd hq h1 hh k
    · obtain ⟨x, y1, t, rfl, h9⟩ := jm_2_i h
      split at h9
      · cases h9
      · next hh => cases h9; exact jm_x_min C hd hq h1 hh k
    · obtain ⟨x, t, rfl, h9⟩ := jm_1_i h
      split at h9
      · cases h9
      · next hh => cases h9; exact jm_x_abs C hd hq h1 hh k
    · obtain ⟨x, y1, t, rfl, h9⟩ := jm_l2_i h
      split at h9
      · cases h9
      · next hh => cases h9; exact jm_x_maxl C hd hq h1 hh k
    · cases h
  · obtain ⟨my', v, τ, hmy', M, kk⟩ := k
    cases hmy.symm.trans hmy'
    subst hst
    rcases hi with ⟨rfl, rfl⟩ | ⟨rfl, rfl⟩
    · exact jm_x_calls C hd hq hb hmy ((jm_hgt hm hc (Or.inl rfl) hq).2 hb my hmy) hs hlen hcat M kk
    · obtain ⟨b, bs, rfl, hob⟩ := hoc rfl
      have e1 : (Value.ref b :: bs).reverse ++ rest = bs.reverse ++ .ref b :: rest := by simp
      rw [e1]
      exact jm_x_callv C hd hq hb hmy ((jm_hgt hm hc (Or.inr rfl) hq).2 hb my hmy) hs hlen hob hcat M kk

theorem jm_step {m : Nat} {mt : jm_M} (hm : jm_mt[m]? = some mt) (C : jm_Cx D α κ xs L p R s mid args c cells slots A mt) {pc : Nat} {ls : jm_L} {st : List Value} {σ : jm_S} {i : Instr} {n : Nat} (hc : jm_code m pc = some (i, n)) {a : jm_A} (ha : jm_do mt.1 mt.2.2.2.2.1 i n pc ls st σ = some a) (k : jm_owe D α κ xs L p l e R s mid args below meth c cells slots Q A mt pc a) : jm_W D α κ xs L p l e R s mid args below meth c cells slots Q A mt (pc, ls, st, σ) := by
  have hd := jm_dec hm hc
  unfold jm_do at ha
  split at ha
  · cases ha; exact jm_x_iconst C hd k
  · cases ha; exact jm_x_bipush C hd k
  · cases ha; exact jm_x_sipush C hd k
  · cases ha; exact jm_x_lconst C hd k
  · obtain ⟨q, hq, ha⟩ := jm_ob_i ha
    cases ha; exact jm_x_ldc C hd hq k
  · obtain ⟨q, hq, ha⟩ := jm_ob_i ha
    cases ha; exact jm_x_ldcw C hd hq k
  · obtain ⟨q, hq, ha⟩ := jm_ob_i ha
    cases ha; exact jm_x_ldc2 C hd hq k
  · obtain ⟨x, hg, ha⟩ := jm_ld_i ha
    cases ha; exact jm_x_iload_n C hd hg k
  · obtain ⟨x, hg, ha⟩ := jm_ld_i ha
    cases ha; exact jm_x_iload C hd hg k
  · obtain ⟨x, hg, ha⟩ := jm_ldl_i ha
    cases ha; exact jm_x_lload_n C hd hg k
  · obtain ⟨x, hg, ha⟩ := jm_ldl_i ha
    cases ha; exact jm_x_lload C hd hg k
  · obtain ⟨x, hg, ha⟩ := jm_lda_i ha
    cases ha; exact jm_x_aload_n C hd hg k
  · obtain ⟨x, hg, ha⟩ := jm_lda_i ha
    cases ha; exact jm_x_aload C hd hg k
  · obtain ⟨x, t, rfl, hz9⟩ := jm_1_i ha
    split at hz9
    · next hz => cases hz9; exact jm_x_istore_n C hd hz k
    · cases hz9
  · obtain ⟨x, t, rfl, hz9⟩ := jm_1_i ha
    split at hz9
    · next hz => cases hz9; exact jm_x_istore C hd hz k
    · cases hz9
  · split at ha
    · split at ha
      · next hz => cases ha; exact jm_x_lstore_n C hd hz k
      · cases ha
    · cases ha
  · split at ha
    · split at ha
      · next hz => cases ha; exact jm_x_lstore C hd hz k
      · cases ha
    · cases ha
  · obtain ⟨x, t, rfl, hz9⟩ := jm_r1_i ha
    split at hz9
    · next hz => cases hz9; exact jm_x_astore_n C hd hz k
    · cases hz9
  · obtain ⟨x, t, rfl, hz9⟩ := jm_r1_i ha
    split at hz9
    · next hz => cases hz9; exact jm_x_astore C hd hz k
    · cases hz9
  · obtain ⟨x, hg, ha⟩ := jm_ld_i ha
    cases ha; exact jm_x_iinc C hd hg k
  · obtain ⟨x, y, t, rfl, hz9⟩ := jm_2_i ha
    cases hz9; exact jm_x_iadd C hd k
  · obtain ⟨x, y, t, rfl, hz9⟩ := jm_2_i ha
    cases hz9; exact jm_x_isub C hd k
  · obtain ⟨x, y, t, rfl, hz9⟩ := jm_2_i ha
    cases hz9; exact jm_x_imul C hd k
  · obtain ⟨x, y, t, rfl, hz9⟩ := jm_2_i ha
    cases hz9; exact jm_x_iand C hd k
  · obtain ⟨x, y, t, rfl, hz9⟩ := jm_2_i ha
    cases hz9; exact jm_x_ixor C hd k
  · obtain ⟨x, y, t, rfl, hz9⟩ := jm_2_i ha
    split at hz9
    · cases hz9
    · next hy => cases hz9; exact jm_x_idiv C hd hy k
  · obtain ⟨x, y, t, rfl, hz9⟩ := jm_2_i ha
    cases hz9; exact jm_x_ishl C hd k
  · obtain ⟨x, y, t, rfl, hz9⟩ := jm_2_i ha
    cases hz9; exact jm_x_ishr C hd k
  · obtain ⟨x, t, rfl, hz9⟩ := jm_1_i ha
    cases hz9; exact jm_x_ineg C hd k
  · obtain ⟨x, y, t, rfl, hz9⟩ := jm_l2_i ha
    cases hz9; exact jm_x_ladd C hd k
  · obtain ⟨x, y, t, rfl, hz9⟩ := jm_l2_i ha
    cases hz9; exact jm_x_lsub C hd k
  · obtain ⟨x, y, t, rfl, hz9⟩ := jm_l2_i ha
    cases hz9; exact jm_x_lmul C hd k
  · obtain ⟨x, y, t, rfl, hz9⟩ := jm_l2_i ha
    split at hz9
    · cases hz9
    · next hy => cases hz9; exact jm_x_ldiv C hd hy k
  · obtain ⟨x, y, t, rfl, hz9⟩ := jm_l2_i ha
    split at hz9
    · cases hz9
    · next hy => cases hz9; exact jm_x_lrem C hd hy k
  · obtain ⟨x, y, t, rfl, hz9⟩ := jm_l2_i ha
    cases hz9; exact jm_x_lcmp C hd k
  · obtain ⟨x, t, rfl, hz9⟩ := jm_1_i ha
    cases hz9; exact jm_x_i2l C hd k
  · obtain ⟨x, t, rfl, hz9⟩ := jm_1_i ha
    cases hz9; exact jm_x_i2b C hd k
  · obtain ⟨x, t, rfl, hz9⟩ := jm_1_i ha
    cases hz9; exact jm_x_i2s C hd k
  · split at ha
    · split at ha
      · next hv => cases ha; exact jm_x_dup C hd hv k
      · cases ha
    · cases ha
  · split at ha
    · split at ha
      · next hv => cases ha; exact jm_x_dup2 C hd hv.1 hv.2 k
      · cases ha
    · cases ha
  · split at ha
    · split at ha
      · next hv => cases ha; exact jm_x_pop C hd hv k
      · cases ha
    · cases ha
  · unfold jm_jmp at ha
    split at ha
    · next hp => cases ha; exact jm_x_goto C hd (Int.toNat_of_nonneg hp).symm k
    · cases ha
  · obtain ⟨x, t, rfl, hz9⟩ := jm_1_i ha
    rcases a with s1 | a1
    · exact jm_x_if C hd hz9 k
    · unfold jm_br at hz9
      split at hz9
      · split at hz9 <;> cases hz9
      · cases hz9
  · obtain ⟨x, y, t, rfl, hz9⟩ := jm_2_i ha
    rcases a with s1 | a1
    · exact jm_x_icmp C hd hz9 k
    · unfold jm_br at hz9
      split at hz9
      · split at hz9 <;> cases hz9
      · cases hz9
  · obtain ⟨x, t, rfl, hz9⟩ := jm_1_i ha
    split at hz9
    · next ho =>
      unfold jm_jmp at hz9
      split at hz9
      · next hp => cases hz9; exact jm_x_tsO C hd ho (Int.toNat_of_nonneg hp).symm k
      · cases hz9
    · next ho =>
      obtain ⟨z, hz, hz9⟩ := jm_ob_i hz9
      unfold jm_jmp at hz9
      split at hz9
      · next hp => cases hz9; exact jm_x_tsI C hd ho hz (Int.toNat_of_nonneg hp).symm k
      · cases hz9
  · obtain ⟨x, t, rfl, hz9⟩ := jm_r1_i ha
    obtain ⟨q, hq, hz9⟩ := jm_ob_i hz9
    obtain ⟨v, hv, hz9⟩ := jm_ob_i hz9
    cases hz9; exact jm_x_getf C hd hq hv k
  · obtain ⟨x, y, t, rfl, hz9⟩ := jm_rx_i ha
    obtain ⟨q, hq, hz9⟩ := jm_ob_i hz9
    obtain ⟨v, hv, hz9⟩ := jm_ob_i hz9
    cases hz9; exact jm_x_putf C hd hq hv k
  · obtain ⟨q, hq, ha⟩ := jm_ob_i ha
    cases ha; exact jm_x_gets C hd hq k
  · obtain ⟨x, y, t, rfl, hz9⟩ := jm_ri_i ha
    obtain ⟨q, hq, hz9⟩ := jm_ob_i hz9
    split at hz9
    · cases hz9
    · next hj => cases hz9; exact jm_x_iaload C hd hq hj k
  · obtain ⟨x, y, t, rfl, hz9⟩ := jm_ri_i ha
    obtain ⟨q, hq, hz9⟩ := jm_ob_i hz9
    split at hz9
    · cases hz9
    · next hj => cases hz9; exact jm_x_baload C hd hq hj k
  · obtain ⟨x, y, u, t, rfl, hz9⟩ := jm_rix_i ha
    obtain ⟨q, hq, hz9⟩ := jm_ob_i hz9
    split at hz9
    · cases hz9
    · next hj => cases hz9; exact jm_x_iastore C hd hq hj k
  · obtain ⟨x, y, u, t, rfl, hz9⟩ := jm_rix_i ha
    obtain ⟨q, hq, hz9⟩ := jm_ob_i hz9
    split at hz9
    · cases hz9
    · next hj => cases hz9; exact jm_x_bastore C hd hq (fun q => hj (q.elim Or.inl (fun q => Or.inr (Or.inl q)))) (Classical.byContradiction fun q => hj (Or.inr (Or.inr q))) k
  · obtain ⟨x, y, t, rfl, hz9⟩ := jm_ri_i ha
    obtain ⟨q, hq, hz9⟩ := jm_ob_i hz9
    split at hz9
    · cases hz9
    · next hj =>
      obtain ⟨r, hr, hz9⟩ := jm_ob_i hz9
      cases hz9; exact jm_x_aaload C hd hq hj hr k
  · obtain ⟨x, t, rfl, hz9⟩ := jm_r1_i ha
    obtain ⟨q, hq, hz9⟩ := jm_ob_i hz9
    cases hz9; exact jm_x_alen C hd hq k
  · exact jm_do_call hm C hc (Or.inl ⟨rfl, rfl⟩) rfl ha k
  · exact jm_do_call hm C hc (Or.inr ⟨rfl, rfl⟩) rfl ha k
  · unfold jm_ret at ha
    split at ha
    · next v =>
      split at ha
      · next hr =>
        cases ha
        intro H locs larr hP hS hl hlen hX
        exact k (Or.inl ⟨v, .int, rfl, hd, hr, rfl⟩) H locs larr hP hS hX
      · next hr =>
        split at ha
        · next h01 =>
          cases ha
          intro H locs larr hP hS hl hlen hX
          exact k (Or.inl ⟨v, .boolean, rfl, hd, hr, by rcases h01 with rfl | rfl <;> decide +kernel⟩) H locs larr hP hS hX
        · cases ha
      · cases ha
    · cases ha
  · unfold jm_lret at ha
    split at ha
    · next v =>
      split at ha
      · next hr =>
        cases ha
        intro H locs larr hP hS hl hlen hX
        exact k (Or.inr (Or.inl ⟨v, rfl, hd, hr⟩)) H locs larr hP hS hX
      · cases ha
    · cases ha
  · unfold jm_vret at ha
    split at ha
    · split at ha
      · next hr =>
        cases ha
        intro H locs larr hP hS hl hlen hX
        exact k (Or.inr (Or.inr ⟨rfl, hd, hr⟩)) H locs larr hP hS hX
      · cases ha
    · cases ha
  · cases ha
end SND4
end
section
/-- whom a call names lies ahead of the law -/
theorem jm_call_lt {o z y : Nat} {vir : Bool} {pc : Nat} {ls : jm_L} {st : List Value} {σ : jm_S} {as : List Value} {k : jm_N} {own : String} (ho : jm_own[o]? = some own) (h : jm_call o z vir pc ls st σ = some (.inr (.inr (y, as, k)))) {my : jm_M} (hmy : jm_mt[y]? = some my) : y < 201 := by
  rcases jm_call_split _ _ _ h with ⟨y', pl, hq, hb, hv, h⟩ | ⟨y', pl, my', as', rest, hq, hb, hmy', hs, hlen, hst, hcat, hoc, he⟩
  · unfold jm_nat at h
    split at h
    · obtain ⟨a1, sp, b1, dp, n1, t, rfl, h9⟩ := jm_cp_i h
      obtain ⟨n0, hw0, h9⟩ := jm_ob_i h9
      obtain ⟨n2, hw1, h9⟩ := jm_ob_i h9
      split at h9 <;> cases h9
    · obtain ⟨x, y1, t, rfl, h9⟩ := jm_2_i h
      split at h9 <;> cases h9
    · obtain ⟨x, y1, t, rfl, h9⟩ := jm_2_i h
      split at h9 <;> cases h9
    · obtain ⟨x, t, rfl, h9⟩ := jm_1_i h
      split at h9 <;> cases h9
    · obtain ⟨x, y1, t, rfl, h9⟩ := jm_l2_i h
      split at h9 <;> cases h9
    · cases h
  · cases he
    exact (jm_ml_of ho hq hb hmy').2
theorem jm_do_lt {D : va_G} {α : Nat → Nat} {κ : Nat → ClassId} {xs : Nat → Int32} {L : Nat} {p : Program} {R : Room} {s : State} {mid : MethodId} {args : Array Value} {c : Code} {cells slots : Nat} {A : Nat → Prop} {m : Nat} {mt : jm_M} (hm : jm_mt[m]? = some mt) (C : jm_Cx D α κ xs L p R s mid args c cells slots A mt) {pc : Nat} {ls : jm_L} {st : List Value} {σ : jm_S} {i : Instr} {n : Nat} (hc : jm_code m pc = some (i, n)) {y : Nat} {as : List Value} {k : jm_N} (ha : jm_do mt.1 mt.2.2.2.2.1 i n pc ls st σ = some (.inr (.inr (y, as, k)))) {my : jm_M} (hmy : jm_mt[y]? = some my) : y < 201 := by
  obtain ⟨-, -, -, ⟨own, ho, -⟩, -⟩ := C
  unfold jm_do at ha
  split at ha
  · cases ha
  · cases ha
  · cases ha
  · cases ha
  · obtain ⟨q, hq, ha⟩ := jm_ob_i ha
    cases ha
  · obtain ⟨q, hq, ha⟩ := jm_ob_i ha
    cases ha
  · obtain ⟨q, hq, ha⟩ := jm_ob_i ha
    cases ha
  · obtain ⟨x, hg, ha⟩ := jm_ld_i ha
    cases ha
  · obtain ⟨x, hg, ha⟩ := jm_ld_i ha
    cases ha
  · obtain ⟨x, hg, ha⟩ := jm_ldl_i ha
    cases ha
  · obtain ⟨x, hg, ha⟩ := jm_ldl_i ha
    cases ha
  · obtain ⟨x, hg, ha⟩ := jm_lda_i ha
    cases ha
  · obtain ⟨x, hg, ha⟩ := jm_lda_i ha
    cases ha
  · obtain ⟨x, t, rfl, hz9⟩ := jm_1_i ha
    split at hz9
    · next hz => cases hz9
    · cases hz9
  · obtain ⟨x, t, rfl, hz9⟩ := jm_1_i ha
    split at hz9
    · next hz => cases hz9
    · cases hz9
  · split at ha
    · split at ha
      · next hz => cases ha
      · cases ha
    · cases ha
  · split at ha
    · split at ha
      · next hz => cases ha
      · cases ha
    · cases ha
  · obtain ⟨x, t, rfl, hz9⟩ := jm_r1_i ha
    split at hz9
    · next hz => cases hz9
    · cases hz9
  · obtain ⟨x, t, rfl, hz9⟩ := jm_r1_i ha
    split at hz9
    · next hz => cases hz9
    · cases hz9
  · obtain ⟨x, hg, ha⟩ := jm_ld_i ha
    cases ha
  · obtain ⟨x, y, t, rfl, hz9⟩ := jm_2_i ha
    cases hz9
  · obtain ⟨x, y, t, rfl, hz9⟩ := jm_2_i ha
    cases hz9
  · obtain ⟨x, y, t, rfl, hz9⟩ := jm_2_i ha
    cases hz9
  · obtain ⟨x, y, t, rfl, hz9⟩ := jm_2_i ha
    cases hz9
  · obtain ⟨x, y, t, rfl, hz9⟩ := jm_2_i ha
    cases hz9
  · obtain ⟨x, y, t, rfl, hz9⟩ := jm_2_i ha
    split at hz9
    · cases hz9
    · next hy => cases hz9
  · obtain ⟨x, y, t, rfl, hz9⟩ := jm_2_i ha
    cases hz9
  · obtain ⟨x, y, t, rfl, hz9⟩ := jm_2_i ha
    cases hz9
  · obtain ⟨x, t, rfl, hz9⟩ := jm_1_i ha
    cases hz9
  · obtain ⟨x, y, t, rfl, hz9⟩ := jm_l2_i ha
    cases hz9
  · obtain ⟨x, y, t, rfl, hz9⟩ := jm_l2_i ha
    cases hz9
  · obtain ⟨x, y, t, rfl, hz9⟩ := jm_l2_i ha
    cases hz9
  · obtain ⟨x, y, t, rfl, hz9⟩ := jm_l2_i ha
    split at hz9
    · cases hz9
    · next hy => cases hz9
  · obtain ⟨x, y, t, rfl, hz9⟩ := jm_l2_i ha
    split at hz9
    · cases hz9
    · next hy => cases hz9
  · obtain ⟨x, y, t, rfl, hz9⟩ := jm_l2_i ha
    cases hz9
  · obtain ⟨x, t, rfl, hz9⟩ := jm_1_i ha
    cases hz9
  · obtain ⟨x, t, rfl, hz9⟩ := jm_1_i ha
    cases hz9
  · obtain ⟨x, t, rfl, hz9⟩ := jm_1_i ha
    cases hz9
  · split at ha
    · split at ha
      · next hv => cases ha
      · cases ha
    · cases ha
  · split at ha
    · split at ha
      · next hv => cases ha
      · cases ha
    · cases ha
  · split at ha
    · split at ha
      · next hv => cases ha
      · cases ha
    · cases ha
  · unfold jm_jmp at ha
    split at ha
    · next hp => cases ha
    · cases ha
  · obtain ⟨x, t, rfl, hz9⟩ := jm_1_i ha
    unfold jm_br at hz9
    split at hz9
    · split at hz9 <;> cases hz9
    · cases hz9
  · obtain ⟨x, y, t, rfl, hz9⟩ := jm_2_i ha
    unfold jm_br at hz9
    split at hz9
    · split at hz9 <;> cases hz9
    · cases hz9
  · obtain ⟨x, t, rfl, hz9⟩ := jm_1_i ha
    split at hz9
    · next ho =>
      unfold jm_jmp at hz9
      split at hz9
      · next hp => cases hz9
      · cases hz9
    · next ho =>
      obtain ⟨z, hz, hz9⟩ := jm_ob_i hz9
      unfold jm_jmp at hz9
      split at hz9
      · next hp => cases hz9
      · cases hz9
  · obtain ⟨x, t, rfl, hz9⟩ := jm_r1_i ha
    obtain ⟨q, hq, hz9⟩ := jm_ob_i hz9
    obtain ⟨v, hv, hz9⟩ := jm_ob_i hz9
    cases hz9
  · obtain ⟨x, y, t, rfl, hz9⟩ := jm_rx_i ha
    obtain ⟨q, hq, hz9⟩ := jm_ob_i hz9
    obtain ⟨v, hv, hz9⟩ := jm_ob_i hz9
    cases hz9
  · obtain ⟨q, hq, ha⟩ := jm_ob_i ha
    cases ha
  · obtain ⟨x, y, t, rfl, hz9⟩ := jm_ri_i ha
    obtain ⟨q, hq, hz9⟩ := jm_ob_i hz9
    split at hz9
    · cases hz9
    · next hj => cases hz9
  · obtain ⟨x, y, t, rfl, hz9⟩ := jm_ri_i ha
    obtain ⟨q, hq, hz9⟩ := jm_ob_i hz9
    split at hz9
    · cases hz9
    · next hj => cases hz9
  · obtain ⟨x, y, u, t, rfl, hz9⟩ := jm_rix_i ha
    obtain ⟨q, hq, hz9⟩ := jm_ob_i hz9
    split at hz9
    · cases hz9
    · next hj => cases hz9
  · obtain ⟨x, y, u, t, rfl, hz9⟩ := jm_rix_i ha
    obtain ⟨q, hq, hz9⟩ := jm_ob_i hz9
    split at hz9
    · cases hz9
    · next hj => cases hz9
  · obtain ⟨x, y, t, rfl, hz9⟩ := jm_ri_i ha
    obtain ⟨q, hq, hz9⟩ := jm_ob_i hz9
    split at hz9
    · cases hz9
    · next hj =>
      obtain ⟨r, hr, hz9⟩ := jm_ob_i hz9
      cases hz9
  · obtain ⟨x, t, rfl, hz9⟩ := jm_r1_i ha
    obtain ⟨q, hq, hz9⟩ := jm_ob_i hz9
    cases hz9
  · exact jm_call_lt ho ha hmy
  · exact jm_call_lt ho ha hmy
  · unfold jm_ret at ha
    split at ha
    · next v =>
      split at ha
      · next hr =>
        cases ha
      · next hr =>
        split at ha
        · next h01 =>
          cases ha
        · cases ha
      · cases ha
    · cases ha
  · unfold jm_lret at ha
    split at ha
    · next v =>
      split at ha
      · next hr =>
        cases ha
      · cases ha
    · cases ha
  · unfold jm_vret at ha
    split at ha
    · split at ha
      · next hr =>
        cases ha
      · cases ha
    · cases ha
  · cases ha
theorem jm_ent_map (α : Nat → Nat) (vs : List Value) : jm_ent (vs.map (jm_rv α)) = (jm_ent vs).map (Option.map (jm_rv α)) := by
  induction vs with
  | nil => rfl
  | cons v r ih => cases v <;> simp only [List.map_cons, jm_rv, jm_ent, ih, Option.map_some, Option.map_none]
theorem jm_sl_len (vs : List Value) : (lg_sl vs).length = (jm_ent vs).length := by
  induction vs with
  | nil => rfl
  | cons v r ih =>
    have e : lg_sl (v :: r) = (if v.category = 2 then [.val v, .second] else [.val v]) ++ lg_sl r := rfl
    rw [e, List.length_append, ih]
    cases v <;> simp [jm_ent, Value.category] <;> omega
theorem jm_pad_get {n i : Nat} {l : jm_L} {v : Value} (h : jm_get (jm_pad n l) i = some v) : l[i]? = some (some v) := by
  have h1 := (jm_get_lt h).2
  unfold jm_pad at h1
  by_cases hl : i < l.length
  · rwa [List.getElem?_append_left hl] at h1
  · rw [List.getElem?_append_right (by omega), List.getElem?_replicate] at h1
    split at h1 <;> cases h1
section SND5
variable {D : va_G} {α : Nat → Nat} {κ : Nat → ClassId} {xs : Nat → Int32} {L : Nat} {l : Launch}
/-- from a run of a body, the machine's -/
def jm_Snd (D : va_G) (α : Nat → Nat) (κ : Nat → ClassId) (xs : Nat → Int32) (L : Nat) (l : Launch) (n : Nat) : Prop :=
  ∀ (m : Nat) (N : jm_N) (v : Option Value) (τ : jm_S) (mt : jm_M), jm_mt[m]? = some mt → jm_evF jm_act jm_ini n m N = some (v, τ) → ∀ (p : Program) (e : Env) (R : Room) (s : State) (mid : MethodId) (args : Array Value) (below : List Frame) (meth : Method) (c : Code) (cells slots : Nat) (Q : State → Prop) (A : Nat → Prop), jm_Cx D α κ xs L p R s mid args c cells slots A mt →
    (∀ (pc : Nat) (H : Heap) (locs : List Loc) (larr : Array Slot), jm_RT mt pc v → va_P D jm_cl (jm_enc α κ τ) H → va_S A s.heap H locs → jm_X xs L τ → W p l e R s mid args below meth c H locs cells slots Q (F0 mid pc larr (v.toList.map (jm_rv α)))) →
    jm_W D α κ xs L p l e R s mid args below meth c cells slots Q A mt N
theorem jm_met_of (hinj : jm_inj α) {n y : Nat} (ih : jm_Snd D α κ xs L l n) {my : jm_M} (hmy : jm_mt[y]? = some my) (hy : y < 201) {as : List Value} {σ τ : jm_S} {v : Option Value} (hlen : (jm_ent as).length ≤ my.2.2.2.1) (h : jm_evF jm_act jm_ini n y (0, jm_ini y as, [], σ) = some (v, τ)) : jm_Met D α κ xs L l my as σ v τ := by
  have hY := jm_okY_of hmy hy
  unfold jm_okY at hY
  simp only [Bool.and_eq_true, decide_eq_true_eq] at hY
  obtain ⟨y1, y2, y3, -⟩ := hY
  refine Met.ofW (cc := my.2.2.1) (maxL := my.2.2.2.1) (ret := my.2.2.2.2.1) y3 rfl ?_
  intro p e s mid args below meth c s₁ B hml hv
  obtain ⟨rfl, ⟨hP, hK, hT, hX⟩, hnn⟩ := hv
  have hx := B.exec
  have hb := B.bytes
  have hr := B.returns
  have hts := atoms_spec (ws := jm_ws my) B.pre
  have hown : s.vm.findClass my.2.1.cls = some mid.cls := findClass_of_methodNamed B.named
  have hlocks := B.notSynchronized
  have hl := lv_entry (as.map (jm_rv α)) (n := my.2.2.2.1) (by rw [jm_sl_len, jm_ent_map, List.length_map]; exact hlen)
  rw [lg_entry_eq]
  generalize (lg_sl (as.map (jm_rv α)) ++ List.replicate (my.2.2.2.1 - (lg_sl (as.map (jm_rv α))).length) Slot.unset).toArray = larr at hl ⊢
  have hini : jm_ini y as = jm_pad my.2.2.2.1 (jm_ent as) := by unfold jm_ini; rw [hmy]
  have hl2 : lv_has larr my.2.2.2.1 (jm_lv α (jm_ini y as)) := by
    refine jm_has_sub hl (fun q hq => ?_)
    obtain ⟨u, hu, hq2⟩ := jm_lv_inv hq
    rw [hini] at hu
    have h1 := jm_pad_get hu
    have h2 : (jm_ent (as.map (jm_rv α)))[q.1]? = some (some (jm_rv α u)) := by rw [jm_ent_map, List.getElem?_map, h1]; rfl
    have h3 := jm_ent_lv (as.map (jm_rv α)) 0 q.1 _ h2
    rw [Nat.zero_add, ← hq2] at h3
    exact h3
  have hlen2 : (jm_ini y as).length = my.2.2.2.1 := by
    rw [hini]
    unfold jm_pad
    rw [List.length_append, List.length_replicate]
    omega
  have Cx : jm_Cx D α κ xs L p (headSpec (jm_ws my) (jm_rm my.2.2.2.2.2.1)).room s mid (as.map (jm_rv α)).toArray c 0 0 (jm_A0 α) my :=
    ⟨hx, hb, hml, ⟨_, y1, hown⟩, fun w hw => hts w (List.mem_cons_of_mem _ hw), hK, hT, fun a ha => ⟨a, ha, rfl⟩, ⟨Nat.le_refl _, Nat.le_refl _⟩, ⟨Nat.le_refl _, Nat.le_refl _⟩, hinj, hnn⟩
  have key := ih y _ v τ my hmy h p e _ s mid _ below meth c 0 0 (MQ below (jm_Qc D α κ xs L v τ) (as.map (jm_rv α)).toArray s 0 0 (jm_A0 α)) (jm_A0 α) Cx ?_
  · exact key s.heap [] larr hP va_S.rf hl2 hlen2 hX
  · intro pc H locs larr hrt hP1 hS1 hX1
    have hq : ∀ t : State, t.heap = H → s.WarmedH t.vm → jm_Qc D α κ xs L v τ (as.map (jm_rv α)).toArray s (.returned (v.map (jm_rv α))) t := by
      intro t ht hW
      refine ⟨rfl, ⟨by rw [ht]; exact hP1, hK.moved hW.alike, ?_, hX1⟩, hS1.F ht⟩
      rw [ht]
      exact (hT.kept (fun q h1 h2 => hS1.2.1 q h1 h2)).moved hW.alike
    rcases hrt with ⟨x, ty, rfl, hd, hty, hn⟩ | ⟨x, rfl, hd, hty⟩ | ⟨rfl, hd, hty⟩
    · exact W.zret hx hb (hr.trans hty) hn hq hS1.2.2 hd hlocks
    · exact W.lret hx hb (hr.trans hty) hq hS1.2.2 hd hlocks
    · exact W.vret hx hb (hr.trans hty) hq hS1.2.2 hd hlocks
theorem jm_sound (hinj : jm_inj α) : ∀ n, jm_Snd D α κ xs L l n := by
  intro n
  induction n with
  | zero => intro m N v τ mt hm h; cases h
  | succ n ih =>
    intro m N v τ mt hm h p e R s mid args below meth c cells slots Q A Cx kr
    obtain ⟨pc, ls, st, σ⟩ := N
    rw [jm_evF] at h
    cases ha : jm_act m (pc, ls, st, σ) with
    | none => rw [ha] at h; cases h
    | some a =>
      rw [ha] at h
      obtain ⟨mt', i, k, hm', hc, hlen, hdo⟩ := jm_act_i ha
      cases hm.symm.trans hm'
      refine jm_step hm Cx hc hdo ?_
      rcases a with s1 | r | ⟨y, as, k⟩
      · exact ih m s1 v τ mt hm h p e R s mid args below meth c cells slots Q A Cx kr
      · cases h
        intro hrt H locs larr hP hS hX
        exact kr pc H locs larr hrt hP hS hX
      · dsimp only at h
        cases hcl : jm_evF jm_act jm_ini n y (0, jm_ini y as, [], k.2.2.2) with
        | none => rw [hcl] at h; cases h
        | some vt =>
          obtain ⟨v1, t1⟩ := vt
          rw [hcl] at h
          dsimp only at h
          have hy : ∃ my, jm_mt[y]? = some my ∧ y < 201 ∧ (jm_ent as).length ≤ my.2.2.2.1 := by
            have h2 : jm_act y (0, jm_ini y as, [], k.2.2.2) ≠ none := by
              intro hz
              cases n with
              | zero => cases hcl
              | succ n => rw [jm_evF, hz] at hcl; cases hcl
            cases ha2 : jm_act y (0, jm_ini y as, [], k.2.2.2) with
            | none => exact absurd ha2 h2
            | some a2 =>
              obtain ⟨my, i2, n2, hmy, -, hlen2, -⟩ := jm_act_i ha2
              refine ⟨my, hmy, ?_, ?_⟩
              · exact jm_do_lt hm Cx hc hdo hmy
              · dsimp only at hlen2
                have hini : jm_ini y as = jm_pad my.2.2.2.1 (jm_ent as) := by unfold jm_ini; rw [hmy]
                rw [hini] at hlen2
                unfold jm_pad at hlen2
                rw [List.length_append, List.length_replicate] at hlen2
                omega
          obtain ⟨my, hmy, hyl, hel⟩ := hy
          exact ⟨my, v1, t1, hmy, jm_met_of hinj ih hmy hyl hel hcl, ih m _ v τ mt hm h p e R s mid args below meth c cells slots Q A Cx kr⟩
end SND5
end
section
noncomputable def jv (m pc : Nat) (ls : jm_L) (st : List Value) (σ : jm_S) : Option (Option Value × jm_S) := jm_ev0 jm_act jm_ini m (pc, ls, st, σ)
noncomputable def jc (m : Nat) (as : List Value) (σ : jm_S) : Option (Option Value × jm_S) := jv m 0 (jm_ini m as) [] σ
def jbi (o : Option (Option Value × jm_S)) (f : Int32 → jm_S → Option (Option Value × jm_S)) : Option (Option Value × jm_S) := match o with
  | some (some (.int x), τ) => f x τ
  | _ => none
def jbl (o : Option (Option Value × jm_S)) (f : Int64 → jm_S → Option (Option Value × jm_S)) : Option (Option Value × jm_S) := match o with
  | some (some (.long x), τ) => f x τ
  | _ => none
def jbv (o : Option (Option Value × jm_S)) (f : jm_S → Option (Option Value × jm_S)) : Option (Option Value × jm_S) := match o with
  | some (none, τ) => f τ
  | _ => none
def jaa (i : Int32) (ts : List Nat) (f : Nat → Option (Option Value × jm_S)) : Option (Option Value × jm_S) := if i < 0 ∨ ts.length ≤ i.toNatClampNeg then none else match ts[i.toNatClampNeg]? with
  | some q => f q
  | none => none
theorem jbi_some (x : Int32) (τ : jm_S) (f : Int32 → jm_S → Option (Option Value × jm_S)) : jbi (some (some (.int x), τ)) f = f x τ := rfl
theorem jbl_some (x : Int64) (τ : jm_S) (f : Int64 → jm_S → Option (Option Value × jm_S)) : jbl (some (some (.long x), τ)) f = f x τ := rfl
theorem jbv_some (τ : jm_S) (f : jm_S → Option (Option Value × jm_S)) : jbv (some (none, τ)) f = f τ := rfl
theorem jbi_c {o : Option (Option Value × jm_S)} {f g : Int32 → jm_S → Option (Option Value × jm_S)} (h : ∀ x τ, f x τ = g x τ) : jbi o f = jbi o g := by
  have e : f = g := funext fun x => funext fun τ => h x τ
  rw [e]
theorem jbl_c {o : Option (Option Value × jm_S)} {f g : Int64 → jm_S → Option (Option Value × jm_S)} (h : ∀ x τ, f x τ = g x τ) : jbl o f = jbl o g := by
  have e : f = g := funext fun x => funext fun τ => h x τ
  rw [e]
theorem jbv_c {o : Option (Option Value × jm_S)} {f g : jm_S → Option (Option Value × jm_S)} (h : ∀ τ, f τ = g τ) : jbv o f = jbv o g := by
  have e : f = g := funext fun τ => h τ
  rw [e]
theorem jif {P : Prop} (d : Decidable P) {β : Type} {a b a' b' : β} (h1 : a = a') (h2 : b = b') : @ite β P d a b = @ite β P d a' b' := by rw [h1, h2]
def jv_fit (ty : Option FieldType) (v : Option Value) : Prop := match ty with
  | none => v = none
  | some .int => ∃ x, v = some (.int x)
  | some .boolean => ∃ x, v = some (.int x)
  | some .long => ∃ x, v = some (.long x)
  | _ => False
theorem jm_call_nr {o z : Nat} {vir : Bool} {pc : Nat} {ls : jm_L} {st : List Value} {σ : jm_S} {r : Option Value × jm_S} : ¬ jm_call o z vir pc ls st σ = some (.inr (.inl r)) := by
  intro h
  rcases jm_call_split _ _ _ h with ⟨y', pl, hq, hb, hv, h⟩ | ⟨y', pl, my', as', rest, hq, hb, hmy', hs, hlen, hst, hcat, hoc, he⟩
  · unfold jm_nat at h
    split at h
    · obtain ⟨a1, sp, b1, dp, n1, t, rfl, h9⟩ := jm_cp_i h
      obtain ⟨n0, hw0, h9⟩ := jm_ob_i h9
      obtain ⟨n2, hw1, h9⟩ := jm_ob_i h9
      split at h9 <;> cases h9
    · obtain ⟨x, y1, t, rfl, h9⟩ := jm_2_i h
      split at h9 <;> cases h9
    · obtain ⟨x, y1, t, rfl, h9⟩ := jm_2_i h
      split at h9 <;> cases h9
    · obtain ⟨x, t, rfl, h9⟩ := jm_1_i h
      split at h9 <;> cases h9
    · obtain ⟨x, y1, t, rfl, h9⟩ := jm_l2_i h
      split at h9 <;> cases h9
    · cases h
  · cases he
theorem jm_do_fit {o : Nat} {rt : Option FieldType} {i : Instr} {n pc : Nat} {ls : jm_L} {st : List Value} {σ : jm_S} {r : Option Value × jm_S} (ha : jm_do o rt i n pc ls st σ = some (.inr (.inl r))) : jv_fit rt r.1 := by
  unfold jm_do at ha
  split at ha
  · cases ha
  · cases ha
  · cases ha
  · cases ha
  · obtain ⟨q, hq, ha⟩ := jm_ob_i ha
    cases ha
  · obtain ⟨q, hq, ha⟩ := jm_ob_i ha
    cases ha
  · obtain ⟨q, hq, ha⟩ := jm_ob_i ha
    cases ha
  · obtain ⟨x, hg, ha⟩ := jm_ld_i ha
    cases ha
  · obtain ⟨x, hg, ha⟩ := jm_ld_i ha
    cases ha
  · obtain ⟨x, hg, ha⟩ := jm_ldl_i ha
    cases ha
  · obtain ⟨x, hg, ha⟩ := jm_ldl_i ha
    cases ha
  · obtain ⟨x, hg, ha⟩ := jm_lda_i ha
    cases ha
  · obtain ⟨x, hg, ha⟩ := jm_lda_i ha
    cases ha
  · obtain ⟨x, t, rfl, hz9⟩ := jm_1_i ha
    split at hz9
    · next hz => cases hz9
    · cases hz9
  · obtain ⟨x, t, rfl, hz9⟩ := jm_1_i ha
    split at hz9
    · next hz => cases hz9
    · cases hz9
  · split at ha
    · split at ha
      · next hz => cases ha
      · cases ha
    · cases ha
  · split at ha
    · split at ha
      · next hz => cases ha
      · cases ha
    · cases ha
  · obtain ⟨x, t, rfl, hz9⟩ := jm_r1_i ha
    split at hz9
    · next hz => cases hz9
    · cases hz9
  · obtain ⟨x, t, rfl, hz9⟩ := jm_r1_i ha
    split at hz9
    · next hz => cases hz9
    · cases hz9
  · obtain ⟨x, hg, ha⟩ := jm_ld_i ha
    cases ha
  · obtain ⟨x, y, t, rfl, hz9⟩ := jm_2_i ha
    cases hz9
  · obtain ⟨x, y, t, rfl, hz9⟩ := jm_2_i ha
    cases hz9
  · obtain ⟨x, y, t, rfl, hz9⟩ := jm_2_i ha
    cases hz9
  · obtain ⟨x, y, t, rfl, hz9⟩ := jm_2_i ha
    cases hz9
  · obtain ⟨x, y, t, rfl, hz9⟩ := jm_2_i ha
    cases hz9
  · obtain ⟨x, y, t, rfl, hz9⟩ := jm_2_i ha
    split at hz9
    · cases hz9
    · next hy => cases hz9
  · obtain ⟨x, y, t, rfl, hz9⟩ := jm_2_i ha
    cases hz9
  · obtain ⟨x, y, t, rfl, hz9⟩ := jm_2_i ha
    cases hz9
  · obtain ⟨x, t, rfl, hz9⟩ := jm_1_i ha
    cases hz9
  · obtain ⟨x, y, t, rfl, hz9⟩ := jm_l2_i ha
    cases hz9
  · obtain ⟨x, y, t, rfl, hz9⟩ := jm_l2_i ha
    cases hz9
  · obtain ⟨x, y, t, rfl, hz9⟩ := jm_l2_i ha
    cases hz9
  · obtain ⟨x, y, t, rfl, hz9⟩ := jm_l2_i ha
    split at hz9
    · cases hz9
    · next hy => cases hz9
  · obtain ⟨x, y, t, rfl, hz9⟩ := jm_l2_i ha
    split at hz9
    · cases hz9
    · next hy => cases hz9
  · obtain ⟨x, y, t, rfl, hz9⟩ := jm_l2_i ha
    cases hz9
  · obtain ⟨x, t, rfl, hz9⟩ := jm_1_i ha
    cases hz9
  · obtain ⟨x, t, rfl, hz9⟩ := jm_1_i ha
    cases hz9
  · obtain ⟨x, t, rfl, hz9⟩ := jm_1_i ha
    cases hz9
  · split at ha
    · split at ha
      · next hv => cases ha
      · cases ha
    · cases ha
  · split at ha
    · split at ha
      · next hv => cases ha
      · cases ha
    · cases ha
  · split at ha
    · split at ha
      · next hv => cases ha
      · cases ha
    · cases ha
  · unfold jm_jmp at ha
    split at ha
    · next hp => cases ha
    · cases ha
  · obtain ⟨x, t, rfl, hz9⟩ := jm_1_i ha
    unfold jm_br at hz9
    split at hz9
    · split at hz9 <;> cases hz9
    · cases hz9
  · obtain ⟨x, y, t, rfl, hz9⟩ := jm_2_i ha
    unfold jm_br at hz9
    split at hz9
    · split at hz9 <;> cases hz9
    · cases hz9
  · obtain ⟨x, t, rfl, hz9⟩ := jm_1_i ha
    split at hz9
    · next ho =>
      unfold jm_jmp at hz9
      split at hz9
      · next hp => cases hz9
      · cases hz9
    · next ho =>
      obtain ⟨z, hz, hz9⟩ := jm_ob_i hz9
      unfold jm_jmp at hz9
      split at hz9
      · next hp => cases hz9
      · cases hz9
  · obtain ⟨x, t, rfl, hz9⟩ := jm_r1_i ha
    obtain ⟨q, hq, hz9⟩ := jm_ob_i hz9
    obtain ⟨v, hv, hz9⟩ := jm_ob_i hz9
    cases hz9
  · obtain ⟨x, y, t, rfl, hz9⟩ := jm_rx_i ha
    obtain ⟨q, hq, hz9⟩ := jm_ob_i hz9
    obtain ⟨v, hv, hz9⟩ := jm_ob_i hz9
    cases hz9
  · obtain ⟨q, hq, ha⟩ := jm_ob_i ha
    cases ha
  · obtain ⟨x, y, t, rfl, hz9⟩ := jm_ri_i ha
    obtain ⟨q, hq, hz9⟩ := jm_ob_i hz9
    split at hz9
    · cases hz9
    · next hj => cases hz9
  · obtain ⟨x, y, t, rfl, hz9⟩ := jm_ri_i ha
    obtain ⟨q, hq, hz9⟩ := jm_ob_i hz9
    split at hz9
    · cases hz9
    · next hj => cases hz9
  · obtain ⟨x, y, u, t, rfl, hz9⟩ := jm_rix_i ha
    obtain ⟨q, hq, hz9⟩ := jm_ob_i hz9
    split at hz9
    · cases hz9
    · next hj => cases hz9
  · obtain ⟨x, y, u, t, rfl, hz9⟩ := jm_rix_i ha
    obtain ⟨q, hq, hz9⟩ := jm_ob_i hz9
    split at hz9
    · cases hz9
    · next hj => cases hz9
  · obtain ⟨x, y, t, rfl, hz9⟩ := jm_ri_i ha
    obtain ⟨q, hq, hz9⟩ := jm_ob_i hz9
    split at hz9
    · cases hz9
    · next hj =>
      obtain ⟨r, hr, hz9⟩ := jm_ob_i hz9
      cases hz9
  · obtain ⟨x, t, rfl, hz9⟩ := jm_r1_i ha
    obtain ⟨q, hq, hz9⟩ := jm_ob_i hz9
    cases hz9
  · exact absurd ha jm_call_nr
  · exact absurd ha jm_call_nr
  · unfold jm_ret at ha
    split at ha
    · split at ha
      · cases ha; exact ⟨_, rfl⟩
      · split at ha
        · cases ha; exact ⟨_, rfl⟩
        · cases ha
      · cases ha
    · cases ha
  · unfold jm_lret at ha
    split at ha
    · split at ha
      · cases ha; exact ⟨_, rfl⟩
      · cases ha
    · cases ha
  · unfold jm_vret at ha
    split at ha
    · split at ha
      · cases ha; rfl
      · cases ha
    · cases ha
  · cases ha
/-- what a method returns is of its kind -/
theorem jm_kindF : ∀ (n m : Nat) (N : jm_N) (v : Option Value) (τ : jm_S) (mt : jm_M), jm_mt[m]? = some mt → jm_evF jm_act jm_ini n m N = some (v, τ) → jv_fit mt.2.2.2.2.1 v := by
  intro n
  induction n with
  | zero => intro m N v τ mt hm h; cases h
  | succ n ih =>
    intro m N v τ mt hm h
    rw [jm_evF] at h
    cases ha : jm_act m N with
    | none => rw [ha] at h; cases h
    | some a =>
      rw [ha] at h
      rcases a with s1 | r | ⟨y, as, k⟩
      · exact ih _ _ _ _ _ hm h
      · cases h
        obtain ⟨mt', i, k, hm', hc, hlen, hdo⟩ := jm_act_i ha
        cases hm.symm.trans hm'
        exact jm_do_fit hdo
      · dsimp only at h
        cases hcl : jm_evF jm_act jm_ini n y (0, jm_ini y as, [], k.2.2.2) with
        | none => rw [hcl] at h; cases h
        | some vt =>
          obtain ⟨v1, t1⟩ := vt
          rw [hcl] at h
          exact ih _ _ _ _ _ hm h
theorem jc_kind {m : Nat} {as : List Value} {σ τ : jm_S} {v : Option Value} {mt : jm_M} (hm : jm_mt[m]? = some mt) (h : jc m as σ = some (v, τ)) : jv_fit mt.2.2.2.2.1 v := by
  obtain ⟨n, hn⟩ := (jm_ev0_iff jm_act jm_ini).mp h
  exact jm_kindF n _ _ _ _ _ hm hn
theorem jv_k {m pc : Nat} {ls : jm_L} {st : List Value} {σ : jm_S} {mt : jm_M} {i : Instr} {n : Nat} (hm : jm_mt[m]? = some mt) (hc : jm_code m pc = some (i, n)) (hl : Nat.beq ls.length mt.2.2.2.1 = true) :
    jv m pc ls st σ = jm_k jm_ini (jm_ev0 jm_act jm_ini) m (jm_do mt.1 mt.2.2.2.2.1 i n pc ls st σ) := by
  unfold jv
  rw [jm_ev0_eq]
  have e : jm_act m (pc, ls, st, σ) = jm_do mt.1 mt.2.2.2.2.1 i n pc ls st σ := by
    unfold jm_act
    dsimp only
    rw [hm, hc]
    dsimp only
    rw [hl]
  rw [e]
section SV
variable {m pc : Nat} {ls : jm_L} {st : List Value} {σ : jm_S} {mt : jm_M}
theorem sv_iconst {z : Int} {v : Int32} (hm : jm_mt[m]? = some mt) (hc : jm_code m pc = some (.iconst z, 1)) (hl : Nat.beq ls.length mt.2.2.2.1 = true) (hv : Int32.ofInt z = v) : jv m pc ls st σ = jv m (pc + 1) ls (.int v :: st) σ := by
  subst hv; rw [jv_k hm hc hl]; rfl
theorem sv_bipush {z : Int} {v : Int32} (hm : jm_mt[m]? = some mt) (hc : jm_code m pc = some (.bipush z, 2)) (hl : Nat.beq ls.length mt.2.2.2.1 = true) (hv : (Int8.ofInt z).toInt32 = v) : jv m pc ls st σ = jv m (pc + 2) ls (.int v :: st) σ := by
  subst hv; rw [jv_k hm hc hl]; rfl
theorem sv_sipush {z : Int} {v : Int32} (hm : jm_mt[m]? = some mt) (hc : jm_code m pc = some (.sipush z, 3)) (hl : Nat.beq ls.length mt.2.2.2.1 = true) (hv : (Int16.ofInt z).toInt32 = v) : jv m pc ls st σ = jv m (pc + 3) ls (.int v :: st) σ := by
  subst hv; rw [jv_k hm hc hl]; rfl
theorem sv_lconst {z : Fin 2} {v : Int64} (hm : jm_mt[m]? = some mt) (hc : jm_code m pc = some (.lconst z, 1)) (hl : Nat.beq ls.length mt.2.2.2.1 = true) (hv : Int64.ofNat (z : Nat) = v) : jv m pc ls st σ = jv m (pc + 1) ls (.long v :: st) σ := by
  subst hv; rw [jv_k hm hc hl]; rfl
theorem sv_ldc {z pl : Nat} {v : Int32} (hm : jm_mt[m]? = some mt) (hc : jm_code m pc = some (.ldc z, 2)) (hl : Nat.beq ls.length mt.2.2.2.1 = true) (hq : jm_lk2 jm_lc mt.1 z = some (v, pl)) : jv m pc ls st σ = jv m (pc + 2) ls (.int v :: st) σ := by
  rw [jv_k hm hc hl]; simp only [jm_do, hq, jm_ob]; rfl
theorem sv_ldcw {z pl : Nat} {v : Int32} (hm : jm_mt[m]? = some mt) (hc : jm_code m pc = some (.ldc_w z, 3)) (hl : Nat.beq ls.length mt.2.2.2.1 = true) (hq : jm_lk2 jm_lc mt.1 z = some (v, pl)) : jv m pc ls st σ = jv m (pc + 3) ls (.int v :: st) σ := by
  rw [jv_k hm hc hl]; simp only [jm_do, hq, jm_ob]; rfl
theorem sv_ldc2 {z pl : Nat} {v : Int64} (hm : jm_mt[m]? = some mt) (hc : jm_code m pc = some (.ldc2_w z, 3)) (hl : Nat.beq ls.length mt.2.2.2.1 = true) (hq : jm_lk2 jm_ll mt.1 z = some (v, pl)) : jv m pc ls st σ = jv m (pc + 3) ls (.long v :: st) σ := by
  rw [jv_k hm hc hl]; simp only [jm_do, hq, jm_ob]; rfl
theorem sv_iload_n {z : Fin 4} {x : Int32} (hm : jm_mt[m]? = some mt) (hc : jm_code m pc = some (.iload_n z, 1)) (hl : Nat.beq ls.length mt.2.2.2.1 = true) (hg : jm_get ls z = some (.int x)) : jv m pc ls st σ = jv m (pc + 1) ls (.int x :: st) σ := by
  rw [jv_k hm hc hl]; simp only [jm_do, hg, jm_ld]; rfl
theorem sv_iload {z : Nat} {x : Int32} (hm : jm_mt[m]? = some mt) (hc : jm_code m pc = some (.iload z, 2)) (hl : Nat.beq ls.length mt.2.2.2.1 = true) (hg : jm_get ls z = some (.int x)) : jv m pc ls st σ = jv m (pc + 2) ls (.int x :: st) σ := by
  rw [jv_k hm hc hl]; simp only [jm_do, hg, jm_ld]; rfl
theorem sv_istore_n {z : Fin 4} {x : Int32} {ls1 : jm_L} (hm : jm_mt[m]? = some mt) (hc : jm_code m pc = some (.istore_n z, 1)) (hl : Nat.beq ls.length mt.2.2.2.1 = true) (hz : (z : Nat) < ls.length) (hs : jm_set1 ls z (.int x) = ls1) : jv m pc ls (.int x :: st) σ = jv m (pc + 1) ls1 (st) σ := by
  subst hs; rw [jv_k hm hc hl]; simp only [jm_do, jm_1, if_pos hz]; rfl
theorem sv_istore {z : Nat} {x : Int32} {ls1 : jm_L} (hm : jm_mt[m]? = some mt) (hc : jm_code m pc = some (.istore z, 2)) (hl : Nat.beq ls.length mt.2.2.2.1 = true) (hz : z < ls.length) (hs : jm_set1 ls z (.int x) = ls1) : jv m pc ls (.int x :: st) σ = jv m (pc + 2) ls1 (st) σ := by
  subst hs; rw [jv_k hm hc hl]; simp only [jm_do, jm_1, if_pos hz]; rfl
theorem sv_lload_n {z : Fin 4} {x : Int64} (hm : jm_mt[m]? = some mt) (hc : jm_code m pc = some (.lload_n z, 1)) (hl : Nat.beq ls.length mt.2.2.2.1 = true) (hg : jm_get ls z = some (.long x)) : jv m pc ls st σ = jv m (pc + 1) ls (.long x :: st) σ := by
  rw [jv_k hm hc hl]; simp only [jm_do, hg, jm_ldl]; rfl
theorem sv_lload {z : Nat} {x : Int64} (hm : jm_mt[m]? = some mt) (hc : jm_code m pc = some (.lload z, 2)) (hl : Nat.beq ls.length mt.2.2.2.1 = true) (hg : jm_get ls z = some (.long x)) : jv m pc ls st σ = jv m (pc + 2) ls (.long x :: st) σ := by
  rw [jv_k hm hc hl]; simp only [jm_do, hg, jm_ldl]; rfl
theorem sv_lstore_n {z : Fin 4} {x : Int64} {ls1 : jm_L} (hm : jm_mt[m]? = some mt) (hc : jm_code m pc = some (.lstore_n z, 1)) (hl : Nat.beq ls.length mt.2.2.2.1 = true) (hz : (z : Nat) + 1 < ls.length) (hs : jm_set2 ls z (.long x) = ls1) : jv m pc ls (.long x :: st) σ = jv m (pc + 1) ls1 (st) σ := by
  subst hs; rw [jv_k hm hc hl]; simp only [jm_do, if_pos hz]; rfl
theorem sv_lstore {z : Nat} {x : Int64} {ls1 : jm_L} (hm : jm_mt[m]? = some mt) (hc : jm_code m pc = some (.lstore z, 2)) (hl : Nat.beq ls.length mt.2.2.2.1 = true) (hz : z + 1 < ls.length) (hs : jm_set2 ls z (.long x) = ls1) : jv m pc ls (.long x :: st) σ = jv m (pc + 2) ls1 (st) σ := by
  subst hs; rw [jv_k hm hc hl]; simp only [jm_do, if_pos hz]; rfl
theorem sv_aload_n {z : Fin 4} {x : Nat} (hm : jm_mt[m]? = some mt) (hc : jm_code m pc = some (.aload_n z, 1)) (hl : Nat.beq ls.length mt.2.2.2.1 = true) (hg : jm_get ls z = some (.ref x)) : jv m pc ls st σ = jv m (pc + 1) ls (.ref x :: st) σ := by
  rw [jv_k hm hc hl]; simp only [jm_do, hg, jm_lda]; rfl
theorem sv_aload {z : Nat} {x : Nat} (hm : jm_mt[m]? = some mt) (hc : jm_code m pc = some (.aload z, 2)) (hl : Nat.beq ls.length mt.2.2.2.1 = true) (hg : jm_get ls z = some (.ref x)) : jv m pc ls st σ = jv m (pc + 2) ls (.ref x :: st) σ := by
  rw [jv_k hm hc hl]; simp only [jm_do, hg, jm_lda]; rfl
theorem sv_astore_n {z : Fin 4} {x : Nat} {ls1 : jm_L} (hm : jm_mt[m]? = some mt) (hc : jm_code m pc = some (.astore_n z, 1)) (hl : Nat.beq ls.length mt.2.2.2.1 = true) (hz : (z : Nat) < ls.length) (hs : jm_set1 ls z (.ref x) = ls1) : jv m pc ls (.ref x :: st) σ = jv m (pc + 1) ls1 (st) σ := by
  subst hs; rw [jv_k hm hc hl]; simp only [jm_do, jm_r1, if_pos hz]; rfl
theorem sv_astore {z : Nat} {x : Nat} {ls1 : jm_L} (hm : jm_mt[m]? = some mt) (hc : jm_code m pc = some (.astore z, 2)) (hl : Nat.beq ls.length mt.2.2.2.1 = true) (hz : z < ls.length) (hs : jm_set1 ls z (.ref x) = ls1) : jv m pc ls (.ref x :: st) σ = jv m (pc + 2) ls1 (st) σ := by
  subst hs; rw [jv_k hm hc hl]; simp only [jm_do, jm_r1, if_pos hz]; rfl
theorem sv_iinc {z : Nat} {y : Int} {x v : Int32} {ls1 : jm_L} (hm : jm_mt[m]? = some mt) (hc : jm_code m pc = some (.iinc z y, 3)) (hl : Nat.beq ls.length mt.2.2.2.1 = true) (hg : jm_get ls z = some (.int x)) (hv : Int32.ofInt y = v) (hs : jm_set1 ls z (.int (x + v)) = ls1) : jv m pc ls st σ = jv m (pc + 3) ls1 (st) σ := by
  subst hs; subst hv; rw [jv_k hm hc hl]; simp only [jm_do, hg, jm_ld]; rfl
theorem sv_iadd {x y : Int32} (hm : jm_mt[m]? = some mt) (hc : jm_code m pc = some (.iadd, 1)) (hl : Nat.beq ls.length mt.2.2.2.1 = true)  : jv m pc ls (.int y :: .int x :: st) σ = jv m (pc + 1) ls (.int (x + y) :: st) σ := by
  rw [jv_k hm hc hl]; rfl
theorem sv_isub {x y : Int32} (hm : jm_mt[m]? = some mt) (hc : jm_code m pc = some (.isub, 1)) (hl : Nat.beq ls.length mt.2.2.2.1 = true)  : jv m pc ls (.int y :: .int x :: st) σ = jv m (pc + 1) ls (.int (x - y) :: st) σ := by
  rw [jv_k hm hc hl]; rfl
theorem sv_imul {x y : Int32} (hm : jm_mt[m]? = some mt) (hc : jm_code m pc = some (.imul, 1)) (hl : Nat.beq ls.length mt.2.2.2.1 = true)  : jv m pc ls (.int y :: .int x :: st) σ = jv m (pc + 1) ls (.int (x * y) :: st) σ := by
  rw [jv_k hm hc hl]; rfl
theorem sv_iand {x y : Int32} (hm : jm_mt[m]? = some mt) (hc : jm_code m pc = some (.iand, 1)) (hl : Nat.beq ls.length mt.2.2.2.1 = true)  : jv m pc ls (.int y :: .int x :: st) σ = jv m (pc + 1) ls (.int (x &&& y) :: st) σ := by
  rw [jv_k hm hc hl]; rfl
theorem sv_ixor {x y : Int32} (hm : jm_mt[m]? = some mt) (hc : jm_code m pc = some (.ixor, 1)) (hl : Nat.beq ls.length mt.2.2.2.1 = true)  : jv m pc ls (.int y :: .int x :: st) σ = jv m (pc + 1) ls (.int (x ^^^ y) :: st) σ := by
  rw [jv_k hm hc hl]; rfl
theorem sv_ishl {x y : Int32} (hm : jm_mt[m]? = some mt) (hc : jm_code m pc = some (.ishl, 1)) (hl : Nat.beq ls.length mt.2.2.2.1 = true)  : jv m pc ls (.int y :: .int x :: st) σ = jv m (pc + 1) ls (.int (x <<< (y &&& 31)) :: st) σ := by
  rw [jv_k hm hc hl]; rfl
theorem sv_ishr {x y : Int32} (hm : jm_mt[m]? = some mt) (hc : jm_code m pc = some (.ishr, 1)) (hl : Nat.beq ls.length mt.2.2.2.1 = true)  : jv m pc ls (.int y :: .int x :: st) σ = jv m (pc + 1) ls (.int (x >>> (y &&& 31)) :: st) σ := by
  rw [jv_k hm hc hl]; rfl
theorem sv_ladd {x y : Int64} (hm : jm_mt[m]? = some mt) (hc : jm_code m pc = some (.ladd, 1)) (hl : Nat.beq ls.length mt.2.2.2.1 = true)  : jv m pc ls (.long y :: .long x :: st) σ = jv m (pc + 1) ls (.long (x + y) :: st) σ := by
  rw [jv_k hm hc hl]; rfl
theorem sv_lsub {x y : Int64} (hm : jm_mt[m]? = some mt) (hc : jm_code m pc = some (.lsub, 1)) (hl : Nat.beq ls.length mt.2.2.2.1 = true)  : jv m pc ls (.long y :: .long x :: st) σ = jv m (pc + 1) ls (.long (x - y) :: st) σ := by
  rw [jv_k hm hc hl]; rfl
theorem sv_lmul {x y : Int64} (hm : jm_mt[m]? = some mt) (hc : jm_code m pc = some (.lmul, 1)) (hl : Nat.beq ls.length mt.2.2.2.1 = true)  : jv m pc ls (.long y :: .long x :: st) σ = jv m (pc + 1) ls (.long (x * y) :: st) σ := by
  rw [jv_k hm hc hl]; rfl
theorem sv_idiv {x y : Int32} (hm : jm_mt[m]? = some mt) (hc : jm_code m pc = some (.idiv, 1)) (hl : Nat.beq ls.length mt.2.2.2.1 = true) (hy : ¬ y = 0) : jv m pc ls (.int y :: .int x :: st) σ = jv m (pc + 1) ls (.int (x / y) :: st) σ := by
  rw [jv_k hm hc hl]; simp only [jm_do, jm_2, if_neg hy]; rfl
theorem sv_ldiv {x y : Int64} (hm : jm_mt[m]? = some mt) (hc : jm_code m pc = some (.ldiv, 1)) (hl : Nat.beq ls.length mt.2.2.2.1 = true)  : jv m pc ls (.long y :: .long x :: st) σ = (if y = 0 then none else jv m (pc + 1) ls (.long (x / y) :: st) σ) := by
  rw [jv_k hm hc hl]; simp only [jm_do, jm_l2]; split <;> rfl
theorem sv_lrem {x y : Int64} (hm : jm_mt[m]? = some mt) (hc : jm_code m pc = some (.lrem, 1)) (hl : Nat.beq ls.length mt.2.2.2.1 = true)  : jv m pc ls (.long y :: .long x :: st) σ = (if y = 0 then none else jv m (pc + 1) ls (.long (x - x / y * y) :: st) σ) := by
  rw [jv_k hm hc hl]; simp only [jm_do, jm_l2]; split <;> rfl
theorem sv_lcmp {x y : Int64} (hm : jm_mt[m]? = some mt) (hc : jm_code m pc = some (.lcmp, 1)) (hl : Nat.beq ls.length mt.2.2.2.1 = true)  : jv m pc ls (.long y :: .long x :: st) σ = jv m (pc + 1) ls (.int (lg_cmp x y) :: st) σ := by
  rw [jv_k hm hc hl]; rfl
theorem sv_ineg {x : Int32} (hm : jm_mt[m]? = some mt) (hc : jm_code m pc = some (.ineg, 1)) (hl : Nat.beq ls.length mt.2.2.2.1 = true)  : jv m pc ls (.int x :: st) σ = jv m (pc + 1) ls (.int (-x) :: st) σ := by
  rw [jv_k hm hc hl]; rfl
theorem sv_i2l {x : Int32} (hm : jm_mt[m]? = some mt) (hc : jm_code m pc = some (.i2l, 1)) (hl : Nat.beq ls.length mt.2.2.2.1 = true)  : jv m pc ls (.int x :: st) σ = jv m (pc + 1) ls (.long x.toInt64 :: st) σ := by
  rw [jv_k hm hc hl]; rfl
theorem sv_i2b {x : Int32} (hm : jm_mt[m]? = some mt) (hc : jm_code m pc = some (.i2b, 1)) (hl : Nat.beq ls.length mt.2.2.2.1 = true)  : jv m pc ls (.int x :: st) σ = jv m (pc + 1) ls (.int x.toInt8.toInt32 :: st) σ := by
  rw [jv_k hm hc hl]; rfl
theorem sv_i2s {x : Int32} (hm : jm_mt[m]? = some mt) (hc : jm_code m pc = some (.i2s, 1)) (hl : Nat.beq ls.length mt.2.2.2.1 = true)  : jv m pc ls (.int x :: st) σ = jv m (pc + 1) ls (.int x.toInt16.toInt32 :: st) σ := by
  rw [jv_k hm hc hl]; rfl
theorem sv_dup {v : Value} (hm : jm_mt[m]? = some mt) (hc : jm_code m pc = some (.dup, 1)) (hl : Nat.beq ls.length mt.2.2.2.1 = true) (hv : v.category = 1) : jv m pc ls (v :: st) σ = jv m (pc + 1) ls (v :: v :: st) σ := by
  rw [jv_k hm hc hl]; simp only [jm_do, if_pos hv]; rfl
theorem sv_pop {v : Value} (hm : jm_mt[m]? = some mt) (hc : jm_code m pc = some (.pop, 1)) (hl : Nat.beq ls.length mt.2.2.2.1 = true) (hv : v.category = 1) : jv m pc ls (v :: st) σ = jv m (pc + 1) ls (st) σ := by
  rw [jv_k hm hc hl]; simp only [jm_do, if_pos hv]; rfl
theorem sv_dup2 {v u : Value} (hm : jm_mt[m]? = some mt) (hc : jm_code m pc = some (.dup2, 1)) (hl : Nat.beq ls.length mt.2.2.2.1 = true) (hv : v.category = 1 ∧ u.category = 1) : jv m pc ls (v :: u :: st) σ = jv m (pc + 1) ls (v :: u :: v :: u :: st) σ := by
  rw [jv_k hm hc hl]; simp only [jm_do, if_pos hv]; rfl
theorem sv_goto {z : Int} {t : Nat} (hm : jm_mt[m]? = some mt) (hc : jm_code m pc = some (.goto z, 3)) (hl : Nat.beq ls.length mt.2.2.2.1 = true) (ht : (pc : Int) + z = (t : Int)) : jv m pc ls st σ = jv m t ls st σ := by
  rw [jv_k hm hc hl]; simp only [jm_do, jm_jmp, ht]; rfl
theorem sv_icmp_eq {x y : Int32} {z : Int} {t : Nat} (hm : jm_mt[m]? = some mt) (hc : jm_code m pc = some (.if_icmp .eq z, 3)) (hl : Nat.beq ls.length mt.2.2.2.1 = true) (ht : (pc : Int) + z = (t : Int)) : jv m pc ls (.int y :: .int x :: st) σ = (if x = y then jv m t ls st σ else jv m (pc + 3) ls st σ) := by
  rw [jv_k hm hc hl]
  simp only [jm_do, jm_2, jm_br, ht, Int.natCast_nonneg, if_true, jm_cmp, decide_eq_true_eq, Int.toNat_natCast]
  split <;> rfl
theorem sv_if_eq {x : Int32} {z : Int} {t : Nat} (hm : jm_mt[m]? = some mt) (hc : jm_code m pc = some (.ifCond .eq z, 3)) (hl : Nat.beq ls.length mt.2.2.2.1 = true) (ht : (pc : Int) + z = (t : Int)) : jv m pc ls (.int x :: st) σ = (if x = 0 then jv m t ls st σ else jv m (pc + 3) ls st σ) := by
  rw [jv_k hm hc hl]
  simp only [jm_do, jm_1, jm_br, ht, Int.natCast_nonneg, if_true, jm_cmp, decide_eq_true_eq, Int.toNat_natCast]
  split <;> rfl
theorem sv_icmp_ne {x y : Int32} {z : Int} {t : Nat} (hm : jm_mt[m]? = some mt) (hc : jm_code m pc = some (.if_icmp .ne z, 3)) (hl : Nat.beq ls.length mt.2.2.2.1 = true) (ht : (pc : Int) + z = (t : Int)) : jv m pc ls (.int y :: .int x :: st) σ = (if ¬ x = y then jv m t ls st σ else jv m (pc + 3) ls st σ) := by
  rw [jv_k hm hc hl]
  simp only [jm_do, jm_2, jm_br, ht, Int.natCast_nonneg, if_true, jm_cmp, decide_eq_true_eq, Int.toNat_natCast]
  split <;> rfl
theorem sv_if_ne {x : Int32} {z : Int} {t : Nat} (hm : jm_mt[m]? = some mt) (hc : jm_code m pc = some (.ifCond .ne z, 3)) (hl : Nat.beq ls.length mt.2.2.2.1 = true) (ht : (pc : Int) + z = (t : Int)) : jv m pc ls (.int x :: st) σ = (if ¬ x = 0 then jv m t ls st σ else jv m (pc + 3) ls st σ) := by
  rw [jv_k hm hc hl]
  simp only [jm_do, jm_1, jm_br, ht, Int.natCast_nonneg, if_true, jm_cmp, decide_eq_true_eq, Int.toNat_natCast]
  split <;> rfl
theorem sv_icmp_lt {x y : Int32} {z : Int} {t : Nat} (hm : jm_mt[m]? = some mt) (hc : jm_code m pc = some (.if_icmp .lt z, 3)) (hl : Nat.beq ls.length mt.2.2.2.1 = true) (ht : (pc : Int) + z = (t : Int)) : jv m pc ls (.int y :: .int x :: st) σ = (if x < y then jv m t ls st σ else jv m (pc + 3) ls st σ) := by
  rw [jv_k hm hc hl]
  simp only [jm_do, jm_2, jm_br, ht, Int.natCast_nonneg, if_true, jm_cmp, decide_eq_true_eq, Int.toNat_natCast]
  split <;> rfl
theorem sv_if_lt {x : Int32} {z : Int} {t : Nat} (hm : jm_mt[m]? = some mt) (hc : jm_code m pc = some (.ifCond .lt z, 3)) (hl : Nat.beq ls.length mt.2.2.2.1 = true) (ht : (pc : Int) + z = (t : Int)) : jv m pc ls (.int x :: st) σ = (if x < 0 then jv m t ls st σ else jv m (pc + 3) ls st σ) := by
  rw [jv_k hm hc hl]
  simp only [jm_do, jm_1, jm_br, ht, Int.natCast_nonneg, if_true, jm_cmp, decide_eq_true_eq, Int.toNat_natCast]
  split <;> rfl
theorem sv_icmp_ge {x y : Int32} {z : Int} {t : Nat} (hm : jm_mt[m]? = some mt) (hc : jm_code m pc = some (.if_icmp .ge z, 3)) (hl : Nat.beq ls.length mt.2.2.2.1 = true) (ht : (pc : Int) + z = (t : Int)) : jv m pc ls (.int y :: .int x :: st) σ = (if y ≤ x then jv m t ls st σ else jv m (pc + 3) ls st σ) := by
  rw [jv_k hm hc hl]
  simp only [jm_do, jm_2, jm_br, ht, Int.natCast_nonneg, if_true, jm_cmp, decide_eq_true_eq, Int.toNat_natCast]
  split <;> rfl
theorem sv_if_ge {x : Int32} {z : Int} {t : Nat} (hm : jm_mt[m]? = some mt) (hc : jm_code m pc = some (.ifCond .ge z, 3)) (hl : Nat.beq ls.length mt.2.2.2.1 = true) (ht : (pc : Int) + z = (t : Int)) : jv m pc ls (.int x :: st) σ = (if 0 ≤ x then jv m t ls st σ else jv m (pc + 3) ls st σ) := by
  rw [jv_k hm hc hl]
  simp only [jm_do, jm_1, jm_br, ht, Int.natCast_nonneg, if_true, jm_cmp, decide_eq_true_eq, Int.toNat_natCast]
  split <;> rfl
theorem sv_icmp_gt {x y : Int32} {z : Int} {t : Nat} (hm : jm_mt[m]? = some mt) (hc : jm_code m pc = some (.if_icmp .gt z, 3)) (hl : Nat.beq ls.length mt.2.2.2.1 = true) (ht : (pc : Int) + z = (t : Int)) : jv m pc ls (.int y :: .int x :: st) σ = (if y < x then jv m t ls st σ else jv m (pc + 3) ls st σ) := by
  rw [jv_k hm hc hl]
  simp only [jm_do, jm_2, jm_br, ht, Int.natCast_nonneg, if_true, jm_cmp, decide_eq_true_eq, Int.toNat_natCast]
  split <;> rfl
theorem sv_if_gt {x : Int32} {z : Int} {t : Nat} (hm : jm_mt[m]? = some mt) (hc : jm_code m pc = some (.ifCond .gt z, 3)) (hl : Nat.beq ls.length mt.2.2.2.1 = true) (ht : (pc : Int) + z = (t : Int)) : jv m pc ls (.int x :: st) σ = (if 0 < x then jv m t ls st σ else jv m (pc + 3) ls st σ) := by
  rw [jv_k hm hc hl]
  simp only [jm_do, jm_1, jm_br, ht, Int.natCast_nonneg, if_true, jm_cmp, decide_eq_true_eq, Int.toNat_natCast]
  split <;> rfl
theorem sv_icmp_le {x y : Int32} {z : Int} {t : Nat} (hm : jm_mt[m]? = some mt) (hc : jm_code m pc = some (.if_icmp .le z, 3)) (hl : Nat.beq ls.length mt.2.2.2.1 = true) (ht : (pc : Int) + z = (t : Int)) : jv m pc ls (.int y :: .int x :: st) σ = (if x ≤ y then jv m t ls st σ else jv m (pc + 3) ls st σ) := by
  rw [jv_k hm hc hl]
  simp only [jm_do, jm_2, jm_br, ht, Int.natCast_nonneg, if_true, jm_cmp, decide_eq_true_eq, Int.toNat_natCast]
  split <;> rfl
theorem sv_if_le {x : Int32} {z : Int} {t : Nat} (hm : jm_mt[m]? = some mt) (hc : jm_code m pc = some (.ifCond .le z, 3)) (hl : Nat.beq ls.length mt.2.2.2.1 = true) (ht : (pc : Int) + z = (t : Int)) : jv m pc ls (.int x :: st) σ = (if x ≤ 0 then jv m t ls st σ else jv m (pc + 3) ls st σ) := by
  rw [jv_k hm hc hl]
  simp only [jm_do, jm_1, jm_br, ht, Int.natCast_nonneg, if_true, jm_cmp, decide_eq_true_eq, Int.toNat_natCast]
  split <;> rfl
theorem sv_ts {d lo hi : Int} {offs : Array Int} {x : Int32} {z : Int} {t : Nat} {ln : Nat} (hm : jm_mt[m]? = some mt) (hc : jm_code m pc = some (.tableswitch d lo hi offs, ln)) (hl : Nat.beq ls.length mt.2.2.2.1 = true) (h : ¬ (x.toInt < lo ∨ hi < x.toInt)) (hz : offs[(x.toInt - lo).toNat]? = some z) (ht : (pc : Int) + z = (t : Int)) : jv m pc ls (.int x :: st) σ = jv m t ls st σ := by
  rw [jv_k hm hc hl]; simp only [jm_do, jm_1, if_neg h, hz, jm_ob, jm_jmp, ht]; rfl
theorem sv_tso {d lo hi : Int} {offs : Array Int} {x : Int32} {t : Nat} {ln : Nat} (hm : jm_mt[m]? = some mt) (hc : jm_code m pc = some (.tableswitch d lo hi offs, ln)) (hl : Nat.beq ls.length mt.2.2.2.1 = true) (ht : (pc : Int) + d = (t : Int)) (h : x.toInt < lo ∨ hi < x.toInt) : jv m pc ls (.int x :: st) σ = jv m t ls st σ := by
  rw [jv_k hm hc hl]; simp only [jm_do, jm_1, if_pos h, jm_jmp, ht]; rfl
theorem sv_getf {z a ci k pl : Nat} {v : Value} (hm : jm_mt[m]? = some mt) (hc : jm_code m pc = some (.getfield z, 3)) (hl : Nat.beq ls.length mt.2.2.2.1 = true) (hq : jm_lk2 jm_fl mt.1 z = some (ci, k, pl)) (hv : jm_gf ci k a σ = some v) : jv m pc ls (.ref a :: st) σ = jv m (pc + 3) ls (v :: st) σ := by
  rw [jv_k hm hc hl]; simp only [jm_do, jm_r1, hq, jm_ob, hv]; rfl
theorem sv_putf {z a ci k pl : Nat} {x : Int32} {τ : jm_S} (hm : jm_mt[m]? = some mt) (hc : jm_code m pc = some (.putfield z, 3)) (hl : Nat.beq ls.length mt.2.2.2.1 = true) (hq : jm_lk2 jm_fl mt.1 z = some (ci, k, pl)) (hv : jm_pf ci k a x σ = some τ) : jv m pc ls (.int x :: .ref a :: st) σ = jv m (pc + 3) ls st τ := by
  rw [jv_k hm hc hl]; simp only [jm_do, jm_rx, hq, jm_ob, hv]; rfl
theorem sv_gets {z i pl : Nat} (hm : jm_mt[m]? = some mt) (hc : jm_code m pc = some (.getstatic z, 3)) (hl : Nat.beq ls.length mt.2.2.2.1 = true) (hq : jm_lk2 jm_sl mt.1 z = some (i, pl)) : jv m pc ls st σ = jv m (pc + 3) ls (.ref (1000 + i) :: st) σ := by
  rw [jv_k hm hc hl]; simp only [jm_do, hq, jm_ob]; rfl
theorem sv_iald {a n : Nat} {f : Nat → Int32} {j : Int32} (hm : jm_mt[m]? = some mt) (hc : jm_code m pc = some (.iaload, 1)) (hl : Nat.beq ls.length mt.2.2.2.1 = true) (hq : jm_ia a σ = some (n, f)) : jv m pc ls (.int j :: .ref a :: st) σ = (if j < 0 ∨ n ≤ j.toNatClampNeg then none else jv m (pc + 1) ls (.int (f j.toNatClampNeg) :: st) σ) := by
  rw [jv_k hm hc hl]; simp only [jm_do, jm_ri, hq, jm_ob]; split <;> rfl
theorem sv_iald1 {a n i : Nat} {f : Nat → Int32} {j : Int32} (hm : jm_mt[m]? = some mt) (hc : jm_code m pc = some (.iaload, 1)) (hl : Nat.beq ls.length mt.2.2.2.1 = true) (hq : jm_ia a σ = some (n, f)) (hj : ¬ (j < 0 ∨ n ≤ j.toNatClampNeg)) (hi : j.toNatClampNeg = i) : jv m pc ls (.int j :: .ref a :: st) σ = jv m (pc + 1) ls (.int (f i) :: st) σ := by
  subst hi; rw [jv_k hm hc hl]; simp only [jm_do, jm_ri, hq, jm_ob, if_neg hj]; rfl
theorem sv_bald {a n : Nat} {j : Int32} (hm : jm_mt[m]? = some mt) (hc : jm_code m pc = some (.baload, 1)) (hl : Nat.beq ls.length mt.2.2.2.1 = true) (hq : jm_wi a true = some n) : jv m pc ls (.int j :: .ref a :: st) σ = (if j < 0 ∨ n ≤ j.toNatClampNeg then none else jv m (pc + 1) ls (.int (σ a j.toNatClampNeg) :: st) σ) := by
  rw [jv_k hm hc hl]; simp only [jm_do, jm_ri, hq, jm_ob]; split <;> rfl
theorem sv_iast {a n : Nat} {j x : Int32} (hm : jm_mt[m]? = some mt) (hc : jm_code m pc = some (.iastore, 1)) (hl : Nat.beq ls.length mt.2.2.2.1 = true) (hq : jm_wi a false = some n) : jv m pc ls (.int x :: .int j :: .ref a :: st) σ = (if j < 0 ∨ n ≤ j.toNatClampNeg then none else jv m (pc + 1) ls st (jm_up σ a j.toNatClampNeg x)) := by
  rw [jv_k hm hc hl]; simp only [jm_do, jm_rix, hq, jm_ob]; split <;> rfl
theorem sv_iast1 {a n i : Nat} {j x : Int32} (hm : jm_mt[m]? = some mt) (hc : jm_code m pc = some (.iastore, 1)) (hl : Nat.beq ls.length mt.2.2.2.1 = true) (hq : jm_wi a false = some n) (hj : ¬ (j < 0 ∨ n ≤ j.toNatClampNeg)) (hi : j.toNatClampNeg = i) : jv m pc ls (.int x :: .int j :: .ref a :: st) σ = jv m (pc + 1) ls st (jm_up σ a i x) := by
  subst hi; rw [jv_k hm hc hl]; simp only [jm_do, jm_rix, hq, jm_ob, if_neg hj]; rfl
theorem sv_bast {a n : Nat} {j x : Int32} (hm : jm_mt[m]? = some mt) (hc : jm_code m pc = some (.bastore, 1)) (hl : Nat.beq ls.length mt.2.2.2.1 = true) (hq : jm_wi a true = some n) : jv m pc ls (.int x :: .int j :: .ref a :: st) σ = (if j < 0 ∨ n ≤ j.toNatClampNeg ∨ ¬ (x = 0 ∨ x = 1) then none else jv m (pc + 1) ls st (jm_up σ a j.toNatClampNeg x)) := by
  rw [jv_k hm hc hl]; simp only [jm_do, jm_rix, hq, jm_ob]; split <;> rfl
theorem sv_aald {a : Nat} {ts : List Nat} {j : Int32} (hm : jm_mt[m]? = some mt) (hc : jm_code m pc = some (.aaload, 1)) (hl : Nat.beq ls.length mt.2.2.2.1 = true) (hq : jm_wr a = some ts) : jv m pc ls (.int j :: .ref a :: st) σ = jaa j ts (fun q => jv m (pc + 1) ls (.ref q :: st) σ) := by
  rw [jv_k hm hc hl]
  simp only [jm_do, jm_ri, hq, jm_ob, jaa]
  split
  · rfl
  · cases ts[j.toNatClampNeg]? <;> rfl
theorem sv_alen {a n : Nat} {v : Int32} (hm : jm_mt[m]? = some mt) (hc : jm_code m pc = some (.arraylength, 1)) (hl : Nat.beq ls.length mt.2.2.2.1 = true) (hq : jm_len a σ = some n) (hv : Int32.ofNat n = v) : jv m pc ls (.ref a :: st) σ = jv m (pc + 1) ls (.int v :: st) σ := by
  subst hv; rw [jv_k hm hc hl]; simp only [jm_do, jm_r1, hq, jm_ob]; rfl
theorem sv_max {x y : Int32} {z pl : Nat} (hm : jm_mt[m]? = some mt) (hc : jm_code m pc = some (.invokestatic z, 3)) (hl : Nat.beq ls.length mt.2.2.2.1 = true) (hq : jm_lk2 jm_ml mt.1 z = some (1001, pl)) (hcat : ¬ 8 < jm_cat st) : jv m pc ls (.int y :: .int x :: st) σ = jv m (pc + 3) ls (.int (if x < y then y else x) :: st) σ := by
  rw [jv_k hm hc hl]; simp only [jm_do, jm_call, hq, jm_ob]; show jm_k _ _ _ (jm_nat 1001 pc ls _ σ) = _; simp only [jm_nat, jm_2, if_neg hcat]; rfl
theorem sv_min {x y : Int32} {z pl : Nat} (hm : jm_mt[m]? = some mt) (hc : jm_code m pc = some (.invokestatic z, 3)) (hl : Nat.beq ls.length mt.2.2.2.1 = true) (hq : jm_lk2 jm_ml mt.1 z = some (1002, pl)) (hcat : ¬ 8 < jm_cat st) : jv m pc ls (.int y :: .int x :: st) σ = jv m (pc + 3) ls (.int (if y < x then y else x) :: st) σ := by
  rw [jv_k hm hc hl]; simp only [jm_do, jm_call, hq, jm_ob]; show jm_k _ _ _ (jm_nat 1002 pc ls _ σ) = _; simp only [jm_nat, jm_2, if_neg hcat]; rfl
theorem sv_abs {x : Int32} {z pl : Nat} (hm : jm_mt[m]? = some mt) (hc : jm_code m pc = some (.invokestatic z, 3)) (hl : Nat.beq ls.length mt.2.2.2.1 = true) (hq : jm_lk2 jm_ml mt.1 z = some (1003, pl)) (hcat : ¬ 8 < jm_cat st) : jv m pc ls (.int x :: st) σ = jv m (pc + 3) ls (.int (if 0 ≤ x then x else 0 - x) :: st) σ := by
  rw [jv_k hm hc hl]; simp only [jm_do, jm_call, hq, jm_ob]; show jm_k _ _ _ (jm_nat 1003 pc ls _ σ) = _; simp only [jm_nat, jm_1, if_neg hcat]; rfl
theorem sv_maxl {x y : Int64} {z pl : Nat} (hm : jm_mt[m]? = some mt) (hc : jm_code m pc = some (.invokestatic z, 3)) (hl : Nat.beq ls.length mt.2.2.2.1 = true) (hq : jm_lk2 jm_ml mt.1 z = some (1004, pl)) (hcat : ¬ 8 < jm_cat st) : jv m pc ls (.long y :: .long x :: st) σ = jv m (pc + 3) ls (.long (if y < x then x else y) :: st) σ := by
  rw [jv_k hm hc hl]; simp only [jm_do, jm_call, hq, jm_ob]; show jm_k _ _ _ (jm_nat 1004 pc ls _ σ) = _; simp only [jm_nat, jm_l2, if_neg hcat]; rfl
theorem sv_cpy {a b n0 n1 : Nat} {sp dp n : Int32} {z pl : Nat} (hm : jm_mt[m]? = some mt) (hc : jm_code m pc = some (.invokestatic z, 3)) (hl : Nat.beq ls.length mt.2.2.2.1 = true) (hq : jm_lk2 jm_ml mt.1 z = some (1000, pl)) (hcat : ¬ 8 < jm_cat st) (h0 : jm_wi a false = some n0) (h1 : jm_wi b false = some n1) : jv m pc ls (.int n :: .int dp :: .ref b :: .int sp :: .ref a :: st) σ = (if sp < 0 ∨ dp < 0 ∨ n < 0 ∨ n0 < sp.toNatClampNeg + n.toNatClampNeg ∨ n1 < dp.toNatClampNeg + n.toNatClampNeg then none else jv m (pc + 3) ls st (jm_row σ b (va_cpy (σ a) (σ b) sp.toNatClampNeg dp.toNatClampNeg n.toNatClampNeg))) := by
  rw [jv_k hm hc hl]; simp only [jm_do, jm_call, hq, jm_ob]; show jm_k _ _ _ (jm_nat 1000 pc ls _ σ) = _
  simp only [jm_nat, jm_cp, h0, h1, jm_ob, hcat, or_false]
  split <;> rfl
theorem sv_callsi {z y pl : Nat} {as rest : List Value} {my : jm_M} {ty : Option FieldType} (hm : jm_mt[m]? = some mt) (hc : jm_code m pc = some (.invokestatic z, 3)) (hl : Nat.beq ls.length mt.2.2.2.1 = true) (ha : jm_call mt.1 z false pc ls st σ = some (.inr (.inr (y, as, (pc + 3, ls, rest, σ))))) (hmy : jm_mt[y]? = some my) (hr : my.2.2.2.2.1 = ty) (hty : ty = some .int ∨ ty = some .boolean) : jv m pc ls st σ = jbi (jc y as σ) (fun x τ => jv m (pc + 3) ls (.int x :: rest) τ) := by
  rw [jv_k hm hc hl]
  simp only [jm_do]
  rw [ha]
  show (match jc y as σ with
    | none => none
    | some (v, τ) => jv m (pc + 3) ls (v.toList ++ rest) τ) = _
  cases hj : jc y as σ with
  | none => rfl
  | some vt =>
    obtain ⟨v, t⟩ := vt
    have hv := jc_kind hmy hj
    rw [hr] at hv
    rcases hty with rfl | rfl <;> (obtain ⟨x, rfl⟩ := hv; rfl)
theorem sv_callsl {z y pl : Nat} {as rest : List Value} {my : jm_M} {ty : Option FieldType} (hm : jm_mt[m]? = some mt) (hc : jm_code m pc = some (.invokestatic z, 3)) (hl : Nat.beq ls.length mt.2.2.2.1 = true) (ha : jm_call mt.1 z false pc ls st σ = some (.inr (.inr (y, as, (pc + 3, ls, rest, σ))))) (hmy : jm_mt[y]? = some my) (hr : my.2.2.2.2.1 = ty) (hty : ty = some .long) : jv m pc ls st σ = jbl (jc y as σ) (fun x τ => jv m (pc + 3) ls (.long x :: rest) τ) := by
  rw [jv_k hm hc hl]
  simp only [jm_do]
  rw [ha]
  show (match jc y as σ with
    | none => none
    | some (v, τ) => jv m (pc + 3) ls (v.toList ++ rest) τ) = _
  cases hj : jc y as σ with
  | none => rfl
  | some vt =>
    obtain ⟨v, t⟩ := vt
    have hv := jc_kind hmy hj
    rw [hr] at hv
    subst hty; obtain ⟨x, rfl⟩ := hv; rfl
theorem sv_callsv {z y pl : Nat} {as rest : List Value} {my : jm_M} {ty : Option FieldType} (hm : jm_mt[m]? = some mt) (hc : jm_code m pc = some (.invokestatic z, 3)) (hl : Nat.beq ls.length mt.2.2.2.1 = true) (ha : jm_call mt.1 z false pc ls st σ = some (.inr (.inr (y, as, (pc + 3, ls, rest, σ))))) (hmy : jm_mt[y]? = some my) (hr : my.2.2.2.2.1 = ty) (hty : ty = none) : jv m pc ls st σ = jbv (jc y as σ) (fun τ => jv m (pc + 3) ls rest τ) := by
  rw [jv_k hm hc hl]
  simp only [jm_do]
  rw [ha]
  show (match jc y as σ with
    | none => none
    | some (v, τ) => jv m (pc + 3) ls (v.toList ++ rest) τ) = _
  cases hj : jc y as σ with
  | none => rfl
  | some vt =>
    obtain ⟨v, t⟩ := vt
    have hv := jc_kind hmy hj
    rw [hr] at hv
    subst hty; cases hv; rfl
theorem sv_callvi {z y pl : Nat} {as rest : List Value} {my : jm_M} {ty : Option FieldType} (hm : jm_mt[m]? = some mt) (hc : jm_code m pc = some (.invokevirtual z, 3)) (hl : Nat.beq ls.length mt.2.2.2.1 = true) (ha : jm_call mt.1 z true pc ls st σ = some (.inr (.inr (y, as, (pc + 3, ls, rest, σ))))) (hmy : jm_mt[y]? = some my) (hr : my.2.2.2.2.1 = ty) (hty : ty = some .int ∨ ty = some .boolean) : jv m pc ls st σ = jbi (jc y as σ) (fun x τ => jv m (pc + 3) ls (.int x :: rest) τ) := by
  rw [jv_k hm hc hl]
  simp only [jm_do]
  rw [ha]
  show (match jc y as σ with
    | none => none
    | some (v, τ) => jv m (pc + 3) ls (v.toList ++ rest) τ) = _
  cases hj : jc y as σ with
  | none => rfl
  | some vt =>
    obtain ⟨v, t⟩ := vt
    have hv := jc_kind hmy hj
    rw [hr] at hv
    rcases hty with rfl | rfl <;> (obtain ⟨x, rfl⟩ := hv; rfl)
theorem sv_callvl {z y pl : Nat} {as rest : List Value} {my : jm_M} {ty : Option FieldType} (hm : jm_mt[m]? = some mt) (hc : jm_code m pc = some (.invokevirtual z, 3)) (hl : Nat.beq ls.length mt.2.2.2.1 = true) (ha : jm_call mt.1 z true pc ls st σ = some (.inr (.inr (y, as, (pc + 3, ls, rest, σ))))) (hmy : jm_mt[y]? = some my) (hr : my.2.2.2.2.1 = ty) (hty : ty = some .long) : jv m pc ls st σ = jbl (jc y as σ) (fun x τ => jv m (pc + 3) ls (.long x :: rest) τ) := by
  rw [jv_k hm hc hl]
  simp only [jm_do]
  rw [ha]
  show (match jc y as σ with
    | none => none
    | some (v, τ) => jv m (pc + 3) ls (v.toList ++ rest) τ) = _
  cases hj : jc y as σ with
  | none => rfl
  | some vt =>
    obtain ⟨v, t⟩ := vt
    have hv := jc_kind hmy hj
    rw [hr] at hv
    subst hty; obtain ⟨x, rfl⟩ := hv; rfl
theorem sv_callvv {z y pl : Nat} {as rest : List Value} {my : jm_M} {ty : Option FieldType} (hm : jm_mt[m]? = some mt) (hc : jm_code m pc = some (.invokevirtual z, 3)) (hl : Nat.beq ls.length mt.2.2.2.1 = true) (ha : jm_call mt.1 z true pc ls st σ = some (.inr (.inr (y, as, (pc + 3, ls, rest, σ))))) (hmy : jm_mt[y]? = some my) (hr : my.2.2.2.2.1 = ty) (hty : ty = none) : jv m pc ls st σ = jbv (jc y as σ) (fun τ => jv m (pc + 3) ls rest τ) := by
  rw [jv_k hm hc hl]
  simp only [jm_do]
  rw [ha]
  show (match jc y as σ with
    | none => none
    | some (v, τ) => jv m (pc + 3) ls (v.toList ++ rest) τ) = _
  cases hj : jc y as σ with
  | none => rfl
  | some vt =>
    obtain ⟨v, t⟩ := vt
    have hv := jc_kind hmy hj
    rw [hr] at hv
    subst hty; cases hv; rfl
theorem sv_iret {x : Int32} (hm : jm_mt[m]? = some mt) (hc : jm_code m pc = some (.ireturn, 1)) (hl : Nat.beq ls.length mt.2.2.2.1 = true) (hr : mt.2.2.2.2.1 = some .int) : jv m pc ls [.int x] σ = some (some (.int x), σ) := by
  rw [jv_k hm hc hl]; simp only [jm_do, hr]; rfl
theorem sv_zret {x : Int32} (hm : jm_mt[m]? = some mt) (hc : jm_code m pc = some (.ireturn, 1)) (hl : Nat.beq ls.length mt.2.2.2.1 = true) (hr : mt.2.2.2.2.1 = some .boolean) (hx : x = 0 ∨ x = 1) : jv m pc ls [.int x] σ = some (some (.int x), σ) := by
  rw [jv_k hm hc hl]; simp only [jm_do, hr, jm_ret, if_pos hx]; rfl
theorem sv_zretx {x : Int32} (hm : jm_mt[m]? = some mt) (hc : jm_code m pc = some (.ireturn, 1)) (hl : Nat.beq ls.length mt.2.2.2.1 = true) (hr : mt.2.2.2.2.1 = some .boolean) : jv m pc ls [.int x] σ = (if x = 0 ∨ x = 1 then some (some (.int x), σ) else none) := by
  rw [jv_k hm hc hl]; simp only [jm_do, hr, jm_ret]; split <;> rfl
theorem sv_lret {x : Int64} (hm : jm_mt[m]? = some mt) (hc : jm_code m pc = some (.lreturn, 1)) (hl : Nat.beq ls.length mt.2.2.2.1 = true) (hr : mt.2.2.2.2.1 = some .long) : jv m pc ls [.long x] σ = some (some (.long x), σ) := by
  rw [jv_k hm hc hl]; simp only [jm_do, hr]; rfl
theorem sv_vret (hm : jm_mt[m]? = some mt) (hc : jm_code m pc = some (.return_, 1)) (hl : Nat.beq ls.length mt.2.2.2.1 = true) (hr : mt.2.2.2.2.1 = none) : jv m pc ls [] σ = some (none, σ) := by
  rw [jv_k hm hc hl]; simp only [jm_do, hr]; rfl
end SV
end
